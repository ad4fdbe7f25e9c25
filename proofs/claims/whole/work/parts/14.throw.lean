/-! throws: a method that throws E before it has written anything -/
abbrev IAE : String := "java/lang/IllegalArgumentException"
abbrev ISE : String := "java/lang/IllegalStateException"
def XS (sa : Nat → Nat) (U : State) : Prop := vk_R "RealDesk" 105 "there is no such register" (sa 0) U ∧ vk_R "RealDesk" 23 "m is above 2^53 in size" (sa 1) U ∧ vk_R "RealDesk" 28 "e is not -1200 .. 1100" (sa 2) U ∧ vk_R "RealDesk" 107 "there is no such kind" (sa 3) U ∧ vk_R "RealDesk" 59 "n is not -1024 .. 1024" (sa 4) U ∧ vk_R "RealDesk" 93 "the number is not within -2^63 .. 2^63 - 1" (sa 5) U ∧ vk_R "RealDesk" 103 "the number is not a whole one" (sa 6) U
theorem XS.warm {sa : Nat → Nat} {s U : State} (hW : s.WarmedH U.vm) (h : XS sa s) : XS sa U := ⟨vk_R.warm hW h.1, vk_R.warm hW h.2.1, vk_R.warm hW h.2.2.1, vk_R.warm hW h.2.2.2.1, vk_R.warm hW h.2.2.2.2.1, vk_R.warm hW h.2.2.2.2.2.1, vk_R.warm hW h.2.2.2.2.2.2⟩
theorem XS.same {sa : Nat → Nat} {s U : State} (h9 : U.vm = s.vm) (h : XS sa s) : XS sa U := ⟨vk_R.same h9 h.1, vk_R.same h9 h.2.1, vk_R.same h9 h.2.2.1, vk_R.same h9 h.2.2.2.1, vk_R.same h9 h.2.2.2.2.1, vk_R.same h9 h.2.2.2.2.2.1, vk_R.same h9 h.2.2.2.2.2.2⟩
def ZS (A : Nat → Prop) (U : State) (H : Heap) : Prop := vx_Zq Bundle.tN "UNASSIGNED_STACK" Bundle.steD A U H ∧ vx_Zq Bundle.tN "SUPPRESSED_SENTINEL" Bundle.listD A U H
abbrev A0 : Nat → Prop := fun _ => False
theorem ZS.go {A : Nat → Prop} {s U : State} {H : Heap} {locs : List Loc} (hvm : s.vm.Alike U.vm) (hS : va_S A s.heap H locs) (h : ZS A s s.heap) : ZS A0 U H := ⟨((h.1.kept hS.2.1).narrow (fun _ q => q.elim)).moved hvm, ((h.2.kept hS.2.1).narrow (fun _ q => q.elim)).moved hvm⟩
theorem ZS.moved {A : Nat → Prop} {s U : State} {H : Heap} (hvm : s.vm.Alike U.vm) (h : ZS A s H) : ZS A U H := ⟨h.1.moved hvm, h.2.moved hvm⟩
abbrev XCt (E : String) : String → State → State → Prop := fun E2 st t => E2 = E ∧ st.heap.size ≤ t.heap.size ∧ ∀ q : Nat, q < st.heap.size → t.heap[q]? = st.heap[q]?
abbrev XQ (below : List Frame) (E : String) (args : Array Value) (s : State) : State → Prop := vx_MQ below (fun _ _ _ _ => False) (XCt E) args s 1 6 A0
def XM (l : Launch) (y : MethodName) (cc : ByteArray) (n : Nat) (ret : Option FieldType) (rm : Room) (As : List Value) (E : String) (B : State → Prop) : Prop :=
  vx_Met l y (WS y cc n ret) rm (va_Pc As B) (fun _ _ _ _ => False) (XCt E) 1 6 A0
def rmx (f n : Nat) : Room := { frames := f, cells := 1, slots := 6, locals := n }
def XB (sa : Nat → Nat) (U : State) : Prop := XT U ∧ XS sa U ∧ ZS A0 U U.heap
theorem XB.blind {sa : Nat → Nat} {As : List Value} : FrameBlind (va_Pc As (XB sa)) := fun a U g mk q => ⟨q.1, XT.same rfl q.2.1, XS.same rfl q.2.2.1, q.2.2.2.moved (Vm.Alike.refl U.vm)⟩
theorem xm_of {l : Launch} {y : MethodName} {cc : ByteArray} {n : Nat} {ret : Option FieldType} {own : String} {rm : Room} {As : List Value} {E : String} {B : State → Prop} (hy : plainName y.cls = true) (hown : y.cls = own) (hlen : (lg_sl As).length ≤ n)
    (body : ∀ (p : Program) (e : Env) (s : State) (m : MethodId) (below : List Frame) (meth : Method) (c : Code) (ls : Array Slot), CX p s m As.toArray meth c own cc n ret → (∀ x ∈ c.exceptionTable.toList, False) → B s → lv_has ls n (lv_args 0 As) →
      W p l e rm s m As.toArray below meth c s.heap [] 0 0 (XQ below E As.toArray s) (F0 m 0 ls [])) : XM l y cc n ret rm As E B := by
  refine vx_ofW (cc := cc) (maxL := n) (ret := ret) hy rfl ?_
  intro p e s m args below meth c s₁ B0 hml hT hv
  obtain ⟨rfl, hB⟩ := hv
  rw [lg_entry_eq]
  exact body p e s m below meth c _ ⟨B0.exec, B0.bytes, hml, by rw [← hown]; exact findClass_of_methodNamed B0.named, fun w h => atoms_spec (ws := WS y cc n ret) B0.pre w (List.mem_cons_of_mem _ h), B0.returns, B0.notSynchronized⟩ hT hB (lv_entry As hlen)
abbrev upN : List String := ["java/lang/RuntimeException", "java/lang/Exception"]
theorem atI_bad : (vx_atS RX0 25 IAE upN).filter (fun w => !goodWord w) = [.declares mRE, .declares mEx, .declares mTh, .castable IAE IAE] := by decide +kernel
theorem atI_in : ∀ w ∈ (vx_atS RX0 25 IAE upN).filter goodWord, w ∈ gtbl := by
  have h : ((vx_atS RX0 25 IAE upN).filter goodWord).all (fun w => decide (w ∈ gtbl)) = true := by decide +kernel
  exact fun w hw => of_decide_eq_true (List.all_eq_true.mp h w hw)
theorem atI_ot : ∀ w ∈ Cond.classLink RX0 21 IAE :: Cond.initialized IAE :: vx_atS RX0 25 IAE upN, vx_ot w = true := by
  have h : (Cond.classLink RX0 21 IAE :: Cond.initialized IAE :: vx_atS RX0 25 IAE upN).all vx_ot = true := by decide +kernel
  exact fun w hw => List.all_eq_true.mp h w hw
theorem atS_bad : (vx_atS RX0 95 ISE upN).filter (fun w => !goodWord w) = [.declares mRE, .declares mEx, .declares mTh, .castable ISE ISE] := by decide +kernel
theorem atS_in : ∀ w ∈ (vx_atS RX0 95 ISE upN).filter goodWord, w ∈ gtbl := by
  have h : ((vx_atS RX0 95 ISE upN).filter goodWord).all (fun w => decide (w ∈ gtbl)) = true := by decide +kernel
  exact fun w hw => of_decide_eq_true (List.all_eq_true.mp h w hw)
theorem atS_ot : ∀ w ∈ Cond.classLink RX0 91 ISE :: Cond.initialized ISE :: vx_atS RX0 95 ISE upN, vx_ot w = true := by
  have h : (Cond.classLink RX0 91 ISE :: Cond.initialized ISE :: vx_atS RX0 95 ISE upN).all vx_ot = true := by decide +kernel
  exact fun w hw => List.all_eq_true.mp h w hw
section TH
variable {p : Program} {l : Launch} {e : Env} {R : Room} {s : State} {m : MethodId} {args : Array Value} {below : List Frame} {meth : Method} {c : Code}
variable {own : String} {cc : ByteArray} {nL : Nat} {ret0 : Option FieldType} {pc : Nat} {ls : Array Slot} {rest : List Value} {sa : Nat → Nat}
theorem th_I (C : CX p s m args meth c RX0 cc nL ret0) (hl0 : l.stackTraces = false) (hT : ∀ x ∈ c.exceptionTable.toList, False) (hB : XB sa s) {is a9 : Nat} {text : String} (hstr : vk_R "RealDesk" is text a9 s) (hsz : ls.size = nL)
    (d0 : decode cc pc = .ok (.new 21, 3)) (d3 : decode cc (pc + 3) = .ok (.dup, 1)) (d4 : decode cc (pc + 4) = .ok (.ldc is, 2)) (d6 : decode cc (pc + 6) = .ok (.invokespecial 25, 3)) (d9 : decode cc (pc + 9) = .ok (.athrow, 1))
    (hR : 5 < R.frames ∧ 90 ≤ R.locals ∧ 1 ≤ R.cells ∧ 6 ≤ R.slots) (hW : (rest.map fun v => v.category).sum ≤ 8) : W p l e R s m args below meth c s.heap [] 0 0 (XQ below IAE args s) (F0 m pc ls rest) := by
  obtain ⟨hx, hb, hml, hown, hg, -, hlocks⟩ := C
  exact vx_throwS (A := A0) (names := upN) hx hb hl0 hown (by decide +kernel) (by decide +kernel) (hg _ tw_36) (hg _ tw_7) hstr
    (vx_hat (B := [.declares mRE, .declares mEx, .declares mTh, .castable IAE IAE]) (fun w hw => hg w (atI_in w hw)) (fun w hw => by rw [atI_bad] at hw; exact hw) (vx_c (va_Nw.use rfl hB.1.2.2.2.2.1) (vx_c (va_Nw.use rfl hB.1.2.2.2.2.2.1) (vx_c (va_Nw.use rfl hB.1.2.2.2.2.2.2.1) (vx_c (va_Nw.use rfl hB.1.2.1) vx_n))))) atI_ot hB.2.2.1 hB.2.2.2 va_S.rf (hsz.trans hml.symm) d0 d3 d4 d6 d9 (fun x hx9 => (hT x hx9).elim)
    (by show 2 + 3 < R.frames; exact hR.1) (by show _ + (13 * (2 + 1) + 43) ≤ R.locals; have := hR.2.1; omega) (by have := hR.2.2.1; omega) (by have := hR.2.2.2; omega) hlocks
    (fun t _ h1 h2 => ⟨rfl, h1, h2⟩) (fun z hz => nomatch hz) (Nat.le_refl _) (Nat.le_refl _)
theorem th_S (C : CX p s m args meth c RX0 cc nL ret0) (hl0 : l.stackTraces = false) (hT : ∀ x ∈ c.exceptionTable.toList, False) (hB : XB sa s) {is a9 : Nat} {text : String} (hstr : vk_R "RealDesk" is text a9 s) (hsz : ls.size = nL)
    (d0 : decode cc pc = .ok (.new 91, 3)) (d3 : decode cc (pc + 3) = .ok (.dup, 1)) (d4 : decode cc (pc + 4) = .ok (.ldc is, 2)) (d6 : decode cc (pc + 6) = .ok (.invokespecial 95, 3)) (d9 : decode cc (pc + 9) = .ok (.athrow, 1))
    (hR : 5 < R.frames ∧ 90 ≤ R.locals ∧ 1 ≤ R.cells ∧ 6 ≤ R.slots) (hW : (rest.map fun v => v.category).sum ≤ 8) : W p l e R s m args below meth c s.heap [] 0 0 (XQ below ISE args s) (F0 m pc ls rest) := by
  obtain ⟨hx, hb, hml, hown, hg, -, hlocks⟩ := C
  exact vx_throwS (A := A0) (names := upN) hx hb hl0 hown (by decide +kernel) (by decide +kernel) (hg _ tw_290) (hg _ tw_11) hstr
    (vx_hat (B := [.declares mRE, .declares mEx, .declares mTh, .castable ISE ISE]) (fun w hw => hg w (atS_in w hw)) (fun w hw => by rw [atS_bad] at hw; exact hw) (vx_c (va_Nw.use rfl hB.1.2.2.2.2.1) (vx_c (va_Nw.use rfl hB.1.2.2.2.2.2.1) (vx_c (va_Nw.use rfl hB.1.2.2.2.2.2.2.1) (vx_c (va_Nw.use rfl hB.1.2.2.1) vx_n))))) atS_ot hB.2.2.1 hB.2.2.2 va_S.rf (hsz.trans hml.symm) d0 d3 d4 d6 d9 (fun x hx9 => (hT x hx9).elim)
    (by show 2 + 3 < R.frames; exact hR.1) (by show _ + (13 * (2 + 1) + 43) ≤ R.locals; have := hR.2.1; omega) (by have := hR.2.2.1; omega) (by have := hR.2.2.2; omega) hlocks
    (fun t _ h1 h2 => ⟨rfl, h1, h2⟩) (fun z hz => nomatch hz) (Nat.le_refl _) (Nat.le_refl _)
/-- a static callee throws: it goes on to the caller -/
theorem tcall (C : CX p s m args meth c own cc nL ret0) (hT : ∀ x ∈ c.exceptionTable.toList, False) (hB : XB sa s) {y : MethodName} {bytes : ByteArray} {maxL n idx : Nat} {ret : Option FieldType} {rm : Room} {As : List Value} {E : String} {st0 : List Value} (hM : XM l y bytes maxL ret rm As E (XB sa)) (hS : SC y bytes maxL ret n) (hl : Cond.methodLink own idx y ∈ gtbl)
    (hR : (rm.frames + 1 ≤ R.frames ∧ 8 + (maxL + 11) + rm.locals ≤ R.locals) ∧ rm.cells = 1 ∧ rm.slots = 6 ∧ 1 ≤ R.cells ∧ 6 ≤ R.slots) (hn : As.length = n) (hsz : ls.size = nL) (hst : st0 = As.reverse ++ rest) (hW : (rest.map fun v => v.category).sum ≤ 8) (hd : decode cc pc = .ok (.invokestatic idx, 3)) :
    W p l e R s m args below meth c s.heap [] 0 0 (XQ below E args s) (F0 m pc ls st0) := by
  obtain ⟨hx, hb, hml, hown, hg, -, hlocks⟩ := C
  intro T hTh X
  rcases vx_runS (Ts := gtbl) (cc := cc) (nL := nL) (g := F0 m pc ls st0) ⟨hx, hb, hml, hown, hg⟩ hM (va_cwS n hg (gi_S hS hl) rfl hR.2.1 hR.2.2.1 hS.2.2.2 hR.1) ⟨XB.blind, fun U hU hW9 => ⟨rfl, hB.1.warm hW9, hB.2.1.warm hW9, by rw [hU]; exact hB.2.2.moved hW9.alike⟩⟩ rfl hn hsz hst (lv_room hW) hd ⟨by have := hR.2.2.2.1; omega, by have := hR.2.2.2.2; omega⟩ T hTh X with ⟨v, st₀, t, T', L, h0, X', hL, e1, e2, hq, st⟩ | ⟨q, st₀, t, T', L, E2, ce, h0, X', hL, e1, e2, ⟨hE, hz, hk⟩, hce, hcv, hcl, st⟩
  · exact hq.elim
  · subst hE
    rw [h0] at hz hk
    obtain ⟨t2, a1, b1⟩ := vx_out (Qc := fun _ _ _ _ => False) (XC := XCt E2) (free := A0) (mc := 1) (ms := 6) (pc := pc) (ls := ls) (rest := rest) (fun x hx9 => (hT x hx9).elim) hlocks (E := E2) (ce := ce) (q := q) (by rw [e1]; exact hce) hcv hcl (fun t9 ht9 _ => ⟨rfl, by rw [ht9, e1]; exact hz, fun q9 hq9 => by rw [ht9, e1]; exact hk q9 hq9⟩) (fun z hz9 => hL z (by simpa using hz9)) (Nat.le_refl _) (Nat.le_refl _) T' rfl X'
    exact ⟨t2, st.trans a1, b1⟩
end TH
/-! the two guards -/
def rok (r : Int32) : Bool := decide (¬ r < 0 ∧ r < 16)
def kok (r : Int32) : Bool := decide (¬ r < 0 ∧ r ≤ 8)
def PV (l : Launch) (y : MethodName) (cc : ByteArray) (n : Nat) (rm : Room) (As : List Value) : Prop :=
  Met l y (WS y cc n none) rm (va_Pc As (fun _ => True)) (fun _ st o t => o = .returned none ∧ t.heap = st.heap) 0 0 (fun _ => False)
theorem pcallV {p : Program} {l : Launch} {e : Env} {R : Room} {s : State} {m : MethodId} {args : Array Value} {below : List Frame} {meth : Method} {c : Code} {H : Heap} {locs : List Loc} {cells slots : Nat} {Q : State → Prop} {own : String} {cc : ByteArray} {nL : Nat} {ret0 : Option FieldType} {pc : Nat} {ls : Array Slot} {rest : List Value}
    (C : CX p s m args meth c own cc nL ret0) {y : MethodName} {bytes : ByteArray} {maxL n idx : Nat} {rm : Room} {As : List Value} {st0 : List Value} (hM : PV l y bytes maxL rm As) (hS : SC y bytes maxL none n) (hl : Cond.methodLink own idx y ∈ gtbl)
    (hR : (rm.frames + 1 ≤ R.frames ∧ 8 + (maxL + 11) + rm.locals ≤ R.locals) ∧ rm.cells = 0 ∧ rm.slots = 0) (hn : As.length = n) (hsz : ls.size = nL) (hst : st0 = As.reverse ++ rest) (hW : (rest.map fun v => v.category).sum ≤ 8) (hc : cells ≤ R.cells ∧ slots ≤ R.slots) (hd : decode cc pc = .ok (.invokestatic idx, 3))
    (k : W p l e R s m args below meth c H locs cells slots Q (F0 m (pc + 3) ls rest)) : W p l e R s m args below meth c H locs cells slots Q (F0 m pc ls st0) := by
  obtain ⟨hx, hb, hml, hown, hg, -, -⟩ := C
  intro T hT X
  obtain ⟨v, st₀, t, T', L, h0, X', hL, e1, ⟨hv, hh⟩, st⟩ := W.runS (Ts := gtbl) (cc := cc) (nL := nL) (g := F0 m pc ls st0) ⟨hx, hb, hml, hown, hg⟩ hM (va_cwS n hg (gi_S hS hl) rfl hR.2.1 hR.2.2 hS.2.2.2 hR.1) ⟨fun _ _ _ _ q => q, fun _ _ _ => ⟨rfl, trivial⟩⟩ rfl hn hsz hst (lv_room hW) hd hc T hT X
  cases hv
  obtain ⟨t2, a1, b1⟩ := k T' (by rw [e1, hh, h0]) (Stand.forget X' (fun q h => (hL q h).elim))
  exact ⟨t2, st t2 a1, b1⟩
theorem sc_rr : SC yX0_requireRegister cX0_requireRegister 1 none 1 := ⟨tw_34, tw_1, tw_35, by decide +kernel⟩
theorem sc_rk : SC yX0_requireKind cX0_requireKind 1 none 1 := ⟨tw_149, tw_1, tw_150, by decide +kernel⟩
theorem c_rr (l : Launch) (x : Int32) (h : rok x = true) : PV l yX0_requireRegister cX0_requireRegister 1 (rmz 0 0) [.int x] := by
  refine met_of (own := RX0) (by decide +kernel) rfl (Nat.le_of_ble_eq_true rfl) (fun p e s m below meth c ls C _ _ hl => ?_)
  obtain ⟨hx, hb, hml, hown, hg, hr, hlocks⟩ := id C
  have h2 := of_decide_eq_true h
  refine lv_iload_n hx hb dX0_requireRegister_0 rfl (lv_at hl 0 rfl) ?_
  refine lv_if_lt (tgt := 10) hx hb dX0_requireRegister_1 (by decide) (fun c1 => absurd c1 h2.1) (fun c1 => ?_)
  refine lv_iload_n hx hb dX0_requireRegister_4 rfl (lv_at hl 0 rfl) ?_
  refine lv_bipush (v := 16) hx hb dX0_requireRegister_5 (by decide) ?_
  refine lv_icmp_lt (tgt := 20) hx hb dX0_requireRegister_7 (by decide) (fun c2 => ?_) (fun c2 => absurd h2.2 c2)
  exact W.vret hx hb hr (fun t ht _ => ⟨rfl, ht⟩) (fun q h9 => nomatch h9) dX0_requireRegister_20
theorem c_rk (l : Launch) (x : Int32) (h : kok x = true) : PV l yX0_requireKind cX0_requireKind 1 (rmz 0 0) [.int x] := by
  refine met_of (own := RX0) (by decide +kernel) rfl (Nat.le_of_ble_eq_true rfl) (fun p e s m below meth c ls C _ _ hl => ?_)
  obtain ⟨hx, hb, hml, hown, hg, hr, hlocks⟩ := id C
  have h2 := of_decide_eq_true h
  refine lv_iload_n hx hb dX0_requireKind_0 rfl (lv_at hl 0 rfl) ?_
  refine lv_if_lt (tgt := 10) hx hb dX0_requireKind_1 (by decide) (fun c1 => absurd c1 h2.1) (fun c1 => ?_)
  refine lv_iload_n hx hb dX0_requireKind_4 rfl (lv_at hl 0 rfl) ?_
  refine lv_bipush (v := 8) hx hb dX0_requireKind_5 (by decide) ?_
  refine lv_icmp_le (tgt := 20) hx hb dX0_requireKind_7 (by decide) (fun c2 => ?_) (fun c2 => absurd h2.2 c2)
  exact W.vret hx hb hr (fun t ht _ => ⟨rfl, ht⟩) (fun q h9 => nomatch h9) dX0_requireKind_20
theorem t_rr (l : Launch) (hl0 : l.stackTraces = false) (sa : Nat → Nat) (x : Int32) (h : ¬ rok x = true) : XM l yX0_requireRegister cX0_requireRegister 1 none (rmx 6 90) [.int x] IAE (XB sa) := by
  refine xm_of (own := RX0) (by decide +kernel) rfl (Nat.le_of_ble_eq_true rfl) (fun p e s m below meth c ls C hT hB hl => ?_)
  obtain ⟨hx, hb, hml, hown, hg, hr, hlocks⟩ := id C
  have h2 : ¬ (¬ x < 0 ∧ x < 16) := fun q => h (decide_eq_true q)
  refine lv_iload_n hx hb dX0_requireRegister_0 rfl (lv_at hl 0 rfl) ?_
  refine lv_if_lt (tgt := 10) hx hb dX0_requireRegister_1 (by decide) (fun c1 => ?_) (fun c1 => ?_)
  · exact th_I C hl0 hT hB hB.2.1.1 hl.1 dX0_requireRegister_10 dX0_requireRegister_13 dX0_requireRegister_14 dX0_requireRegister_16 dX0_requireRegister_19 (by decide) (Nat.le_of_ble_eq_true rfl)
  refine lv_iload_n hx hb dX0_requireRegister_4 rfl (lv_at hl 0 rfl) ?_
  refine lv_bipush (v := 16) hx hb dX0_requireRegister_5 (by decide) ?_
  refine lv_icmp_lt (tgt := 20) hx hb dX0_requireRegister_7 (by decide) (fun c2 => absurd ⟨c1, c2⟩ h2) (fun c2 => ?_)
  exact th_I C hl0 hT hB hB.2.1.1 hl.1 dX0_requireRegister_10 dX0_requireRegister_13 dX0_requireRegister_14 dX0_requireRegister_16 dX0_requireRegister_19 (by decide) (Nat.le_of_ble_eq_true rfl)
theorem t_rk (l : Launch) (hl0 : l.stackTraces = false) (sa : Nat → Nat) (x : Int32) (h : ¬ kok x = true) : XM l yX0_requireKind cX0_requireKind 1 none (rmx 6 90) [.int x] IAE (XB sa) := by
  refine xm_of (own := RX0) (by decide +kernel) rfl (Nat.le_of_ble_eq_true rfl) (fun p e s m below meth c ls C hT hB hl => ?_)
  obtain ⟨hx, hb, hml, hown, hg, hr, hlocks⟩ := id C
  have h2 : ¬ (¬ x < 0 ∧ x ≤ 8) := fun q => h (decide_eq_true q)
  refine lv_iload_n hx hb dX0_requireKind_0 rfl (lv_at hl 0 rfl) ?_
  refine lv_if_lt (tgt := 10) hx hb dX0_requireKind_1 (by decide) (fun c1 => ?_) (fun c1 => ?_)
  · exact th_I C hl0 hT hB hB.2.1.2.2.2.1 hl.1 dX0_requireKind_10 dX0_requireKind_13 dX0_requireKind_14 dX0_requireKind_16 dX0_requireKind_19 (by decide) (Nat.le_of_ble_eq_true rfl)
  refine lv_iload_n hx hb dX0_requireKind_4 rfl (lv_at hl 0 rfl) ?_
  refine lv_bipush (v := 8) hx hb dX0_requireKind_5 (by decide) ?_
  refine lv_icmp_le (tgt := 20) hx hb dX0_requireKind_7 (by decide) (fun c2 => absurd ⟨c1, c2⟩ h2) (fun c2 => ?_)
  exact th_I C hl0 hT hB hB.2.1.2.2.2.1 hl.1 dX0_requireKind_10 dX0_requireKind_13 dX0_requireKind_14 dX0_requireKind_16 dX0_requireKind_19 (by decide) (Nat.le_of_ble_eq_true rfl)
