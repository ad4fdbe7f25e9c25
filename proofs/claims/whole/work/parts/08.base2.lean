/-! switches -/
section SW
variable {p : Program} {l : Launch} {e : Env} {R : Room} {s : State} {m : MethodId} {args : Array Value} {below : List Frame} {meth : Method} {c : Code} {H : Heap} {locs : List Loc} {cells slots : Nat} {Q : State → Prop}
variable {cc : ByteArray} {pc : Nat} {ls : Array Slot} {rest : List Value}
theorem sw_in (hx : p.tables.exec = Jvm.exec) (hb : c.code = cc) {dflt lo hi : Int} {offs : Array Int} {len : Nat} {x : Int32} (v : Int32) (tgt : Nat) (hdg : decode cc pc = .ok (.tableswitch dflt lo hi offs, len)) (hv : x = v) (h1 : ¬ v.toInt < lo) (h2 : ¬ hi < v.toInt) (ho : (offs[(v.toInt - lo).toNat]?).map (fun o => (pc : Int) + o) = some (tgt : Int))
    (k : W p l e R s m args below meth c H locs cells slots Q (F0 m tgt ls rest)) : W p l e R s m args below meth c H locs cells slots Q (F0 m pc ls (.int x :: rest)) := by
  subst hv
  cases hq : offs[(x.toInt - lo).toNat]? with
  | none => rw [hq] at ho; cases ho
  | some o =>
    rw [hq] at ho
    exact lv_tableIn hx hb hdg h1 h2 hq (Option.some.inj ho) k
theorem sw_def (hx : p.tables.exec = Jvm.exec) (hb : c.code = cc) {dflt lo hi : Int} {offs : Array Int} {len : Nat} {x : Int32} (tgt n : Nat) (mains : List Int32) (hdg : decode cc pc = .ok (.tableswitch dflt lo hi offs, len)) (ht : (pc : Int) + dflt = (tgt : Int)) (hn : (n : Int) = hi - lo + 1)
    (hd : ∀ k, k < n → offs[k]? = some dflt ∨ Int32.ofInt (lo + (k : Int)) ∈ mains) (hm : ∀ v ∈ mains, ¬ x = v)
    (k : W p l e R s m args below meth c H locs cells slots Q (F0 m tgt ls rest)) : W p l e R s m args below meth c H locs cells slots Q (F0 m pc ls (.int x :: rest)) := by
  by_cases h1 : x.toInt < lo
  · exact lv_tableOut hx hb hdg (Or.inl h1) ht k
  · by_cases h2 : hi < x.toInt
    · exact lv_tableOut hx hb hdg (Or.inr h2) ht k
    · rcases hd (x.toInt - lo).toNat (by omega) with h | h
      · exact lv_tableIn hx hb hdg h1 h2 h ht k
      · exfalso
        have e1 : lo + ((x.toInt - lo).toNat : Int) = x.toInt := by omega
        rw [e1, Int32.ofInt_toInt] at h
        exact hm x h rfl
end SW
/-! checks that a partial function makes -/
def nn (r : UInt64) : Bool := decide (r &&& 0x7fffffffffffffff ≤ 0x7ff0000000000000)
theorem nn_of {r : UInt64} (h : nn r = true) : vf_n64 r := by
  have h2 : r &&& 0x7fffffffffffffff ≤ 0x7ff0000000000000 := of_decide_eq_true h
  exact h2
def ok (i : Int32) (n : Nat) : Bool := decide (0 ≤ i.toInt ∧ i.toInt < n)
theorem ok_in {i : Int32} {n : Nat} (h : ok i n = true) : vp_in i n := vp_in_iff.mpr (of_decide_eq_true h)
def bz (x : Int32) : Bool := decide (x = 0 ∨ x = 1)
theorem bz_n {x : Int32} (h : bz x = true) : narrow .boolean (.int x) = .int x := by
  rcases of_decide_eq_true h with rfl | rfl <;> rfl
theorem bz_f {x : Int32} (h : bz x = true) : fits .boolean (.int x) = true := by
  rcases of_decide_eq_true h with rfl | rfl <;> rfl
theorem bz_v {x : Int32} (h : bz x = true) : vp_nar .boolean x = x := by
  rcases of_decide_eq_true h with rfl | rfl <;> rfl
/-! words that aren't in gtbl, but that every road keeps -/
abbrev mRE : MethodName := { cls := "java/lang/RuntimeException", name := "<init>", desc := "(Ljava/lang/String;)V" }
abbrev mEx : MethodName := { cls := "java/lang/Exception", name := "<init>", desc := "(Ljava/lang/String;)V" }
abbrev mTh : MethodName := { cls := "java/lang/Throwable", name := "<init>", desc := "(Ljava/lang/String;)V" }
def XT (U : State) : Prop := va_Nw (.fieldLinkNest "RealDeskModel" 112 "RealDeskModel$Big" "parts" "[I" "RealDeskModel") U ∧ va_Nw (.castable "java/lang/IllegalArgumentException" "java/lang/IllegalArgumentException") U ∧ va_Nw (.castable "java/lang/IllegalStateException" "java/lang/IllegalStateException") U ∧ va_Nc "java/lang/IllegalStateException" "java/lang/IllegalArgumentException" U ∧ va_Nw (.declares mRE) U ∧ va_Nw (.declares mEx) U ∧ va_Nw (.declares mTh) U ∧ va_Nw (.methodLinkNest "RealDeskModel" 23 yX1_init "RealDeskModel") U
theorem XT.warm {s U : State} (hW : s.WarmedH U.vm) (h : XT s) : XT U := ⟨va_Nw.warmF hW h.1, va_Nw.warmC hW h.2.1, va_Nw.warmC hW h.2.2.1, h.2.2.2.1.moved hW.alike, va_Nw.warmD hW h.2.2.2.2.1, va_Nw.warmD hW h.2.2.2.2.2.1, va_Nw.warmD hW h.2.2.2.2.2.2.1, va_Nw.warmM hW h.2.2.2.2.2.2.2⟩
theorem XT.same {s U : State} (h9 : s.vm = U.vm) (h : XT s) : XT U := ⟨va_tabs rfl h9 h.1, va_tabs rfl h9 h.2.1, va_tabs rfl h9 h.2.2.1, h.2.2.2.1.moved (by rw [h9]; exact Vm.Alike.refl _), va_tabs rfl h9 h.2.2.2.2.1, va_tabs rfl h9 h.2.2.2.2.2.1, va_tabs rfl h9 h.2.2.2.2.2.2.1, va_tabs rfl h9 h.2.2.2.2.2.2.2⟩
/-! a method over a world of cells: from w it answers v and leaves w1, nothing else is written -/
def HP (D : va_G) (tys : List (ClassId × FieldType)) (w : va_W) (sz : Nat) (U : State) : Prop := U.heap.size = sz ∧ va_P D vwCl w U.heap ∧ va_K D vwCl tys U ∧ va_D (fun _ => True) w ∧ XT U
def HQ (D : va_G) (A : Nat → Prop) (w : va_W) (v : Option Value) : Array Value → State → Outcome → State → Prop := fun _ st o t => o = .returned v ∧ va_P D vwCl w t.heap ∧ va_D A w ∧ va_F A st t
def HM (l : Launch) (y : MethodName) (cc : ByteArray) (n : Nat) (ret : Option FieldType) (rm : Room) (As : List Value) (tys : List (ClassId × FieldType)) (w : va_W) (v : Option Value) (w1 : va_W) : Prop :=
  ∀ (D : va_G) (sz : Nat), Met l y (WS y cc n ret) rm (va_Pc As (HP D tys w sz)) (HQ D (va_A w sz) w1 v) 0 0 (va_A w sz)
theorem HP.blind {D : va_G} {tys : List (ClassId × FieldType)} {w : va_W} {sz : Nat} {As : List Value} : FrameBlind (va_Pc As (HP D tys w sz)) := fun a U g mk q => ⟨q.1, q.2.1, q.2.2.1, va_K.moved (u := U) (U := U.calling g mk a) (Vm.Alike.refl U.vm) q.2.2.2.1, q.2.2.2.2.1, XT.same rfl q.2.2.2.2.2⟩
theorem hm_of {l : Launch} {y : MethodName} {cc : ByteArray} {n : Nat} {ret : Option FieldType} {own : String} {rm : Room} {As : List Value} {tys : List (ClassId × FieldType)} {w w1 : va_W} {v : Option Value} (hy : plainName y.cls = true) (hown : y.cls = own) (hlen : (lg_sl As).length ≤ n)
    (body : ∀ (D : va_G) (A : Nat → Prop) (p : Program) (e : Env) (s : State) (m : MethodId) (below : List Frame) (meth : Method) (c : Code) (ls : Array Slot), CX p s m As.toArray meth c own cc n ret → (∀ q, s.heap.size ≤ q → A q) → va_K D vwCl tys s → XT s → va_P D vwCl w s.heap → va_D A w → va_S A s.heap s.heap [] → lv_has ls n (lv_args 0 As) →
      W p l e rm s m As.toArray below meth c s.heap [] 0 0 (MQ below (HQ D A w1 v) As.toArray s 0 0 A) (F0 m 0 ls [])) : HM l y cc n ret rm As tys w v w1 := by
  intro D sz
  refine met_of hy hown hlen (fun p e s m below meth c ls C _ hB hl => ?_)
  obtain ⟨rfl, hP, hK, hD, hX⟩ := hB
  exact body D _ p e s m below meth c ls C (fun q h => Or.inr h) hK hX hP hD.self va_S.rf hl
section HC
variable {p : Program} {l : Launch} {e : Env} {R : Room} {s : State} {m : MethodId} {args : Array Value} {below : List Frame} {meth : Method} {c : Code} {H : Heap} {locs : List Loc} {cells slots : Nat} {Q : State → Prop}
variable {own : String} {cc : ByteArray} {nL : Nat} {ret0 : Option FieldType} {pc : Nat} {ls : Array Slot} {rest : List Value} {D : va_G} {tys : List (ClassId × FieldType)} {A : Nat → Prop} {ws : va_W}
theorem hrun {mc ms : Nat} {g : JFrame} {As : List Value} {wc wr w1 wf : va_W} {v : Option Value} (hP : va_P D vwCl ws H) (hD : va_D A ws) (hS : va_S A s.heap H locs) (hA : ∀ q, s.heap.size ≤ q → A q) (isC isR isF : List Nat) (hC : isC.map (fun i => ws[i]?) = wc.map some) (hR : isR.map (fun i => ws[i]?) = wr.map some) (hn : va_nd isR = true) (hdis : ∀ i ∈ isR, i ∉ isC)
    (hF1 : isF.filterMap (fun i => (wr ++ w1)[i]?) = wf) (hF2 : isF.map (fun i => (wr ++ w1)[i]?) = wf.map some) (hF3 : va_nd isF = true)
    (hr : CallRun p l e R s m args below meth c H locs cells slots mc ms g rest (HQ D (va_A wc H.size) w1 v As.toArray) (va_A wc H.size))
    (k : ∀ (H1 : Heap) (locs1 : List Loc), va_P D vwCl wf H1 → va_D A wf → va_S A s.heap H1 locs1 → W p l e R s m args below meth c H1 locs1 (cells + mc) (slots + ms) Q { g with pc := g.pc + 3, stack := v.toList ++ rest }) : W p l e R s m args below meth c H locs cells slots Q g := by
  intro T hT X
  obtain ⟨v9, st₀, t, T', L, h0, X', hL, e1, ⟨hv, hP1, hD1, hF⟩, st⟩ := hr T hT X
  cases hv
  have hFc := va_free (wc := wc) hD hS hA isC hC
  obtain ⟨hz, hk⟩ := hF
  rw [h0] at hz hk
  obtain ⟨hP2, hD2⟩ := va_join (wr := wr) (w1 := w1) (H1 := T'.heap) hP hD isC isR hC hR hn hdis (fun q h1 h2 => by rw [e1]; exact hk q h1 h2) hFc (by rw [e1]; exact hP1) hD1
  have hS2 : va_S A s.heap T'.heap (locs ++ L) := ⟨Nat.le_trans hS.1 (by rw [e1]; exact hz), fun q h1 h2 => by
      rw [e1, hk q (Nat.lt_of_lt_of_le h1 hS.1) (fun z => h2 (hFc q z))]; exact hS.2.1 q h1 h2, fun q hq => by
      rcases List.mem_append.mp hq with h | h
      · exact hS.2.2 q h
      · exact hFc _ (hL q h)⟩
  obtain ⟨t2, a1, b1⟩ := k T'.heap (locs ++ L) (hP2.sub isF hF1) (hD2.sub isF hF3 hF2) hS2 T' rfl X'
  exact ⟨t2, st t2 a1, b1⟩
/-- a call on an object: the callee's cells wc, the rest wr, behind it wf -/
theorem hcallV (C : CX p s m args meth c own cc nL ret0) (hK : va_K D vwCl tys s) (hX : XT s) (hP : va_P D vwCl ws H) (hD : va_D A ws) (hS : va_S A s.heap H locs) (hA : ∀ q, s.heap.size ≤ q → A q)
    {y : MethodName} {bytes : ByteArray} {maxL n idx b : Nat} {ret : Option FieldType} {rm : Room} {As : List Value} {tysc : List (ClassId × FieldType)} {wc wr w1 wf : va_W} {v : Option Value} {Cn : String} {st0 : List Value} (hM : HM l y bytes maxL ret rm (.ref b :: As) tysc wc v w1) (hV : VC Cn y bytes maxL ret n) (hl : Cond.methodLink own idx y ∈ gtbl)
    (isC isR isF isT : List Nat) (hC : isC.map (fun i => ws[i]?) = wc.map some) (hC1 : isC.filterMap (fun i => ws[i]?) = wc) (hCn : va_nd isC = true) (hR : isR.map (fun i => ws[i]?) = wr.map some) (hn : va_nd isR = true) (hdis : ∀ i ∈ isR, i ∉ isC)
    (hF1 : isF.filterMap (fun i => (wr ++ w1)[i]?) = wf) (hF2 : isF.map (fun i => (wr ++ w1)[i]?) = wf.map some) (hF3 : va_nd isF = true) (hT : isT.filterMap (fun i => tys[i]?) = tysc)
    {q0 ci : Nat} {q : vw_C} {fs : List Value} (hci : vwCl[ci]? = some q) (hq : q.1 = Cn) (he : ws[q0]? = some (b, .inr (ci, fs)))
    (hRm : (rm.frames + 1 ≤ R.frames ∧ 8 + (maxL + 11) + rm.locals ≤ R.locals) ∧ rm.cells = 0 ∧ rm.slots = 0) (hna : As.length = n) (hsz : ls.size = nL) (hst : st0 = As.reverse ++ .ref b :: rest) (hW : (rest.map fun v => v.category).sum ≤ 8) (hc : cells ≤ R.cells ∧ slots ≤ R.slots) (hd : decode cc pc = .ok (.invokevirtual idx, 3))
    (k : ∀ (H1 : Heap) (locs1 : List Loc), va_P D vwCl wf H1 → va_D A wf → va_S A s.heap H1 locs1 → W p l e R s m args below meth c H1 locs1 cells slots Q (F0 m (pc + 3) ls (v.toList ++ rest))) : W p l e R s m args below meth c H locs cells slots Q (F0 m pc ls st0) := by
  obtain ⟨hx, hb, hml, hown, hg, -, -⟩ := C
  have hPc := hP.sub isC hC1
  have hDc := hD.sub isC hCn hC
  have hrec := va_recv hK hP hci he
  rw [hq] at hrec
  exact hrun (g := F0 m pc ls st0) hP hD hS hA isC isR isF hC hR hn hdis hF1 hF2 hF3 (W.runV (Ts := gtbl) (cc := cc) (nL := nL) (C := Cn) ⟨hx, hb, hml, hown, hg⟩ (hM D H.size) (cwV n hg (gi_V hV hl) rfl hRm.2.1 hRm.2.2 hV.2.2.2.2 hRm.1)
    ⟨HP.blind, hrec, fun U hU hW9 => ⟨rfl, by rw [hU], by rw [hU]; exact hPc, (va_K.moved hW9.alike hK).sub isT hT, hDc.weaken (fun _ _ _ _ => trivial), hX.warm hW9⟩⟩ rfl hna hsz hst (lv_room hW) hd hc) k
end HC
theorem inX0 : ∀ w ∈ u_ws RX0 TX0 1, w ∈ gtbl := by
  have h : (u_ws RX0 TX0 1).all (fun w => decide (w ∈ gtbl)) = true := by decide +kernel
  exact fun w hw => of_decide_eq_true (List.all_eq_true.mp h w hw)
theorem inX1 : ∀ w ∈ u_ws RX1 TX1 1, w ∈ gtbl := by
  have h : (u_ws RX1 TX1 1).all (fun w => decide (w ∈ gtbl)) = true := by decide +kernel
  exact fun w hw => of_decide_eq_true (List.all_eq_true.mp h w hw)
theorem inX2 : ∀ w ∈ u_ws RX2 TX2 9, w ∈ gtbl := by
  have h : (u_ws RX2 TX2 9).all (fun w => decide (w ∈ gtbl)) = true := by decide +kernel
  exact fun w hw => of_decide_eq_true (List.all_eq_true.mp h w hw)
