/-! the law's helpers: a call of the desk, its answer laid into out[0]; what is thrown becomes a number -/
abbrev tyLd (ck : Nat → ClassId) : List (ClassId × FieldType) := [(ck 1, .long), (ck 3, .double)]
abbrev wL (ck : Nat → ClassId) (ad : Nat → Nat) (g o : NL) : va_W := [(ad 0, .inr (0, [.ref (ad 1)])), (ad 1, .inl (ck 1, 16, .inr (.inl g))), (ad 2, .inl (ck 1, 1, .inr (.inl o)))]
abbrev wLd (ck : Nat → ClassId) (ad : Nat → Nat) (g : NL) (o : Nat → UInt64) : va_W := [(ad 0, .inr (0, [.ref (ad 1)])), (ad 1, .inl (ck 1, 16, .inr (.inl g))), (ad 2, .inl (ck 3, 1, .inr (.inr (.inr (.inl o)))))]
def WL (y : MethodName) (cc : ByteArray) (n : Nat) (hh : List (Nat × Nat × Nat × Nat)) : List Cond := Cond.codeWith y cc n (some .int) hh :: gtbl
def LM (l : Launch) (y : MethodName) (cc : ByteArray) (n : Nat) (hh : List (Nat × Nat × Nat × Nat)) (rm : Room) (As : List Value) (tys : List (ClassId × FieldType)) (w : va_W) (v : Option Value) (w1 : va_W) (sa : Nat → Nat) : Prop :=
  ∀ (D : va_G) (sz : Nat), Met l y (WL y cc n hh) rm (va_Pc As (XH D tys w sz sa)) (HQ D (va_A w sz) w1 v) 1 6 (va_A w sz)
theorem XH.blind {D : va_G} {tys : List (ClassId × FieldType)} {w : va_W} {sz : Nat} {sa : Nat → Nat} {As : List Value} : FrameBlind (va_Pc As (XH D tys w sz sa)) := fun a U g mk q => ⟨q.1, (HP.blind (As := As) a U g mk ⟨q.1, q.2.1⟩).2, XS.same rfl q.2.2.1, q.2.2.2.moved (Vm.Alike.refl U.vm)⟩
theorem lm_of {l : Launch} {y : MethodName} {cc : ByteArray} {n : Nat} {hh : List (Nat × Nat × Nat × Nat)} {own : String} {rm : Room} {As : List Value} {tys : List (ClassId × FieldType)} {w w1 : va_W} {v : Option Value} {sa : Nat → Nat} (hy : plainName y.cls = true) (hown : y.cls = own) (hlen : (lg_sl As).length ≤ n)
    (body : ∀ (D : va_G) (A : Nat → Prop) (p : Program) (e : Env) (s : State) (m : MethodId) (below : List Frame) (meth : Method) (c : Code) (ls : Array Slot), CX p s m As.toArray meth c own cc n (some .int) → c.exceptionTable.toList = tableOf hh → (∀ q, s.heap.size ≤ q → A q) → va_K D vwCl tys s → XB sa s → va_P D vwCl w s.heap → va_D A w → va_S A s.heap s.heap [] → lv_has ls n (lv_args 0 As) →
      W p l e rm s m As.toArray below meth c s.heap [] 0 0 (MQ below (HQ D A w1 v) As.toArray s 1 6 A) (F0 m 0 ls [])) : LM l y cc n hh rm As tys w v w1 sa := by
  intro D sz
  refine va_MetW (cc := cc) (maxL := n) (ret := some .int) (hh := hh) hy rfl ?_
  intro p e s m args below meth c s₁ B0 hml hv
  obtain ⟨rfl, ⟨rfl, hP, hK, hD, hX⟩, hS1, hZ1⟩ := hv
  rw [lg_entry_eq]
  exact body D _ p e s m below meth c _ ⟨B0.exec, B0.bytes, hml, by rw [← hown]; exact findClass_of_methodNamed B0.named, fun w h => atoms_spec (ws := WL y cc n hh) B0.pre w (List.mem_cons_of_mem _ h), B0.returns, B0.notSynchronized⟩
    (vx_table (x := y) B0 (atoms_spec (ws := WL y cc n hh) B0.pre _ List.mem_cons_self)) (fun q h => Or.inr h) hK ⟨hX, hS1, hZ1⟩ hP hD.self va_S.rf (lv_entry As hlen)
section LC
variable {p : Program} {l : Launch} {e : Env} {R : Room} {s : State} {m : MethodId} {args : Array Value} {below : List Frame} {meth : Method} {c : Code} {H : Heap} {locs : List Loc} {cells slots : Nat} {Q : State → Prop}
variable {own : String} {cc : ByteArray} {nL : Nat} {ret0 : Option FieldType} {pc : Nat} {ls : Array Slot} {rest : List Value} {D : va_G} {A : Nat → Prop} {ck : Nat → ClassId} {ad : Nat → Nat}
variable {y : MethodName} {bytes : ByteArray} {maxL n idx : Nat} {ret : Option FieldType} {rm : Room} {As : List Value} {v : Option Value} {st0 : List Value} {g g' : NL}
theorem callL {o : NL} (C : CX p s m args meth c own cc nL ret0) (hK : va_K D vwCl (tyD ck) s) (hX : XT s) (hP : va_P D vwCl (wL ck ad g o) H) (hD : va_D A (wL ck ad g o)) (hS : va_S A s.heap H locs) (hA : ∀ q, s.heap.size ≤ q → A q)
    (hM : HM l y bytes maxL ret rm (.ref (ad 0) :: As) (tyD ck) (wD ck ad g) v (wD ck ad g')) (hV : VC RX0 y bytes maxL ret n) (hl : Cond.methodLink own idx y ∈ gtbl)
    (hRm : (rm.frames + 1 ≤ R.frames ∧ 8 + (maxL + 11) + rm.locals ≤ R.locals) ∧ rm.cells = 0 ∧ rm.slots = 0) (hna : As.length = n) (hsz : ls.size = nL) (hst : st0 = As.reverse ++ .ref (ad 0) :: rest) (hW : (rest.map fun v => v.category).sum ≤ 8) (hc : cells ≤ R.cells ∧ slots ≤ R.slots) (hd : decode cc pc = .ok (.invokevirtual idx, 3))
    (k : ∀ (H1 : Heap) (locs1 : List Loc), va_P D vwCl (wL ck ad g' o) H1 → va_D A (wL ck ad g' o) → va_S A s.heap H1 locs1 → W p l e R s m args below meth c H1 locs1 cells slots Q (F0 m (pc + 3) ls (v.toList ++ rest))) : W p l e R s m args below meth c H locs cells slots Q (F0 m pc ls st0) :=
  hcallV (wr := [(ad 2, .inl (ck 1, 1, .inr (.inl o)))]) C hK hX hP hD hS hA hM hV hl [0, 1] [2] [1, 2, 0] [0] rfl rfl rfl rfl rfl (by decide) rfl rfl rfl rfl (q0 := 0) (ci := 0) rfl rfl rfl hRm hna hsz hst hW hc hd k
theorem callLd {o : Nat → UInt64} (C : CX p s m args meth c own cc nL ret0) (hK : va_K D vwCl (tyLd ck) s) (hX : XT s) (hP : va_P D vwCl (wLd ck ad g o) H) (hD : va_D A (wLd ck ad g o)) (hS : va_S A s.heap H locs) (hA : ∀ q, s.heap.size ≤ q → A q)
    (hM : HM l y bytes maxL ret rm (.ref (ad 0) :: As) (tyD ck) (wD ck ad g) v (wD ck ad g')) (hV : VC RX0 y bytes maxL ret n) (hl : Cond.methodLink own idx y ∈ gtbl)
    (hRm : (rm.frames + 1 ≤ R.frames ∧ 8 + (maxL + 11) + rm.locals ≤ R.locals) ∧ rm.cells = 0 ∧ rm.slots = 0) (hna : As.length = n) (hsz : ls.size = nL) (hst : st0 = As.reverse ++ .ref (ad 0) :: rest) (hW : (rest.map fun v => v.category).sum ≤ 8) (hc : cells ≤ R.cells ∧ slots ≤ R.slots) (hd : decode cc pc = .ok (.invokevirtual idx, 3))
    (k : ∀ (H1 : Heap) (locs1 : List Loc), va_P D vwCl (wLd ck ad g' o) H1 → va_D A (wLd ck ad g' o) → va_S A s.heap H1 locs1 → W p l e R s m args below meth c H1 locs1 cells slots Q (F0 m (pc + 3) ls (v.toList ++ rest))) : W p l e R s m args below meth c H locs cells slots Q (F0 m pc ls st0) :=
  hcallV (wr := [(ad 2, .inl (ck 3, 1, .inr (.inr (.inr (.inl o)))))]) C hK hX hP hD hS hA hM hV hl [0, 1] [2] [1, 2, 0] [0] rfl rfl rfl rfl rfl (by decide) rfl rfl rfl rfl (q0 := 0) (ci := 0) rfl rfl rfl hRm hna hsz hst hW hc hd k
/-- the desk throws, a row of the table takes it: nothing but a new cell has come -/
theorem lcatch {ws : va_W} {tys : List (ClassId × FieldType)} {hh : List (Nat × Nat × Nat × Nat)} {sa : Nat → Nat} {E name : String} (C : CX p s m args meth c own cc nL ret0) (hT : c.exceptionTable.toList = tableOf hh) (hK : va_K D vwCl tys s) (hB : XB sa s) (hP : va_P D vwCl ws s.heap) (hD : va_D A ws) (hA : ∀ q, s.heap.size ≤ q → A q)
    (isC isT : List Nat) (hC : isC.map (fun i => ws[i]?) = (wD ck ad g).map some) (hC1 : isC.filterMap (fun i => ws[i]?) = wD ck ad g) (hCn : va_nd isC = true) (hTy : isT.filterMap (fun i => tys[i]?) = tyD ck)
    (hM : XM l y bytes maxL ret rm (.ref (ad 0) :: As) E (XH D (tyD ck) (wD ck ad g) s.heap.size sa)) (hV : VC RX0 y bytes maxL ret n) (hl : Cond.methodLink own idx y ∈ gtbl)
    (pre : List ExceptionTableEntry) (x : ExceptionTableEntry) (suf : List ExceptionTableEntry) (hsplit : tableOf hh = pre ++ x :: suf)
    (hpass : ∀ z ∈ pre, covers z pc = false ∨ (z.catchType ≠ 0 ∧ ∃ nm : String, (Cond.classLink own z.catchType nm).before args s = true ∧ va_Nc E nm s)) (hx9 : covers x pc = true) (h09 : x.catchType ≠ 0)
    (hlink : (Cond.classLink own x.catchType name).before args s = true) (hcast : (Cond.castable E name).before args s = true)
    (hRm : (rm.frames + 1 ≤ R.frames ∧ 8 + (maxL + 11) + rm.locals ≤ R.locals) ∧ rm.cells = 1 ∧ rm.slots = 6) (hna : As.length = n) (hsz : ls.size = nL) (hst : st0 = As.reverse ++ .ref (ad 0) :: rest) (hW : (rest.map fun v => v.category).sum ≤ 8) (hc : 1 ≤ R.cells ∧ 6 ≤ R.slots) (hd : decode cc pc = .ok (.invokevirtual idx, 3))
    (k : ∀ (H1 : Heap) (locs1 : List Loc) (q9 : Nat), va_P D vwCl ws H1 → va_D A ws → va_S A s.heap H1 locs1 → W p l e R s m args below meth c H1 locs1 1 6 Q (F0 m x.handlerPc ls [.ref q9])) : W p l e R s m args below meth c s.heap [] 0 0 Q (F0 m pc ls st0) := by
  obtain ⟨hx, hb, hml, hown, hg, -, hlocks⟩ := C
  have hPc := hP.sub isC hC1
  have hDc := hD.sub isC hCn hC
  have hrec := va_recv hK hPc (ci := 0) (q0 := 0) rfl rfl
  intro T hTh X
  rcases vx_runV (Ts := gtbl) (cc := cc) (nL := nL) (C := RX0) (g := F0 m pc ls st0) (b := ad 0) ⟨hx, hb, hml, hown, hg⟩ hM (cwV n hg (gi_V hV hl) rfl hRm.2.1 hRm.2.2 hV.2.2.2.2 hRm.1)
    ⟨XH.blind, hrec, fun U hU hW9 => ⟨rfl, ⟨by rw [hU], by rw [hU]; exact hPc, (va_K.moved hW9.alike hK).sub isT hTy, hDc.weaken (fun _ _ _ _ => trivial), hB.1.warm hW9⟩, hB.2.1.warm hW9, by rw [hU]; exact hB.2.2.moved hW9.alike⟩⟩ rfl hna hsz hst (lv_room hW) hd ⟨by have := hc.1; omega, by have := hc.2; omega⟩ T hTh X with ⟨v9, st₀, t, T', L, h0, X', hL, e1, e2, hq, st⟩ | ⟨q, st₀, t, T', L, E2, ce, h0, X', hL, e1, e2, ⟨hE, hz, hk⟩, hce, hcv, hcl, st⟩
  · exact hq.elim
  · subst hE
    rw [h0] at hz hk
    have hP2 : va_P D vwCl ws T'.heap := hP.kept (fun k9 q9 hk9 => by rw [e1]; exact hk q9.1 (hP k9 q9 hk9).lt)
    have hS2 : va_S A s.heap T'.heap ([] ++ L) := ⟨by rw [e1]; exact hz, fun q9 h1 _ => by rw [e1]; exact hk q9 h1, fun z hz9 => (hL z (by simpa using hz9)).elim⟩
    obtain ⟨t2, a1, b1⟩ := vx_catch (rest := rest) (ls := ls) (pc := pc) hown pre x suf (hT.trans hsplit) hpass hx9 h09 hlink hcast (q := q) (ce := ce) (by rw [e1]; exact hce) hcv hcl (k T'.heap ([] ++ L) q hP2 hD hS2) T' rfl X'
    exact ⟨t2, st.trans a1, b1⟩
end LC

set_option maxHeartbeats 4000000 in
set_option maxRecDepth 100000 in
theorem lL_set_n (l : Launch) (sa : Nat → Nat) (ck : Nat → ClassId) (ad : Nat → Nat) (g : NL) (o : NL) (x1 : Int32) (x2 : Int64) (x4 : Int32) (u : Int32 × NL) (h : jX0_set g x1 x2 x4 = some u) : LM l yL_set cL_set 7 [(0, 13, 16, 13)] (rmx 8 134) [.ref (ad 0), .int x1, .long x2, .int x4, .ref (ad 2)] (tyD ck) (wL ck ad g o) (some (.int 0)) (wL ck ad u.2 (vp_updL o (0 : Int32).toNatClampNeg (u.1.toInt64))) sa := by
  refine lm_of (own := RL) (by decide +kernel) rfl (Nat.le_of_ble_eq_true rfl) (fun D A p e s m below meth c ls C hT hA hK hB hP hD hS hl => ?_)
  obtain ⟨hx, hb, hml, hown, hg, hr, hlocks⟩ := id C
  have hX := hB.1
  have hl : lv_has ls 7 [(0, .ref (ad 0)), (1, .int x1), (2, .long x2), (4, .int x4), (5, .ref (ad 2))] := hl
  refine lv_aload hx hb dL_set_0 (lv_at hl 4 rfl) ?_
  refine lv_iconst (v := 0) hx hb dL_set_2 (by decide) ?_
  refine lv_aload_n hx hb dL_set_3 rfl (lv_at hl 0 rfl) ?_
  refine lv_iload_n hx hb dL_set_4 rfl (lv_at hl 1 rfl) ?_
  refine lv_lload_n hx hb dL_set_5 rfl (lv_at hl 2 rfl) ?_
  refine lv_iload hx hb dL_set_6 (lv_at hl 3 rfl) ?_
  refine callL C hK hX hP hD hS hA (cX0_set_met l ck ad g x1 x2 x4 u h) vc_X0_set tw_29 (by decide) rfl hl.1 (rest := [.int 0, .ref (ad 2)]) rfl (Nat.le_of_ble_eq_true rfl) (by decide) dL_set_8 (fun H locs hP hD hS => ?_)
  refine W.eq (g2 := F0 m 11 ls [.int u.1, .int 0, .ref (ad 2)]) rfl ?_
  refine lv_i2l hx hb dL_set_11 rfl ?_
  refine va_last hx hb hK hP hD hS 2 0 rfl rfl (ok_in (by decide)) dL_set_12 (fun H locs hP hD hS => ?_)
  have hP : va_P D vwCl (wL ck ad u.2 (vp_updL o (0 : Int32).toNatClampNeg (u.1.toInt64))) H := hP
  have hD : va_D A (wL ck ad u.2 (vp_updL o (0 : Int32).toNatClampNeg (u.1.toInt64))) := hD
  refine lv_goto (tgt := 20) hx hb dL_set_13 (by decide) ?_
  refine lv_iconst (v := 0) hx hb dL_set_20 (by decide) ?_
  refine W.widen (k := 1) (n := 6) (by decide) (by decide) ?_
  exact W.iret hx hb hr (fun t ht _ => ⟨rfl, by rw [ht]; exact hP, hD, hS.F ht⟩) hS.2.2 dL_set_21
set_option maxHeartbeats 4000000 in
set_option maxRecDepth 100000 in
theorem lL_set_t1 (l : Launch) (hl0 : l.stackTraces = false) (sa : Nat → Nat) (ck : Nat → ClassId) (ad : Nat → Nat) (g : NL) (o : NL) (x1 : Int32) (x2 : Int64) (x4 : Int32) (h : tX0_set g x1 x2 x4 = some 1) : LM l yL_set cL_set 7 [(0, 13, 16, 13)] (rmx 8 134) [.ref (ad 0), .int x1, .long x2, .int x4, .ref (ad 2)] (tyD ck) (wL ck ad g o) (some (.int 1)) (wL ck ad g o) sa := by
  refine lm_of (own := RL) (by decide +kernel) rfl (Nat.le_of_ble_eq_true rfl) (fun D A p e s m below meth c ls C hT hA hK hB hP hD hS hl => ?_)
  obtain ⟨hx, hb, hml, hown, hg, hr, hlocks⟩ := id C
  have hX := hB.1
  have hl : lv_has ls 7 [(0, .ref (ad 0)), (1, .int x1), (2, .long x2), (4, .int x4), (5, .ref (ad 2))] := hl
  refine lv_aload hx hb dL_set_0 (lv_at hl 4 rfl) ?_
  refine lv_iconst (v := 0) hx hb dL_set_2 (by decide) ?_
  refine lv_aload_n hx hb dL_set_3 rfl (lv_at hl 0 rfl) ?_
  refine lv_iload_n hx hb dL_set_4 rfl (lv_at hl 1 rfl) ?_
  refine lv_lload_n hx hb dL_set_5 rfl (lv_at hl 2 rfl) ?_
  refine lv_iload hx hb dL_set_6 (lv_at hl 3 rfl) ?_
  refine lcatch (E := exn 1) (rest := [.int 0, .ref (ad 2)]) C hT hK hB hP hD hA [0, 1] [0] rfl rfl rfl rfl (tX0_set_met l hl0 sa D _ ck ad g x1 x2 x4 1 h) vc_X0_set tw_29 [] ⟨0, 13, 16, 13⟩ [] rfl (fun z hz => nomatch hz) (by decide) (by decide) (hg _ tw_28) (va_Nw.use rfl hX.2.1) (by decide) rfl hl.1 rfl (Nat.le_of_ble_eq_true rfl) (by decide) dL_set_8 (fun H locs q9 hP hD hS => ?_)
  refine lv_astore (lv' := [(6, .ref q9), (0, .ref (ad 0)), (1, .int x1), (2, .long x2), (4, .int x4), (5, .ref (ad 2))]) hx hb dL_set_16 hl (by decide) rfl (fun ls hl => ?_)
  refine lv_iconst (v := 1) hx hb dL_set_18 (by decide) ?_
  exact W.iret hx hb hr (fun t ht _ => ⟨rfl, by rw [ht]; exact hP, hD, hS.F ht⟩) hS.2.2 dL_set_19
set_option maxHeartbeats 4000000 in
set_option maxRecDepth 100000 in
theorem lL_combine_n (l : Launch) (sa : Nat → Nat) (ck : Nat → ClassId) (ad : Nat → Nat) (g : NL) (o : NL) (x1 : Int32) (x2 : Int32) (x3 : Int32) (x4 : Int32) (u : Int32 × NL) (h : jX0_combine g x1 x2 x3 x4 = some u) : LM l yL_combine cL_combine 7 [(0, 14, 17, 13)] (rmx 8 193) [.ref (ad 0), .int x1, .int x2, .int x3, .int x4, .ref (ad 2)] (tyD ck) (wL ck ad g o) (some (.int 0)) (wL ck ad u.2 (vp_updL o (0 : Int32).toNatClampNeg (u.1.toInt64))) sa := by
  refine lm_of (own := RL) (by decide +kernel) rfl (Nat.le_of_ble_eq_true rfl) (fun D A p e s m below meth c ls C hT hA hK hB hP hD hS hl => ?_)
  obtain ⟨hx, hb, hml, hown, hg, hr, hlocks⟩ := id C
  have hX := hB.1
  have hl : lv_has ls 7 [(0, .ref (ad 0)), (1, .int x1), (2, .int x2), (3, .int x3), (4, .int x4), (5, .ref (ad 2))] := hl
  refine lv_aload hx hb dL_combine_0 (lv_at hl 5 rfl) ?_
  refine lv_iconst (v := 0) hx hb dL_combine_2 (by decide) ?_
  refine lv_aload_n hx hb dL_combine_3 rfl (lv_at hl 0 rfl) ?_
  refine lv_iload_n hx hb dL_combine_4 rfl (lv_at hl 1 rfl) ?_
  refine lv_iload_n hx hb dL_combine_5 rfl (lv_at hl 2 rfl) ?_
  refine lv_iload_n hx hb dL_combine_6 rfl (lv_at hl 3 rfl) ?_
  refine lv_iload hx hb dL_combine_7 (lv_at hl 4 rfl) ?_
  refine callL C hK hX hP hD hS hA (cX0_combine_met l ck ad g x1 x2 x3 x4 u h) vc_X0_combine tw_144 (by decide) rfl hl.1 (rest := [.int 0, .ref (ad 2)]) rfl (Nat.le_of_ble_eq_true rfl) (by decide) dL_combine_9 (fun H locs hP hD hS => ?_)
  refine W.eq (g2 := F0 m 12 ls [.int u.1, .int 0, .ref (ad 2)]) rfl ?_
  refine lv_i2l hx hb dL_combine_12 rfl ?_
  refine va_last hx hb hK hP hD hS 2 0 rfl rfl (ok_in (by decide)) dL_combine_13 (fun H locs hP hD hS => ?_)
  have hP : va_P D vwCl (wL ck ad u.2 (vp_updL o (0 : Int32).toNatClampNeg (u.1.toInt64))) H := hP
  have hD : va_D A (wL ck ad u.2 (vp_updL o (0 : Int32).toNatClampNeg (u.1.toInt64))) := hD
  refine lv_goto (tgt := 21) hx hb dL_combine_14 (by decide) ?_
  refine lv_iconst (v := 0) hx hb dL_combine_21 (by decide) ?_
  refine W.widen (k := 1) (n := 6) (by decide) (by decide) ?_
  exact W.iret hx hb hr (fun t ht _ => ⟨rfl, by rw [ht]; exact hP, hD, hS.F ht⟩) hS.2.2 dL_combine_22
set_option maxHeartbeats 4000000 in
set_option maxRecDepth 100000 in
theorem lL_combine_t1 (l : Launch) (hl0 : l.stackTraces = false) (sa : Nat → Nat) (ck : Nat → ClassId) (ad : Nat → Nat) (g : NL) (o : NL) (x1 : Int32) (x2 : Int32) (x3 : Int32) (x4 : Int32) (h : tX0_combine g x1 x2 x3 x4 = some 1) : LM l yL_combine cL_combine 7 [(0, 14, 17, 13)] (rmx 8 193) [.ref (ad 0), .int x1, .int x2, .int x3, .int x4, .ref (ad 2)] (tyD ck) (wL ck ad g o) (some (.int 1)) (wL ck ad g o) sa := by
  refine lm_of (own := RL) (by decide +kernel) rfl (Nat.le_of_ble_eq_true rfl) (fun D A p e s m below meth c ls C hT hA hK hB hP hD hS hl => ?_)
  obtain ⟨hx, hb, hml, hown, hg, hr, hlocks⟩ := id C
  have hX := hB.1
  have hl : lv_has ls 7 [(0, .ref (ad 0)), (1, .int x1), (2, .int x2), (3, .int x3), (4, .int x4), (5, .ref (ad 2))] := hl
  refine lv_aload hx hb dL_combine_0 (lv_at hl 5 rfl) ?_
  refine lv_iconst (v := 0) hx hb dL_combine_2 (by decide) ?_
  refine lv_aload_n hx hb dL_combine_3 rfl (lv_at hl 0 rfl) ?_
  refine lv_iload_n hx hb dL_combine_4 rfl (lv_at hl 1 rfl) ?_
  refine lv_iload_n hx hb dL_combine_5 rfl (lv_at hl 2 rfl) ?_
  refine lv_iload_n hx hb dL_combine_6 rfl (lv_at hl 3 rfl) ?_
  refine lv_iload hx hb dL_combine_7 (lv_at hl 4 rfl) ?_
  refine lcatch (E := exn 1) (rest := [.int 0, .ref (ad 2)]) C hT hK hB hP hD hA [0, 1] [0] rfl rfl rfl rfl (tX0_combine_met l hl0 sa D _ ck ad g x1 x2 x3 x4 1 h) vc_X0_combine tw_144 [] ⟨0, 14, 17, 13⟩ [] rfl (fun z hz => nomatch hz) (by decide) (by decide) (hg _ tw_28) (va_Nw.use rfl hX.2.1) (by decide) rfl hl.1 rfl (Nat.le_of_ble_eq_true rfl) (by decide) dL_combine_9 (fun H locs q9 hP hD hS => ?_)
  refine lv_astore (lv' := [(6, .ref q9), (0, .ref (ad 0)), (1, .int x1), (2, .int x2), (3, .int x3), (4, .int x4), (5, .ref (ad 2))]) hx hb dL_combine_17 hl (by decide) rfl (fun ls hl => ?_)
  refine lv_iconst (v := 1) hx hb dL_combine_19 (by decide) ?_
  exact W.iret hx hb hr (fun t ht _ => ⟨rfl, by rw [ht]; exact hP, hD, hS.F ht⟩) hS.2.2 dL_combine_20
set_option maxHeartbeats 4000000 in
set_option maxRecDepth 100000 in
theorem lL_change_n (l : Launch) (sa : Nat → Nat) (ck : Nat → ClassId) (ad : Nat → Nat) (g : NL) (o : NL) (x1 : Int32) (x2 : Int32) (x3 : Int32) (u : Int32 × NL) (h : jX0_change g x1 x2 x3 = some u) : LM l yL_change cL_change 6 [(0, 12, 15, 13)] (rmx 8 168) [.ref (ad 0), .int x1, .int x2, .int x3, .ref (ad 2)] (tyD ck) (wL ck ad g o) (some (.int 0)) (wL ck ad u.2 (vp_updL o (0 : Int32).toNatClampNeg (u.1.toInt64))) sa := by
  refine lm_of (own := RL) (by decide +kernel) rfl (Nat.le_of_ble_eq_true rfl) (fun D A p e s m below meth c ls C hT hA hK hB hP hD hS hl => ?_)
  obtain ⟨hx, hb, hml, hown, hg, hr, hlocks⟩ := id C
  have hX := hB.1
  have hl : lv_has ls 6 [(0, .ref (ad 0)), (1, .int x1), (2, .int x2), (3, .int x3), (4, .ref (ad 2))] := hl
  refine lv_aload hx hb dL_change_0 (lv_at hl 4 rfl) ?_
  refine lv_iconst (v := 0) hx hb dL_change_2 (by decide) ?_
  refine lv_aload_n hx hb dL_change_3 rfl (lv_at hl 0 rfl) ?_
  refine lv_iload_n hx hb dL_change_4 rfl (lv_at hl 1 rfl) ?_
  refine lv_iload_n hx hb dL_change_5 rfl (lv_at hl 2 rfl) ?_
  refine lv_iload_n hx hb dL_change_6 rfl (lv_at hl 3 rfl) ?_
  refine callL C hK hX hP hD hS hA (cX0_change_met l ck ad g x1 x2 x3 u h) vc_X0_change tw_217 (by decide) rfl hl.1 (rest := [.int 0, .ref (ad 2)]) rfl (Nat.le_of_ble_eq_true rfl) (by decide) dL_change_7 (fun H locs hP hD hS => ?_)
  refine W.eq (g2 := F0 m 10 ls [.int u.1, .int 0, .ref (ad 2)]) rfl ?_
  refine lv_i2l hx hb dL_change_10 rfl ?_
  refine va_last hx hb hK hP hD hS 2 0 rfl rfl (ok_in (by decide)) dL_change_11 (fun H locs hP hD hS => ?_)
  have hP : va_P D vwCl (wL ck ad u.2 (vp_updL o (0 : Int32).toNatClampNeg (u.1.toInt64))) H := hP
  have hD : va_D A (wL ck ad u.2 (vp_updL o (0 : Int32).toNatClampNeg (u.1.toInt64))) := hD
  refine lv_goto (tgt := 19) hx hb dL_change_12 (by decide) ?_
  refine lv_iconst (v := 0) hx hb dL_change_19 (by decide) ?_
  refine W.widen (k := 1) (n := 6) (by decide) (by decide) ?_
  exact W.iret hx hb hr (fun t ht _ => ⟨rfl, by rw [ht]; exact hP, hD, hS.F ht⟩) hS.2.2 dL_change_20
set_option maxHeartbeats 4000000 in
set_option maxRecDepth 100000 in
theorem lL_change_t1 (l : Launch) (hl0 : l.stackTraces = false) (sa : Nat → Nat) (ck : Nat → ClassId) (ad : Nat → Nat) (g : NL) (o : NL) (x1 : Int32) (x2 : Int32) (x3 : Int32) (h : tX0_change g x1 x2 x3 = some 1) : LM l yL_change cL_change 6 [(0, 12, 15, 13)] (rmx 8 168) [.ref (ad 0), .int x1, .int x2, .int x3, .ref (ad 2)] (tyD ck) (wL ck ad g o) (some (.int 1)) (wL ck ad g o) sa := by
  refine lm_of (own := RL) (by decide +kernel) rfl (Nat.le_of_ble_eq_true rfl) (fun D A p e s m below meth c ls C hT hA hK hB hP hD hS hl => ?_)
  obtain ⟨hx, hb, hml, hown, hg, hr, hlocks⟩ := id C
  have hX := hB.1
  have hl : lv_has ls 6 [(0, .ref (ad 0)), (1, .int x1), (2, .int x2), (3, .int x3), (4, .ref (ad 2))] := hl
  refine lv_aload hx hb dL_change_0 (lv_at hl 4 rfl) ?_
  refine lv_iconst (v := 0) hx hb dL_change_2 (by decide) ?_
  refine lv_aload_n hx hb dL_change_3 rfl (lv_at hl 0 rfl) ?_
  refine lv_iload_n hx hb dL_change_4 rfl (lv_at hl 1 rfl) ?_
  refine lv_iload_n hx hb dL_change_5 rfl (lv_at hl 2 rfl) ?_
  refine lv_iload_n hx hb dL_change_6 rfl (lv_at hl 3 rfl) ?_
  refine lcatch (E := exn 1) (rest := [.int 0, .ref (ad 2)]) C hT hK hB hP hD hA [0, 1] [0] rfl rfl rfl rfl (tX0_change_met l hl0 sa D _ ck ad g x1 x2 x3 1 h) vc_X0_change tw_217 [] ⟨0, 12, 15, 13⟩ [] rfl (fun z hz => nomatch hz) (by decide) (by decide) (hg _ tw_28) (va_Nw.use rfl hX.2.1) (by decide) rfl hl.1 rfl (Nat.le_of_ble_eq_true rfl) (by decide) dL_change_7 (fun H locs q9 hP hD hS => ?_)
  refine lv_astore (lv' := [(5, .ref q9), (0, .ref (ad 0)), (1, .int x1), (2, .int x2), (3, .int x3), (4, .ref (ad 2))]) hx hb dL_change_15 hl (by decide) rfl (fun ls hl => ?_)
  refine lv_iconst (v := 1) hx hb dL_change_17 (by decide) ?_
  exact W.iret hx hb hr (fun t ht _ => ⟨rfl, by rw [ht]; exact hP, hD, hS.F ht⟩) hS.2.2 dL_change_18
set_option maxHeartbeats 4000000 in
set_option maxRecDepth 100000 in
theorem lL_power_n (l : Launch) (sa : Nat → Nat) (ck : Nat → ClassId) (ad : Nat → Nat) (g : NL) (o : NL) (x1 : Int32) (x2 : Int32) (x3 : Int32) (u : Int32 × NL) (h : jX0_power g x1 x2 x3 = some u) : LM l yL_power cL_power 6 [(0, 12, 15, 13)] (rmx 8 162) [.ref (ad 0), .int x1, .int x2, .int x3, .ref (ad 2)] (tyD ck) (wL ck ad g o) (some (.int 0)) (wL ck ad u.2 (vp_updL o (0 : Int32).toNatClampNeg (u.1.toInt64))) sa := by
  refine lm_of (own := RL) (by decide +kernel) rfl (Nat.le_of_ble_eq_true rfl) (fun D A p e s m below meth c ls C hT hA hK hB hP hD hS hl => ?_)
  obtain ⟨hx, hb, hml, hown, hg, hr, hlocks⟩ := id C
  have hX := hB.1
  have hl : lv_has ls 6 [(0, .ref (ad 0)), (1, .int x1), (2, .int x2), (3, .int x3), (4, .ref (ad 2))] := hl
  refine lv_aload hx hb dL_power_0 (lv_at hl 4 rfl) ?_
  refine lv_iconst (v := 0) hx hb dL_power_2 (by decide) ?_
  refine lv_aload_n hx hb dL_power_3 rfl (lv_at hl 0 rfl) ?_
  refine lv_iload_n hx hb dL_power_4 rfl (lv_at hl 1 rfl) ?_
  refine lv_iload_n hx hb dL_power_5 rfl (lv_at hl 2 rfl) ?_
  refine lv_iload_n hx hb dL_power_6 rfl (lv_at hl 3 rfl) ?_
  refine callL C hK hX hP hD hS hA (cX0_power_met l ck ad g x1 x2 x3 u h) vc_X0_power tw_234 (by decide) rfl hl.1 (rest := [.int 0, .ref (ad 2)]) rfl (Nat.le_of_ble_eq_true rfl) (by decide) dL_power_7 (fun H locs hP hD hS => ?_)
  refine W.eq (g2 := F0 m 10 ls [.int u.1, .int 0, .ref (ad 2)]) rfl ?_
  refine lv_i2l hx hb dL_power_10 rfl ?_
  refine va_last hx hb hK hP hD hS 2 0 rfl rfl (ok_in (by decide)) dL_power_11 (fun H locs hP hD hS => ?_)
  have hP : va_P D vwCl (wL ck ad u.2 (vp_updL o (0 : Int32).toNatClampNeg (u.1.toInt64))) H := hP
  have hD : va_D A (wL ck ad u.2 (vp_updL o (0 : Int32).toNatClampNeg (u.1.toInt64))) := hD
  refine lv_goto (tgt := 19) hx hb dL_power_12 (by decide) ?_
  refine lv_iconst (v := 0) hx hb dL_power_19 (by decide) ?_
  refine W.widen (k := 1) (n := 6) (by decide) (by decide) ?_
  exact W.iret hx hb hr (fun t ht _ => ⟨rfl, by rw [ht]; exact hP, hD, hS.F ht⟩) hS.2.2 dL_power_20
set_option maxHeartbeats 4000000 in
set_option maxRecDepth 100000 in
theorem lL_power_t1 (l : Launch) (hl0 : l.stackTraces = false) (sa : Nat → Nat) (ck : Nat → ClassId) (ad : Nat → Nat) (g : NL) (o : NL) (x1 : Int32) (x2 : Int32) (x3 : Int32) (h : tX0_power g x1 x2 x3 = some 1) : LM l yL_power cL_power 6 [(0, 12, 15, 13)] (rmx 8 162) [.ref (ad 0), .int x1, .int x2, .int x3, .ref (ad 2)] (tyD ck) (wL ck ad g o) (some (.int 1)) (wL ck ad g o) sa := by
  refine lm_of (own := RL) (by decide +kernel) rfl (Nat.le_of_ble_eq_true rfl) (fun D A p e s m below meth c ls C hT hA hK hB hP hD hS hl => ?_)
  obtain ⟨hx, hb, hml, hown, hg, hr, hlocks⟩ := id C
  have hX := hB.1
  have hl : lv_has ls 6 [(0, .ref (ad 0)), (1, .int x1), (2, .int x2), (3, .int x3), (4, .ref (ad 2))] := hl
  refine lv_aload hx hb dL_power_0 (lv_at hl 4 rfl) ?_
  refine lv_iconst (v := 0) hx hb dL_power_2 (by decide) ?_
  refine lv_aload_n hx hb dL_power_3 rfl (lv_at hl 0 rfl) ?_
  refine lv_iload_n hx hb dL_power_4 rfl (lv_at hl 1 rfl) ?_
  refine lv_iload_n hx hb dL_power_5 rfl (lv_at hl 2 rfl) ?_
  refine lv_iload_n hx hb dL_power_6 rfl (lv_at hl 3 rfl) ?_
  refine lcatch (E := exn 1) (rest := [.int 0, .ref (ad 2)]) C hT hK hB hP hD hA [0, 1] [0] rfl rfl rfl rfl (tX0_power_met l hl0 sa D _ ck ad g x1 x2 x3 1 h) vc_X0_power tw_234 [] ⟨0, 12, 15, 13⟩ [] rfl (fun z hz => nomatch hz) (by decide) (by decide) (hg _ tw_28) (va_Nw.use rfl hX.2.1) (by decide) rfl hl.1 rfl (Nat.le_of_ble_eq_true rfl) (by decide) dL_power_7 (fun H locs q9 hP hD hS => ?_)
  refine lv_astore (lv' := [(5, .ref q9), (0, .ref (ad 0)), (1, .int x1), (2, .int x2), (3, .int x3), (4, .ref (ad 2))]) hx hb dL_power_15 hl (by decide) rfl (fun ls hl => ?_)
  refine lv_iconst (v := 1) hx hb dL_power_17 (by decide) ?_
  exact W.iret hx hb hr (fun t ht _ => ⟨rfl, by rw [ht]; exact hP, hD, hS.F ht⟩) hS.2.2 dL_power_18
set_option maxHeartbeats 4000000 in
set_option maxRecDepth 100000 in
theorem lL_order_n (l : Launch) (sa : Nat → Nat) (ck : Nat → ClassId) (ad : Nat → Nat) (g : NL) (o : NL) (x1 : Int32) (x2 : Int32) (u : Int32 × NL) (h : jX0_order g x1 x2 = some u) : LM l yL_order cL_order 5 [(0, 10, 13, 13)] (rmx 8 132) [.ref (ad 0), .int x1, .int x2, .ref (ad 2)] (tyD ck) (wL ck ad g o) (some (.int 0)) (wL ck ad u.2 (vp_updL o (0 : Int32).toNatClampNeg (u.1.toInt64))) sa := by
  refine lm_of (own := RL) (by decide +kernel) rfl (Nat.le_of_ble_eq_true rfl) (fun D A p e s m below meth c ls C hT hA hK hB hP hD hS hl => ?_)
  obtain ⟨hx, hb, hml, hown, hg, hr, hlocks⟩ := id C
  have hX := hB.1
  have hl : lv_has ls 5 [(0, .ref (ad 0)), (1, .int x1), (2, .int x2), (3, .ref (ad 2))] := hl
  refine lv_aload_n hx hb dL_order_0 rfl (lv_at hl 3 rfl) ?_
  refine lv_iconst (v := 0) hx hb dL_order_1 (by decide) ?_
  refine lv_aload_n hx hb dL_order_2 rfl (lv_at hl 0 rfl) ?_
  refine lv_iload_n hx hb dL_order_3 rfl (lv_at hl 1 rfl) ?_
  refine lv_iload_n hx hb dL_order_4 rfl (lv_at hl 2 rfl) ?_
  refine callL C hK hX hP hD hS hA (cX0_order_met l ck ad g x1 x2 u h) vc_X0_order tw_250 (by decide) rfl hl.1 (rest := [.int 0, .ref (ad 2)]) rfl (Nat.le_of_ble_eq_true rfl) (by decide) dL_order_5 (fun H locs hP hD hS => ?_)
  refine W.eq (g2 := F0 m 8 ls [.int u.1, .int 0, .ref (ad 2)]) rfl ?_
  refine lv_i2l hx hb dL_order_8 rfl ?_
  refine va_last hx hb hK hP hD hS 2 0 rfl rfl (ok_in (by decide)) dL_order_9 (fun H locs hP hD hS => ?_)
  have hP : va_P D vwCl (wL ck ad u.2 (vp_updL o (0 : Int32).toNatClampNeg (u.1.toInt64))) H := hP
  have hD : va_D A (wL ck ad u.2 (vp_updL o (0 : Int32).toNatClampNeg (u.1.toInt64))) := hD
  refine lv_goto (tgt := 17) hx hb dL_order_10 (by decide) ?_
  refine lv_iconst (v := 0) hx hb dL_order_17 (by decide) ?_
  refine W.widen (k := 1) (n := 6) (by decide) (by decide) ?_
  exact W.iret hx hb hr (fun t ht _ => ⟨rfl, by rw [ht]; exact hP, hD, hS.F ht⟩) hS.2.2 dL_order_18
set_option maxHeartbeats 4000000 in
set_option maxRecDepth 100000 in
theorem lL_order_t1 (l : Launch) (hl0 : l.stackTraces = false) (sa : Nat → Nat) (ck : Nat → ClassId) (ad : Nat → Nat) (g : NL) (o : NL) (x1 : Int32) (x2 : Int32) (h : tX0_order g x1 x2 = some 1) : LM l yL_order cL_order 5 [(0, 10, 13, 13)] (rmx 8 132) [.ref (ad 0), .int x1, .int x2, .ref (ad 2)] (tyD ck) (wL ck ad g o) (some (.int 1)) (wL ck ad g o) sa := by
  refine lm_of (own := RL) (by decide +kernel) rfl (Nat.le_of_ble_eq_true rfl) (fun D A p e s m below meth c ls C hT hA hK hB hP hD hS hl => ?_)
  obtain ⟨hx, hb, hml, hown, hg, hr, hlocks⟩ := id C
  have hX := hB.1
  have hl : lv_has ls 5 [(0, .ref (ad 0)), (1, .int x1), (2, .int x2), (3, .ref (ad 2))] := hl
  refine lv_aload_n hx hb dL_order_0 rfl (lv_at hl 3 rfl) ?_
  refine lv_iconst (v := 0) hx hb dL_order_1 (by decide) ?_
  refine lv_aload_n hx hb dL_order_2 rfl (lv_at hl 0 rfl) ?_
  refine lv_iload_n hx hb dL_order_3 rfl (lv_at hl 1 rfl) ?_
  refine lv_iload_n hx hb dL_order_4 rfl (lv_at hl 2 rfl) ?_
  refine lcatch (E := exn 1) (rest := [.int 0, .ref (ad 2)]) C hT hK hB hP hD hA [0, 1] [0] rfl rfl rfl rfl (tX0_order_met l hl0 sa D _ ck ad g x1 x2 1 h) vc_X0_order tw_250 [] ⟨0, 10, 13, 13⟩ [] rfl (fun z hz => nomatch hz) (by decide) (by decide) (hg _ tw_28) (va_Nw.use rfl hX.2.1) (by decide) rfl hl.1 rfl (Nat.le_of_ble_eq_true rfl) (by decide) dL_order_5 (fun H locs q9 hP hD hS => ?_)
  refine lv_astore (lv' := [(4, .ref q9), (0, .ref (ad 0)), (1, .int x1), (2, .int x2), (3, .ref (ad 2))]) hx hb dL_order_13 hl (by decide) rfl (fun ls hl => ?_)
  refine lv_iconst (v := 1) hx hb dL_order_15 (by decide) ?_
  exact W.iret hx hb hr (fun t ht _ => ⟨rfl, by rw [ht]; exact hP, hD, hS.F ht⟩) hS.2.2 dL_order_16
set_option maxHeartbeats 4000000 in
set_option maxRecDepth 100000 in
theorem lL_digits_n (l : Launch) (sa : Nat → Nat) (ck : Nat → ClassId) (ad : Nat → Nat) (g : NL) (o : NL) (x1 : Int32) (u : Int64 × NL) (h : jX0_digits g x1 = some u) : LM l yL_digits cL_digits 4 [(0, 8, 11, 13)] (rmx 8 131) [.ref (ad 0), .int x1, .ref (ad 2)] (tyD ck) (wL ck ad g o) (some (.int 0)) (wL ck ad u.2 (vp_updL o (0 : Int32).toNatClampNeg (u.1))) sa := by
  refine lm_of (own := RL) (by decide +kernel) rfl (Nat.le_of_ble_eq_true rfl) (fun D A p e s m below meth c ls C hT hA hK hB hP hD hS hl => ?_)
  obtain ⟨hx, hb, hml, hown, hg, hr, hlocks⟩ := id C
  have hX := hB.1
  have hl : lv_has ls 4 [(0, .ref (ad 0)), (1, .int x1), (2, .ref (ad 2))] := hl
  refine lv_aload_n hx hb dL_digits_0 rfl (lv_at hl 2 rfl) ?_
  refine lv_iconst (v := 0) hx hb dL_digits_1 (by decide) ?_
  refine lv_aload_n hx hb dL_digits_2 rfl (lv_at hl 0 rfl) ?_
  refine lv_iload_n hx hb dL_digits_3 rfl (lv_at hl 1 rfl) ?_
  refine callL C hK hX hP hD hS hA (cX0_digits_met l ck ad g x1 u h) vc_X0_digits tw_257 (by decide) rfl hl.1 (rest := [.int 0, .ref (ad 2)]) rfl (Nat.le_of_ble_eq_true rfl) (by decide) dL_digits_4 (fun H locs hP hD hS => ?_)
  refine W.eq (g2 := F0 m 7 ls [.long u.1, .int 0, .ref (ad 2)]) rfl ?_
  refine va_last hx hb hK hP hD hS 2 0 rfl rfl (ok_in (by decide)) dL_digits_7 (fun H locs hP hD hS => ?_)
  have hP : va_P D vwCl (wL ck ad u.2 (vp_updL o (0 : Int32).toNatClampNeg (u.1))) H := hP
  have hD : va_D A (wL ck ad u.2 (vp_updL o (0 : Int32).toNatClampNeg (u.1))) := hD
  refine lv_goto (tgt := 14) hx hb dL_digits_8 (by decide) ?_
  refine lv_iconst (v := 0) hx hb dL_digits_14 (by decide) ?_
  refine W.widen (k := 1) (n := 6) (by decide) (by decide) ?_
  exact W.iret hx hb hr (fun t ht _ => ⟨rfl, by rw [ht]; exact hP, hD, hS.F ht⟩) hS.2.2 dL_digits_15
set_option maxHeartbeats 4000000 in
set_option maxRecDepth 100000 in
theorem lL_digits_t1 (l : Launch) (hl0 : l.stackTraces = false) (sa : Nat → Nat) (ck : Nat → ClassId) (ad : Nat → Nat) (g : NL) (o : NL) (x1 : Int32) (h : tX0_digits g x1 = some 1) : LM l yL_digits cL_digits 4 [(0, 8, 11, 13)] (rmx 8 131) [.ref (ad 0), .int x1, .ref (ad 2)] (tyD ck) (wL ck ad g o) (some (.int 1)) (wL ck ad g o) sa := by
  refine lm_of (own := RL) (by decide +kernel) rfl (Nat.le_of_ble_eq_true rfl) (fun D A p e s m below meth c ls C hT hA hK hB hP hD hS hl => ?_)
  obtain ⟨hx, hb, hml, hown, hg, hr, hlocks⟩ := id C
  have hX := hB.1
  have hl : lv_has ls 4 [(0, .ref (ad 0)), (1, .int x1), (2, .ref (ad 2))] := hl
  refine lv_aload_n hx hb dL_digits_0 rfl (lv_at hl 2 rfl) ?_
  refine lv_iconst (v := 0) hx hb dL_digits_1 (by decide) ?_
  refine lv_aload_n hx hb dL_digits_2 rfl (lv_at hl 0 rfl) ?_
  refine lv_iload_n hx hb dL_digits_3 rfl (lv_at hl 1 rfl) ?_
  refine lcatch (E := exn 1) (rest := [.int 0, .ref (ad 2)]) C hT hK hB hP hD hA [0, 1] [0] rfl rfl rfl rfl (tX0_digits_met l hl0 sa D _ ck ad g x1 1 h) vc_X0_digits tw_257 [] ⟨0, 8, 11, 13⟩ [] rfl (fun z hz => nomatch hz) (by decide) (by decide) (hg _ tw_28) (va_Nw.use rfl hX.2.1) (by decide) rfl hl.1 rfl (Nat.le_of_ble_eq_true rfl) (by decide) dL_digits_4 (fun H locs q9 hP hD hS => ?_)
  refine lv_astore_n (lv' := [(3, .ref q9), (0, .ref (ad 0)), (1, .int x1), (2, .ref (ad 2))]) hx hb dL_digits_11 rfl hl (by decide) rfl (fun ls hl => ?_)
  refine lv_iconst (v := 1) hx hb dL_digits_12 (by decide) ?_
  exact W.iret hx hb hr (fun t ht _ => ⟨rfl, by rw [ht]; exact hP, hD, hS.F ht⟩) hS.2.2 dL_digits_13
set_option maxHeartbeats 4000000 in
set_option maxRecDepth 100000 in
theorem lL_exponent_n (l : Launch) (sa : Nat → Nat) (ck : Nat → ClassId) (ad : Nat → Nat) (g : NL) (o : NL) (x1 : Int32) (u : Int32 × NL) (h : jX0_exponent g x1 = some u) : LM l yL_exponent cL_exponent 4 [(0, 9, 12, 13)] (rmx 8 131) [.ref (ad 0), .int x1, .ref (ad 2)] (tyD ck) (wL ck ad g o) (some (.int 0)) (wL ck ad u.2 (vp_updL o (0 : Int32).toNatClampNeg (u.1.toInt64))) sa := by
  refine lm_of (own := RL) (by decide +kernel) rfl (Nat.le_of_ble_eq_true rfl) (fun D A p e s m below meth c ls C hT hA hK hB hP hD hS hl => ?_)
  obtain ⟨hx, hb, hml, hown, hg, hr, hlocks⟩ := id C
  have hX := hB.1
  have hl : lv_has ls 4 [(0, .ref (ad 0)), (1, .int x1), (2, .ref (ad 2))] := hl
  refine lv_aload_n hx hb dL_exponent_0 rfl (lv_at hl 2 rfl) ?_
  refine lv_iconst (v := 0) hx hb dL_exponent_1 (by decide) ?_
  refine lv_aload_n hx hb dL_exponent_2 rfl (lv_at hl 0 rfl) ?_
  refine lv_iload_n hx hb dL_exponent_3 rfl (lv_at hl 1 rfl) ?_
  refine callL C hK hX hP hD hS hA (cX0_exponent_met l ck ad g x1 u h) vc_X0_exponent tw_264 (by decide) rfl hl.1 (rest := [.int 0, .ref (ad 2)]) rfl (Nat.le_of_ble_eq_true rfl) (by decide) dL_exponent_4 (fun H locs hP hD hS => ?_)
  refine W.eq (g2 := F0 m 7 ls [.int u.1, .int 0, .ref (ad 2)]) rfl ?_
  refine lv_i2l hx hb dL_exponent_7 rfl ?_
  refine va_last hx hb hK hP hD hS 2 0 rfl rfl (ok_in (by decide)) dL_exponent_8 (fun H locs hP hD hS => ?_)
  have hP : va_P D vwCl (wL ck ad u.2 (vp_updL o (0 : Int32).toNatClampNeg (u.1.toInt64))) H := hP
  have hD : va_D A (wL ck ad u.2 (vp_updL o (0 : Int32).toNatClampNeg (u.1.toInt64))) := hD
  refine lv_goto (tgt := 15) hx hb dL_exponent_9 (by decide) ?_
  refine lv_iconst (v := 0) hx hb dL_exponent_15 (by decide) ?_
  refine W.widen (k := 1) (n := 6) (by decide) (by decide) ?_
  exact W.iret hx hb hr (fun t ht _ => ⟨rfl, by rw [ht]; exact hP, hD, hS.F ht⟩) hS.2.2 dL_exponent_16
set_option maxHeartbeats 4000000 in
set_option maxRecDepth 100000 in
theorem lL_exponent_t1 (l : Launch) (hl0 : l.stackTraces = false) (sa : Nat → Nat) (ck : Nat → ClassId) (ad : Nat → Nat) (g : NL) (o : NL) (x1 : Int32) (h : tX0_exponent g x1 = some 1) : LM l yL_exponent cL_exponent 4 [(0, 9, 12, 13)] (rmx 8 131) [.ref (ad 0), .int x1, .ref (ad 2)] (tyD ck) (wL ck ad g o) (some (.int 1)) (wL ck ad g o) sa := by
  refine lm_of (own := RL) (by decide +kernel) rfl (Nat.le_of_ble_eq_true rfl) (fun D A p e s m below meth c ls C hT hA hK hB hP hD hS hl => ?_)
  obtain ⟨hx, hb, hml, hown, hg, hr, hlocks⟩ := id C
  have hX := hB.1
  have hl : lv_has ls 4 [(0, .ref (ad 0)), (1, .int x1), (2, .ref (ad 2))] := hl
  refine lv_aload_n hx hb dL_exponent_0 rfl (lv_at hl 2 rfl) ?_
  refine lv_iconst (v := 0) hx hb dL_exponent_1 (by decide) ?_
  refine lv_aload_n hx hb dL_exponent_2 rfl (lv_at hl 0 rfl) ?_
  refine lv_iload_n hx hb dL_exponent_3 rfl (lv_at hl 1 rfl) ?_
  refine lcatch (E := exn 1) (rest := [.int 0, .ref (ad 2)]) C hT hK hB hP hD hA [0, 1] [0] rfl rfl rfl rfl (tX0_exponent_met l hl0 sa D _ ck ad g x1 1 h) vc_X0_exponent tw_264 [] ⟨0, 9, 12, 13⟩ [] rfl (fun z hz => nomatch hz) (by decide) (by decide) (hg _ tw_28) (va_Nw.use rfl hX.2.1) (by decide) rfl hl.1 rfl (Nat.le_of_ble_eq_true rfl) (by decide) dL_exponent_4 (fun H locs q9 hP hD hS => ?_)
  refine lv_astore_n (lv' := [(3, .ref q9), (0, .ref (ad 0)), (1, .int x1), (2, .ref (ad 2))]) hx hb dL_exponent_12 rfl hl (by decide) rfl (fun ls hl => ?_)
  refine lv_iconst (v := 1) hx hb dL_exponent_13 (by decide) ?_
  exact W.iret hx hb hr (fun t ht _ => ⟨rfl, by rw [ht]; exact hP, hD, hS.F ht⟩) hS.2.2 dL_exponent_14
set_option maxHeartbeats 4000000 in
set_option maxRecDepth 100000 in
theorem lL_value_n (l : Launch) (sa : Nat → Nat) (ck : Nat → ClassId) (ad : Nat → Nat) (g : NL) (o : Nat → UInt64) (x1 : Int32) (u : UInt64 × NL) (h : jX0_value g x1 = some u) : LM l yL_value cL_value 4 [(0, 8, 11, 13)] (rmx 8 133) [.ref (ad 0), .int x1, .ref (ad 2)] (tyLd ck) (wLd ck ad g o) (some (.int 0)) (wLd ck ad u.2 (vf_upd o (0 : Int32).toNatClampNeg u.1)) sa := by
  refine lm_of (own := RL) (by decide +kernel) rfl (Nat.le_of_ble_eq_true rfl) (fun D A p e s m below meth c ls C hT hA hK hB hP hD hS hl => ?_)
  obtain ⟨hx, hb, hml, hown, hg, hr, hlocks⟩ := id C
  have hX := hB.1
  have hl : lv_has ls 4 [(0, .ref (ad 0)), (1, .int x1), (2, .ref (ad 2))] := hl
  refine lv_aload_n hx hb dL_value_0 rfl (lv_at hl 2 rfl) ?_
  refine lv_iconst (v := 0) hx hb dL_value_1 (by decide) ?_
  refine lv_aload_n hx hb dL_value_2 rfl (lv_at hl 0 rfl) ?_
  refine lv_iload_n hx hb dL_value_3 rfl (lv_at hl 1 rfl) ?_
  refine callLd C hK hX hP hD hS hA (cX0_value_met l ck ad g x1 u h) vc_X0_value tw_271 (by decide) rfl hl.1 (rest := [.int 0, .ref (ad 2)]) rfl (Nat.le_of_ble_eq_true rfl) (by decide) dL_value_4 (fun H locs hP hD hS => ?_)
  refine W.eq (g2 := F0 m 7 ls [.double u.1, .int 0, .ref (ad 2)]) rfl ?_
  refine va_dast hx hb hK hP hD hS 2 1 rfl rfl (ok_in (by decide)) dL_value_7 (fun H locs hP hD hS => ?_)
  have hP : va_P D vwCl (wLd ck ad u.2 (vf_upd o (0 : Int32).toNatClampNeg u.1)) H := hP
  have hD : va_D A (wLd ck ad u.2 (vf_upd o (0 : Int32).toNatClampNeg u.1)) := hD
  refine lv_goto (tgt := 14) hx hb dL_value_8 (by decide) ?_
  refine lv_iconst (v := 0) hx hb dL_value_14 (by decide) ?_
  refine W.widen (k := 1) (n := 6) (by decide) (by decide) ?_
  exact W.iret hx hb hr (fun t ht _ => ⟨rfl, by rw [ht]; exact hP, hD, hS.F ht⟩) hS.2.2 dL_value_15
set_option maxHeartbeats 4000000 in
set_option maxRecDepth 100000 in
theorem lL_value_t1 (l : Launch) (hl0 : l.stackTraces = false) (sa : Nat → Nat) (ck : Nat → ClassId) (ad : Nat → Nat) (g : NL) (o : Nat → UInt64) (x1 : Int32) (h : tX0_value g x1 = some 1) : LM l yL_value cL_value 4 [(0, 8, 11, 13)] (rmx 8 133) [.ref (ad 0), .int x1, .ref (ad 2)] (tyLd ck) (wLd ck ad g o) (some (.int 1)) (wLd ck ad g o) sa := by
  refine lm_of (own := RL) (by decide +kernel) rfl (Nat.le_of_ble_eq_true rfl) (fun D A p e s m below meth c ls C hT hA hK hB hP hD hS hl => ?_)
  obtain ⟨hx, hb, hml, hown, hg, hr, hlocks⟩ := id C
  have hX := hB.1
  have hl : lv_has ls 4 [(0, .ref (ad 0)), (1, .int x1), (2, .ref (ad 2))] := hl
  refine lv_aload_n hx hb dL_value_0 rfl (lv_at hl 2 rfl) ?_
  refine lv_iconst (v := 0) hx hb dL_value_1 (by decide) ?_
  refine lv_aload_n hx hb dL_value_2 rfl (lv_at hl 0 rfl) ?_
  refine lv_iload_n hx hb dL_value_3 rfl (lv_at hl 1 rfl) ?_
  refine lcatch (E := exn 1) (rest := [.int 0, .ref (ad 2)]) C hT hK hB hP hD hA [0, 1] [0] rfl rfl rfl rfl (tX0_value_met l hl0 sa D _ ck ad g x1 1 h) vc_X0_value tw_271 [] ⟨0, 8, 11, 13⟩ [] rfl (fun z hz => nomatch hz) (by decide) (by decide) (hg _ tw_28) (va_Nw.use rfl hX.2.1) (by decide) rfl hl.1 rfl (Nat.le_of_ble_eq_true rfl) (by decide) dL_value_4 (fun H locs q9 hP hD hS => ?_)
  refine lv_astore_n (lv' := [(3, .ref q9), (0, .ref (ad 0)), (1, .int x1), (2, .ref (ad 2))]) hx hb dL_value_11 rfl hl (by decide) rfl (fun ls hl => ?_)
  refine lv_iconst (v := 1) hx hb dL_value_12 (by decide) ?_
  exact W.iret hx hb hr (fun t ht _ => ⟨rfl, by rw [ht]; exact hP, hD, hS.F ht⟩) hS.2.2 dL_value_13
set_option maxHeartbeats 4000000 in
set_option maxRecDepth 100000 in
theorem lL_whole_n (l : Launch) (sa : Nat → Nat) (ck : Nat → ClassId) (ad : Nat → Nat) (g : NL) (o : NL) (x1 : Int32) (u : Int64 × NL) (h : jX0_whole g x1 = some u) : LM l yL_whole cL_whole 4 [(0, 8, 11, 13), (0, 8, 14, 45)] (rmx 8 137) [.ref (ad 0), .int x1, .ref (ad 2)] (tyD ck) (wL ck ad g o) (some (.int 0)) (wL ck ad u.2 (vp_updL o (0 : Int32).toNatClampNeg (u.1))) sa := by
  refine lm_of (own := RL) (by decide +kernel) rfl (Nat.le_of_ble_eq_true rfl) (fun D A p e s m below meth c ls C hT hA hK hB hP hD hS hl => ?_)
  obtain ⟨hx, hb, hml, hown, hg, hr, hlocks⟩ := id C
  have hX := hB.1
  have hl : lv_has ls 4 [(0, .ref (ad 0)), (1, .int x1), (2, .ref (ad 2))] := hl
  refine lv_aload_n hx hb dL_whole_0 rfl (lv_at hl 2 rfl) ?_
  refine lv_iconst (v := 0) hx hb dL_whole_1 (by decide) ?_
  refine lv_aload_n hx hb dL_whole_2 rfl (lv_at hl 0 rfl) ?_
  refine lv_iload_n hx hb dL_whole_3 rfl (lv_at hl 1 rfl) ?_
  refine callL C hK hX hP hD hS hA (cX0_whole_met l ck ad g x1 u h) vc_X0_whole tw_284 (by decide) rfl hl.1 (rest := [.int 0, .ref (ad 2)]) rfl (Nat.le_of_ble_eq_true rfl) (by decide) dL_whole_4 (fun H locs hP hD hS => ?_)
  refine W.eq (g2 := F0 m 7 ls [.long u.1, .int 0, .ref (ad 2)]) rfl ?_
  refine va_last hx hb hK hP hD hS 2 0 rfl rfl (ok_in (by decide)) dL_whole_7 (fun H locs hP hD hS => ?_)
  have hP : va_P D vwCl (wL ck ad u.2 (vp_updL o (0 : Int32).toNatClampNeg (u.1))) H := hP
  have hD : va_D A (wL ck ad u.2 (vp_updL o (0 : Int32).toNatClampNeg (u.1))) := hD
  refine lv_goto (tgt := 17) hx hb dL_whole_8 (by decide) ?_
  refine lv_iconst (v := 0) hx hb dL_whole_17 (by decide) ?_
  refine W.widen (k := 1) (n := 6) (by decide) (by decide) ?_
  exact W.iret hx hb hr (fun t ht _ => ⟨rfl, by rw [ht]; exact hP, hD, hS.F ht⟩) hS.2.2 dL_whole_18
set_option maxHeartbeats 4000000 in
set_option maxRecDepth 100000 in
theorem lL_whole_t1 (l : Launch) (hl0 : l.stackTraces = false) (sa : Nat → Nat) (ck : Nat → ClassId) (ad : Nat → Nat) (g : NL) (o : NL) (x1 : Int32) (h : tX0_whole g x1 = some 1) : LM l yL_whole cL_whole 4 [(0, 8, 11, 13), (0, 8, 14, 45)] (rmx 8 137) [.ref (ad 0), .int x1, .ref (ad 2)] (tyD ck) (wL ck ad g o) (some (.int 1)) (wL ck ad g o) sa := by
  refine lm_of (own := RL) (by decide +kernel) rfl (Nat.le_of_ble_eq_true rfl) (fun D A p e s m below meth c ls C hT hA hK hB hP hD hS hl => ?_)
  obtain ⟨hx, hb, hml, hown, hg, hr, hlocks⟩ := id C
  have hX := hB.1
  have hl : lv_has ls 4 [(0, .ref (ad 0)), (1, .int x1), (2, .ref (ad 2))] := hl
  refine lv_aload_n hx hb dL_whole_0 rfl (lv_at hl 2 rfl) ?_
  refine lv_iconst (v := 0) hx hb dL_whole_1 (by decide) ?_
  refine lv_aload_n hx hb dL_whole_2 rfl (lv_at hl 0 rfl) ?_
  refine lv_iload_n hx hb dL_whole_3 rfl (lv_at hl 1 rfl) ?_
  refine lcatch (E := exn 1) (rest := [.int 0, .ref (ad 2)]) C hT hK hB hP hD hA [0, 1] [0] rfl rfl rfl rfl (tX0_whole_met l hl0 sa D _ ck ad g x1 1 h) vc_X0_whole tw_284 [] ⟨0, 8, 11, 13⟩ [⟨0, 8, 14, 45⟩] rfl (fun z hz => nomatch hz) (by decide) (by decide) (hg _ tw_28) (va_Nw.use rfl hX.2.1) (by decide) rfl hl.1 rfl (Nat.le_of_ble_eq_true rfl) (by decide) dL_whole_4 (fun H locs q9 hP hD hS => ?_)
  refine lv_astore_n (lv' := [(3, .ref q9), (0, .ref (ad 0)), (1, .int x1), (2, .ref (ad 2))]) hx hb dL_whole_11 rfl hl (by decide) rfl (fun ls hl => ?_)
  refine lv_iconst (v := 1) hx hb dL_whole_12 (by decide) ?_
  exact W.iret hx hb hr (fun t ht _ => ⟨rfl, by rw [ht]; exact hP, hD, hS.F ht⟩) hS.2.2 dL_whole_13
set_option maxHeartbeats 4000000 in
set_option maxRecDepth 100000 in
theorem lL_whole_t2 (l : Launch) (hl0 : l.stackTraces = false) (sa : Nat → Nat) (ck : Nat → ClassId) (ad : Nat → Nat) (g : NL) (o : NL) (x1 : Int32) (h : tX0_whole g x1 = some 2) : LM l yL_whole cL_whole 4 [(0, 8, 11, 13), (0, 8, 14, 45)] (rmx 8 137) [.ref (ad 0), .int x1, .ref (ad 2)] (tyD ck) (wL ck ad g o) (some (.int 2)) (wL ck ad g o) sa := by
  refine lm_of (own := RL) (by decide +kernel) rfl (Nat.le_of_ble_eq_true rfl) (fun D A p e s m below meth c ls C hT hA hK hB hP hD hS hl => ?_)
  obtain ⟨hx, hb, hml, hown, hg, hr, hlocks⟩ := id C
  have hX := hB.1
  have hl : lv_has ls 4 [(0, .ref (ad 0)), (1, .int x1), (2, .ref (ad 2))] := hl
  refine lv_aload_n hx hb dL_whole_0 rfl (lv_at hl 2 rfl) ?_
  refine lv_iconst (v := 0) hx hb dL_whole_1 (by decide) ?_
  refine lv_aload_n hx hb dL_whole_2 rfl (lv_at hl 0 rfl) ?_
  refine lv_iload_n hx hb dL_whole_3 rfl (lv_at hl 1 rfl) ?_
  refine lcatch (E := exn 2) (rest := [.int 0, .ref (ad 2)]) C hT hK hB hP hD hA [0, 1] [0] rfl rfl rfl rfl (tX0_whole_met l hl0 sa D _ ck ad g x1 2 h) vc_X0_whole tw_284 [⟨0, 8, 11, 13⟩] ⟨0, 8, 14, 45⟩ [] rfl (fun z hz => by
    rw [List.mem_singleton] at hz; subst hz
    exact Or.inr ⟨by decide, _, hg _ tw_28, hX.2.2.2.1⟩) (by decide) (by decide) (hg _ tw_283) (va_Nw.use rfl hX.2.2.1) (by decide) rfl hl.1 rfl (Nat.le_of_ble_eq_true rfl) (by decide) dL_whole_4 (fun H locs q9 hP hD hS => ?_)
  refine lv_astore_n (lv' := [(3, .ref q9), (0, .ref (ad 0)), (1, .int x1), (2, .ref (ad 2))]) hx hb dL_whole_14 rfl hl (by decide) rfl (fun ls hl => ?_)
  refine lv_iconst (v := 2) hx hb dL_whole_15 (by decide) ?_
  exact W.iret hx hb hr (fun t ht _ => ⟨rfl, by rw [ht]; exact hP, hD, hS.F ht⟩) hS.2.2 dL_whole_16
