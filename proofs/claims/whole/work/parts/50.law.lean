/-! the law: its world (0, 1 the desk; 2 out; 3 outD; 4 .. 11 the model), its calls, its loop -/
abbrev AA (s : State) : Nat → Prop := fun q => s.heap.size ≤ q
abbrev tyW (ck : Nat → ClassId) : List (ClassId × FieldType) := [(ck 0, .int), (ck 1, .long), (ck 2, .boolean), (ck 3, .double)]
abbrev wW (ck : Nat → ClassId) (ad : Nat → Nat) (g o : NL) (od : Nat → UInt64) (th : Int32) (mi : NI) (di : NL) (po : NI) (be : Int32) (mm : Int64) (ee : Int32) (fa fb : NI) : va_W :=
  [(ad 0, .inr (0, [.ref (ad 1)])), (ad 1, .inl (ck 1, 16, .inr (.inl g))), (ad 2, .inl (ck 1, 1, .inr (.inl o))), (ad 3, .inl (ck 3, 1, .inr (.inr (.inr (.inl od))))),
   (ad 4, .inr (2, [.int th, .ref (ad 5), .ref (ad 6), .ref (ad 7), .int be, .long mm, .int ee, .ref (ad 8), .ref (ad 10)])), (ad 5, .inl (ck 2, 16, .inl mi)), (ad 6, .inl (ck 1, 16, .inr (.inl di))), (ad 7, .inl (ck 0, 16, .inl po)),
   (ad 8, .inr (1, [.ref (ad 9)])), (ad 9, .inl (ck 0, 140, .inl fa)), (ad 10, .inr (1, [.ref (ad 11)])), (ad 11, .inl (ck 0, 140, .inl fb))]
def adL (ad : Nat → Nat) (i : Nat) : Nat := match i with
  | 0 => ad 0
  | 1 => ad 1
  | _ => ad 3
def LX (p : Program) (l : Launch) (s : State) (m : MethodId) (meth : Method) (c : Code) (b L : Nat) (xs : Nat → Int32) (D : va_G) (ck : Nat → ClassId) (sa : Nat → Nat) : Prop :=
  CX p s m #[Value.ref b] meth c RL code 9 ret ∧ va_K D vwCl (tyW ck) s ∧ XT s ∧ XS sa s ∧ ZS (AA s) s s.heap ∧ va_X b L xs s s.heap ∧ b < s.heap.size ∧ l.stackTraces = false
def SW (y : MethodName) (bytes : ByteArray) (maxL : Nat) (hh : List (Nat × Nat × Nat × Nat)) (n : Nat) : Prop :=
  Cond.static y ∈ gtbl ∧ Cond.initialized y.cls ∈ gtbl ∧ Cond.codeWith y bytes maxL (some .int) hh ∈ gtbl ∧ (y.cls ≠ "java/lang/invoke/MethodHandle" ∧ y.cls ≠ "java/lang/invoke/VarHandle" ∧ (parseMethodDescriptor y.desc).map (fun d => d.parameters.length) = some n)
theorem gi_W {own : String} {idx : Nat} {y : MethodName} {bytes : ByteArray} {maxL n : Nat} {hh : List (Nat × Nat × Nat × Nat)} (hS : SW y bytes maxL hh n) (hl : Cond.methodLink own idx y ∈ gtbl) : GoodIn gtbl (va_wsS own idx y (WL y bytes maxL hh)) := by
  intro w hw
  refine gt_good w ?_
  simp only [va_wsS, WL, List.cons_append, List.nil_append, List.mem_cons] at hw
  rcases hw with rfl | rfl | rfl | rfl | h
  · exact hl
  · exact hS.1
  · exact hS.2.1
  · exact hS.2.2.1
  · exact h
section LW
variable {p : Program} {l : Launch} {e : Env} {R : Room} {s : State} {m : MethodId} {args : Array Value} {below : List Frame} {meth : Method} {c : Code} {H : Heap} {locs : List Loc} {cells slots : Nat} {Q : State → Prop}
variable {own : String} {cc : ByteArray} {nL : Nat} {ret0 : Option FieldType} {pc : Nat} {ls : Array Slot} {rest : List Value} {D : va_G} {ck : Nat → ClassId} {ad : Nat → Nat} {sa : Nat → Nat}
variable {y : MethodName} {bytes : ByteArray} {maxL n idx : Nat} {hh : List (Nat × Nat × Nat × Nat)} {rm : Room} {As : List Value} {v : Option Value} {st0 : List Value}
variable {g g' o o' : NL} {od od' : Nat → UInt64} {th th' : Int32} {mi mi' : NI} {di di' : NL} {po po' : NI} {be be' : Int32} {mm mm' : Int64} {ee ee' : Int32} {fa fb fa' fb' : NI}
theorem callS9 {tys tysc : List (ClassId × FieldType)} {ws wc wr w1 wf : va_W} (C : CX p s m args meth c own cc nL ret0) (hK : va_K D vwCl tys s) (hX : XT s) (hXS : XS sa s) (hZ : ZS (AA s) s s.heap) (hP : va_P D vwCl ws H) (hD : va_D (AA s) ws) (hS : va_S (AA s) s.heap H locs)
    (hM : LM l y bytes maxL hh rm As tysc wc v w1 sa) (hV : SW y bytes maxL hh n) (hl : Cond.methodLink own idx y ∈ gtbl)
    (isC isR isF isT : List Nat) (hC : isC.map (fun i => ws[i]?) = wc.map some) (hC1 : isC.filterMap (fun i => ws[i]?) = wc) (hCn : va_nd isC = true) (hR : isR.map (fun i => ws[i]?) = wr.map some) (hn : va_nd isR = true) (hdis : ∀ i ∈ isR, i ∉ isC)
    (hF1 : isF.filterMap (fun i => (wr ++ w1)[i]?) = wf) (hF2 : isF.map (fun i => (wr ++ w1)[i]?) = wf.map some) (hF3 : va_nd isF = true) (hT : isT.filterMap (fun i => tys[i]?) = tysc)
    (hRm : (rm.frames + 1 ≤ R.frames ∧ 8 + (maxL + 11) + rm.locals ≤ R.locals) ∧ rm.cells = 1 ∧ rm.slots = 6) (hna : As.length = n) (hsz : ls.size = nL) (hst : st0 = As.reverse ++ rest) (hW : (rest.map fun v => v.category).sum ≤ 8) (hc : cells + 1 ≤ R.cells ∧ slots + 6 ≤ R.slots) (hd : decode cc pc = .ok (.invokestatic idx, 3))
    (k : ∀ (H1 : Heap) (locs1 : List Loc), va_P D vwCl wf H1 → va_D (AA s) wf → va_S (AA s) s.heap H1 locs1 → W p l e R s m args below meth c H1 locs1 (cells + 1) (slots + 6) Q (F0 m (pc + 3) ls (v.toList ++ rest))) : W p l e R s m args below meth c H locs cells slots Q (F0 m pc ls st0) := by
  obtain ⟨hx, hb, hml, hown, hg, -, -⟩ := C
  have hPc := hP.sub isC hC1
  have hDc := hD.sub isC hCn hC
  refine hrun (mc := 1) (ms := 6) (g := F0 m pc ls st0) (As := As) (rest := rest) (v := v) (wc := wc) (wr := wr) (w1 := w1) (wf := wf) hP hD hS (fun _ h => h) isC isR isF hC hR hn hdis hF1 hF2 hF3 (fun T9 hT9 X9 => ?_) k
  obtain ⟨v9, st9, t9, T8, L9, u1, u2, u3, u4, u5, u6, u7⟩ := vx_runSW (Ts := gtbl) (cc := cc) (nL := nL) (g := F0 m pc ls st0) (rest := rest) ⟨hx, hb, hml, hown, hg⟩ (hM D H.size) (vx_cwSW n hg (gi_W hV hl) rfl hRm.2.1 hRm.2.2 hV.2.2.2 hRm.1)
    ⟨XH.blind, fun U hU hW9 => ⟨rfl, ⟨by rw [hU], by rw [hU]; exact hPc, (va_K.moved hW9.alike hK).sub isT hT, hDc.weaken (fun _ _ _ _ => trivial), hX.warm hW9⟩, hXS.warm hW9, by rw [hU]; exact ZS.go hW9.alike hS hZ⟩⟩ rfl hna hsz hst (lv_room hW) hd hc T9 hT9 X9
  exact ⟨v9, st9, t9, T8, L9, u1, u2, u3, u4, u6, u7⟩
theorem callW (C : CX p s m args meth c own cc nL ret0) (hK : va_K D vwCl (tyW ck) s) (hX : XT s) (hXS : XS sa s) (hZ : ZS (AA s) s s.heap) (hP : va_P D vwCl (wW ck ad g o od th mi di po be mm ee fa fb) H) (hD : va_D (AA s) (wW ck ad g o od th mi di po be mm ee fa fb)) (hS : va_S (AA s) s.heap H locs)
    (hM : LM l y bytes maxL hh rm As (tyD ck) (wL ck ad g o) v (wL ck ad g' o') sa) (hV : SW y bytes maxL hh n) (hl : Cond.methodLink own idx y ∈ gtbl)
    (hRm : (rm.frames + 1 ≤ R.frames ∧ 8 + (maxL + 11) + rm.locals ≤ R.locals) ∧ rm.cells = 1 ∧ rm.slots = 6) (hna : As.length = n) (hsz : ls.size = nL) (hst : st0 = As.reverse ++ rest) (hW : (rest.map fun v => v.category).sum ≤ 8) (hc : cells + 1 ≤ R.cells ∧ slots + 6 ≤ R.slots) (hd : decode cc pc = .ok (.invokestatic idx, 3))
    (k : ∀ (H1 : Heap) (locs1 : List Loc), va_P D vwCl (wW ck ad g' o' od th mi di po be mm ee fa fb) H1 → va_D (AA s) (wW ck ad g' o' od th mi di po be mm ee fa fb) → va_S (AA s) s.heap H1 locs1 → W p l e R s m args below meth c H1 locs1 (cells + 1) (slots + 6) Q (F0 m (pc + 3) ls (v.toList ++ rest))) : W p l e R s m args below meth c H locs cells slots Q (F0 m pc ls st0) :=
  callS9 (wr := [(ad 3, .inl (ck 3, 1, .inr (.inr (.inr (.inl od))))), (ad 4, .inr (2, [.int th, .ref (ad 5), .ref (ad 6), .ref (ad 7), .int be, .long mm, .int ee, .ref (ad 8), .ref (ad 10)])), (ad 5, .inl (ck 2, 16, .inl mi)), (ad 6, .inl (ck 1, 16, .inr (.inl di))), (ad 7, .inl (ck 0, 16, .inl po)), (ad 8, .inr (1, [.ref (ad 9)])), (ad 9, .inl (ck 0, 140, .inl fa)), (ad 10, .inr (1, [.ref (ad 11)])), (ad 11, .inl (ck 0, 140, .inl fb))])
    C hK hX hXS hZ hP hD hS hM hV hl [0, 1, 2] [3, 4, 5, 6, 7, 8, 9, 10, 11] [9, 10, 11, 0, 1, 2, 3, 4, 5, 6, 7, 8] [1] rfl rfl rfl rfl rfl (by decide) rfl rfl rfl rfl hRm hna hsz hst hW hc hd k
theorem callWd (C : CX p s m args meth c own cc nL ret0) (hK : va_K D vwCl (tyW ck) s) (hX : XT s) (hXS : XS sa s) (hZ : ZS (AA s) s s.heap) (hP : va_P D vwCl (wW ck ad g o od th mi di po be mm ee fa fb) H) (hD : va_D (AA s) (wW ck ad g o od th mi di po be mm ee fa fb)) (hS : va_S (AA s) s.heap H locs)
    (hM : LM l y bytes maxL hh rm As (tyLd ck) (wLd ck (adL ad) g od) v (wLd ck (adL ad) g' od') sa) (hV : SW y bytes maxL hh n) (hl : Cond.methodLink own idx y ∈ gtbl)
    (hRm : (rm.frames + 1 ≤ R.frames ∧ 8 + (maxL + 11) + rm.locals ≤ R.locals) ∧ rm.cells = 1 ∧ rm.slots = 6) (hna : As.length = n) (hsz : ls.size = nL) (hst : st0 = As.reverse ++ rest) (hW : (rest.map fun v => v.category).sum ≤ 8) (hc : cells + 1 ≤ R.cells ∧ slots + 6 ≤ R.slots) (hd : decode cc pc = .ok (.invokestatic idx, 3))
    (k : ∀ (H1 : Heap) (locs1 : List Loc), va_P D vwCl (wW ck ad g' o od' th mi di po be mm ee fa fb) H1 → va_D (AA s) (wW ck ad g' o od' th mi di po be mm ee fa fb) → va_S (AA s) s.heap H1 locs1 → W p l e R s m args below meth c H1 locs1 (cells + 1) (slots + 6) Q (F0 m (pc + 3) ls (v.toList ++ rest))) : W p l e R s m args below meth c H locs cells slots Q (F0 m pc ls st0) :=
  callS9 (wr := [(ad 2, .inl (ck 1, 1, .inr (.inl o))), (ad 4, .inr (2, [.int th, .ref (ad 5), .ref (ad 6), .ref (ad 7), .int be, .long mm, .int ee, .ref (ad 8), .ref (ad 10)])), (ad 5, .inl (ck 2, 16, .inl mi)), (ad 6, .inl (ck 1, 16, .inr (.inl di))), (ad 7, .inl (ck 0, 16, .inl po)), (ad 8, .inr (1, [.ref (ad 9)])), (ad 9, .inl (ck 0, 140, .inl fa)), (ad 10, .inr (1, [.ref (ad 11)])), (ad 11, .inl (ck 0, 140, .inl fb))])
    C hK hX hXS hZ hP hD hS hM hV hl [0, 1, 3] [2, 4, 5, 6, 7, 8, 9, 10, 11] [9, 10, 0, 11, 1, 2, 3, 4, 5, 6, 7, 8] [1, 3] rfl rfl rfl rfl rfl (by decide) rfl rfl rfl rfl hRm hna hsz hst hW hc hd k
theorem callWM {ret9 : Option FieldType} (C : CX p s m args meth c own cc nL ret0) (hK : va_K D vwCl (tyW ck) s) (hX : XT s) (hP : va_P D vwCl (wW ck ad g o od th mi di po be mm ee fa fb) H) (hD : va_D (AA s) (wW ck ad g o od th mi di po be mm ee fa fb)) (hS : va_S (AA s) s.heap H locs)
    (hM : HM l y bytes maxL ret9 rm (.ref (ad 4) :: As) (tyM ck) (wM ck (fun i => ad (i + 4)) th mi di po be mm ee fa fb) v (wM ck (fun i => ad (i + 4)) th' mi' di' po' be' mm' ee' fa' fb')) (hV : VC RX2 y bytes maxL ret9 n) (hl : Cond.methodLink own idx y ∈ gtbl)
    (hRm : (rm.frames + 1 ≤ R.frames ∧ 8 + (maxL + 11) + rm.locals ≤ R.locals) ∧ rm.cells = 0 ∧ rm.slots = 0) (hna : As.length = n) (hsz : ls.size = nL) (hst : st0 = As.reverse ++ .ref (ad 4) :: rest) (hW : (rest.map fun v => v.category).sum ≤ 8) (hc : cells ≤ R.cells ∧ slots ≤ R.slots) (hd : decode cc pc = .ok (.invokevirtual idx, 3))
    (k : ∀ (H1 : Heap) (locs1 : List Loc), va_P D vwCl (wW ck ad g o od th' mi' di' po' be' mm' ee' fa' fb') H1 → va_D (AA s) (wW ck ad g o od th' mi' di' po' be' mm' ee' fa' fb') → va_S (AA s) s.heap H1 locs1 → W p l e R s m args below meth c H1 locs1 cells slots Q (F0 m (pc + 3) ls (v.toList ++ rest))) : W p l e R s m args below meth c H locs cells slots Q (F0 m pc ls st0) :=
  hcallV (wr := [(ad 0, .inr (0, [.ref (ad 1)])), (ad 1, .inl (ck 1, 16, .inr (.inl g))), (ad 2, .inl (ck 1, 1, .inr (.inl o))), (ad 3, .inl (ck 3, 1, .inr (.inr (.inr (.inl od)))))])
    C hK hX hP hD hS (fun _ h => h) hM hV hl [4, 5, 6, 7, 8, 9, 10, 11] [0, 1, 2, 3] [0, 1, 2, 3, 4, 5, 6, 7, 8, 9, 10, 11] [0, 1, 2] rfl rfl rfl rfl rfl (by decide) rfl rfl rfl rfl (q0 := 4) (ci := 2) rfl rfl rfl hRm hna hsz hst hW hc hd k
end LW
theorem law_in {L i : Nat} (hL : L ≤ 2560) (hi : i ≤ L + 5) (h : ¬ Int32.ofNat L - 5 < nI i) : i + 5 ≤ L := by
  have e1 : (nI L).toInt = (L : Int) := nI_toInt (by omega)
  have e2 : (nI i).toInt = (i : Int) := nI_toInt (by omega)
  have e3 : (nI L - 5).toInt = (L : Int) - 5 := by
    rw [Int32.toInt_sub, e1, show (5 : Int32).toInt = 5 from rfl]
    exact Int.bmod_eq_of_le (by omega) (by omega)
  have h2 : ¬ (nI L - 5).toInt < (nI i).toInt := fun q => h (Int32.lt_iff_toInt_lt.mpr q)
  omega
theorem sw_set : SW yL_set cL_set 7 [(0, 13, 16, 13)] 5 := ⟨tw_26, tw_0, tw_27, by decide +kernel⟩
set_option maxHeartbeats 4000000 in
set_option maxRecDepth 100000 in
theorem law_set_n {p : Program} {l : Launch} {e : Env} {s : State} {m : MethodId} {below : List Frame} {meth : Method} {c : Code} {D : va_G} {b L : Nat} {xs : Nat → Int32} {ck : Nat → ClassId} {ad : Nat → Nat} {sa : Nat → Nat} {H : Heap} {locs : List Loc} {cells slots : Nat} {Q : State → Prop} {ls : Array Slot} {x : Int32} {g o : NL} {od : Nat → UInt64} {th : Int32} {mi : NI} {di : NL} {po : NI} {be : Int32} {mm : Int64} {ee : Int32} {fa fb : NI} (X : LX p l s m meth c b L xs D ck sa) (hP : va_P D vwCl (wW ck ad g o od th mi di po be mm ee fa fb) H) (hD : va_D (AA s) (wW ck ad g o od th mi di po be mm ee fa fb)) (hS : va_S (AA s) s.heap H locs) (hl : lv_has ls 9 [(0, .ref b), (1, .ref (ad 0)), (2, .ref (ad 4)), (3, .ref (ad 2)), (4, .ref (ad 3)), (5, .int x)]) (h1 : vp_in (x + 1) L) (h2 : vp_in (x + 2) L) (h3 : vp_in (x + 3) L) (h4 : vp_in (x + 4) L) (hc : cells + 1 ≤ 1043 ∧ slots + 6 ≤ 8592) (r : Int32) (g' : NL) (mi' : NI) (di' : NL) (po' : NI) (be' : Int32) (mm' : Int64) (ee' : Int32) (fa' fb' : NI) (hj : jX0_set g (xs (x + 1).toNatClampNeg) ((sl ((xs (x + 2).toNatClampNeg).toInt64) 32) ||| ((xs (x + 3).toNatClampNeg).toInt64 &&& 4294967295)) (xs (x + 4).toNatClampNeg) = some (r, g')) (hm : jX2_set th mi di po be mm ee fa fb (xs (x + 1).toNatClampNeg) ((sl ((xs (x + 2).toNatClampNeg).toInt64) 32) ||| ((xs (x + 3).toNatClampNeg).toInt64 &&& 4294967295)) (xs (x + 4).toNatClampNeg) = some (r, 0, mi', di', po', be', mm', ee', fa', fb'))
    (kc : ∀ (H1 : Heap) (locs1 : List Loc) (ls1 : Array Slot), va_P D vwCl (wW ck ad g' (vp_updL o (0 : Int32).toNatClampNeg (r.toInt64)) od 0 mi' di' po' be' mm' ee' fa' fb') H1 → va_D (AA s) (wW ck ad g' (vp_updL o (0 : Int32).toNatClampNeg (r.toInt64)) od 0 mi' di' po' be' mm' ee' fa' fb') → va_S (AA s) s.heap H1 locs1 → lv_has ls1 9 [(0, .ref b), (1, .ref (ad 0)), (2, .ref (ad 4)), (3, .ref (ad 2)), (4, .ref (ad 3)), (5, .int x)] → W p l e room_1 s m #[Value.ref b] below meth c H1 locs1 (cells + 1) (slots + 6) Q (F0 m 771 ls1 [])) : W p l e room_1 s m #[Value.ref b] below meth c H locs cells slots Q (F0 m 96 ls []) := by
  obtain ⟨C, hK, hX9, hS9, hZ9, hX, hbl, hl0⟩ := id X
  obtain ⟨hx, hb, hml, hown, hg, hr, hlocks⟩ := id C
  have hbA : ¬ (AA s) b := Nat.not_le.mpr hbl
  refine lv_aload_n hx hb dL_law_96 rfl (lv_at hl 1 rfl) ?_
  refine lv_aload_n hx hb dL_law_97 rfl (lv_at hl 0 rfl) ?_
  refine lv_iload hx hb dL_law_98 (lv_at hl 5 rfl) ?_
  refine lv_iconst (v := 1) hx hb dL_law_100 (by decide) ?_
  refine lv_iadd hx hb dL_law_101 ?_
  refine va_sld hx hb hX hbl hbA hS h1 dL_law_102 ?_
  refine lv_aload_n hx hb dL_law_103 rfl (lv_at hl 0 rfl) ?_
  refine lv_iload hx hb dL_law_104 (lv_at hl 5 rfl) ?_
  refine lv_iconst (v := 2) hx hb dL_law_106 (by decide) ?_
  refine lv_iadd hx hb dL_law_107 ?_
  refine va_sld hx hb hX hbl hbA hS h2 dL_law_108 ?_
  refine lv_i2l hx hb dL_law_109 rfl ?_
  refine lv_bipush (v := 32) hx hb dL_law_110 (by decide) ?_
  refine lv_lshl (v := sl ((xs (x + 2).toNatClampNeg).toInt64) 32) hx hb dL_law_112 rfl ?_
  refine lv_aload_n hx hb dL_law_113 rfl (lv_at hl 0 rfl) ?_
  refine lv_iload hx hb dL_law_114 (lv_at hl 5 rfl) ?_
  refine lv_iconst (v := 3) hx hb dL_law_116 (by decide) ?_
  refine lv_iadd hx hb dL_law_117 ?_
  refine va_sld hx hb hX hbl hbA hS h3 dL_law_118 ?_
  refine lv_i2l hx hb dL_law_119 rfl ?_
  refine lv_ldc2 hx hb hown (hg _ tw_563) dL_law_120 ?_
  refine lv_land hx hb dL_law_123 ?_
  refine lv_lor hx hb dL_law_124 ?_
  refine lv_aload_n hx hb dL_law_125 rfl (lv_at hl 0 rfl) ?_
  refine lv_iload hx hb dL_law_126 (lv_at hl 5 rfl) ?_
  refine lv_iconst (v := 4) hx hb dL_law_128 (by decide) ?_
  refine lv_iadd hx hb dL_law_129 ?_
  refine va_sld hx hb hX hbl hbA hS h4 dL_law_130 ?_
  refine lv_aload_n hx hb dL_law_131 rfl (lv_at hl 3 rfl) ?_
  refine callW C hK hX9 hS9 hZ9 hP hD hS (lL_set_n l sa ck ad g o (xs (x + 1).toNatClampNeg) ((sl ((xs (x + 2).toNatClampNeg).toInt64) 32) ||| ((xs (x + 3).toNatClampNeg).toInt64 &&& 4294967295)) (xs (x + 4).toNatClampNeg) (r, g') hj) sw_set tw_25 (by decide) rfl hl.1 (rest := []) rfl (Nat.le_of_ble_eq_true rfl) hc dL_law_132 (fun H locs hP hD hS => ?_)
  have hP : va_P D vwCl (wW ck ad g' (vp_updL o (0 : Int32).toNatClampNeg (r.toInt64)) od th mi di po be mm ee fa fb) H := hP
  have hD : va_D (AA s) (wW ck ad g' (vp_updL o (0 : Int32).toNatClampNeg (r.toInt64)) od th mi di po be mm ee fa fb) := hD
  refine W.eq (g2 := F0 m 135 ls [.int 0]) rfl ?_
  refine lv_istore (lv' := [(6, .int 0), (0, .ref b), (1, .ref (ad 0)), (2, .ref (ad 4)), (3, .ref (ad 2)), (4, .ref (ad 3)), (5, .int x)]) hx hb dL_law_135 hl (by decide) rfl (fun ls hl => ?_)
  refine lv_aload_n hx hb dL_law_137 rfl (lv_at hl 3 rfl) ?_
  refine lv_aload_n hx hb dL_law_138 rfl (lv_at hl 1 rfl) ?_
  refine lv_iload hx hb dL_law_139 (lv_at hl 6 rfl) ?_
  refine lv_iconst (v := 1) hx hb dL_law_141 (by decide) ?_
  refine lv_iadd hx hb dL_law_142 ?_
  refine va_sld hx hb hX hbl hbA hS h1 dL_law_143 ?_
  refine lv_aload_n hx hb dL_law_144 rfl (lv_at hl 1 rfl) ?_
  refine lv_iload hx hb dL_law_145 (lv_at hl 6 rfl) ?_
  refine lv_iconst (v := 2) hx hb dL_law_147 (by decide) ?_
  refine lv_iadd hx hb dL_law_148 ?_
  refine va_sld hx hb hX hbl hbA hS h2 dL_law_149 ?_
  refine lv_i2l hx hb dL_law_150 rfl ?_
  refine lv_bipush (v := 32) hx hb dL_law_151 (by decide) ?_
  refine lv_lshl (v := sl ((xs (x + 2).toNatClampNeg).toInt64) 32) hx hb dL_law_153 rfl ?_
  refine lv_aload_n hx hb dL_law_154 rfl (lv_at hl 1 rfl) ?_
  refine lv_iload hx hb dL_law_155 (lv_at hl 6 rfl) ?_
  refine lv_iconst (v := 3) hx hb dL_law_157 (by decide) ?_
  refine lv_iadd hx hb dL_law_158 ?_
  refine va_sld hx hb hX hbl hbA hS h3 dL_law_159 ?_
  refine lv_i2l hx hb dL_law_160 rfl ?_
  refine lv_ldc2 hx hb hown (hg _ tw_563) dL_law_161 ?_
  refine lv_land hx hb dL_law_164 ?_
  refine lv_lor hx hb dL_law_165 ?_
  refine lv_aload_n hx hb dL_law_166 rfl (lv_at hl 1 rfl) ?_
  refine lv_iload hx hb dL_law_167 (lv_at hl 6 rfl) ?_
  refine lv_iconst (v := 4) hx hb dL_law_169 (by decide) ?_
  refine lv_iadd hx hb dL_law_170 ?_
  refine va_sld hx hb hX hbl hbA hS h4 dL_law_171 ?_
  refine callWM C hK hX9 hP hD hS (cX2_set_met l ck (fun i => ad (i + 4)) th mi di po be mm ee fa fb (xs (x + 1).toNatClampNeg) ((sl ((xs (x + 2).toNatClampNeg).toInt64) 32) ||| ((xs (x + 3).toNatClampNeg).toInt64 &&& 4294967295)) (xs (x + 4).toNatClampNeg) (r, 0, mi', di', po', be', mm', ee', fa', fb') hm) vc_X2_set tw_358 (by decide) rfl hl.1 (rest := []) rfl (Nat.le_of_ble_eq_true rfl) (by have := hc; show cells + 1 ≤ 1043 ∧ slots + 6 ≤ 8592; omega) dL_law_172 (fun H locs hP hD hS => ?_)
  have hP : va_P D vwCl (wW ck ad g' (vp_updL o (0 : Int32).toNatClampNeg (r.toInt64)) od 0 mi' di' po' be' mm' ee' fa' fb') H := hP
  have hD : va_D (AA s) (wW ck ad g' (vp_updL o (0 : Int32).toNatClampNeg (r.toInt64)) od 0 mi' di' po' be' mm' ee' fa' fb') := hD
  refine W.eq (g2 := F0 m 175 ls [.int r]) rfl ?_
  refine lv_istore (lv' := [(7, .int r), (6, .int 0), (0, .ref b), (1, .ref (ad 0)), (2, .ref (ad 4)), (3, .ref (ad 2)), (4, .ref (ad 3)), (5, .int x)]) hx hb dL_law_175 hl (by decide) rfl (fun ls hl => ?_)
  refine lv_aload_n hx hb dL_law_177 rfl (lv_at hl 4 rfl) ?_
  refine callWM C hK hX9 hP hD hS (cX2_thrown_met l ck (fun i => ad (i + 4)) 0 mi' di' po' be' mm' ee' fa' fb' (0, 0, mi', di', po', be', mm', ee', fa', fb') rfl) vc_X2_thrown tw_354 (by decide) rfl hl.1 (As := []) (rest := []) rfl (Nat.le_of_ble_eq_true rfl) (by have := hc; show cells + 1 ≤ 1043 ∧ slots + 6 ≤ 8592; omega) dL_law_178 (fun H locs hP hD hS => ?_)
  have hP : va_P D vwCl (wW ck ad g' (vp_updL o (0 : Int32).toNatClampNeg (r.toInt64)) od 0 mi' di' po' be' mm' ee' fa' fb') H := hP
  have hD : va_D (AA s) (wW ck ad g' (vp_updL o (0 : Int32).toNatClampNeg (r.toInt64)) od 0 mi' di' po' be' mm' ee' fa' fb') := hD
  refine W.eq (g2 := F0 m 181 ls [.int 0]) rfl ?_
  refine lv_iload hx hb dL_law_181 (lv_at hl 1 rfl) ?_
  refine lv_icmp_eq (tgt := 188) hx hb dL_law_183 (by decide) (fun _ => ?_) (fun c1 => absurd rfl c1)
  refine lv_iload hx hb dL_law_188 (lv_at hl 1 rfl) ?_
  refine lv_if_ne (tgt := 205) hx hb dL_law_190 (by decide) (fun c1 => absurd rfl c1) (fun _ => ?_)
  refine lv_aload_n hx hb dL_law_193 rfl (lv_at hl 5 rfl) ?_
  refine lv_iconst (v := 0) hx hb dL_law_194 (by decide) ?_
  refine va_lald hx hb hK hP 2 1 rfl rfl (ok_in (by decide)) dL_law_195 ?_
  refine lv_iload hx hb dL_law_196 (lv_at hl 0 rfl) ?_
  refine lv_i2l hx hb dL_law_198 rfl ?_
  refine lc_eq hx hb (tgt := 205) dL_law_199 dL_law_200 (by decide) (fun _ => ?_) (fun c1 => absurd (if_pos rfl) c1)
  refine lv_goto (tgt := 771) hx hb dL_law_205 (by decide) ?_
  exact kc H locs ls hP hD hS (lv_sub hl [2, 3, 4, 5, 6, 7] rfl)
set_option maxHeartbeats 4000000 in
set_option maxRecDepth 100000 in
theorem law_set_t1 {p : Program} {l : Launch} {e : Env} {s : State} {m : MethodId} {below : List Frame} {meth : Method} {c : Code} {D : va_G} {b L : Nat} {xs : Nat → Int32} {ck : Nat → ClassId} {ad : Nat → Nat} {sa : Nat → Nat} {H : Heap} {locs : List Loc} {cells slots : Nat} {Q : State → Prop} {ls : Array Slot} {x : Int32} {g o : NL} {od : Nat → UInt64} {th : Int32} {mi : NI} {di : NL} {po : NI} {be : Int32} {mm : Int64} {ee : Int32} {fa fb : NI} (X : LX p l s m meth c b L xs D ck sa) (hP : va_P D vwCl (wW ck ad g o od th mi di po be mm ee fa fb) H) (hD : va_D (AA s) (wW ck ad g o od th mi di po be mm ee fa fb)) (hS : va_S (AA s) s.heap H locs) (hl : lv_has ls 9 [(0, .ref b), (1, .ref (ad 0)), (2, .ref (ad 4)), (3, .ref (ad 2)), (4, .ref (ad 3)), (5, .int x)]) (h1 : vp_in (x + 1) L) (h2 : vp_in (x + 2) L) (h3 : vp_in (x + 3) L) (h4 : vp_in (x + 4) L) (hc : cells + 1 ≤ 1043 ∧ slots + 6 ≤ 8592) (r : Int32) (mi' : NI) (di' : NL) (po' : NI) (be' : Int32) (mm' : Int64) (ee' : Int32) (fa' fb' : NI) (hj : tX0_set g (xs (x + 1).toNatClampNeg) ((sl ((xs (x + 2).toNatClampNeg).toInt64) 32) ||| ((xs (x + 3).toNatClampNeg).toInt64 &&& 4294967295)) (xs (x + 4).toNatClampNeg) = some 1) (hm : jX2_set th mi di po be mm ee fa fb (xs (x + 1).toNatClampNeg) ((sl ((xs (x + 2).toNatClampNeg).toInt64) 32) ||| ((xs (x + 3).toNatClampNeg).toInt64 &&& 4294967295)) (xs (x + 4).toNatClampNeg) = some (r, 1, mi', di', po', be', mm', ee', fa', fb'))
    (kc : ∀ (H1 : Heap) (locs1 : List Loc) (ls1 : Array Slot), va_P D vwCl (wW ck ad g o od 1 mi' di' po' be' mm' ee' fa' fb') H1 → va_D (AA s) (wW ck ad g o od 1 mi' di' po' be' mm' ee' fa' fb') → va_S (AA s) s.heap H1 locs1 → lv_has ls1 9 [(0, .ref b), (1, .ref (ad 0)), (2, .ref (ad 4)), (3, .ref (ad 2)), (4, .ref (ad 3)), (5, .int x)] → W p l e room_1 s m #[Value.ref b] below meth c H1 locs1 (cells + 1) (slots + 6) Q (F0 m 771 ls1 [])) : W p l e room_1 s m #[Value.ref b] below meth c H locs cells slots Q (F0 m 96 ls []) := by
  obtain ⟨C, hK, hX9, hS9, hZ9, hX, hbl, hl0⟩ := id X
  obtain ⟨hx, hb, hml, hown, hg, hr, hlocks⟩ := id C
  have hbA : ¬ (AA s) b := Nat.not_le.mpr hbl
  refine lv_aload_n hx hb dL_law_96 rfl (lv_at hl 1 rfl) ?_
  refine lv_aload_n hx hb dL_law_97 rfl (lv_at hl 0 rfl) ?_
  refine lv_iload hx hb dL_law_98 (lv_at hl 5 rfl) ?_
  refine lv_iconst (v := 1) hx hb dL_law_100 (by decide) ?_
  refine lv_iadd hx hb dL_law_101 ?_
  refine va_sld hx hb hX hbl hbA hS h1 dL_law_102 ?_
  refine lv_aload_n hx hb dL_law_103 rfl (lv_at hl 0 rfl) ?_
  refine lv_iload hx hb dL_law_104 (lv_at hl 5 rfl) ?_
  refine lv_iconst (v := 2) hx hb dL_law_106 (by decide) ?_
  refine lv_iadd hx hb dL_law_107 ?_
  refine va_sld hx hb hX hbl hbA hS h2 dL_law_108 ?_
  refine lv_i2l hx hb dL_law_109 rfl ?_
  refine lv_bipush (v := 32) hx hb dL_law_110 (by decide) ?_
  refine lv_lshl (v := sl ((xs (x + 2).toNatClampNeg).toInt64) 32) hx hb dL_law_112 rfl ?_
  refine lv_aload_n hx hb dL_law_113 rfl (lv_at hl 0 rfl) ?_
  refine lv_iload hx hb dL_law_114 (lv_at hl 5 rfl) ?_
  refine lv_iconst (v := 3) hx hb dL_law_116 (by decide) ?_
  refine lv_iadd hx hb dL_law_117 ?_
  refine va_sld hx hb hX hbl hbA hS h3 dL_law_118 ?_
  refine lv_i2l hx hb dL_law_119 rfl ?_
  refine lv_ldc2 hx hb hown (hg _ tw_563) dL_law_120 ?_
  refine lv_land hx hb dL_law_123 ?_
  refine lv_lor hx hb dL_law_124 ?_
  refine lv_aload_n hx hb dL_law_125 rfl (lv_at hl 0 rfl) ?_
  refine lv_iload hx hb dL_law_126 (lv_at hl 5 rfl) ?_
  refine lv_iconst (v := 4) hx hb dL_law_128 (by decide) ?_
  refine lv_iadd hx hb dL_law_129 ?_
  refine va_sld hx hb hX hbl hbA hS h4 dL_law_130 ?_
  refine lv_aload_n hx hb dL_law_131 rfl (lv_at hl 3 rfl) ?_
  refine callW C hK hX9 hS9 hZ9 hP hD hS (lL_set_t1 l hl0 sa ck ad g o (xs (x + 1).toNatClampNeg) ((sl ((xs (x + 2).toNatClampNeg).toInt64) 32) ||| ((xs (x + 3).toNatClampNeg).toInt64 &&& 4294967295)) (xs (x + 4).toNatClampNeg) hj) sw_set tw_25 (by decide) rfl hl.1 (rest := []) rfl (Nat.le_of_ble_eq_true rfl) hc dL_law_132 (fun H locs hP hD hS => ?_)
  have hP : va_P D vwCl (wW ck ad g o od th mi di po be mm ee fa fb) H := hP
  have hD : va_D (AA s) (wW ck ad g o od th mi di po be mm ee fa fb) := hD
  refine W.eq (g2 := F0 m 135 ls [.int 1]) rfl ?_
  refine lv_istore (lv' := [(6, .int 1), (0, .ref b), (1, .ref (ad 0)), (2, .ref (ad 4)), (3, .ref (ad 2)), (4, .ref (ad 3)), (5, .int x)]) hx hb dL_law_135 hl (by decide) rfl (fun ls hl => ?_)
  refine lv_aload_n hx hb dL_law_137 rfl (lv_at hl 3 rfl) ?_
  refine lv_aload_n hx hb dL_law_138 rfl (lv_at hl 1 rfl) ?_
  refine lv_iload hx hb dL_law_139 (lv_at hl 6 rfl) ?_
  refine lv_iconst (v := 1) hx hb dL_law_141 (by decide) ?_
  refine lv_iadd hx hb dL_law_142 ?_
  refine va_sld hx hb hX hbl hbA hS h1 dL_law_143 ?_
  refine lv_aload_n hx hb dL_law_144 rfl (lv_at hl 1 rfl) ?_
  refine lv_iload hx hb dL_law_145 (lv_at hl 6 rfl) ?_
  refine lv_iconst (v := 2) hx hb dL_law_147 (by decide) ?_
  refine lv_iadd hx hb dL_law_148 ?_
  refine va_sld hx hb hX hbl hbA hS h2 dL_law_149 ?_
  refine lv_i2l hx hb dL_law_150 rfl ?_
  refine lv_bipush (v := 32) hx hb dL_law_151 (by decide) ?_
  refine lv_lshl (v := sl ((xs (x + 2).toNatClampNeg).toInt64) 32) hx hb dL_law_153 rfl ?_
  refine lv_aload_n hx hb dL_law_154 rfl (lv_at hl 1 rfl) ?_
  refine lv_iload hx hb dL_law_155 (lv_at hl 6 rfl) ?_
  refine lv_iconst (v := 3) hx hb dL_law_157 (by decide) ?_
  refine lv_iadd hx hb dL_law_158 ?_
  refine va_sld hx hb hX hbl hbA hS h3 dL_law_159 ?_
  refine lv_i2l hx hb dL_law_160 rfl ?_
  refine lv_ldc2 hx hb hown (hg _ tw_563) dL_law_161 ?_
  refine lv_land hx hb dL_law_164 ?_
  refine lv_lor hx hb dL_law_165 ?_
  refine lv_aload_n hx hb dL_law_166 rfl (lv_at hl 1 rfl) ?_
  refine lv_iload hx hb dL_law_167 (lv_at hl 6 rfl) ?_
  refine lv_iconst (v := 4) hx hb dL_law_169 (by decide) ?_
  refine lv_iadd hx hb dL_law_170 ?_
  refine va_sld hx hb hX hbl hbA hS h4 dL_law_171 ?_
  refine callWM C hK hX9 hP hD hS (cX2_set_met l ck (fun i => ad (i + 4)) th mi di po be mm ee fa fb (xs (x + 1).toNatClampNeg) ((sl ((xs (x + 2).toNatClampNeg).toInt64) 32) ||| ((xs (x + 3).toNatClampNeg).toInt64 &&& 4294967295)) (xs (x + 4).toNatClampNeg) (r, 1, mi', di', po', be', mm', ee', fa', fb') hm) vc_X2_set tw_358 (by decide) rfl hl.1 (rest := []) rfl (Nat.le_of_ble_eq_true rfl) (by have := hc; show cells + 1 ≤ 1043 ∧ slots + 6 ≤ 8592; omega) dL_law_172 (fun H locs hP hD hS => ?_)
  have hP : va_P D vwCl (wW ck ad g o od 1 mi' di' po' be' mm' ee' fa' fb') H := hP
  have hD : va_D (AA s) (wW ck ad g o od 1 mi' di' po' be' mm' ee' fa' fb') := hD
  refine W.eq (g2 := F0 m 175 ls [.int r]) rfl ?_
  refine lv_istore (lv' := [(7, .int r), (6, .int 1), (0, .ref b), (1, .ref (ad 0)), (2, .ref (ad 4)), (3, .ref (ad 2)), (4, .ref (ad 3)), (5, .int x)]) hx hb dL_law_175 hl (by decide) rfl (fun ls hl => ?_)
  refine lv_aload_n hx hb dL_law_177 rfl (lv_at hl 4 rfl) ?_
  refine callWM C hK hX9 hP hD hS (cX2_thrown_met l ck (fun i => ad (i + 4)) 1 mi' di' po' be' mm' ee' fa' fb' (1, 1, mi', di', po', be', mm', ee', fa', fb') rfl) vc_X2_thrown tw_354 (by decide) rfl hl.1 (As := []) (rest := []) rfl (Nat.le_of_ble_eq_true rfl) (by have := hc; show cells + 1 ≤ 1043 ∧ slots + 6 ≤ 8592; omega) dL_law_178 (fun H locs hP hD hS => ?_)
  have hP : va_P D vwCl (wW ck ad g o od 1 mi' di' po' be' mm' ee' fa' fb') H := hP
  have hD : va_D (AA s) (wW ck ad g o od 1 mi' di' po' be' mm' ee' fa' fb') := hD
  refine W.eq (g2 := F0 m 181 ls [.int 1]) rfl ?_
  refine lv_iload hx hb dL_law_181 (lv_at hl 1 rfl) ?_
  refine lv_icmp_eq (tgt := 188) hx hb dL_law_183 (by decide) (fun _ => ?_) (fun c1 => absurd rfl c1)
  refine lv_iload hx hb dL_law_188 (lv_at hl 1 rfl) ?_
  refine lv_if_ne (tgt := 205) hx hb dL_law_190 (by decide) (fun _ => ?_) (fun c1 => absurd c1 (by decide))
  refine lv_goto (tgt := 771) hx hb dL_law_205 (by decide) ?_
  exact kc H locs ls hP hD hS (lv_sub hl [2, 3, 4, 5, 6, 7] rfl)
theorem sw_combine : SW yL_combine cL_combine 7 [(0, 14, 17, 13)] 6 := ⟨tw_142, tw_0, tw_143, by decide +kernel⟩
set_option maxHeartbeats 4000000 in
set_option maxRecDepth 100000 in
theorem law_combine_n {p : Program} {l : Launch} {e : Env} {s : State} {m : MethodId} {below : List Frame} {meth : Method} {c : Code} {D : va_G} {b L : Nat} {xs : Nat → Int32} {ck : Nat → ClassId} {ad : Nat → Nat} {sa : Nat → Nat} {H : Heap} {locs : List Loc} {cells slots : Nat} {Q : State → Prop} {ls : Array Slot} {x : Int32} {g o : NL} {od : Nat → UInt64} {th : Int32} {mi : NI} {di : NL} {po : NI} {be : Int32} {mm : Int64} {ee : Int32} {fa fb : NI} (X : LX p l s m meth c b L xs D ck sa) (hP : va_P D vwCl (wW ck ad g o od th mi di po be mm ee fa fb) H) (hD : va_D (AA s) (wW ck ad g o od th mi di po be mm ee fa fb)) (hS : va_S (AA s) s.heap H locs) (hl : lv_has ls 9 [(0, .ref b), (1, .ref (ad 0)), (2, .ref (ad 4)), (3, .ref (ad 2)), (4, .ref (ad 3)), (5, .int x)]) (h1 : vp_in (x + 1) L) (h2 : vp_in (x + 2) L) (h3 : vp_in (x + 3) L) (h4 : vp_in (x + 4) L) (hc : cells + 1 ≤ 1043 ∧ slots + 6 ≤ 8592) (r : Int32) (g' : NL) (mi' : NI) (di' : NL) (po' : NI) (be' : Int32) (mm' : Int64) (ee' : Int32) (fa' fb' : NI) (hj : jX0_combine g (xs (x + 1).toNatClampNeg) (xs (x + 2).toNatClampNeg) (xs (x + 3).toNatClampNeg) (xs (x + 4).toNatClampNeg) = some (r, g')) (hm : jX2_combine th mi di po be mm ee fa fb (xs (x + 1).toNatClampNeg) (xs (x + 2).toNatClampNeg) (xs (x + 3).toNatClampNeg) (xs (x + 4).toNatClampNeg) = some (r, 0, mi', di', po', be', mm', ee', fa', fb'))
    (kc : ∀ (H1 : Heap) (locs1 : List Loc) (ls1 : Array Slot), va_P D vwCl (wW ck ad g' (vp_updL o (0 : Int32).toNatClampNeg (r.toInt64)) od 0 mi' di' po' be' mm' ee' fa' fb') H1 → va_D (AA s) (wW ck ad g' (vp_updL o (0 : Int32).toNatClampNeg (r.toInt64)) od 0 mi' di' po' be' mm' ee' fa' fb') → va_S (AA s) s.heap H1 locs1 → lv_has ls1 9 [(0, .ref b), (1, .ref (ad 0)), (2, .ref (ad 4)), (3, .ref (ad 2)), (4, .ref (ad 3)), (5, .int x)] → W p l e room_1 s m #[Value.ref b] below meth c H1 locs1 (cells + 1) (slots + 6) Q (F0 m 771 ls1 [])) : W p l e room_1 s m #[Value.ref b] below meth c H locs cells slots Q (F0 m 208 ls []) := by
  obtain ⟨C, hK, hX9, hS9, hZ9, hX, hbl, hl0⟩ := id X
  obtain ⟨hx, hb, hml, hown, hg, hr, hlocks⟩ := id C
  have hbA : ¬ (AA s) b := Nat.not_le.mpr hbl
  refine lv_aload_n hx hb dL_law_208 rfl (lv_at hl 1 rfl) ?_
  refine lv_aload_n hx hb dL_law_209 rfl (lv_at hl 0 rfl) ?_
  refine lv_iload hx hb dL_law_210 (lv_at hl 5 rfl) ?_
  refine lv_iconst (v := 1) hx hb dL_law_212 (by decide) ?_
  refine lv_iadd hx hb dL_law_213 ?_
  refine va_sld hx hb hX hbl hbA hS h1 dL_law_214 ?_
  refine lv_aload_n hx hb dL_law_215 rfl (lv_at hl 0 rfl) ?_
  refine lv_iload hx hb dL_law_216 (lv_at hl 5 rfl) ?_
  refine lv_iconst (v := 2) hx hb dL_law_218 (by decide) ?_
  refine lv_iadd hx hb dL_law_219 ?_
  refine va_sld hx hb hX hbl hbA hS h2 dL_law_220 ?_
  refine lv_aload_n hx hb dL_law_221 rfl (lv_at hl 0 rfl) ?_
  refine lv_iload hx hb dL_law_222 (lv_at hl 5 rfl) ?_
  refine lv_iconst (v := 3) hx hb dL_law_224 (by decide) ?_
  refine lv_iadd hx hb dL_law_225 ?_
  refine va_sld hx hb hX hbl hbA hS h3 dL_law_226 ?_
  refine lv_aload_n hx hb dL_law_227 rfl (lv_at hl 0 rfl) ?_
  refine lv_iload hx hb dL_law_228 (lv_at hl 5 rfl) ?_
  refine lv_iconst (v := 4) hx hb dL_law_230 (by decide) ?_
  refine lv_iadd hx hb dL_law_231 ?_
  refine va_sld hx hb hX hbl hbA hS h4 dL_law_232 ?_
  refine lv_aload_n hx hb dL_law_233 rfl (lv_at hl 3 rfl) ?_
  refine callW C hK hX9 hS9 hZ9 hP hD hS (lL_combine_n l sa ck ad g o (xs (x + 1).toNatClampNeg) (xs (x + 2).toNatClampNeg) (xs (x + 3).toNatClampNeg) (xs (x + 4).toNatClampNeg) (r, g') hj) sw_combine tw_141 (by decide) rfl hl.1 (rest := []) rfl (Nat.le_of_ble_eq_true rfl) hc dL_law_234 (fun H locs hP hD hS => ?_)
  have hP : va_P D vwCl (wW ck ad g' (vp_updL o (0 : Int32).toNatClampNeg (r.toInt64)) od th mi di po be mm ee fa fb) H := hP
  have hD : va_D (AA s) (wW ck ad g' (vp_updL o (0 : Int32).toNatClampNeg (r.toInt64)) od th mi di po be mm ee fa fb) := hD
  refine W.eq (g2 := F0 m 237 ls [.int 0]) rfl ?_
  refine lv_istore (lv' := [(6, .int 0), (0, .ref b), (1, .ref (ad 0)), (2, .ref (ad 4)), (3, .ref (ad 2)), (4, .ref (ad 3)), (5, .int x)]) hx hb dL_law_237 hl (by decide) rfl (fun ls hl => ?_)
  refine lv_aload_n hx hb dL_law_239 rfl (lv_at hl 3 rfl) ?_
  refine lv_aload_n hx hb dL_law_240 rfl (lv_at hl 1 rfl) ?_
  refine lv_iload hx hb dL_law_241 (lv_at hl 6 rfl) ?_
  refine lv_iconst (v := 1) hx hb dL_law_243 (by decide) ?_
  refine lv_iadd hx hb dL_law_244 ?_
  refine va_sld hx hb hX hbl hbA hS h1 dL_law_245 ?_
  refine lv_aload_n hx hb dL_law_246 rfl (lv_at hl 1 rfl) ?_
  refine lv_iload hx hb dL_law_247 (lv_at hl 6 rfl) ?_
  refine lv_iconst (v := 2) hx hb dL_law_249 (by decide) ?_
  refine lv_iadd hx hb dL_law_250 ?_
  refine va_sld hx hb hX hbl hbA hS h2 dL_law_251 ?_
  refine lv_aload_n hx hb dL_law_252 rfl (lv_at hl 1 rfl) ?_
  refine lv_iload hx hb dL_law_253 (lv_at hl 6 rfl) ?_
  refine lv_iconst (v := 3) hx hb dL_law_255 (by decide) ?_
  refine lv_iadd hx hb dL_law_256 ?_
  refine va_sld hx hb hX hbl hbA hS h3 dL_law_257 ?_
  refine lv_aload_n hx hb dL_law_258 rfl (lv_at hl 1 rfl) ?_
  refine lv_iload hx hb dL_law_259 (lv_at hl 6 rfl) ?_
  refine lv_iconst (v := 4) hx hb dL_law_261 (by decide) ?_
  refine lv_iadd hx hb dL_law_262 ?_
  refine va_sld hx hb hX hbl hbA hS h4 dL_law_263 ?_
  refine callWM C hK hX9 hP hD hS (cX2_combine_met l ck (fun i => ad (i + 4)) th mi di po be mm ee fa fb (xs (x + 1).toNatClampNeg) (xs (x + 2).toNatClampNeg) (xs (x + 3).toNatClampNeg) (xs (x + 4).toNatClampNeg) (r, 0, mi', di', po', be', mm', ee', fa', fb') hm) vc_X2_combine tw_407 (by decide) rfl hl.1 (rest := []) rfl (Nat.le_of_ble_eq_true rfl) (by have := hc; show cells + 1 ≤ 1043 ∧ slots + 6 ≤ 8592; omega) dL_law_264 (fun H locs hP hD hS => ?_)
  have hP : va_P D vwCl (wW ck ad g' (vp_updL o (0 : Int32).toNatClampNeg (r.toInt64)) od 0 mi' di' po' be' mm' ee' fa' fb') H := hP
  have hD : va_D (AA s) (wW ck ad g' (vp_updL o (0 : Int32).toNatClampNeg (r.toInt64)) od 0 mi' di' po' be' mm' ee' fa' fb') := hD
  refine W.eq (g2 := F0 m 267 ls [.int r]) rfl ?_
  refine lv_istore (lv' := [(7, .int r), (6, .int 0), (0, .ref b), (1, .ref (ad 0)), (2, .ref (ad 4)), (3, .ref (ad 2)), (4, .ref (ad 3)), (5, .int x)]) hx hb dL_law_267 hl (by decide) rfl (fun ls hl => ?_)
  refine lv_aload_n hx hb dL_law_269 rfl (lv_at hl 4 rfl) ?_
  refine callWM C hK hX9 hP hD hS (cX2_thrown_met l ck (fun i => ad (i + 4)) 0 mi' di' po' be' mm' ee' fa' fb' (0, 0, mi', di', po', be', mm', ee', fa', fb') rfl) vc_X2_thrown tw_354 (by decide) rfl hl.1 (As := []) (rest := []) rfl (Nat.le_of_ble_eq_true rfl) (by have := hc; show cells + 1 ≤ 1043 ∧ slots + 6 ≤ 8592; omega) dL_law_270 (fun H locs hP hD hS => ?_)
  have hP : va_P D vwCl (wW ck ad g' (vp_updL o (0 : Int32).toNatClampNeg (r.toInt64)) od 0 mi' di' po' be' mm' ee' fa' fb') H := hP
  have hD : va_D (AA s) (wW ck ad g' (vp_updL o (0 : Int32).toNatClampNeg (r.toInt64)) od 0 mi' di' po' be' mm' ee' fa' fb') := hD
  refine W.eq (g2 := F0 m 273 ls [.int 0]) rfl ?_
  refine lv_iload hx hb dL_law_273 (lv_at hl 1 rfl) ?_
  refine lv_icmp_eq (tgt := 280) hx hb dL_law_275 (by decide) (fun _ => ?_) (fun c1 => absurd rfl c1)
  refine lv_iload hx hb dL_law_280 (lv_at hl 1 rfl) ?_
  refine lv_if_ne (tgt := 297) hx hb dL_law_282 (by decide) (fun c1 => absurd rfl c1) (fun _ => ?_)
  refine lv_aload_n hx hb dL_law_285 rfl (lv_at hl 5 rfl) ?_
  refine lv_iconst (v := 0) hx hb dL_law_286 (by decide) ?_
  refine va_lald hx hb hK hP 2 1 rfl rfl (ok_in (by decide)) dL_law_287 ?_
  refine lv_iload hx hb dL_law_288 (lv_at hl 0 rfl) ?_
  refine lv_i2l hx hb dL_law_290 rfl ?_
  refine lc_eq hx hb (tgt := 297) dL_law_291 dL_law_292 (by decide) (fun _ => ?_) (fun c1 => absurd (if_pos rfl) c1)
  refine lv_goto (tgt := 771) hx hb dL_law_297 (by decide) ?_
  exact kc H locs ls hP hD hS (lv_sub hl [2, 3, 4, 5, 6, 7] rfl)
set_option maxHeartbeats 4000000 in
set_option maxRecDepth 100000 in
theorem law_combine_t1 {p : Program} {l : Launch} {e : Env} {s : State} {m : MethodId} {below : List Frame} {meth : Method} {c : Code} {D : va_G} {b L : Nat} {xs : Nat → Int32} {ck : Nat → ClassId} {ad : Nat → Nat} {sa : Nat → Nat} {H : Heap} {locs : List Loc} {cells slots : Nat} {Q : State → Prop} {ls : Array Slot} {x : Int32} {g o : NL} {od : Nat → UInt64} {th : Int32} {mi : NI} {di : NL} {po : NI} {be : Int32} {mm : Int64} {ee : Int32} {fa fb : NI} (X : LX p l s m meth c b L xs D ck sa) (hP : va_P D vwCl (wW ck ad g o od th mi di po be mm ee fa fb) H) (hD : va_D (AA s) (wW ck ad g o od th mi di po be mm ee fa fb)) (hS : va_S (AA s) s.heap H locs) (hl : lv_has ls 9 [(0, .ref b), (1, .ref (ad 0)), (2, .ref (ad 4)), (3, .ref (ad 2)), (4, .ref (ad 3)), (5, .int x)]) (h1 : vp_in (x + 1) L) (h2 : vp_in (x + 2) L) (h3 : vp_in (x + 3) L) (h4 : vp_in (x + 4) L) (hc : cells + 1 ≤ 1043 ∧ slots + 6 ≤ 8592) (r : Int32) (mi' : NI) (di' : NL) (po' : NI) (be' : Int32) (mm' : Int64) (ee' : Int32) (fa' fb' : NI) (hj : tX0_combine g (xs (x + 1).toNatClampNeg) (xs (x + 2).toNatClampNeg) (xs (x + 3).toNatClampNeg) (xs (x + 4).toNatClampNeg) = some 1) (hm : jX2_combine th mi di po be mm ee fa fb (xs (x + 1).toNatClampNeg) (xs (x + 2).toNatClampNeg) (xs (x + 3).toNatClampNeg) (xs (x + 4).toNatClampNeg) = some (r, 1, mi', di', po', be', mm', ee', fa', fb'))
    (kc : ∀ (H1 : Heap) (locs1 : List Loc) (ls1 : Array Slot), va_P D vwCl (wW ck ad g o od 1 mi' di' po' be' mm' ee' fa' fb') H1 → va_D (AA s) (wW ck ad g o od 1 mi' di' po' be' mm' ee' fa' fb') → va_S (AA s) s.heap H1 locs1 → lv_has ls1 9 [(0, .ref b), (1, .ref (ad 0)), (2, .ref (ad 4)), (3, .ref (ad 2)), (4, .ref (ad 3)), (5, .int x)] → W p l e room_1 s m #[Value.ref b] below meth c H1 locs1 (cells + 1) (slots + 6) Q (F0 m 771 ls1 [])) : W p l e room_1 s m #[Value.ref b] below meth c H locs cells slots Q (F0 m 208 ls []) := by
  obtain ⟨C, hK, hX9, hS9, hZ9, hX, hbl, hl0⟩ := id X
  obtain ⟨hx, hb, hml, hown, hg, hr, hlocks⟩ := id C
  have hbA : ¬ (AA s) b := Nat.not_le.mpr hbl
  refine lv_aload_n hx hb dL_law_208 rfl (lv_at hl 1 rfl) ?_
  refine lv_aload_n hx hb dL_law_209 rfl (lv_at hl 0 rfl) ?_
  refine lv_iload hx hb dL_law_210 (lv_at hl 5 rfl) ?_
  refine lv_iconst (v := 1) hx hb dL_law_212 (by decide) ?_
  refine lv_iadd hx hb dL_law_213 ?_
  refine va_sld hx hb hX hbl hbA hS h1 dL_law_214 ?_
  refine lv_aload_n hx hb dL_law_215 rfl (lv_at hl 0 rfl) ?_
  refine lv_iload hx hb dL_law_216 (lv_at hl 5 rfl) ?_
  refine lv_iconst (v := 2) hx hb dL_law_218 (by decide) ?_
  refine lv_iadd hx hb dL_law_219 ?_
  refine va_sld hx hb hX hbl hbA hS h2 dL_law_220 ?_
  refine lv_aload_n hx hb dL_law_221 rfl (lv_at hl 0 rfl) ?_
  refine lv_iload hx hb dL_law_222 (lv_at hl 5 rfl) ?_
  refine lv_iconst (v := 3) hx hb dL_law_224 (by decide) ?_
  refine lv_iadd hx hb dL_law_225 ?_
  refine va_sld hx hb hX hbl hbA hS h3 dL_law_226 ?_
  refine lv_aload_n hx hb dL_law_227 rfl (lv_at hl 0 rfl) ?_
  refine lv_iload hx hb dL_law_228 (lv_at hl 5 rfl) ?_
  refine lv_iconst (v := 4) hx hb dL_law_230 (by decide) ?_
  refine lv_iadd hx hb dL_law_231 ?_
  refine va_sld hx hb hX hbl hbA hS h4 dL_law_232 ?_
  refine lv_aload_n hx hb dL_law_233 rfl (lv_at hl 3 rfl) ?_
  refine callW C hK hX9 hS9 hZ9 hP hD hS (lL_combine_t1 l hl0 sa ck ad g o (xs (x + 1).toNatClampNeg) (xs (x + 2).toNatClampNeg) (xs (x + 3).toNatClampNeg) (xs (x + 4).toNatClampNeg) hj) sw_combine tw_141 (by decide) rfl hl.1 (rest := []) rfl (Nat.le_of_ble_eq_true rfl) hc dL_law_234 (fun H locs hP hD hS => ?_)
  have hP : va_P D vwCl (wW ck ad g o od th mi di po be mm ee fa fb) H := hP
  have hD : va_D (AA s) (wW ck ad g o od th mi di po be mm ee fa fb) := hD
  refine W.eq (g2 := F0 m 237 ls [.int 1]) rfl ?_
  refine lv_istore (lv' := [(6, .int 1), (0, .ref b), (1, .ref (ad 0)), (2, .ref (ad 4)), (3, .ref (ad 2)), (4, .ref (ad 3)), (5, .int x)]) hx hb dL_law_237 hl (by decide) rfl (fun ls hl => ?_)
  refine lv_aload_n hx hb dL_law_239 rfl (lv_at hl 3 rfl) ?_
  refine lv_aload_n hx hb dL_law_240 rfl (lv_at hl 1 rfl) ?_
  refine lv_iload hx hb dL_law_241 (lv_at hl 6 rfl) ?_
  refine lv_iconst (v := 1) hx hb dL_law_243 (by decide) ?_
  refine lv_iadd hx hb dL_law_244 ?_
  refine va_sld hx hb hX hbl hbA hS h1 dL_law_245 ?_
  refine lv_aload_n hx hb dL_law_246 rfl (lv_at hl 1 rfl) ?_
  refine lv_iload hx hb dL_law_247 (lv_at hl 6 rfl) ?_
  refine lv_iconst (v := 2) hx hb dL_law_249 (by decide) ?_
  refine lv_iadd hx hb dL_law_250 ?_
  refine va_sld hx hb hX hbl hbA hS h2 dL_law_251 ?_
  refine lv_aload_n hx hb dL_law_252 rfl (lv_at hl 1 rfl) ?_
  refine lv_iload hx hb dL_law_253 (lv_at hl 6 rfl) ?_
  refine lv_iconst (v := 3) hx hb dL_law_255 (by decide) ?_
  refine lv_iadd hx hb dL_law_256 ?_
  refine va_sld hx hb hX hbl hbA hS h3 dL_law_257 ?_
  refine lv_aload_n hx hb dL_law_258 rfl (lv_at hl 1 rfl) ?_
  refine lv_iload hx hb dL_law_259 (lv_at hl 6 rfl) ?_
  refine lv_iconst (v := 4) hx hb dL_law_261 (by decide) ?_
  refine lv_iadd hx hb dL_law_262 ?_
  refine va_sld hx hb hX hbl hbA hS h4 dL_law_263 ?_
  refine callWM C hK hX9 hP hD hS (cX2_combine_met l ck (fun i => ad (i + 4)) th mi di po be mm ee fa fb (xs (x + 1).toNatClampNeg) (xs (x + 2).toNatClampNeg) (xs (x + 3).toNatClampNeg) (xs (x + 4).toNatClampNeg) (r, 1, mi', di', po', be', mm', ee', fa', fb') hm) vc_X2_combine tw_407 (by decide) rfl hl.1 (rest := []) rfl (Nat.le_of_ble_eq_true rfl) (by have := hc; show cells + 1 ≤ 1043 ∧ slots + 6 ≤ 8592; omega) dL_law_264 (fun H locs hP hD hS => ?_)
  have hP : va_P D vwCl (wW ck ad g o od 1 mi' di' po' be' mm' ee' fa' fb') H := hP
  have hD : va_D (AA s) (wW ck ad g o od 1 mi' di' po' be' mm' ee' fa' fb') := hD
  refine W.eq (g2 := F0 m 267 ls [.int r]) rfl ?_
  refine lv_istore (lv' := [(7, .int r), (6, .int 1), (0, .ref b), (1, .ref (ad 0)), (2, .ref (ad 4)), (3, .ref (ad 2)), (4, .ref (ad 3)), (5, .int x)]) hx hb dL_law_267 hl (by decide) rfl (fun ls hl => ?_)
  refine lv_aload_n hx hb dL_law_269 rfl (lv_at hl 4 rfl) ?_
  refine callWM C hK hX9 hP hD hS (cX2_thrown_met l ck (fun i => ad (i + 4)) 1 mi' di' po' be' mm' ee' fa' fb' (1, 1, mi', di', po', be', mm', ee', fa', fb') rfl) vc_X2_thrown tw_354 (by decide) rfl hl.1 (As := []) (rest := []) rfl (Nat.le_of_ble_eq_true rfl) (by have := hc; show cells + 1 ≤ 1043 ∧ slots + 6 ≤ 8592; omega) dL_law_270 (fun H locs hP hD hS => ?_)
  have hP : va_P D vwCl (wW ck ad g o od 1 mi' di' po' be' mm' ee' fa' fb') H := hP
  have hD : va_D (AA s) (wW ck ad g o od 1 mi' di' po' be' mm' ee' fa' fb') := hD
  refine W.eq (g2 := F0 m 273 ls [.int 1]) rfl ?_
  refine lv_iload hx hb dL_law_273 (lv_at hl 1 rfl) ?_
  refine lv_icmp_eq (tgt := 280) hx hb dL_law_275 (by decide) (fun _ => ?_) (fun c1 => absurd rfl c1)
  refine lv_iload hx hb dL_law_280 (lv_at hl 1 rfl) ?_
  refine lv_if_ne (tgt := 297) hx hb dL_law_282 (by decide) (fun _ => ?_) (fun c1 => absurd c1 (by decide))
  refine lv_goto (tgt := 771) hx hb dL_law_297 (by decide) ?_
  exact kc H locs ls hP hD hS (lv_sub hl [2, 3, 4, 5, 6, 7] rfl)
theorem sw_change : SW yL_change cL_change 6 [(0, 12, 15, 13)] 5 := ⟨tw_215, tw_0, tw_216, by decide +kernel⟩
set_option maxHeartbeats 4000000 in
set_option maxRecDepth 100000 in
theorem law_change_n {p : Program} {l : Launch} {e : Env} {s : State} {m : MethodId} {below : List Frame} {meth : Method} {c : Code} {D : va_G} {b L : Nat} {xs : Nat → Int32} {ck : Nat → ClassId} {ad : Nat → Nat} {sa : Nat → Nat} {H : Heap} {locs : List Loc} {cells slots : Nat} {Q : State → Prop} {ls : Array Slot} {x : Int32} {g o : NL} {od : Nat → UInt64} {th : Int32} {mi : NI} {di : NL} {po : NI} {be : Int32} {mm : Int64} {ee : Int32} {fa fb : NI} (X : LX p l s m meth c b L xs D ck sa) (hP : va_P D vwCl (wW ck ad g o od th mi di po be mm ee fa fb) H) (hD : va_D (AA s) (wW ck ad g o od th mi di po be mm ee fa fb)) (hS : va_S (AA s) s.heap H locs) (hl : lv_has ls 9 [(0, .ref b), (1, .ref (ad 0)), (2, .ref (ad 4)), (3, .ref (ad 2)), (4, .ref (ad 3)), (5, .int x)]) (h1 : vp_in (x + 1) L) (h2 : vp_in (x + 2) L) (h3 : vp_in (x + 3) L) (hc : cells + 1 ≤ 1043 ∧ slots + 6 ≤ 8592) (r : Int32) (g' : NL) (mi' : NI) (di' : NL) (po' : NI) (be' : Int32) (mm' : Int64) (ee' : Int32) (fa' fb' : NI) (hj : jX0_change g (xs (x + 1).toNatClampNeg) (xs (x + 2).toNatClampNeg) (xs (x + 3).toNatClampNeg) = some (r, g')) (hm : jX2_change th mi di po be mm ee fa fb (xs (x + 1).toNatClampNeg) (xs (x + 2).toNatClampNeg) (xs (x + 3).toNatClampNeg) = some (r, 0, mi', di', po', be', mm', ee', fa', fb'))
    (kc : ∀ (H1 : Heap) (locs1 : List Loc) (ls1 : Array Slot), va_P D vwCl (wW ck ad g' (vp_updL o (0 : Int32).toNatClampNeg (r.toInt64)) od 0 mi' di' po' be' mm' ee' fa' fb') H1 → va_D (AA s) (wW ck ad g' (vp_updL o (0 : Int32).toNatClampNeg (r.toInt64)) od 0 mi' di' po' be' mm' ee' fa' fb') → va_S (AA s) s.heap H1 locs1 → lv_has ls1 9 [(0, .ref b), (1, .ref (ad 0)), (2, .ref (ad 4)), (3, .ref (ad 2)), (4, .ref (ad 3)), (5, .int x)] → W p l e room_1 s m #[Value.ref b] below meth c H1 locs1 (cells + 1) (slots + 6) Q (F0 m 771 ls1 [])) : W p l e room_1 s m #[Value.ref b] below meth c H locs cells slots Q (F0 m 300 ls []) := by
  obtain ⟨C, hK, hX9, hS9, hZ9, hX, hbl, hl0⟩ := id X
  obtain ⟨hx, hb, hml, hown, hg, hr, hlocks⟩ := id C
  have hbA : ¬ (AA s) b := Nat.not_le.mpr hbl
  refine lv_aload_n hx hb dL_law_300 rfl (lv_at hl 1 rfl) ?_
  refine lv_aload_n hx hb dL_law_301 rfl (lv_at hl 0 rfl) ?_
  refine lv_iload hx hb dL_law_302 (lv_at hl 5 rfl) ?_
  refine lv_iconst (v := 1) hx hb dL_law_304 (by decide) ?_
  refine lv_iadd hx hb dL_law_305 ?_
  refine va_sld hx hb hX hbl hbA hS h1 dL_law_306 ?_
  refine lv_aload_n hx hb dL_law_307 rfl (lv_at hl 0 rfl) ?_
  refine lv_iload hx hb dL_law_308 (lv_at hl 5 rfl) ?_
  refine lv_iconst (v := 2) hx hb dL_law_310 (by decide) ?_
  refine lv_iadd hx hb dL_law_311 ?_
  refine va_sld hx hb hX hbl hbA hS h2 dL_law_312 ?_
  refine lv_aload_n hx hb dL_law_313 rfl (lv_at hl 0 rfl) ?_
  refine lv_iload hx hb dL_law_314 (lv_at hl 5 rfl) ?_
  refine lv_iconst (v := 3) hx hb dL_law_316 (by decide) ?_
  refine lv_iadd hx hb dL_law_317 ?_
  refine va_sld hx hb hX hbl hbA hS h3 dL_law_318 ?_
  refine lv_aload_n hx hb dL_law_319 rfl (lv_at hl 3 rfl) ?_
  refine callW C hK hX9 hS9 hZ9 hP hD hS (lL_change_n l sa ck ad g o (xs (x + 1).toNatClampNeg) (xs (x + 2).toNatClampNeg) (xs (x + 3).toNatClampNeg) (r, g') hj) sw_change tw_214 (by decide) rfl hl.1 (rest := []) rfl (Nat.le_of_ble_eq_true rfl) hc dL_law_320 (fun H locs hP hD hS => ?_)
  have hP : va_P D vwCl (wW ck ad g' (vp_updL o (0 : Int32).toNatClampNeg (r.toInt64)) od th mi di po be mm ee fa fb) H := hP
  have hD : va_D (AA s) (wW ck ad g' (vp_updL o (0 : Int32).toNatClampNeg (r.toInt64)) od th mi di po be mm ee fa fb) := hD
  refine W.eq (g2 := F0 m 323 ls [.int 0]) rfl ?_
  refine lv_istore (lv' := [(6, .int 0), (0, .ref b), (1, .ref (ad 0)), (2, .ref (ad 4)), (3, .ref (ad 2)), (4, .ref (ad 3)), (5, .int x)]) hx hb dL_law_323 hl (by decide) rfl (fun ls hl => ?_)
  refine lv_aload_n hx hb dL_law_325 rfl (lv_at hl 3 rfl) ?_
  refine lv_aload_n hx hb dL_law_326 rfl (lv_at hl 1 rfl) ?_
  refine lv_iload hx hb dL_law_327 (lv_at hl 6 rfl) ?_
  refine lv_iconst (v := 1) hx hb dL_law_329 (by decide) ?_
  refine lv_iadd hx hb dL_law_330 ?_
  refine va_sld hx hb hX hbl hbA hS h1 dL_law_331 ?_
  refine lv_aload_n hx hb dL_law_332 rfl (lv_at hl 1 rfl) ?_
  refine lv_iload hx hb dL_law_333 (lv_at hl 6 rfl) ?_
  refine lv_iconst (v := 2) hx hb dL_law_335 (by decide) ?_
  refine lv_iadd hx hb dL_law_336 ?_
  refine va_sld hx hb hX hbl hbA hS h2 dL_law_337 ?_
  refine lv_aload_n hx hb dL_law_338 rfl (lv_at hl 1 rfl) ?_
  refine lv_iload hx hb dL_law_339 (lv_at hl 6 rfl) ?_
  refine lv_iconst (v := 3) hx hb dL_law_341 (by decide) ?_
  refine lv_iadd hx hb dL_law_342 ?_
  refine va_sld hx hb hX hbl hbA hS h3 dL_law_343 ?_
  refine callWM C hK hX9 hP hD hS (cX2_change_met l ck (fun i => ad (i + 4)) th mi di po be mm ee fa fb (xs (x + 1).toNatClampNeg) (xs (x + 2).toNatClampNeg) (xs (x + 3).toNatClampNeg) (r, 0, mi', di', po', be', mm', ee', fa', fb') hm) vc_X2_change tw_502 (by decide) rfl hl.1 (rest := []) rfl (Nat.le_of_ble_eq_true rfl) (by have := hc; show cells + 1 ≤ 1043 ∧ slots + 6 ≤ 8592; omega) dL_law_344 (fun H locs hP hD hS => ?_)
  have hP : va_P D vwCl (wW ck ad g' (vp_updL o (0 : Int32).toNatClampNeg (r.toInt64)) od 0 mi' di' po' be' mm' ee' fa' fb') H := hP
  have hD : va_D (AA s) (wW ck ad g' (vp_updL o (0 : Int32).toNatClampNeg (r.toInt64)) od 0 mi' di' po' be' mm' ee' fa' fb') := hD
  refine W.eq (g2 := F0 m 347 ls [.int r]) rfl ?_
  refine lv_istore (lv' := [(7, .int r), (6, .int 0), (0, .ref b), (1, .ref (ad 0)), (2, .ref (ad 4)), (3, .ref (ad 2)), (4, .ref (ad 3)), (5, .int x)]) hx hb dL_law_347 hl (by decide) rfl (fun ls hl => ?_)
  refine lv_aload_n hx hb dL_law_349 rfl (lv_at hl 4 rfl) ?_
  refine callWM C hK hX9 hP hD hS (cX2_thrown_met l ck (fun i => ad (i + 4)) 0 mi' di' po' be' mm' ee' fa' fb' (0, 0, mi', di', po', be', mm', ee', fa', fb') rfl) vc_X2_thrown tw_354 (by decide) rfl hl.1 (As := []) (rest := []) rfl (Nat.le_of_ble_eq_true rfl) (by have := hc; show cells + 1 ≤ 1043 ∧ slots + 6 ≤ 8592; omega) dL_law_350 (fun H locs hP hD hS => ?_)
  have hP : va_P D vwCl (wW ck ad g' (vp_updL o (0 : Int32).toNatClampNeg (r.toInt64)) od 0 mi' di' po' be' mm' ee' fa' fb') H := hP
  have hD : va_D (AA s) (wW ck ad g' (vp_updL o (0 : Int32).toNatClampNeg (r.toInt64)) od 0 mi' di' po' be' mm' ee' fa' fb') := hD
  refine W.eq (g2 := F0 m 353 ls [.int 0]) rfl ?_
  refine lv_iload hx hb dL_law_353 (lv_at hl 1 rfl) ?_
  refine lv_icmp_eq (tgt := 360) hx hb dL_law_355 (by decide) (fun _ => ?_) (fun c1 => absurd rfl c1)
  refine lv_iload hx hb dL_law_360 (lv_at hl 1 rfl) ?_
  refine lv_if_ne (tgt := 377) hx hb dL_law_362 (by decide) (fun c1 => absurd rfl c1) (fun _ => ?_)
  refine lv_aload_n hx hb dL_law_365 rfl (lv_at hl 5 rfl) ?_
  refine lv_iconst (v := 0) hx hb dL_law_366 (by decide) ?_
  refine va_lald hx hb hK hP 2 1 rfl rfl (ok_in (by decide)) dL_law_367 ?_
  refine lv_iload hx hb dL_law_368 (lv_at hl 0 rfl) ?_
  refine lv_i2l hx hb dL_law_370 rfl ?_
  refine lc_eq hx hb (tgt := 377) dL_law_371 dL_law_372 (by decide) (fun _ => ?_) (fun c1 => absurd (if_pos rfl) c1)
  refine lv_goto (tgt := 771) hx hb dL_law_377 (by decide) ?_
  exact kc H locs ls hP hD hS (lv_sub hl [2, 3, 4, 5, 6, 7] rfl)
set_option maxHeartbeats 4000000 in
set_option maxRecDepth 100000 in
theorem law_change_t1 {p : Program} {l : Launch} {e : Env} {s : State} {m : MethodId} {below : List Frame} {meth : Method} {c : Code} {D : va_G} {b L : Nat} {xs : Nat → Int32} {ck : Nat → ClassId} {ad : Nat → Nat} {sa : Nat → Nat} {H : Heap} {locs : List Loc} {cells slots : Nat} {Q : State → Prop} {ls : Array Slot} {x : Int32} {g o : NL} {od : Nat → UInt64} {th : Int32} {mi : NI} {di : NL} {po : NI} {be : Int32} {mm : Int64} {ee : Int32} {fa fb : NI} (X : LX p l s m meth c b L xs D ck sa) (hP : va_P D vwCl (wW ck ad g o od th mi di po be mm ee fa fb) H) (hD : va_D (AA s) (wW ck ad g o od th mi di po be mm ee fa fb)) (hS : va_S (AA s) s.heap H locs) (hl : lv_has ls 9 [(0, .ref b), (1, .ref (ad 0)), (2, .ref (ad 4)), (3, .ref (ad 2)), (4, .ref (ad 3)), (5, .int x)]) (h1 : vp_in (x + 1) L) (h2 : vp_in (x + 2) L) (h3 : vp_in (x + 3) L) (hc : cells + 1 ≤ 1043 ∧ slots + 6 ≤ 8592) (r : Int32) (mi' : NI) (di' : NL) (po' : NI) (be' : Int32) (mm' : Int64) (ee' : Int32) (fa' fb' : NI) (hj : tX0_change g (xs (x + 1).toNatClampNeg) (xs (x + 2).toNatClampNeg) (xs (x + 3).toNatClampNeg) = some 1) (hm : jX2_change th mi di po be mm ee fa fb (xs (x + 1).toNatClampNeg) (xs (x + 2).toNatClampNeg) (xs (x + 3).toNatClampNeg) = some (r, 1, mi', di', po', be', mm', ee', fa', fb'))
    (kc : ∀ (H1 : Heap) (locs1 : List Loc) (ls1 : Array Slot), va_P D vwCl (wW ck ad g o od 1 mi' di' po' be' mm' ee' fa' fb') H1 → va_D (AA s) (wW ck ad g o od 1 mi' di' po' be' mm' ee' fa' fb') → va_S (AA s) s.heap H1 locs1 → lv_has ls1 9 [(0, .ref b), (1, .ref (ad 0)), (2, .ref (ad 4)), (3, .ref (ad 2)), (4, .ref (ad 3)), (5, .int x)] → W p l e room_1 s m #[Value.ref b] below meth c H1 locs1 (cells + 1) (slots + 6) Q (F0 m 771 ls1 [])) : W p l e room_1 s m #[Value.ref b] below meth c H locs cells slots Q (F0 m 300 ls []) := by
  obtain ⟨C, hK, hX9, hS9, hZ9, hX, hbl, hl0⟩ := id X
  obtain ⟨hx, hb, hml, hown, hg, hr, hlocks⟩ := id C
  have hbA : ¬ (AA s) b := Nat.not_le.mpr hbl
  refine lv_aload_n hx hb dL_law_300 rfl (lv_at hl 1 rfl) ?_
  refine lv_aload_n hx hb dL_law_301 rfl (lv_at hl 0 rfl) ?_
  refine lv_iload hx hb dL_law_302 (lv_at hl 5 rfl) ?_
  refine lv_iconst (v := 1) hx hb dL_law_304 (by decide) ?_
  refine lv_iadd hx hb dL_law_305 ?_
  refine va_sld hx hb hX hbl hbA hS h1 dL_law_306 ?_
  refine lv_aload_n hx hb dL_law_307 rfl (lv_at hl 0 rfl) ?_
  refine lv_iload hx hb dL_law_308 (lv_at hl 5 rfl) ?_
  refine lv_iconst (v := 2) hx hb dL_law_310 (by decide) ?_
  refine lv_iadd hx hb dL_law_311 ?_
  refine va_sld hx hb hX hbl hbA hS h2 dL_law_312 ?_
  refine lv_aload_n hx hb dL_law_313 rfl (lv_at hl 0 rfl) ?_
  refine lv_iload hx hb dL_law_314 (lv_at hl 5 rfl) ?_
  refine lv_iconst (v := 3) hx hb dL_law_316 (by decide) ?_
  refine lv_iadd hx hb dL_law_317 ?_
  refine va_sld hx hb hX hbl hbA hS h3 dL_law_318 ?_
  refine lv_aload_n hx hb dL_law_319 rfl (lv_at hl 3 rfl) ?_
  refine callW C hK hX9 hS9 hZ9 hP hD hS (lL_change_t1 l hl0 sa ck ad g o (xs (x + 1).toNatClampNeg) (xs (x + 2).toNatClampNeg) (xs (x + 3).toNatClampNeg) hj) sw_change tw_214 (by decide) rfl hl.1 (rest := []) rfl (Nat.le_of_ble_eq_true rfl) hc dL_law_320 (fun H locs hP hD hS => ?_)
  have hP : va_P D vwCl (wW ck ad g o od th mi di po be mm ee fa fb) H := hP
  have hD : va_D (AA s) (wW ck ad g o od th mi di po be mm ee fa fb) := hD
  refine W.eq (g2 := F0 m 323 ls [.int 1]) rfl ?_
  refine lv_istore (lv' := [(6, .int 1), (0, .ref b), (1, .ref (ad 0)), (2, .ref (ad 4)), (3, .ref (ad 2)), (4, .ref (ad 3)), (5, .int x)]) hx hb dL_law_323 hl (by decide) rfl (fun ls hl => ?_)
  refine lv_aload_n hx hb dL_law_325 rfl (lv_at hl 3 rfl) ?_
  refine lv_aload_n hx hb dL_law_326 rfl (lv_at hl 1 rfl) ?_
  refine lv_iload hx hb dL_law_327 (lv_at hl 6 rfl) ?_
  refine lv_iconst (v := 1) hx hb dL_law_329 (by decide) ?_
  refine lv_iadd hx hb dL_law_330 ?_
  refine va_sld hx hb hX hbl hbA hS h1 dL_law_331 ?_
  refine lv_aload_n hx hb dL_law_332 rfl (lv_at hl 1 rfl) ?_
  refine lv_iload hx hb dL_law_333 (lv_at hl 6 rfl) ?_
  refine lv_iconst (v := 2) hx hb dL_law_335 (by decide) ?_
  refine lv_iadd hx hb dL_law_336 ?_
  refine va_sld hx hb hX hbl hbA hS h2 dL_law_337 ?_
  refine lv_aload_n hx hb dL_law_338 rfl (lv_at hl 1 rfl) ?_
  refine lv_iload hx hb dL_law_339 (lv_at hl 6 rfl) ?_
  refine lv_iconst (v := 3) hx hb dL_law_341 (by decide) ?_
  refine lv_iadd hx hb dL_law_342 ?_
  refine va_sld hx hb hX hbl hbA hS h3 dL_law_343 ?_
  refine callWM C hK hX9 hP hD hS (cX2_change_met l ck (fun i => ad (i + 4)) th mi di po be mm ee fa fb (xs (x + 1).toNatClampNeg) (xs (x + 2).toNatClampNeg) (xs (x + 3).toNatClampNeg) (r, 1, mi', di', po', be', mm', ee', fa', fb') hm) vc_X2_change tw_502 (by decide) rfl hl.1 (rest := []) rfl (Nat.le_of_ble_eq_true rfl) (by have := hc; show cells + 1 ≤ 1043 ∧ slots + 6 ≤ 8592; omega) dL_law_344 (fun H locs hP hD hS => ?_)
  have hP : va_P D vwCl (wW ck ad g o od 1 mi' di' po' be' mm' ee' fa' fb') H := hP
  have hD : va_D (AA s) (wW ck ad g o od 1 mi' di' po' be' mm' ee' fa' fb') := hD
  refine W.eq (g2 := F0 m 347 ls [.int r]) rfl ?_
  refine lv_istore (lv' := [(7, .int r), (6, .int 1), (0, .ref b), (1, .ref (ad 0)), (2, .ref (ad 4)), (3, .ref (ad 2)), (4, .ref (ad 3)), (5, .int x)]) hx hb dL_law_347 hl (by decide) rfl (fun ls hl => ?_)
  refine lv_aload_n hx hb dL_law_349 rfl (lv_at hl 4 rfl) ?_
  refine callWM C hK hX9 hP hD hS (cX2_thrown_met l ck (fun i => ad (i + 4)) 1 mi' di' po' be' mm' ee' fa' fb' (1, 1, mi', di', po', be', mm', ee', fa', fb') rfl) vc_X2_thrown tw_354 (by decide) rfl hl.1 (As := []) (rest := []) rfl (Nat.le_of_ble_eq_true rfl) (by have := hc; show cells + 1 ≤ 1043 ∧ slots + 6 ≤ 8592; omega) dL_law_350 (fun H locs hP hD hS => ?_)
  have hP : va_P D vwCl (wW ck ad g o od 1 mi' di' po' be' mm' ee' fa' fb') H := hP
  have hD : va_D (AA s) (wW ck ad g o od 1 mi' di' po' be' mm' ee' fa' fb') := hD
  refine W.eq (g2 := F0 m 353 ls [.int 1]) rfl ?_
  refine lv_iload hx hb dL_law_353 (lv_at hl 1 rfl) ?_
  refine lv_icmp_eq (tgt := 360) hx hb dL_law_355 (by decide) (fun _ => ?_) (fun c1 => absurd rfl c1)
  refine lv_iload hx hb dL_law_360 (lv_at hl 1 rfl) ?_
  refine lv_if_ne (tgt := 377) hx hb dL_law_362 (by decide) (fun _ => ?_) (fun c1 => absurd c1 (by decide))
  refine lv_goto (tgt := 771) hx hb dL_law_377 (by decide) ?_
  exact kc H locs ls hP hD hS (lv_sub hl [2, 3, 4, 5, 6, 7] rfl)
theorem sw_power : SW yL_power cL_power 6 [(0, 12, 15, 13)] 5 := ⟨tw_232, tw_0, tw_233, by decide +kernel⟩
set_option maxHeartbeats 4000000 in
set_option maxRecDepth 100000 in
theorem law_power_n {p : Program} {l : Launch} {e : Env} {s : State} {m : MethodId} {below : List Frame} {meth : Method} {c : Code} {D : va_G} {b L : Nat} {xs : Nat → Int32} {ck : Nat → ClassId} {ad : Nat → Nat} {sa : Nat → Nat} {H : Heap} {locs : List Loc} {cells slots : Nat} {Q : State → Prop} {ls : Array Slot} {x : Int32} {g o : NL} {od : Nat → UInt64} {th : Int32} {mi : NI} {di : NL} {po : NI} {be : Int32} {mm : Int64} {ee : Int32} {fa fb : NI} (X : LX p l s m meth c b L xs D ck sa) (hP : va_P D vwCl (wW ck ad g o od th mi di po be mm ee fa fb) H) (hD : va_D (AA s) (wW ck ad g o od th mi di po be mm ee fa fb)) (hS : va_S (AA s) s.heap H locs) (hl : lv_has ls 9 [(0, .ref b), (1, .ref (ad 0)), (2, .ref (ad 4)), (3, .ref (ad 2)), (4, .ref (ad 3)), (5, .int x)]) (h1 : vp_in (x + 1) L) (h2 : vp_in (x + 2) L) (h3 : vp_in (x + 3) L) (hc : cells + 1 ≤ 1043 ∧ slots + 6 ≤ 8592) (r : Int32) (g' : NL) (mi' : NI) (di' : NL) (po' : NI) (be' : Int32) (mm' : Int64) (ee' : Int32) (fa' fb' : NI) (hj : jX0_power g (xs (x + 1).toNatClampNeg) (xs (x + 2).toNatClampNeg) (xs (x + 3).toNatClampNeg) = some (r, g')) (hm : jX2_power th mi di po be mm ee fa fb (xs (x + 1).toNatClampNeg) (xs (x + 2).toNatClampNeg) (xs (x + 3).toNatClampNeg) = some (r, 0, mi', di', po', be', mm', ee', fa', fb'))
    (kc : ∀ (H1 : Heap) (locs1 : List Loc) (ls1 : Array Slot), va_P D vwCl (wW ck ad g' (vp_updL o (0 : Int32).toNatClampNeg (r.toInt64)) od 0 mi' di' po' be' mm' ee' fa' fb') H1 → va_D (AA s) (wW ck ad g' (vp_updL o (0 : Int32).toNatClampNeg (r.toInt64)) od 0 mi' di' po' be' mm' ee' fa' fb') → va_S (AA s) s.heap H1 locs1 → lv_has ls1 9 [(0, .ref b), (1, .ref (ad 0)), (2, .ref (ad 4)), (3, .ref (ad 2)), (4, .ref (ad 3)), (5, .int x)] → W p l e room_1 s m #[Value.ref b] below meth c H1 locs1 (cells + 1) (slots + 6) Q (F0 m 771 ls1 [])) : W p l e room_1 s m #[Value.ref b] below meth c H locs cells slots Q (F0 m 380 ls []) := by
  obtain ⟨C, hK, hX9, hS9, hZ9, hX, hbl, hl0⟩ := id X
  obtain ⟨hx, hb, hml, hown, hg, hr, hlocks⟩ := id C
  have hbA : ¬ (AA s) b := Nat.not_le.mpr hbl
  refine lv_aload_n hx hb dL_law_380 rfl (lv_at hl 1 rfl) ?_
  refine lv_aload_n hx hb dL_law_381 rfl (lv_at hl 0 rfl) ?_
  refine lv_iload hx hb dL_law_382 (lv_at hl 5 rfl) ?_
  refine lv_iconst (v := 1) hx hb dL_law_384 (by decide) ?_
  refine lv_iadd hx hb dL_law_385 ?_
  refine va_sld hx hb hX hbl hbA hS h1 dL_law_386 ?_
  refine lv_aload_n hx hb dL_law_387 rfl (lv_at hl 0 rfl) ?_
  refine lv_iload hx hb dL_law_388 (lv_at hl 5 rfl) ?_
  refine lv_iconst (v := 2) hx hb dL_law_390 (by decide) ?_
  refine lv_iadd hx hb dL_law_391 ?_
  refine va_sld hx hb hX hbl hbA hS h2 dL_law_392 ?_
  refine lv_aload_n hx hb dL_law_393 rfl (lv_at hl 0 rfl) ?_
  refine lv_iload hx hb dL_law_394 (lv_at hl 5 rfl) ?_
  refine lv_iconst (v := 3) hx hb dL_law_396 (by decide) ?_
  refine lv_iadd hx hb dL_law_397 ?_
  refine va_sld hx hb hX hbl hbA hS h3 dL_law_398 ?_
  refine lv_aload_n hx hb dL_law_399 rfl (lv_at hl 3 rfl) ?_
  refine callW C hK hX9 hS9 hZ9 hP hD hS (lL_power_n l sa ck ad g o (xs (x + 1).toNatClampNeg) (xs (x + 2).toNatClampNeg) (xs (x + 3).toNatClampNeg) (r, g') hj) sw_power tw_231 (by decide) rfl hl.1 (rest := []) rfl (Nat.le_of_ble_eq_true rfl) hc dL_law_400 (fun H locs hP hD hS => ?_)
  have hP : va_P D vwCl (wW ck ad g' (vp_updL o (0 : Int32).toNatClampNeg (r.toInt64)) od th mi di po be mm ee fa fb) H := hP
  have hD : va_D (AA s) (wW ck ad g' (vp_updL o (0 : Int32).toNatClampNeg (r.toInt64)) od th mi di po be mm ee fa fb) := hD
  refine W.eq (g2 := F0 m 403 ls [.int 0]) rfl ?_
  refine lv_istore (lv' := [(6, .int 0), (0, .ref b), (1, .ref (ad 0)), (2, .ref (ad 4)), (3, .ref (ad 2)), (4, .ref (ad 3)), (5, .int x)]) hx hb dL_law_403 hl (by decide) rfl (fun ls hl => ?_)
  refine lv_aload_n hx hb dL_law_405 rfl (lv_at hl 3 rfl) ?_
  refine lv_aload_n hx hb dL_law_406 rfl (lv_at hl 1 rfl) ?_
  refine lv_iload hx hb dL_law_407 (lv_at hl 6 rfl) ?_
  refine lv_iconst (v := 1) hx hb dL_law_409 (by decide) ?_
  refine lv_iadd hx hb dL_law_410 ?_
  refine va_sld hx hb hX hbl hbA hS h1 dL_law_411 ?_
  refine lv_aload_n hx hb dL_law_412 rfl (lv_at hl 1 rfl) ?_
  refine lv_iload hx hb dL_law_413 (lv_at hl 6 rfl) ?_
  refine lv_iconst (v := 2) hx hb dL_law_415 (by decide) ?_
  refine lv_iadd hx hb dL_law_416 ?_
  refine va_sld hx hb hX hbl hbA hS h2 dL_law_417 ?_
  refine lv_aload_n hx hb dL_law_418 rfl (lv_at hl 1 rfl) ?_
  refine lv_iload hx hb dL_law_419 (lv_at hl 6 rfl) ?_
  refine lv_iconst (v := 3) hx hb dL_law_421 (by decide) ?_
  refine lv_iadd hx hb dL_law_422 ?_
  refine va_sld hx hb hX hbl hbA hS h3 dL_law_423 ?_
  refine callWM C hK hX9 hP hD hS (cX2_power_met l ck (fun i => ad (i + 4)) th mi di po be mm ee fa fb (xs (x + 1).toNatClampNeg) (xs (x + 2).toNatClampNeg) (xs (x + 3).toNatClampNeg) (r, 0, mi', di', po', be', mm', ee', fa', fb') hm) vc_X2_power tw_524 (by decide) rfl hl.1 (rest := []) rfl (Nat.le_of_ble_eq_true rfl) (by have := hc; show cells + 1 ≤ 1043 ∧ slots + 6 ≤ 8592; omega) dL_law_424 (fun H locs hP hD hS => ?_)
  have hP : va_P D vwCl (wW ck ad g' (vp_updL o (0 : Int32).toNatClampNeg (r.toInt64)) od 0 mi' di' po' be' mm' ee' fa' fb') H := hP
  have hD : va_D (AA s) (wW ck ad g' (vp_updL o (0 : Int32).toNatClampNeg (r.toInt64)) od 0 mi' di' po' be' mm' ee' fa' fb') := hD
  refine W.eq (g2 := F0 m 427 ls [.int r]) rfl ?_
  refine lv_istore (lv' := [(7, .int r), (6, .int 0), (0, .ref b), (1, .ref (ad 0)), (2, .ref (ad 4)), (3, .ref (ad 2)), (4, .ref (ad 3)), (5, .int x)]) hx hb dL_law_427 hl (by decide) rfl (fun ls hl => ?_)
  refine lv_aload_n hx hb dL_law_429 rfl (lv_at hl 4 rfl) ?_
  refine callWM C hK hX9 hP hD hS (cX2_thrown_met l ck (fun i => ad (i + 4)) 0 mi' di' po' be' mm' ee' fa' fb' (0, 0, mi', di', po', be', mm', ee', fa', fb') rfl) vc_X2_thrown tw_354 (by decide) rfl hl.1 (As := []) (rest := []) rfl (Nat.le_of_ble_eq_true rfl) (by have := hc; show cells + 1 ≤ 1043 ∧ slots + 6 ≤ 8592; omega) dL_law_430 (fun H locs hP hD hS => ?_)
  have hP : va_P D vwCl (wW ck ad g' (vp_updL o (0 : Int32).toNatClampNeg (r.toInt64)) od 0 mi' di' po' be' mm' ee' fa' fb') H := hP
  have hD : va_D (AA s) (wW ck ad g' (vp_updL o (0 : Int32).toNatClampNeg (r.toInt64)) od 0 mi' di' po' be' mm' ee' fa' fb') := hD
  refine W.eq (g2 := F0 m 433 ls [.int 0]) rfl ?_
  refine lv_iload hx hb dL_law_433 (lv_at hl 1 rfl) ?_
  refine lv_icmp_eq (tgt := 440) hx hb dL_law_435 (by decide) (fun _ => ?_) (fun c1 => absurd rfl c1)
  refine lv_iload hx hb dL_law_440 (lv_at hl 1 rfl) ?_
  refine lv_if_ne (tgt := 457) hx hb dL_law_442 (by decide) (fun c1 => absurd rfl c1) (fun _ => ?_)
  refine lv_aload_n hx hb dL_law_445 rfl (lv_at hl 5 rfl) ?_
  refine lv_iconst (v := 0) hx hb dL_law_446 (by decide) ?_
  refine va_lald hx hb hK hP 2 1 rfl rfl (ok_in (by decide)) dL_law_447 ?_
  refine lv_iload hx hb dL_law_448 (lv_at hl 0 rfl) ?_
  refine lv_i2l hx hb dL_law_450 rfl ?_
  refine lc_eq hx hb (tgt := 457) dL_law_451 dL_law_452 (by decide) (fun _ => ?_) (fun c1 => absurd (if_pos rfl) c1)
  refine lv_goto (tgt := 771) hx hb dL_law_457 (by decide) ?_
  exact kc H locs ls hP hD hS (lv_sub hl [2, 3, 4, 5, 6, 7] rfl)
set_option maxHeartbeats 4000000 in
set_option maxRecDepth 100000 in
theorem law_power_t1 {p : Program} {l : Launch} {e : Env} {s : State} {m : MethodId} {below : List Frame} {meth : Method} {c : Code} {D : va_G} {b L : Nat} {xs : Nat → Int32} {ck : Nat → ClassId} {ad : Nat → Nat} {sa : Nat → Nat} {H : Heap} {locs : List Loc} {cells slots : Nat} {Q : State → Prop} {ls : Array Slot} {x : Int32} {g o : NL} {od : Nat → UInt64} {th : Int32} {mi : NI} {di : NL} {po : NI} {be : Int32} {mm : Int64} {ee : Int32} {fa fb : NI} (X : LX p l s m meth c b L xs D ck sa) (hP : va_P D vwCl (wW ck ad g o od th mi di po be mm ee fa fb) H) (hD : va_D (AA s) (wW ck ad g o od th mi di po be mm ee fa fb)) (hS : va_S (AA s) s.heap H locs) (hl : lv_has ls 9 [(0, .ref b), (1, .ref (ad 0)), (2, .ref (ad 4)), (3, .ref (ad 2)), (4, .ref (ad 3)), (5, .int x)]) (h1 : vp_in (x + 1) L) (h2 : vp_in (x + 2) L) (h3 : vp_in (x + 3) L) (hc : cells + 1 ≤ 1043 ∧ slots + 6 ≤ 8592) (r : Int32) (mi' : NI) (di' : NL) (po' : NI) (be' : Int32) (mm' : Int64) (ee' : Int32) (fa' fb' : NI) (hj : tX0_power g (xs (x + 1).toNatClampNeg) (xs (x + 2).toNatClampNeg) (xs (x + 3).toNatClampNeg) = some 1) (hm : jX2_power th mi di po be mm ee fa fb (xs (x + 1).toNatClampNeg) (xs (x + 2).toNatClampNeg) (xs (x + 3).toNatClampNeg) = some (r, 1, mi', di', po', be', mm', ee', fa', fb'))
    (kc : ∀ (H1 : Heap) (locs1 : List Loc) (ls1 : Array Slot), va_P D vwCl (wW ck ad g o od 1 mi' di' po' be' mm' ee' fa' fb') H1 → va_D (AA s) (wW ck ad g o od 1 mi' di' po' be' mm' ee' fa' fb') → va_S (AA s) s.heap H1 locs1 → lv_has ls1 9 [(0, .ref b), (1, .ref (ad 0)), (2, .ref (ad 4)), (3, .ref (ad 2)), (4, .ref (ad 3)), (5, .int x)] → W p l e room_1 s m #[Value.ref b] below meth c H1 locs1 (cells + 1) (slots + 6) Q (F0 m 771 ls1 [])) : W p l e room_1 s m #[Value.ref b] below meth c H locs cells slots Q (F0 m 380 ls []) := by
  obtain ⟨C, hK, hX9, hS9, hZ9, hX, hbl, hl0⟩ := id X
  obtain ⟨hx, hb, hml, hown, hg, hr, hlocks⟩ := id C
  have hbA : ¬ (AA s) b := Nat.not_le.mpr hbl
  refine lv_aload_n hx hb dL_law_380 rfl (lv_at hl 1 rfl) ?_
  refine lv_aload_n hx hb dL_law_381 rfl (lv_at hl 0 rfl) ?_
  refine lv_iload hx hb dL_law_382 (lv_at hl 5 rfl) ?_
  refine lv_iconst (v := 1) hx hb dL_law_384 (by decide) ?_
  refine lv_iadd hx hb dL_law_385 ?_
  refine va_sld hx hb hX hbl hbA hS h1 dL_law_386 ?_
  refine lv_aload_n hx hb dL_law_387 rfl (lv_at hl 0 rfl) ?_
  refine lv_iload hx hb dL_law_388 (lv_at hl 5 rfl) ?_
  refine lv_iconst (v := 2) hx hb dL_law_390 (by decide) ?_
  refine lv_iadd hx hb dL_law_391 ?_
  refine va_sld hx hb hX hbl hbA hS h2 dL_law_392 ?_
  refine lv_aload_n hx hb dL_law_393 rfl (lv_at hl 0 rfl) ?_
  refine lv_iload hx hb dL_law_394 (lv_at hl 5 rfl) ?_
  refine lv_iconst (v := 3) hx hb dL_law_396 (by decide) ?_
  refine lv_iadd hx hb dL_law_397 ?_
  refine va_sld hx hb hX hbl hbA hS h3 dL_law_398 ?_
  refine lv_aload_n hx hb dL_law_399 rfl (lv_at hl 3 rfl) ?_
  refine callW C hK hX9 hS9 hZ9 hP hD hS (lL_power_t1 l hl0 sa ck ad g o (xs (x + 1).toNatClampNeg) (xs (x + 2).toNatClampNeg) (xs (x + 3).toNatClampNeg) hj) sw_power tw_231 (by decide) rfl hl.1 (rest := []) rfl (Nat.le_of_ble_eq_true rfl) hc dL_law_400 (fun H locs hP hD hS => ?_)
  have hP : va_P D vwCl (wW ck ad g o od th mi di po be mm ee fa fb) H := hP
  have hD : va_D (AA s) (wW ck ad g o od th mi di po be mm ee fa fb) := hD
  refine W.eq (g2 := F0 m 403 ls [.int 1]) rfl ?_
  refine lv_istore (lv' := [(6, .int 1), (0, .ref b), (1, .ref (ad 0)), (2, .ref (ad 4)), (3, .ref (ad 2)), (4, .ref (ad 3)), (5, .int x)]) hx hb dL_law_403 hl (by decide) rfl (fun ls hl => ?_)
  refine lv_aload_n hx hb dL_law_405 rfl (lv_at hl 3 rfl) ?_
  refine lv_aload_n hx hb dL_law_406 rfl (lv_at hl 1 rfl) ?_
  refine lv_iload hx hb dL_law_407 (lv_at hl 6 rfl) ?_
  refine lv_iconst (v := 1) hx hb dL_law_409 (by decide) ?_
  refine lv_iadd hx hb dL_law_410 ?_
  refine va_sld hx hb hX hbl hbA hS h1 dL_law_411 ?_
  refine lv_aload_n hx hb dL_law_412 rfl (lv_at hl 1 rfl) ?_
  refine lv_iload hx hb dL_law_413 (lv_at hl 6 rfl) ?_
  refine lv_iconst (v := 2) hx hb dL_law_415 (by decide) ?_
  refine lv_iadd hx hb dL_law_416 ?_
  refine va_sld hx hb hX hbl hbA hS h2 dL_law_417 ?_
  refine lv_aload_n hx hb dL_law_418 rfl (lv_at hl 1 rfl) ?_
  refine lv_iload hx hb dL_law_419 (lv_at hl 6 rfl) ?_
  refine lv_iconst (v := 3) hx hb dL_law_421 (by decide) ?_
  refine lv_iadd hx hb dL_law_422 ?_
  refine va_sld hx hb hX hbl hbA hS h3 dL_law_423 ?_
  refine callWM C hK hX9 hP hD hS (cX2_power_met l ck (fun i => ad (i + 4)) th mi di po be mm ee fa fb (xs (x + 1).toNatClampNeg) (xs (x + 2).toNatClampNeg) (xs (x + 3).toNatClampNeg) (r, 1, mi', di', po', be', mm', ee', fa', fb') hm) vc_X2_power tw_524 (by decide) rfl hl.1 (rest := []) rfl (Nat.le_of_ble_eq_true rfl) (by have := hc; show cells + 1 ≤ 1043 ∧ slots + 6 ≤ 8592; omega) dL_law_424 (fun H locs hP hD hS => ?_)
  have hP : va_P D vwCl (wW ck ad g o od 1 mi' di' po' be' mm' ee' fa' fb') H := hP
  have hD : va_D (AA s) (wW ck ad g o od 1 mi' di' po' be' mm' ee' fa' fb') := hD
  refine W.eq (g2 := F0 m 427 ls [.int r]) rfl ?_
  refine lv_istore (lv' := [(7, .int r), (6, .int 1), (0, .ref b), (1, .ref (ad 0)), (2, .ref (ad 4)), (3, .ref (ad 2)), (4, .ref (ad 3)), (5, .int x)]) hx hb dL_law_427 hl (by decide) rfl (fun ls hl => ?_)
  refine lv_aload_n hx hb dL_law_429 rfl (lv_at hl 4 rfl) ?_
  refine callWM C hK hX9 hP hD hS (cX2_thrown_met l ck (fun i => ad (i + 4)) 1 mi' di' po' be' mm' ee' fa' fb' (1, 1, mi', di', po', be', mm', ee', fa', fb') rfl) vc_X2_thrown tw_354 (by decide) rfl hl.1 (As := []) (rest := []) rfl (Nat.le_of_ble_eq_true rfl) (by have := hc; show cells + 1 ≤ 1043 ∧ slots + 6 ≤ 8592; omega) dL_law_430 (fun H locs hP hD hS => ?_)
  have hP : va_P D vwCl (wW ck ad g o od 1 mi' di' po' be' mm' ee' fa' fb') H := hP
  have hD : va_D (AA s) (wW ck ad g o od 1 mi' di' po' be' mm' ee' fa' fb') := hD
  refine W.eq (g2 := F0 m 433 ls [.int 1]) rfl ?_
  refine lv_iload hx hb dL_law_433 (lv_at hl 1 rfl) ?_
  refine lv_icmp_eq (tgt := 440) hx hb dL_law_435 (by decide) (fun _ => ?_) (fun c1 => absurd rfl c1)
  refine lv_iload hx hb dL_law_440 (lv_at hl 1 rfl) ?_
  refine lv_if_ne (tgt := 457) hx hb dL_law_442 (by decide) (fun _ => ?_) (fun c1 => absurd c1 (by decide))
  refine lv_goto (tgt := 771) hx hb dL_law_457 (by decide) ?_
  exact kc H locs ls hP hD hS (lv_sub hl [2, 3, 4, 5, 6, 7] rfl)
theorem sw_order : SW yL_order cL_order 5 [(0, 10, 13, 13)] 4 := ⟨tw_248, tw_0, tw_249, by decide +kernel⟩
set_option maxHeartbeats 4000000 in
set_option maxRecDepth 100000 in
theorem law_order_n {p : Program} {l : Launch} {e : Env} {s : State} {m : MethodId} {below : List Frame} {meth : Method} {c : Code} {D : va_G} {b L : Nat} {xs : Nat → Int32} {ck : Nat → ClassId} {ad : Nat → Nat} {sa : Nat → Nat} {H : Heap} {locs : List Loc} {cells slots : Nat} {Q : State → Prop} {ls : Array Slot} {x : Int32} {g o : NL} {od : Nat → UInt64} {th : Int32} {mi : NI} {di : NL} {po : NI} {be : Int32} {mm : Int64} {ee : Int32} {fa fb : NI} (X : LX p l s m meth c b L xs D ck sa) (hP : va_P D vwCl (wW ck ad g o od th mi di po be mm ee fa fb) H) (hD : va_D (AA s) (wW ck ad g o od th mi di po be mm ee fa fb)) (hS : va_S (AA s) s.heap H locs) (hl : lv_has ls 9 [(0, .ref b), (1, .ref (ad 0)), (2, .ref (ad 4)), (3, .ref (ad 2)), (4, .ref (ad 3)), (5, .int x)]) (h1 : vp_in (x + 1) L) (h2 : vp_in (x + 2) L) (hc : cells + 1 ≤ 1043 ∧ slots + 6 ≤ 8592) (r : Int32) (g' : NL) (mi' : NI) (di' : NL) (po' : NI) (be' : Int32) (mm' : Int64) (ee' : Int32) (fa' fb' : NI) (hj : jX0_order g (xs (x + 1).toNatClampNeg) (xs (x + 2).toNatClampNeg) = some (r, g')) (hm : jX2_order th mi di po be mm ee fa fb (xs (x + 1).toNatClampNeg) (xs (x + 2).toNatClampNeg) = some (r, 0, mi', di', po', be', mm', ee', fa', fb'))
    (kc : ∀ (H1 : Heap) (locs1 : List Loc) (ls1 : Array Slot), va_P D vwCl (wW ck ad g' (vp_updL o (0 : Int32).toNatClampNeg (r.toInt64)) od 0 mi' di' po' be' mm' ee' fa' fb') H1 → va_D (AA s) (wW ck ad g' (vp_updL o (0 : Int32).toNatClampNeg (r.toInt64)) od 0 mi' di' po' be' mm' ee' fa' fb') → va_S (AA s) s.heap H1 locs1 → lv_has ls1 9 [(0, .ref b), (1, .ref (ad 0)), (2, .ref (ad 4)), (3, .ref (ad 2)), (4, .ref (ad 3)), (5, .int x)] → W p l e room_1 s m #[Value.ref b] below meth c H1 locs1 (cells + 1) (slots + 6) Q (F0 m 771 ls1 [])) : W p l e room_1 s m #[Value.ref b] below meth c H locs cells slots Q (F0 m 460 ls []) := by
  obtain ⟨C, hK, hX9, hS9, hZ9, hX, hbl, hl0⟩ := id X
  obtain ⟨hx, hb, hml, hown, hg, hr, hlocks⟩ := id C
  have hbA : ¬ (AA s) b := Nat.not_le.mpr hbl
  refine lv_aload_n hx hb dL_law_460 rfl (lv_at hl 1 rfl) ?_
  refine lv_aload_n hx hb dL_law_461 rfl (lv_at hl 0 rfl) ?_
  refine lv_iload hx hb dL_law_462 (lv_at hl 5 rfl) ?_
  refine lv_iconst (v := 1) hx hb dL_law_464 (by decide) ?_
  refine lv_iadd hx hb dL_law_465 ?_
  refine va_sld hx hb hX hbl hbA hS h1 dL_law_466 ?_
  refine lv_aload_n hx hb dL_law_467 rfl (lv_at hl 0 rfl) ?_
  refine lv_iload hx hb dL_law_468 (lv_at hl 5 rfl) ?_
  refine lv_iconst (v := 2) hx hb dL_law_470 (by decide) ?_
  refine lv_iadd hx hb dL_law_471 ?_
  refine va_sld hx hb hX hbl hbA hS h2 dL_law_472 ?_
  refine lv_aload_n hx hb dL_law_473 rfl (lv_at hl 3 rfl) ?_
  refine callW C hK hX9 hS9 hZ9 hP hD hS (lL_order_n l sa ck ad g o (xs (x + 1).toNatClampNeg) (xs (x + 2).toNatClampNeg) (r, g') hj) sw_order tw_247 (by decide) rfl hl.1 (rest := []) rfl (Nat.le_of_ble_eq_true rfl) hc dL_law_474 (fun H locs hP hD hS => ?_)
  have hP : va_P D vwCl (wW ck ad g' (vp_updL o (0 : Int32).toNatClampNeg (r.toInt64)) od th mi di po be mm ee fa fb) H := hP
  have hD : va_D (AA s) (wW ck ad g' (vp_updL o (0 : Int32).toNatClampNeg (r.toInt64)) od th mi di po be mm ee fa fb) := hD
  refine W.eq (g2 := F0 m 477 ls [.int 0]) rfl ?_
  refine lv_istore (lv' := [(6, .int 0), (0, .ref b), (1, .ref (ad 0)), (2, .ref (ad 4)), (3, .ref (ad 2)), (4, .ref (ad 3)), (5, .int x)]) hx hb dL_law_477 hl (by decide) rfl (fun ls hl => ?_)
  refine lv_aload_n hx hb dL_law_479 rfl (lv_at hl 3 rfl) ?_
  refine lv_aload_n hx hb dL_law_480 rfl (lv_at hl 1 rfl) ?_
  refine lv_iload hx hb dL_law_481 (lv_at hl 6 rfl) ?_
  refine lv_iconst (v := 1) hx hb dL_law_483 (by decide) ?_
  refine lv_iadd hx hb dL_law_484 ?_
  refine va_sld hx hb hX hbl hbA hS h1 dL_law_485 ?_
  refine lv_aload_n hx hb dL_law_486 rfl (lv_at hl 1 rfl) ?_
  refine lv_iload hx hb dL_law_487 (lv_at hl 6 rfl) ?_
  refine lv_iconst (v := 2) hx hb dL_law_489 (by decide) ?_
  refine lv_iadd hx hb dL_law_490 ?_
  refine va_sld hx hb hX hbl hbA hS h2 dL_law_491 ?_
  refine callWM C hK hX9 hP hD hS (cX2_order_met l ck (fun i => ad (i + 4)) th mi di po be mm ee fa fb (xs (x + 1).toNatClampNeg) (xs (x + 2).toNatClampNeg) (r, 0, mi', di', po', be', mm', ee', fa', fb') hm) vc_X2_order tw_536 (by decide) rfl hl.1 (rest := []) rfl (Nat.le_of_ble_eq_true rfl) (by have := hc; show cells + 1 ≤ 1043 ∧ slots + 6 ≤ 8592; omega) dL_law_492 (fun H locs hP hD hS => ?_)
  have hP : va_P D vwCl (wW ck ad g' (vp_updL o (0 : Int32).toNatClampNeg (r.toInt64)) od 0 mi' di' po' be' mm' ee' fa' fb') H := hP
  have hD : va_D (AA s) (wW ck ad g' (vp_updL o (0 : Int32).toNatClampNeg (r.toInt64)) od 0 mi' di' po' be' mm' ee' fa' fb') := hD
  refine W.eq (g2 := F0 m 495 ls [.int r]) rfl ?_
  refine lv_istore (lv' := [(7, .int r), (6, .int 0), (0, .ref b), (1, .ref (ad 0)), (2, .ref (ad 4)), (3, .ref (ad 2)), (4, .ref (ad 3)), (5, .int x)]) hx hb dL_law_495 hl (by decide) rfl (fun ls hl => ?_)
  refine lv_aload_n hx hb dL_law_497 rfl (lv_at hl 4 rfl) ?_
  refine callWM C hK hX9 hP hD hS (cX2_thrown_met l ck (fun i => ad (i + 4)) 0 mi' di' po' be' mm' ee' fa' fb' (0, 0, mi', di', po', be', mm', ee', fa', fb') rfl) vc_X2_thrown tw_354 (by decide) rfl hl.1 (As := []) (rest := []) rfl (Nat.le_of_ble_eq_true rfl) (by have := hc; show cells + 1 ≤ 1043 ∧ slots + 6 ≤ 8592; omega) dL_law_498 (fun H locs hP hD hS => ?_)
  have hP : va_P D vwCl (wW ck ad g' (vp_updL o (0 : Int32).toNatClampNeg (r.toInt64)) od 0 mi' di' po' be' mm' ee' fa' fb') H := hP
  have hD : va_D (AA s) (wW ck ad g' (vp_updL o (0 : Int32).toNatClampNeg (r.toInt64)) od 0 mi' di' po' be' mm' ee' fa' fb') := hD
  refine W.eq (g2 := F0 m 501 ls [.int 0]) rfl ?_
  refine lv_iload hx hb dL_law_501 (lv_at hl 1 rfl) ?_
  refine lv_icmp_eq (tgt := 508) hx hb dL_law_503 (by decide) (fun _ => ?_) (fun c1 => absurd rfl c1)
  refine lv_iload hx hb dL_law_508 (lv_at hl 1 rfl) ?_
  refine lv_if_ne (tgt := 525) hx hb dL_law_510 (by decide) (fun c1 => absurd rfl c1) (fun _ => ?_)
  refine lv_aload_n hx hb dL_law_513 rfl (lv_at hl 5 rfl) ?_
  refine lv_iconst (v := 0) hx hb dL_law_514 (by decide) ?_
  refine va_lald hx hb hK hP 2 1 rfl rfl (ok_in (by decide)) dL_law_515 ?_
  refine lv_iload hx hb dL_law_516 (lv_at hl 0 rfl) ?_
  refine lv_i2l hx hb dL_law_518 rfl ?_
  refine lc_eq hx hb (tgt := 525) dL_law_519 dL_law_520 (by decide) (fun _ => ?_) (fun c1 => absurd (if_pos rfl) c1)
  refine lv_goto (tgt := 771) hx hb dL_law_525 (by decide) ?_
  exact kc H locs ls hP hD hS (lv_sub hl [2, 3, 4, 5, 6, 7] rfl)
set_option maxHeartbeats 4000000 in
set_option maxRecDepth 100000 in
theorem law_order_t1 {p : Program} {l : Launch} {e : Env} {s : State} {m : MethodId} {below : List Frame} {meth : Method} {c : Code} {D : va_G} {b L : Nat} {xs : Nat → Int32} {ck : Nat → ClassId} {ad : Nat → Nat} {sa : Nat → Nat} {H : Heap} {locs : List Loc} {cells slots : Nat} {Q : State → Prop} {ls : Array Slot} {x : Int32} {g o : NL} {od : Nat → UInt64} {th : Int32} {mi : NI} {di : NL} {po : NI} {be : Int32} {mm : Int64} {ee : Int32} {fa fb : NI} (X : LX p l s m meth c b L xs D ck sa) (hP : va_P D vwCl (wW ck ad g o od th mi di po be mm ee fa fb) H) (hD : va_D (AA s) (wW ck ad g o od th mi di po be mm ee fa fb)) (hS : va_S (AA s) s.heap H locs) (hl : lv_has ls 9 [(0, .ref b), (1, .ref (ad 0)), (2, .ref (ad 4)), (3, .ref (ad 2)), (4, .ref (ad 3)), (5, .int x)]) (h1 : vp_in (x + 1) L) (h2 : vp_in (x + 2) L) (hc : cells + 1 ≤ 1043 ∧ slots + 6 ≤ 8592) (r : Int32) (mi' : NI) (di' : NL) (po' : NI) (be' : Int32) (mm' : Int64) (ee' : Int32) (fa' fb' : NI) (hj : tX0_order g (xs (x + 1).toNatClampNeg) (xs (x + 2).toNatClampNeg) = some 1) (hm : jX2_order th mi di po be mm ee fa fb (xs (x + 1).toNatClampNeg) (xs (x + 2).toNatClampNeg) = some (r, 1, mi', di', po', be', mm', ee', fa', fb'))
    (kc : ∀ (H1 : Heap) (locs1 : List Loc) (ls1 : Array Slot), va_P D vwCl (wW ck ad g o od 1 mi' di' po' be' mm' ee' fa' fb') H1 → va_D (AA s) (wW ck ad g o od 1 mi' di' po' be' mm' ee' fa' fb') → va_S (AA s) s.heap H1 locs1 → lv_has ls1 9 [(0, .ref b), (1, .ref (ad 0)), (2, .ref (ad 4)), (3, .ref (ad 2)), (4, .ref (ad 3)), (5, .int x)] → W p l e room_1 s m #[Value.ref b] below meth c H1 locs1 (cells + 1) (slots + 6) Q (F0 m 771 ls1 [])) : W p l e room_1 s m #[Value.ref b] below meth c H locs cells slots Q (F0 m 460 ls []) := by
  obtain ⟨C, hK, hX9, hS9, hZ9, hX, hbl, hl0⟩ := id X
  obtain ⟨hx, hb, hml, hown, hg, hr, hlocks⟩ := id C
  have hbA : ¬ (AA s) b := Nat.not_le.mpr hbl
  refine lv_aload_n hx hb dL_law_460 rfl (lv_at hl 1 rfl) ?_
  refine lv_aload_n hx hb dL_law_461 rfl (lv_at hl 0 rfl) ?_
  refine lv_iload hx hb dL_law_462 (lv_at hl 5 rfl) ?_
  refine lv_iconst (v := 1) hx hb dL_law_464 (by decide) ?_
  refine lv_iadd hx hb dL_law_465 ?_
  refine va_sld hx hb hX hbl hbA hS h1 dL_law_466 ?_
  refine lv_aload_n hx hb dL_law_467 rfl (lv_at hl 0 rfl) ?_
  refine lv_iload hx hb dL_law_468 (lv_at hl 5 rfl) ?_
  refine lv_iconst (v := 2) hx hb dL_law_470 (by decide) ?_
  refine lv_iadd hx hb dL_law_471 ?_
  refine va_sld hx hb hX hbl hbA hS h2 dL_law_472 ?_
  refine lv_aload_n hx hb dL_law_473 rfl (lv_at hl 3 rfl) ?_
  refine callW C hK hX9 hS9 hZ9 hP hD hS (lL_order_t1 l hl0 sa ck ad g o (xs (x + 1).toNatClampNeg) (xs (x + 2).toNatClampNeg) hj) sw_order tw_247 (by decide) rfl hl.1 (rest := []) rfl (Nat.le_of_ble_eq_true rfl) hc dL_law_474 (fun H locs hP hD hS => ?_)
  have hP : va_P D vwCl (wW ck ad g o od th mi di po be mm ee fa fb) H := hP
  have hD : va_D (AA s) (wW ck ad g o od th mi di po be mm ee fa fb) := hD
  refine W.eq (g2 := F0 m 477 ls [.int 1]) rfl ?_
  refine lv_istore (lv' := [(6, .int 1), (0, .ref b), (1, .ref (ad 0)), (2, .ref (ad 4)), (3, .ref (ad 2)), (4, .ref (ad 3)), (5, .int x)]) hx hb dL_law_477 hl (by decide) rfl (fun ls hl => ?_)
  refine lv_aload_n hx hb dL_law_479 rfl (lv_at hl 3 rfl) ?_
  refine lv_aload_n hx hb dL_law_480 rfl (lv_at hl 1 rfl) ?_
  refine lv_iload hx hb dL_law_481 (lv_at hl 6 rfl) ?_
  refine lv_iconst (v := 1) hx hb dL_law_483 (by decide) ?_
  refine lv_iadd hx hb dL_law_484 ?_
  refine va_sld hx hb hX hbl hbA hS h1 dL_law_485 ?_
  refine lv_aload_n hx hb dL_law_486 rfl (lv_at hl 1 rfl) ?_
  refine lv_iload hx hb dL_law_487 (lv_at hl 6 rfl) ?_
  refine lv_iconst (v := 2) hx hb dL_law_489 (by decide) ?_
  refine lv_iadd hx hb dL_law_490 ?_
  refine va_sld hx hb hX hbl hbA hS h2 dL_law_491 ?_
  refine callWM C hK hX9 hP hD hS (cX2_order_met l ck (fun i => ad (i + 4)) th mi di po be mm ee fa fb (xs (x + 1).toNatClampNeg) (xs (x + 2).toNatClampNeg) (r, 1, mi', di', po', be', mm', ee', fa', fb') hm) vc_X2_order tw_536 (by decide) rfl hl.1 (rest := []) rfl (Nat.le_of_ble_eq_true rfl) (by have := hc; show cells + 1 ≤ 1043 ∧ slots + 6 ≤ 8592; omega) dL_law_492 (fun H locs hP hD hS => ?_)
  have hP : va_P D vwCl (wW ck ad g o od 1 mi' di' po' be' mm' ee' fa' fb') H := hP
  have hD : va_D (AA s) (wW ck ad g o od 1 mi' di' po' be' mm' ee' fa' fb') := hD
  refine W.eq (g2 := F0 m 495 ls [.int r]) rfl ?_
  refine lv_istore (lv' := [(7, .int r), (6, .int 1), (0, .ref b), (1, .ref (ad 0)), (2, .ref (ad 4)), (3, .ref (ad 2)), (4, .ref (ad 3)), (5, .int x)]) hx hb dL_law_495 hl (by decide) rfl (fun ls hl => ?_)
  refine lv_aload_n hx hb dL_law_497 rfl (lv_at hl 4 rfl) ?_
  refine callWM C hK hX9 hP hD hS (cX2_thrown_met l ck (fun i => ad (i + 4)) 1 mi' di' po' be' mm' ee' fa' fb' (1, 1, mi', di', po', be', mm', ee', fa', fb') rfl) vc_X2_thrown tw_354 (by decide) rfl hl.1 (As := []) (rest := []) rfl (Nat.le_of_ble_eq_true rfl) (by have := hc; show cells + 1 ≤ 1043 ∧ slots + 6 ≤ 8592; omega) dL_law_498 (fun H locs hP hD hS => ?_)
  have hP : va_P D vwCl (wW ck ad g o od 1 mi' di' po' be' mm' ee' fa' fb') H := hP
  have hD : va_D (AA s) (wW ck ad g o od 1 mi' di' po' be' mm' ee' fa' fb') := hD
  refine W.eq (g2 := F0 m 501 ls [.int 1]) rfl ?_
  refine lv_iload hx hb dL_law_501 (lv_at hl 1 rfl) ?_
  refine lv_icmp_eq (tgt := 508) hx hb dL_law_503 (by decide) (fun _ => ?_) (fun c1 => absurd rfl c1)
  refine lv_iload hx hb dL_law_508 (lv_at hl 1 rfl) ?_
  refine lv_if_ne (tgt := 525) hx hb dL_law_510 (by decide) (fun _ => ?_) (fun c1 => absurd c1 (by decide))
  refine lv_goto (tgt := 771) hx hb dL_law_525 (by decide) ?_
  exact kc H locs ls hP hD hS (lv_sub hl [2, 3, 4, 5, 6, 7] rfl)
theorem sw_digits : SW yL_digits cL_digits 4 [(0, 8, 11, 13)] 3 := ⟨tw_255, tw_0, tw_256, by decide +kernel⟩
set_option maxHeartbeats 4000000 in
set_option maxRecDepth 100000 in
theorem law_digits_n {p : Program} {l : Launch} {e : Env} {s : State} {m : MethodId} {below : List Frame} {meth : Method} {c : Code} {D : va_G} {b L : Nat} {xs : Nat → Int32} {ck : Nat → ClassId} {ad : Nat → Nat} {sa : Nat → Nat} {H : Heap} {locs : List Loc} {cells slots : Nat} {Q : State → Prop} {ls : Array Slot} {x : Int32} {g o : NL} {od : Nat → UInt64} {th : Int32} {mi : NI} {di : NL} {po : NI} {be : Int32} {mm : Int64} {ee : Int32} {fa fb : NI} (X : LX p l s m meth c b L xs D ck sa) (hP : va_P D vwCl (wW ck ad g o od th mi di po be mm ee fa fb) H) (hD : va_D (AA s) (wW ck ad g o od th mi di po be mm ee fa fb)) (hS : va_S (AA s) s.heap H locs) (hl : lv_has ls 9 [(0, .ref b), (1, .ref (ad 0)), (2, .ref (ad 4)), (3, .ref (ad 2)), (4, .ref (ad 3)), (5, .int x)]) (h1 : vp_in (x + 1) L) (hc : cells + 1 ≤ 1043 ∧ slots + 6 ≤ 8592) (r : Int64) (g' : NL) (mi' : NI) (di' : NL) (po' : NI) (be' : Int32) (mm' : Int64) (ee' : Int32) (fa' fb' : NI) (hj : jX0_digits g (xs (x + 1).toNatClampNeg) = some (r, g')) (hm : jX2_digits th mi di po be mm ee fa fb (xs (x + 1).toNatClampNeg) = some (r, 0, mi', di', po', be', mm', ee', fa', fb'))
    (kc : ∀ (H1 : Heap) (locs1 : List Loc) (ls1 : Array Slot), va_P D vwCl (wW ck ad g' (vp_updL o (0 : Int32).toNatClampNeg (r)) od 0 mi' di' po' be' mm' ee' fa' fb') H1 → va_D (AA s) (wW ck ad g' (vp_updL o (0 : Int32).toNatClampNeg (r)) od 0 mi' di' po' be' mm' ee' fa' fb') → va_S (AA s) s.heap H1 locs1 → lv_has ls1 9 [(0, .ref b), (1, .ref (ad 0)), (2, .ref (ad 4)), (3, .ref (ad 2)), (4, .ref (ad 3)), (5, .int x)] → W p l e room_1 s m #[Value.ref b] below meth c H1 locs1 (cells + 1) (slots + 6) Q (F0 m 771 ls1 [])) : W p l e room_1 s m #[Value.ref b] below meth c H locs cells slots Q (F0 m 528 ls []) := by
  obtain ⟨C, hK, hX9, hS9, hZ9, hX, hbl, hl0⟩ := id X
  obtain ⟨hx, hb, hml, hown, hg, hr, hlocks⟩ := id C
  have hbA : ¬ (AA s) b := Nat.not_le.mpr hbl
  refine lv_aload_n hx hb dL_law_528 rfl (lv_at hl 1 rfl) ?_
  refine lv_aload_n hx hb dL_law_529 rfl (lv_at hl 0 rfl) ?_
  refine lv_iload hx hb dL_law_530 (lv_at hl 5 rfl) ?_
  refine lv_iconst (v := 1) hx hb dL_law_532 (by decide) ?_
  refine lv_iadd hx hb dL_law_533 ?_
  refine va_sld hx hb hX hbl hbA hS h1 dL_law_534 ?_
  refine lv_aload_n hx hb dL_law_535 rfl (lv_at hl 3 rfl) ?_
  refine callW C hK hX9 hS9 hZ9 hP hD hS (lL_digits_n l sa ck ad g o (xs (x + 1).toNatClampNeg) (r, g') hj) sw_digits tw_254 (by decide) rfl hl.1 (rest := []) rfl (Nat.le_of_ble_eq_true rfl) hc dL_law_536 (fun H locs hP hD hS => ?_)
  have hP : va_P D vwCl (wW ck ad g' (vp_updL o (0 : Int32).toNatClampNeg (r)) od th mi di po be mm ee fa fb) H := hP
  have hD : va_D (AA s) (wW ck ad g' (vp_updL o (0 : Int32).toNatClampNeg (r)) od th mi di po be mm ee fa fb) := hD
  refine W.eq (g2 := F0 m 539 ls [.int 0]) rfl ?_
  refine lv_istore (lv' := [(6, .int 0), (0, .ref b), (1, .ref (ad 0)), (2, .ref (ad 4)), (3, .ref (ad 2)), (4, .ref (ad 3)), (5, .int x)]) hx hb dL_law_539 hl (by decide) rfl (fun ls hl => ?_)
  refine lv_aload_n hx hb dL_law_541 rfl (lv_at hl 3 rfl) ?_
  refine lv_aload_n hx hb dL_law_542 rfl (lv_at hl 1 rfl) ?_
  refine lv_iload hx hb dL_law_543 (lv_at hl 6 rfl) ?_
  refine lv_iconst (v := 1) hx hb dL_law_545 (by decide) ?_
  refine lv_iadd hx hb dL_law_546 ?_
  refine va_sld hx hb hX hbl hbA hS h1 dL_law_547 ?_
  refine callWM C hK hX9 hP hD hS (cX2_digits_met l ck (fun i => ad (i + 4)) th mi di po be mm ee fa fb (xs (x + 1).toNatClampNeg) (r, 0, mi', di', po', be', mm', ee', fa', fb') hm) vc_X2_digits tw_540 (by decide) rfl hl.1 (rest := []) rfl (Nat.le_of_ble_eq_true rfl) (by have := hc; show cells + 1 ≤ 1043 ∧ slots + 6 ≤ 8592; omega) dL_law_548 (fun H locs hP hD hS => ?_)
  have hP : va_P D vwCl (wW ck ad g' (vp_updL o (0 : Int32).toNatClampNeg (r)) od 0 mi' di' po' be' mm' ee' fa' fb') H := hP
  have hD : va_D (AA s) (wW ck ad g' (vp_updL o (0 : Int32).toNatClampNeg (r)) od 0 mi' di' po' be' mm' ee' fa' fb') := hD
  refine W.eq (g2 := F0 m 551 ls [.long r]) rfl ?_
  refine lv_lstore (lv' := [(7, .long r), (6, .int 0), (0, .ref b), (1, .ref (ad 0)), (2, .ref (ad 4)), (3, .ref (ad 2)), (4, .ref (ad 3)), (5, .int x)]) hx hb dL_law_551 hl (by decide) rfl (fun ls hl => ?_)
  refine lv_aload_n hx hb dL_law_553 rfl (lv_at hl 4 rfl) ?_
  refine callWM C hK hX9 hP hD hS (cX2_thrown_met l ck (fun i => ad (i + 4)) 0 mi' di' po' be' mm' ee' fa' fb' (0, 0, mi', di', po', be', mm', ee', fa', fb') rfl) vc_X2_thrown tw_354 (by decide) rfl hl.1 (As := []) (rest := []) rfl (Nat.le_of_ble_eq_true rfl) (by have := hc; show cells + 1 ≤ 1043 ∧ slots + 6 ≤ 8592; omega) dL_law_554 (fun H locs hP hD hS => ?_)
  have hP : va_P D vwCl (wW ck ad g' (vp_updL o (0 : Int32).toNatClampNeg (r)) od 0 mi' di' po' be' mm' ee' fa' fb') H := hP
  have hD : va_D (AA s) (wW ck ad g' (vp_updL o (0 : Int32).toNatClampNeg (r)) od 0 mi' di' po' be' mm' ee' fa' fb') := hD
  refine W.eq (g2 := F0 m 557 ls [.int 0]) rfl ?_
  refine lv_iload hx hb dL_law_557 (lv_at hl 1 rfl) ?_
  refine lv_icmp_eq (tgt := 564) hx hb dL_law_559 (by decide) (fun _ => ?_) (fun c1 => absurd rfl c1)
  refine lv_iload hx hb dL_law_564 (lv_at hl 1 rfl) ?_
  refine lv_if_ne (tgt := 580) hx hb dL_law_566 (by decide) (fun c1 => absurd rfl c1) (fun _ => ?_)
  refine lv_aload_n hx hb dL_law_569 rfl (lv_at hl 5 rfl) ?_
  refine lv_iconst (v := 0) hx hb dL_law_570 (by decide) ?_
  refine va_lald hx hb hK hP 2 1 rfl rfl (ok_in (by decide)) dL_law_571 ?_
  refine lv_lload hx hb dL_law_572 (lv_at hl 0 rfl) ?_
  refine lc_eq hx hb (tgt := 580) dL_law_574 dL_law_575 (by decide) (fun _ => ?_) (fun c1 => absurd (if_pos rfl) c1)
  refine lv_goto (tgt := 771) hx hb dL_law_580 (by decide) ?_
  exact kc H locs ls hP hD hS (lv_sub hl [2, 3, 4, 5, 6, 7] rfl)
set_option maxHeartbeats 4000000 in
set_option maxRecDepth 100000 in
theorem law_digits_t1 {p : Program} {l : Launch} {e : Env} {s : State} {m : MethodId} {below : List Frame} {meth : Method} {c : Code} {D : va_G} {b L : Nat} {xs : Nat → Int32} {ck : Nat → ClassId} {ad : Nat → Nat} {sa : Nat → Nat} {H : Heap} {locs : List Loc} {cells slots : Nat} {Q : State → Prop} {ls : Array Slot} {x : Int32} {g o : NL} {od : Nat → UInt64} {th : Int32} {mi : NI} {di : NL} {po : NI} {be : Int32} {mm : Int64} {ee : Int32} {fa fb : NI} (X : LX p l s m meth c b L xs D ck sa) (hP : va_P D vwCl (wW ck ad g o od th mi di po be mm ee fa fb) H) (hD : va_D (AA s) (wW ck ad g o od th mi di po be mm ee fa fb)) (hS : va_S (AA s) s.heap H locs) (hl : lv_has ls 9 [(0, .ref b), (1, .ref (ad 0)), (2, .ref (ad 4)), (3, .ref (ad 2)), (4, .ref (ad 3)), (5, .int x)]) (h1 : vp_in (x + 1) L) (hc : cells + 1 ≤ 1043 ∧ slots + 6 ≤ 8592) (r : Int64) (mi' : NI) (di' : NL) (po' : NI) (be' : Int32) (mm' : Int64) (ee' : Int32) (fa' fb' : NI) (hj : tX0_digits g (xs (x + 1).toNatClampNeg) = some 1) (hm : jX2_digits th mi di po be mm ee fa fb (xs (x + 1).toNatClampNeg) = some (r, 1, mi', di', po', be', mm', ee', fa', fb'))
    (kc : ∀ (H1 : Heap) (locs1 : List Loc) (ls1 : Array Slot), va_P D vwCl (wW ck ad g o od 1 mi' di' po' be' mm' ee' fa' fb') H1 → va_D (AA s) (wW ck ad g o od 1 mi' di' po' be' mm' ee' fa' fb') → va_S (AA s) s.heap H1 locs1 → lv_has ls1 9 [(0, .ref b), (1, .ref (ad 0)), (2, .ref (ad 4)), (3, .ref (ad 2)), (4, .ref (ad 3)), (5, .int x)] → W p l e room_1 s m #[Value.ref b] below meth c H1 locs1 (cells + 1) (slots + 6) Q (F0 m 771 ls1 [])) : W p l e room_1 s m #[Value.ref b] below meth c H locs cells slots Q (F0 m 528 ls []) := by
  obtain ⟨C, hK, hX9, hS9, hZ9, hX, hbl, hl0⟩ := id X
  obtain ⟨hx, hb, hml, hown, hg, hr, hlocks⟩ := id C
  have hbA : ¬ (AA s) b := Nat.not_le.mpr hbl
  refine lv_aload_n hx hb dL_law_528 rfl (lv_at hl 1 rfl) ?_
  refine lv_aload_n hx hb dL_law_529 rfl (lv_at hl 0 rfl) ?_
  refine lv_iload hx hb dL_law_530 (lv_at hl 5 rfl) ?_
  refine lv_iconst (v := 1) hx hb dL_law_532 (by decide) ?_
  refine lv_iadd hx hb dL_law_533 ?_
  refine va_sld hx hb hX hbl hbA hS h1 dL_law_534 ?_
  refine lv_aload_n hx hb dL_law_535 rfl (lv_at hl 3 rfl) ?_
  refine callW C hK hX9 hS9 hZ9 hP hD hS (lL_digits_t1 l hl0 sa ck ad g o (xs (x + 1).toNatClampNeg) hj) sw_digits tw_254 (by decide) rfl hl.1 (rest := []) rfl (Nat.le_of_ble_eq_true rfl) hc dL_law_536 (fun H locs hP hD hS => ?_)
  have hP : va_P D vwCl (wW ck ad g o od th mi di po be mm ee fa fb) H := hP
  have hD : va_D (AA s) (wW ck ad g o od th mi di po be mm ee fa fb) := hD
  refine W.eq (g2 := F0 m 539 ls [.int 1]) rfl ?_
  refine lv_istore (lv' := [(6, .int 1), (0, .ref b), (1, .ref (ad 0)), (2, .ref (ad 4)), (3, .ref (ad 2)), (4, .ref (ad 3)), (5, .int x)]) hx hb dL_law_539 hl (by decide) rfl (fun ls hl => ?_)
  refine lv_aload_n hx hb dL_law_541 rfl (lv_at hl 3 rfl) ?_
  refine lv_aload_n hx hb dL_law_542 rfl (lv_at hl 1 rfl) ?_
  refine lv_iload hx hb dL_law_543 (lv_at hl 6 rfl) ?_
  refine lv_iconst (v := 1) hx hb dL_law_545 (by decide) ?_
  refine lv_iadd hx hb dL_law_546 ?_
  refine va_sld hx hb hX hbl hbA hS h1 dL_law_547 ?_
  refine callWM C hK hX9 hP hD hS (cX2_digits_met l ck (fun i => ad (i + 4)) th mi di po be mm ee fa fb (xs (x + 1).toNatClampNeg) (r, 1, mi', di', po', be', mm', ee', fa', fb') hm) vc_X2_digits tw_540 (by decide) rfl hl.1 (rest := []) rfl (Nat.le_of_ble_eq_true rfl) (by have := hc; show cells + 1 ≤ 1043 ∧ slots + 6 ≤ 8592; omega) dL_law_548 (fun H locs hP hD hS => ?_)
  have hP : va_P D vwCl (wW ck ad g o od 1 mi' di' po' be' mm' ee' fa' fb') H := hP
  have hD : va_D (AA s) (wW ck ad g o od 1 mi' di' po' be' mm' ee' fa' fb') := hD
  refine W.eq (g2 := F0 m 551 ls [.long r]) rfl ?_
  refine lv_lstore (lv' := [(7, .long r), (6, .int 1), (0, .ref b), (1, .ref (ad 0)), (2, .ref (ad 4)), (3, .ref (ad 2)), (4, .ref (ad 3)), (5, .int x)]) hx hb dL_law_551 hl (by decide) rfl (fun ls hl => ?_)
  refine lv_aload_n hx hb dL_law_553 rfl (lv_at hl 4 rfl) ?_
  refine callWM C hK hX9 hP hD hS (cX2_thrown_met l ck (fun i => ad (i + 4)) 1 mi' di' po' be' mm' ee' fa' fb' (1, 1, mi', di', po', be', mm', ee', fa', fb') rfl) vc_X2_thrown tw_354 (by decide) rfl hl.1 (As := []) (rest := []) rfl (Nat.le_of_ble_eq_true rfl) (by have := hc; show cells + 1 ≤ 1043 ∧ slots + 6 ≤ 8592; omega) dL_law_554 (fun H locs hP hD hS => ?_)
  have hP : va_P D vwCl (wW ck ad g o od 1 mi' di' po' be' mm' ee' fa' fb') H := hP
  have hD : va_D (AA s) (wW ck ad g o od 1 mi' di' po' be' mm' ee' fa' fb') := hD
  refine W.eq (g2 := F0 m 557 ls [.int 1]) rfl ?_
  refine lv_iload hx hb dL_law_557 (lv_at hl 1 rfl) ?_
  refine lv_icmp_eq (tgt := 564) hx hb dL_law_559 (by decide) (fun _ => ?_) (fun c1 => absurd rfl c1)
  refine lv_iload hx hb dL_law_564 (lv_at hl 1 rfl) ?_
  refine lv_if_ne (tgt := 580) hx hb dL_law_566 (by decide) (fun _ => ?_) (fun c1 => absurd c1 (by decide))
  refine lv_goto (tgt := 771) hx hb dL_law_580 (by decide) ?_
  exact kc H locs ls hP hD hS (lv_sub hl [2, 3, 4, 5, 6, 7] rfl)
theorem sw_exponent : SW yL_exponent cL_exponent 4 [(0, 9, 12, 13)] 3 := ⟨tw_262, tw_0, tw_263, by decide +kernel⟩
set_option maxHeartbeats 4000000 in
set_option maxRecDepth 100000 in
theorem law_exponent_n {p : Program} {l : Launch} {e : Env} {s : State} {m : MethodId} {below : List Frame} {meth : Method} {c : Code} {D : va_G} {b L : Nat} {xs : Nat → Int32} {ck : Nat → ClassId} {ad : Nat → Nat} {sa : Nat → Nat} {H : Heap} {locs : List Loc} {cells slots : Nat} {Q : State → Prop} {ls : Array Slot} {x : Int32} {g o : NL} {od : Nat → UInt64} {th : Int32} {mi : NI} {di : NL} {po : NI} {be : Int32} {mm : Int64} {ee : Int32} {fa fb : NI} (X : LX p l s m meth c b L xs D ck sa) (hP : va_P D vwCl (wW ck ad g o od th mi di po be mm ee fa fb) H) (hD : va_D (AA s) (wW ck ad g o od th mi di po be mm ee fa fb)) (hS : va_S (AA s) s.heap H locs) (hl : lv_has ls 9 [(0, .ref b), (1, .ref (ad 0)), (2, .ref (ad 4)), (3, .ref (ad 2)), (4, .ref (ad 3)), (5, .int x)]) (h1 : vp_in (x + 1) L) (hc : cells + 1 ≤ 1043 ∧ slots + 6 ≤ 8592) (r : Int32) (g' : NL) (mi' : NI) (di' : NL) (po' : NI) (be' : Int32) (mm' : Int64) (ee' : Int32) (fa' fb' : NI) (hj : jX0_exponent g (xs (x + 1).toNatClampNeg) = some (r, g')) (hm : jX2_exponent th mi di po be mm ee fa fb (xs (x + 1).toNatClampNeg) = some (r, 0, mi', di', po', be', mm', ee', fa', fb'))
    (kc : ∀ (H1 : Heap) (locs1 : List Loc) (ls1 : Array Slot), va_P D vwCl (wW ck ad g' (vp_updL o (0 : Int32).toNatClampNeg (r.toInt64)) od 0 mi' di' po' be' mm' ee' fa' fb') H1 → va_D (AA s) (wW ck ad g' (vp_updL o (0 : Int32).toNatClampNeg (r.toInt64)) od 0 mi' di' po' be' mm' ee' fa' fb') → va_S (AA s) s.heap H1 locs1 → lv_has ls1 9 [(0, .ref b), (1, .ref (ad 0)), (2, .ref (ad 4)), (3, .ref (ad 2)), (4, .ref (ad 3)), (5, .int x)] → W p l e room_1 s m #[Value.ref b] below meth c H1 locs1 (cells + 1) (slots + 6) Q (F0 m 771 ls1 [])) : W p l e room_1 s m #[Value.ref b] below meth c H locs cells slots Q (F0 m 583 ls []) := by
  obtain ⟨C, hK, hX9, hS9, hZ9, hX, hbl, hl0⟩ := id X
  obtain ⟨hx, hb, hml, hown, hg, hr, hlocks⟩ := id C
  have hbA : ¬ (AA s) b := Nat.not_le.mpr hbl
  refine lv_aload_n hx hb dL_law_583 rfl (lv_at hl 1 rfl) ?_
  refine lv_aload_n hx hb dL_law_584 rfl (lv_at hl 0 rfl) ?_
  refine lv_iload hx hb dL_law_585 (lv_at hl 5 rfl) ?_
  refine lv_iconst (v := 1) hx hb dL_law_587 (by decide) ?_
  refine lv_iadd hx hb dL_law_588 ?_
  refine va_sld hx hb hX hbl hbA hS h1 dL_law_589 ?_
  refine lv_aload_n hx hb dL_law_590 rfl (lv_at hl 3 rfl) ?_
  refine callW C hK hX9 hS9 hZ9 hP hD hS (lL_exponent_n l sa ck ad g o (xs (x + 1).toNatClampNeg) (r, g') hj) sw_exponent tw_261 (by decide) rfl hl.1 (rest := []) rfl (Nat.le_of_ble_eq_true rfl) hc dL_law_591 (fun H locs hP hD hS => ?_)
  have hP : va_P D vwCl (wW ck ad g' (vp_updL o (0 : Int32).toNatClampNeg (r.toInt64)) od th mi di po be mm ee fa fb) H := hP
  have hD : va_D (AA s) (wW ck ad g' (vp_updL o (0 : Int32).toNatClampNeg (r.toInt64)) od th mi di po be mm ee fa fb) := hD
  refine W.eq (g2 := F0 m 594 ls [.int 0]) rfl ?_
  refine lv_istore (lv' := [(6, .int 0), (0, .ref b), (1, .ref (ad 0)), (2, .ref (ad 4)), (3, .ref (ad 2)), (4, .ref (ad 3)), (5, .int x)]) hx hb dL_law_594 hl (by decide) rfl (fun ls hl => ?_)
  refine lv_aload_n hx hb dL_law_596 rfl (lv_at hl 3 rfl) ?_
  refine lv_aload_n hx hb dL_law_597 rfl (lv_at hl 1 rfl) ?_
  refine lv_iload hx hb dL_law_598 (lv_at hl 6 rfl) ?_
  refine lv_iconst (v := 1) hx hb dL_law_600 (by decide) ?_
  refine lv_iadd hx hb dL_law_601 ?_
  refine va_sld hx hb hX hbl hbA hS h1 dL_law_602 ?_
  refine callWM C hK hX9 hP hD hS (cX2_exponent_met l ck (fun i => ad (i + 4)) th mi di po be mm ee fa fb (xs (x + 1).toNatClampNeg) (r, 0, mi', di', po', be', mm', ee', fa', fb') hm) vc_X2_exponent tw_544 (by decide) rfl hl.1 (rest := []) rfl (Nat.le_of_ble_eq_true rfl) (by have := hc; show cells + 1 ≤ 1043 ∧ slots + 6 ≤ 8592; omega) dL_law_603 (fun H locs hP hD hS => ?_)
  have hP : va_P D vwCl (wW ck ad g' (vp_updL o (0 : Int32).toNatClampNeg (r.toInt64)) od 0 mi' di' po' be' mm' ee' fa' fb') H := hP
  have hD : va_D (AA s) (wW ck ad g' (vp_updL o (0 : Int32).toNatClampNeg (r.toInt64)) od 0 mi' di' po' be' mm' ee' fa' fb') := hD
  refine W.eq (g2 := F0 m 606 ls [.int r]) rfl ?_
  refine lv_istore (lv' := [(7, .int r), (6, .int 0), (0, .ref b), (1, .ref (ad 0)), (2, .ref (ad 4)), (3, .ref (ad 2)), (4, .ref (ad 3)), (5, .int x)]) hx hb dL_law_606 hl (by decide) rfl (fun ls hl => ?_)
  refine lv_aload_n hx hb dL_law_608 rfl (lv_at hl 4 rfl) ?_
  refine callWM C hK hX9 hP hD hS (cX2_thrown_met l ck (fun i => ad (i + 4)) 0 mi' di' po' be' mm' ee' fa' fb' (0, 0, mi', di', po', be', mm', ee', fa', fb') rfl) vc_X2_thrown tw_354 (by decide) rfl hl.1 (As := []) (rest := []) rfl (Nat.le_of_ble_eq_true rfl) (by have := hc; show cells + 1 ≤ 1043 ∧ slots + 6 ≤ 8592; omega) dL_law_609 (fun H locs hP hD hS => ?_)
  have hP : va_P D vwCl (wW ck ad g' (vp_updL o (0 : Int32).toNatClampNeg (r.toInt64)) od 0 mi' di' po' be' mm' ee' fa' fb') H := hP
  have hD : va_D (AA s) (wW ck ad g' (vp_updL o (0 : Int32).toNatClampNeg (r.toInt64)) od 0 mi' di' po' be' mm' ee' fa' fb') := hD
  refine W.eq (g2 := F0 m 612 ls [.int 0]) rfl ?_
  refine lv_iload hx hb dL_law_612 (lv_at hl 1 rfl) ?_
  refine lv_icmp_eq (tgt := 619) hx hb dL_law_614 (by decide) (fun _ => ?_) (fun c1 => absurd rfl c1)
  refine lv_iload hx hb dL_law_619 (lv_at hl 1 rfl) ?_
  refine lv_if_ne (tgt := 636) hx hb dL_law_621 (by decide) (fun c1 => absurd rfl c1) (fun _ => ?_)
  refine lv_aload_n hx hb dL_law_624 rfl (lv_at hl 5 rfl) ?_
  refine lv_iconst (v := 0) hx hb dL_law_625 (by decide) ?_
  refine va_lald hx hb hK hP 2 1 rfl rfl (ok_in (by decide)) dL_law_626 ?_
  refine lv_iload hx hb dL_law_627 (lv_at hl 0 rfl) ?_
  refine lv_i2l hx hb dL_law_629 rfl ?_
  refine lc_eq hx hb (tgt := 636) dL_law_630 dL_law_631 (by decide) (fun _ => ?_) (fun c1 => absurd (if_pos rfl) c1)
  refine lv_goto (tgt := 771) hx hb dL_law_636 (by decide) ?_
  exact kc H locs ls hP hD hS (lv_sub hl [2, 3, 4, 5, 6, 7] rfl)
set_option maxHeartbeats 4000000 in
set_option maxRecDepth 100000 in
theorem law_exponent_t1 {p : Program} {l : Launch} {e : Env} {s : State} {m : MethodId} {below : List Frame} {meth : Method} {c : Code} {D : va_G} {b L : Nat} {xs : Nat → Int32} {ck : Nat → ClassId} {ad : Nat → Nat} {sa : Nat → Nat} {H : Heap} {locs : List Loc} {cells slots : Nat} {Q : State → Prop} {ls : Array Slot} {x : Int32} {g o : NL} {od : Nat → UInt64} {th : Int32} {mi : NI} {di : NL} {po : NI} {be : Int32} {mm : Int64} {ee : Int32} {fa fb : NI} (X : LX p l s m meth c b L xs D ck sa) (hP : va_P D vwCl (wW ck ad g o od th mi di po be mm ee fa fb) H) (hD : va_D (AA s) (wW ck ad g o od th mi di po be mm ee fa fb)) (hS : va_S (AA s) s.heap H locs) (hl : lv_has ls 9 [(0, .ref b), (1, .ref (ad 0)), (2, .ref (ad 4)), (3, .ref (ad 2)), (4, .ref (ad 3)), (5, .int x)]) (h1 : vp_in (x + 1) L) (hc : cells + 1 ≤ 1043 ∧ slots + 6 ≤ 8592) (r : Int32) (mi' : NI) (di' : NL) (po' : NI) (be' : Int32) (mm' : Int64) (ee' : Int32) (fa' fb' : NI) (hj : tX0_exponent g (xs (x + 1).toNatClampNeg) = some 1) (hm : jX2_exponent th mi di po be mm ee fa fb (xs (x + 1).toNatClampNeg) = some (r, 1, mi', di', po', be', mm', ee', fa', fb'))
    (kc : ∀ (H1 : Heap) (locs1 : List Loc) (ls1 : Array Slot), va_P D vwCl (wW ck ad g o od 1 mi' di' po' be' mm' ee' fa' fb') H1 → va_D (AA s) (wW ck ad g o od 1 mi' di' po' be' mm' ee' fa' fb') → va_S (AA s) s.heap H1 locs1 → lv_has ls1 9 [(0, .ref b), (1, .ref (ad 0)), (2, .ref (ad 4)), (3, .ref (ad 2)), (4, .ref (ad 3)), (5, .int x)] → W p l e room_1 s m #[Value.ref b] below meth c H1 locs1 (cells + 1) (slots + 6) Q (F0 m 771 ls1 [])) : W p l e room_1 s m #[Value.ref b] below meth c H locs cells slots Q (F0 m 583 ls []) := by
  obtain ⟨C, hK, hX9, hS9, hZ9, hX, hbl, hl0⟩ := id X
  obtain ⟨hx, hb, hml, hown, hg, hr, hlocks⟩ := id C
  have hbA : ¬ (AA s) b := Nat.not_le.mpr hbl
  refine lv_aload_n hx hb dL_law_583 rfl (lv_at hl 1 rfl) ?_
  refine lv_aload_n hx hb dL_law_584 rfl (lv_at hl 0 rfl) ?_
  refine lv_iload hx hb dL_law_585 (lv_at hl 5 rfl) ?_
  refine lv_iconst (v := 1) hx hb dL_law_587 (by decide) ?_
  refine lv_iadd hx hb dL_law_588 ?_
  refine va_sld hx hb hX hbl hbA hS h1 dL_law_589 ?_
  refine lv_aload_n hx hb dL_law_590 rfl (lv_at hl 3 rfl) ?_
  refine callW C hK hX9 hS9 hZ9 hP hD hS (lL_exponent_t1 l hl0 sa ck ad g o (xs (x + 1).toNatClampNeg) hj) sw_exponent tw_261 (by decide) rfl hl.1 (rest := []) rfl (Nat.le_of_ble_eq_true rfl) hc dL_law_591 (fun H locs hP hD hS => ?_)
  have hP : va_P D vwCl (wW ck ad g o od th mi di po be mm ee fa fb) H := hP
  have hD : va_D (AA s) (wW ck ad g o od th mi di po be mm ee fa fb) := hD
  refine W.eq (g2 := F0 m 594 ls [.int 1]) rfl ?_
  refine lv_istore (lv' := [(6, .int 1), (0, .ref b), (1, .ref (ad 0)), (2, .ref (ad 4)), (3, .ref (ad 2)), (4, .ref (ad 3)), (5, .int x)]) hx hb dL_law_594 hl (by decide) rfl (fun ls hl => ?_)
  refine lv_aload_n hx hb dL_law_596 rfl (lv_at hl 3 rfl) ?_
  refine lv_aload_n hx hb dL_law_597 rfl (lv_at hl 1 rfl) ?_
  refine lv_iload hx hb dL_law_598 (lv_at hl 6 rfl) ?_
  refine lv_iconst (v := 1) hx hb dL_law_600 (by decide) ?_
  refine lv_iadd hx hb dL_law_601 ?_
  refine va_sld hx hb hX hbl hbA hS h1 dL_law_602 ?_
  refine callWM C hK hX9 hP hD hS (cX2_exponent_met l ck (fun i => ad (i + 4)) th mi di po be mm ee fa fb (xs (x + 1).toNatClampNeg) (r, 1, mi', di', po', be', mm', ee', fa', fb') hm) vc_X2_exponent tw_544 (by decide) rfl hl.1 (rest := []) rfl (Nat.le_of_ble_eq_true rfl) (by have := hc; show cells + 1 ≤ 1043 ∧ slots + 6 ≤ 8592; omega) dL_law_603 (fun H locs hP hD hS => ?_)
  have hP : va_P D vwCl (wW ck ad g o od 1 mi' di' po' be' mm' ee' fa' fb') H := hP
  have hD : va_D (AA s) (wW ck ad g o od 1 mi' di' po' be' mm' ee' fa' fb') := hD
  refine W.eq (g2 := F0 m 606 ls [.int r]) rfl ?_
  refine lv_istore (lv' := [(7, .int r), (6, .int 1), (0, .ref b), (1, .ref (ad 0)), (2, .ref (ad 4)), (3, .ref (ad 2)), (4, .ref (ad 3)), (5, .int x)]) hx hb dL_law_606 hl (by decide) rfl (fun ls hl => ?_)
  refine lv_aload_n hx hb dL_law_608 rfl (lv_at hl 4 rfl) ?_
  refine callWM C hK hX9 hP hD hS (cX2_thrown_met l ck (fun i => ad (i + 4)) 1 mi' di' po' be' mm' ee' fa' fb' (1, 1, mi', di', po', be', mm', ee', fa', fb') rfl) vc_X2_thrown tw_354 (by decide) rfl hl.1 (As := []) (rest := []) rfl (Nat.le_of_ble_eq_true rfl) (by have := hc; show cells + 1 ≤ 1043 ∧ slots + 6 ≤ 8592; omega) dL_law_609 (fun H locs hP hD hS => ?_)
  have hP : va_P D vwCl (wW ck ad g o od 1 mi' di' po' be' mm' ee' fa' fb') H := hP
  have hD : va_D (AA s) (wW ck ad g o od 1 mi' di' po' be' mm' ee' fa' fb') := hD
  refine W.eq (g2 := F0 m 612 ls [.int 1]) rfl ?_
  refine lv_iload hx hb dL_law_612 (lv_at hl 1 rfl) ?_
  refine lv_icmp_eq (tgt := 619) hx hb dL_law_614 (by decide) (fun _ => ?_) (fun c1 => absurd rfl c1)
  refine lv_iload hx hb dL_law_619 (lv_at hl 1 rfl) ?_
  refine lv_if_ne (tgt := 636) hx hb dL_law_621 (by decide) (fun _ => ?_) (fun c1 => absurd c1 (by decide))
  refine lv_goto (tgt := 771) hx hb dL_law_636 (by decide) ?_
  exact kc H locs ls hP hD hS (lv_sub hl [2, 3, 4, 5, 6, 7] rfl)
theorem sw_value : SW yL_value cL_value 4 [(0, 8, 11, 13)] 3 := ⟨tw_269, tw_0, tw_270, by decide +kernel⟩
set_option maxHeartbeats 4000000 in
set_option maxRecDepth 100000 in
theorem law_value_n {p : Program} {l : Launch} {e : Env} {s : State} {m : MethodId} {below : List Frame} {meth : Method} {c : Code} {D : va_G} {b L : Nat} {xs : Nat → Int32} {ck : Nat → ClassId} {ad : Nat → Nat} {sa : Nat → Nat} {H : Heap} {locs : List Loc} {cells slots : Nat} {Q : State → Prop} {ls : Array Slot} {x : Int32} {g o : NL} {od : Nat → UInt64} {th : Int32} {mi : NI} {di : NL} {po : NI} {be : Int32} {mm : Int64} {ee : Int32} {fa fb : NI} (X : LX p l s m meth c b L xs D ck sa) (hP : va_P D vwCl (wW ck ad g o od th mi di po be mm ee fa fb) H) (hD : va_D (AA s) (wW ck ad g o od th mi di po be mm ee fa fb)) (hS : va_S (AA s) s.heap H locs) (hl : lv_has ls 9 [(0, .ref b), (1, .ref (ad 0)), (2, .ref (ad 4)), (3, .ref (ad 2)), (4, .ref (ad 3)), (5, .int x)]) (h1 : vp_in (x + 1) L) (hc : cells + 1 ≤ 1043 ∧ slots + 6 ≤ 8592) (r : UInt64) (g' : NL) (mi' : NI) (di' : NL) (po' : NI) (be' : Int32) (mm' : Int64) (ee' : Int32) (fa' fb' : NI) (hj : jX0_value g (xs (x + 1).toNatClampNeg) = some (r, g')) (hm : jX2_value th mi di po be mm ee fa fb (xs (x + 1).toNatClampNeg) = some (r, 0, mi', di', po', be', mm', ee', fa', fb')) (hd : Op.cmpValue (FP.dcmp r r) .l = 0)
    (kc : ∀ (H1 : Heap) (locs1 : List Loc) (ls1 : Array Slot), va_P D vwCl (wW ck ad g' o (vf_upd od (0 : Int32).toNatClampNeg r) 0 mi' di' po' be' mm' ee' fa' fb') H1 → va_D (AA s) (wW ck ad g' o (vf_upd od (0 : Int32).toNatClampNeg r) 0 mi' di' po' be' mm' ee' fa' fb') → va_S (AA s) s.heap H1 locs1 → lv_has ls1 9 [(0, .ref b), (1, .ref (ad 0)), (2, .ref (ad 4)), (3, .ref (ad 2)), (4, .ref (ad 3)), (5, .int x)] → W p l e room_1 s m #[Value.ref b] below meth c H1 locs1 (cells + 1) (slots + 6) Q (F0 m 771 ls1 [])) : W p l e room_1 s m #[Value.ref b] below meth c H locs cells slots Q (F0 m 639 ls []) := by
  obtain ⟨C, hK, hX9, hS9, hZ9, hX, hbl, hl0⟩ := id X
  obtain ⟨hx, hb, hml, hown, hg, hr, hlocks⟩ := id C
  have hbA : ¬ (AA s) b := Nat.not_le.mpr hbl
  refine lv_aload_n hx hb dL_law_639 rfl (lv_at hl 1 rfl) ?_
  refine lv_aload_n hx hb dL_law_640 rfl (lv_at hl 0 rfl) ?_
  refine lv_iload hx hb dL_law_641 (lv_at hl 5 rfl) ?_
  refine lv_iconst (v := 1) hx hb dL_law_643 (by decide) ?_
  refine lv_iadd hx hb dL_law_644 ?_
  refine va_sld hx hb hX hbl hbA hS h1 dL_law_645 ?_
  refine lv_aload hx hb dL_law_646 (lv_at hl 4 rfl) ?_
  refine callWd C hK hX9 hS9 hZ9 hP hD hS (lL_value_n l sa ck (adL ad) g od (xs (x + 1).toNatClampNeg) (r, g') hj) sw_value tw_268 (by decide) rfl hl.1 (rest := []) rfl (Nat.le_of_ble_eq_true rfl) hc dL_law_648 (fun H locs hP hD hS => ?_)
  have hP : va_P D vwCl (wW ck ad g' o (vf_upd od (0 : Int32).toNatClampNeg r) th mi di po be mm ee fa fb) H := hP
  have hD : va_D (AA s) (wW ck ad g' o (vf_upd od (0 : Int32).toNatClampNeg r) th mi di po be mm ee fa fb) := hD
  refine W.eq (g2 := F0 m 651 ls [.int 0]) rfl ?_
  refine lv_istore (lv' := [(6, .int 0), (0, .ref b), (1, .ref (ad 0)), (2, .ref (ad 4)), (3, .ref (ad 2)), (4, .ref (ad 3)), (5, .int x)]) hx hb dL_law_651 hl (by decide) rfl (fun ls hl => ?_)
  refine lv_aload_n hx hb dL_law_653 rfl (lv_at hl 3 rfl) ?_
  refine lv_aload_n hx hb dL_law_654 rfl (lv_at hl 1 rfl) ?_
  refine lv_iload hx hb dL_law_655 (lv_at hl 6 rfl) ?_
  refine lv_iconst (v := 1) hx hb dL_law_657 (by decide) ?_
  refine lv_iadd hx hb dL_law_658 ?_
  refine va_sld hx hb hX hbl hbA hS h1 dL_law_659 ?_
  refine callWM C hK hX9 hP hD hS (cX2_value_met l ck (fun i => ad (i + 4)) th mi di po be mm ee fa fb (xs (x + 1).toNatClampNeg) (r, 0, mi', di', po', be', mm', ee', fa', fb') hm) vc_X2_value tw_548 (by decide) rfl hl.1 (rest := []) rfl (Nat.le_of_ble_eq_true rfl) (by have := hc; show cells + 1 ≤ 1043 ∧ slots + 6 ≤ 8592; omega) dL_law_660 (fun H locs hP hD hS => ?_)
  have hP : va_P D vwCl (wW ck ad g' o (vf_upd od (0 : Int32).toNatClampNeg r) 0 mi' di' po' be' mm' ee' fa' fb') H := hP
  have hD : va_D (AA s) (wW ck ad g' o (vf_upd od (0 : Int32).toNatClampNeg r) 0 mi' di' po' be' mm' ee' fa' fb') := hD
  refine W.eq (g2 := F0 m 663 ls [.double r]) rfl ?_
  refine lv_dstore (lv' := [(7, .double r), (6, .int 0), (0, .ref b), (1, .ref (ad 0)), (2, .ref (ad 4)), (3, .ref (ad 2)), (4, .ref (ad 3)), (5, .int x)]) hx hb dL_law_663 hl (by decide) rfl (fun ls hl => ?_)
  refine lv_aload_n hx hb dL_law_665 rfl (lv_at hl 4 rfl) ?_
  refine callWM C hK hX9 hP hD hS (cX2_thrown_met l ck (fun i => ad (i + 4)) 0 mi' di' po' be' mm' ee' fa' fb' (0, 0, mi', di', po', be', mm', ee', fa', fb') rfl) vc_X2_thrown tw_354 (by decide) rfl hl.1 (As := []) (rest := []) rfl (Nat.le_of_ble_eq_true rfl) (by have := hc; show cells + 1 ≤ 1043 ∧ slots + 6 ≤ 8592; omega) dL_law_666 (fun H locs hP hD hS => ?_)
  have hP : va_P D vwCl (wW ck ad g' o (vf_upd od (0 : Int32).toNatClampNeg r) 0 mi' di' po' be' mm' ee' fa' fb') H := hP
  have hD : va_D (AA s) (wW ck ad g' o (vf_upd od (0 : Int32).toNatClampNeg r) 0 mi' di' po' be' mm' ee' fa' fb') := hD
  refine W.eq (g2 := F0 m 669 ls [.int 0]) rfl ?_
  refine lv_iload hx hb dL_law_669 (lv_at hl 1 rfl) ?_
  refine lv_icmp_eq (tgt := 676) hx hb dL_law_671 (by decide) (fun _ => ?_) (fun c1 => absurd rfl c1)
  refine lv_iload hx hb dL_law_676 (lv_at hl 1 rfl) ?_
  refine lv_if_ne (tgt := 713) hx hb dL_law_678 (by decide) (fun c1 => absurd rfl c1) (fun _ => ?_)
  refine lv_aload hx hb dL_law_681 (lv_at hl 6 rfl) ?_
  refine lv_iconst (v := 0) hx hb dL_law_683 (by decide) ?_
  refine va_dald hx hb hK hP 3 3 rfl rfl (ok_in (by decide)) dL_law_684 ?_
  refine lv_dload hx hb dL_law_685 (lv_at hl 0 rfl) ?_
  refine lv_dcmp hx hb dL_law_687 ?_
  refine lv_if_eq (tgt := 713) hx hb dL_law_688 (by decide) (fun _ => ?_) (fun c1 => absurd (by rw [show vf_upd od (0 : Int32).toNatClampNeg r (0 : Int32).toNatClampNeg = r from if_pos rfl]; exact hd) c1)
  refine lv_goto (tgt := 771) hx hb dL_law_713 (by decide) ?_
  exact kc H locs ls hP hD hS (lv_sub hl [2, 3, 4, 5, 6, 7] rfl)
set_option maxHeartbeats 4000000 in
set_option maxRecDepth 100000 in
theorem law_value_t1 {p : Program} {l : Launch} {e : Env} {s : State} {m : MethodId} {below : List Frame} {meth : Method} {c : Code} {D : va_G} {b L : Nat} {xs : Nat → Int32} {ck : Nat → ClassId} {ad : Nat → Nat} {sa : Nat → Nat} {H : Heap} {locs : List Loc} {cells slots : Nat} {Q : State → Prop} {ls : Array Slot} {x : Int32} {g o : NL} {od : Nat → UInt64} {th : Int32} {mi : NI} {di : NL} {po : NI} {be : Int32} {mm : Int64} {ee : Int32} {fa fb : NI} (X : LX p l s m meth c b L xs D ck sa) (hP : va_P D vwCl (wW ck ad g o od th mi di po be mm ee fa fb) H) (hD : va_D (AA s) (wW ck ad g o od th mi di po be mm ee fa fb)) (hS : va_S (AA s) s.heap H locs) (hl : lv_has ls 9 [(0, .ref b), (1, .ref (ad 0)), (2, .ref (ad 4)), (3, .ref (ad 2)), (4, .ref (ad 3)), (5, .int x)]) (h1 : vp_in (x + 1) L) (hc : cells + 1 ≤ 1043 ∧ slots + 6 ≤ 8592) (r : UInt64) (mi' : NI) (di' : NL) (po' : NI) (be' : Int32) (mm' : Int64) (ee' : Int32) (fa' fb' : NI) (hj : tX0_value g (xs (x + 1).toNatClampNeg) = some 1) (hm : jX2_value th mi di po be mm ee fa fb (xs (x + 1).toNatClampNeg) = some (r, 1, mi', di', po', be', mm', ee', fa', fb'))
    (kc : ∀ (H1 : Heap) (locs1 : List Loc) (ls1 : Array Slot), va_P D vwCl (wW ck ad g o od 1 mi' di' po' be' mm' ee' fa' fb') H1 → va_D (AA s) (wW ck ad g o od 1 mi' di' po' be' mm' ee' fa' fb') → va_S (AA s) s.heap H1 locs1 → lv_has ls1 9 [(0, .ref b), (1, .ref (ad 0)), (2, .ref (ad 4)), (3, .ref (ad 2)), (4, .ref (ad 3)), (5, .int x)] → W p l e room_1 s m #[Value.ref b] below meth c H1 locs1 (cells + 1) (slots + 6) Q (F0 m 771 ls1 [])) : W p l e room_1 s m #[Value.ref b] below meth c H locs cells slots Q (F0 m 639 ls []) := by
  obtain ⟨C, hK, hX9, hS9, hZ9, hX, hbl, hl0⟩ := id X
  obtain ⟨hx, hb, hml, hown, hg, hr, hlocks⟩ := id C
  have hbA : ¬ (AA s) b := Nat.not_le.mpr hbl
  refine lv_aload_n hx hb dL_law_639 rfl (lv_at hl 1 rfl) ?_
  refine lv_aload_n hx hb dL_law_640 rfl (lv_at hl 0 rfl) ?_
  refine lv_iload hx hb dL_law_641 (lv_at hl 5 rfl) ?_
  refine lv_iconst (v := 1) hx hb dL_law_643 (by decide) ?_
  refine lv_iadd hx hb dL_law_644 ?_
  refine va_sld hx hb hX hbl hbA hS h1 dL_law_645 ?_
  refine lv_aload hx hb dL_law_646 (lv_at hl 4 rfl) ?_
  refine callWd C hK hX9 hS9 hZ9 hP hD hS (lL_value_t1 l hl0 sa ck (adL ad) g od (xs (x + 1).toNatClampNeg) hj) sw_value tw_268 (by decide) rfl hl.1 (rest := []) rfl (Nat.le_of_ble_eq_true rfl) hc dL_law_648 (fun H locs hP hD hS => ?_)
  have hP : va_P D vwCl (wW ck ad g o od th mi di po be mm ee fa fb) H := hP
  have hD : va_D (AA s) (wW ck ad g o od th mi di po be mm ee fa fb) := hD
  refine W.eq (g2 := F0 m 651 ls [.int 1]) rfl ?_
  refine lv_istore (lv' := [(6, .int 1), (0, .ref b), (1, .ref (ad 0)), (2, .ref (ad 4)), (3, .ref (ad 2)), (4, .ref (ad 3)), (5, .int x)]) hx hb dL_law_651 hl (by decide) rfl (fun ls hl => ?_)
  refine lv_aload_n hx hb dL_law_653 rfl (lv_at hl 3 rfl) ?_
  refine lv_aload_n hx hb dL_law_654 rfl (lv_at hl 1 rfl) ?_
  refine lv_iload hx hb dL_law_655 (lv_at hl 6 rfl) ?_
  refine lv_iconst (v := 1) hx hb dL_law_657 (by decide) ?_
  refine lv_iadd hx hb dL_law_658 ?_
  refine va_sld hx hb hX hbl hbA hS h1 dL_law_659 ?_
  refine callWM C hK hX9 hP hD hS (cX2_value_met l ck (fun i => ad (i + 4)) th mi di po be mm ee fa fb (xs (x + 1).toNatClampNeg) (r, 1, mi', di', po', be', mm', ee', fa', fb') hm) vc_X2_value tw_548 (by decide) rfl hl.1 (rest := []) rfl (Nat.le_of_ble_eq_true rfl) (by have := hc; show cells + 1 ≤ 1043 ∧ slots + 6 ≤ 8592; omega) dL_law_660 (fun H locs hP hD hS => ?_)
  have hP : va_P D vwCl (wW ck ad g o od 1 mi' di' po' be' mm' ee' fa' fb') H := hP
  have hD : va_D (AA s) (wW ck ad g o od 1 mi' di' po' be' mm' ee' fa' fb') := hD
  refine W.eq (g2 := F0 m 663 ls [.double r]) rfl ?_
  refine lv_dstore (lv' := [(7, .double r), (6, .int 1), (0, .ref b), (1, .ref (ad 0)), (2, .ref (ad 4)), (3, .ref (ad 2)), (4, .ref (ad 3)), (5, .int x)]) hx hb dL_law_663 hl (by decide) rfl (fun ls hl => ?_)
  refine lv_aload_n hx hb dL_law_665 rfl (lv_at hl 4 rfl) ?_
  refine callWM C hK hX9 hP hD hS (cX2_thrown_met l ck (fun i => ad (i + 4)) 1 mi' di' po' be' mm' ee' fa' fb' (1, 1, mi', di', po', be', mm', ee', fa', fb') rfl) vc_X2_thrown tw_354 (by decide) rfl hl.1 (As := []) (rest := []) rfl (Nat.le_of_ble_eq_true rfl) (by have := hc; show cells + 1 ≤ 1043 ∧ slots + 6 ≤ 8592; omega) dL_law_666 (fun H locs hP hD hS => ?_)
  have hP : va_P D vwCl (wW ck ad g o od 1 mi' di' po' be' mm' ee' fa' fb') H := hP
  have hD : va_D (AA s) (wW ck ad g o od 1 mi' di' po' be' mm' ee' fa' fb') := hD
  refine W.eq (g2 := F0 m 669 ls [.int 1]) rfl ?_
  refine lv_iload hx hb dL_law_669 (lv_at hl 1 rfl) ?_
  refine lv_icmp_eq (tgt := 676) hx hb dL_law_671 (by decide) (fun _ => ?_) (fun c1 => absurd rfl c1)
  refine lv_iload hx hb dL_law_676 (lv_at hl 1 rfl) ?_
  refine lv_if_ne (tgt := 713) hx hb dL_law_678 (by decide) (fun _ => ?_) (fun c1 => absurd c1 (by decide))
  refine lv_goto (tgt := 771) hx hb dL_law_713 (by decide) ?_
  exact kc H locs ls hP hD hS (lv_sub hl [2, 3, 4, 5, 6, 7] rfl)
theorem sw_whole : SW yL_whole cL_whole 4 [(0, 8, 11, 13), (0, 8, 14, 45)] 3 := ⟨tw_281, tw_0, tw_282, by decide +kernel⟩
set_option maxHeartbeats 4000000 in
set_option maxRecDepth 100000 in
theorem law_whole_n {p : Program} {l : Launch} {e : Env} {s : State} {m : MethodId} {below : List Frame} {meth : Method} {c : Code} {D : va_G} {b L : Nat} {xs : Nat → Int32} {ck : Nat → ClassId} {ad : Nat → Nat} {sa : Nat → Nat} {H : Heap} {locs : List Loc} {cells slots : Nat} {Q : State → Prop} {ls : Array Slot} {x : Int32} {g o : NL} {od : Nat → UInt64} {th : Int32} {mi : NI} {di : NL} {po : NI} {be : Int32} {mm : Int64} {ee : Int32} {fa fb : NI} (X : LX p l s m meth c b L xs D ck sa) (hP : va_P D vwCl (wW ck ad g o od th mi di po be mm ee fa fb) H) (hD : va_D (AA s) (wW ck ad g o od th mi di po be mm ee fa fb)) (hS : va_S (AA s) s.heap H locs) (hl : lv_has ls 9 [(0, .ref b), (1, .ref (ad 0)), (2, .ref (ad 4)), (3, .ref (ad 2)), (4, .ref (ad 3)), (5, .int x)]) (h1 : vp_in (x + 1) L) (hc : cells + 1 ≤ 1043 ∧ slots + 6 ≤ 8592) (r : Int64) (g' : NL) (mi' : NI) (di' : NL) (po' : NI) (be' : Int32) (mm' : Int64) (ee' : Int32) (fa' fb' : NI) (hj : jX0_whole g (xs (x + 1).toNatClampNeg) = some (r, g')) (hm : jX2_whole th mi di po be mm ee fa fb (xs (x + 1).toNatClampNeg) = some (r, 0, mi', di', po', be', mm', ee', fa', fb'))
    (kc : ∀ (H1 : Heap) (locs1 : List Loc) (ls1 : Array Slot), va_P D vwCl (wW ck ad g' (vp_updL o (0 : Int32).toNatClampNeg (r)) od 0 mi' di' po' be' mm' ee' fa' fb') H1 → va_D (AA s) (wW ck ad g' (vp_updL o (0 : Int32).toNatClampNeg (r)) od 0 mi' di' po' be' mm' ee' fa' fb') → va_S (AA s) s.heap H1 locs1 → lv_has ls1 9 [(0, .ref b), (1, .ref (ad 0)), (2, .ref (ad 4)), (3, .ref (ad 2)), (4, .ref (ad 3)), (5, .int x)] → W p l e room_1 s m #[Value.ref b] below meth c H1 locs1 (cells + 1) (slots + 6) Q (F0 m 771 ls1 [])) : W p l e room_1 s m #[Value.ref b] below meth c H locs cells slots Q (F0 m 716 ls []) := by
  obtain ⟨C, hK, hX9, hS9, hZ9, hX, hbl, hl0⟩ := id X
  obtain ⟨hx, hb, hml, hown, hg, hr, hlocks⟩ := id C
  have hbA : ¬ (AA s) b := Nat.not_le.mpr hbl
  refine lv_aload_n hx hb dL_law_716 rfl (lv_at hl 1 rfl) ?_
  refine lv_aload_n hx hb dL_law_717 rfl (lv_at hl 0 rfl) ?_
  refine lv_iload hx hb dL_law_718 (lv_at hl 5 rfl) ?_
  refine lv_iconst (v := 1) hx hb dL_law_720 (by decide) ?_
  refine lv_iadd hx hb dL_law_721 ?_
  refine va_sld hx hb hX hbl hbA hS h1 dL_law_722 ?_
  refine lv_aload_n hx hb dL_law_723 rfl (lv_at hl 3 rfl) ?_
  refine callW C hK hX9 hS9 hZ9 hP hD hS (lL_whole_n l sa ck ad g o (xs (x + 1).toNatClampNeg) (r, g') hj) sw_whole tw_280 (by decide) rfl hl.1 (rest := []) rfl (Nat.le_of_ble_eq_true rfl) hc dL_law_724 (fun H locs hP hD hS => ?_)
  have hP : va_P D vwCl (wW ck ad g' (vp_updL o (0 : Int32).toNatClampNeg (r)) od th mi di po be mm ee fa fb) H := hP
  have hD : va_D (AA s) (wW ck ad g' (vp_updL o (0 : Int32).toNatClampNeg (r)) od th mi di po be mm ee fa fb) := hD
  refine W.eq (g2 := F0 m 727 ls [.int 0]) rfl ?_
  refine lv_istore (lv' := [(6, .int 0), (0, .ref b), (1, .ref (ad 0)), (2, .ref (ad 4)), (3, .ref (ad 2)), (4, .ref (ad 3)), (5, .int x)]) hx hb dL_law_727 hl (by decide) rfl (fun ls hl => ?_)
  refine lv_aload_n hx hb dL_law_729 rfl (lv_at hl 3 rfl) ?_
  refine lv_aload_n hx hb dL_law_730 rfl (lv_at hl 1 rfl) ?_
  refine lv_iload hx hb dL_law_731 (lv_at hl 6 rfl) ?_
  refine lv_iconst (v := 1) hx hb dL_law_733 (by decide) ?_
  refine lv_iadd hx hb dL_law_734 ?_
  refine va_sld hx hb hX hbl hbA hS h1 dL_law_735 ?_
  refine callWM C hK hX9 hP hD hS (cX2_whole_met l ck (fun i => ad (i + 4)) th mi di po be mm ee fa fb (xs (x + 1).toNatClampNeg) (r, 0, mi', di', po', be', mm', ee', fa', fb') hm) vc_X2_whole tw_554 (by decide) rfl hl.1 (rest := []) rfl (Nat.le_of_ble_eq_true rfl) (by have := hc; show cells + 1 ≤ 1043 ∧ slots + 6 ≤ 8592; omega) dL_law_736 (fun H locs hP hD hS => ?_)
  have hP : va_P D vwCl (wW ck ad g' (vp_updL o (0 : Int32).toNatClampNeg (r)) od 0 mi' di' po' be' mm' ee' fa' fb') H := hP
  have hD : va_D (AA s) (wW ck ad g' (vp_updL o (0 : Int32).toNatClampNeg (r)) od 0 mi' di' po' be' mm' ee' fa' fb') := hD
  refine W.eq (g2 := F0 m 739 ls [.long r]) rfl ?_
  refine lv_lstore (lv' := [(7, .long r), (6, .int 0), (0, .ref b), (1, .ref (ad 0)), (2, .ref (ad 4)), (3, .ref (ad 2)), (4, .ref (ad 3)), (5, .int x)]) hx hb dL_law_739 hl (by decide) rfl (fun ls hl => ?_)
  refine lv_aload_n hx hb dL_law_741 rfl (lv_at hl 4 rfl) ?_
  refine callWM C hK hX9 hP hD hS (cX2_thrown_met l ck (fun i => ad (i + 4)) 0 mi' di' po' be' mm' ee' fa' fb' (0, 0, mi', di', po', be', mm', ee', fa', fb') rfl) vc_X2_thrown tw_354 (by decide) rfl hl.1 (As := []) (rest := []) rfl (Nat.le_of_ble_eq_true rfl) (by have := hc; show cells + 1 ≤ 1043 ∧ slots + 6 ≤ 8592; omega) dL_law_742 (fun H locs hP hD hS => ?_)
  have hP : va_P D vwCl (wW ck ad g' (vp_updL o (0 : Int32).toNatClampNeg (r)) od 0 mi' di' po' be' mm' ee' fa' fb') H := hP
  have hD : va_D (AA s) (wW ck ad g' (vp_updL o (0 : Int32).toNatClampNeg (r)) od 0 mi' di' po' be' mm' ee' fa' fb') := hD
  refine W.eq (g2 := F0 m 745 ls [.int 0]) rfl ?_
  refine lv_iload hx hb dL_law_745 (lv_at hl 1 rfl) ?_
  refine lv_icmp_eq (tgt := 752) hx hb dL_law_747 (by decide) (fun _ => ?_) (fun c1 => absurd rfl c1)
  refine lv_iload hx hb dL_law_752 (lv_at hl 1 rfl) ?_
  refine lv_if_ne (tgt := 768) hx hb dL_law_754 (by decide) (fun c1 => absurd rfl c1) (fun _ => ?_)
  refine lv_aload_n hx hb dL_law_757 rfl (lv_at hl 5 rfl) ?_
  refine lv_iconst (v := 0) hx hb dL_law_758 (by decide) ?_
  refine va_lald hx hb hK hP 2 1 rfl rfl (ok_in (by decide)) dL_law_759 ?_
  refine lv_lload hx hb dL_law_760 (lv_at hl 0 rfl) ?_
  refine lc_eq hx hb (tgt := 768) dL_law_762 dL_law_763 (by decide) (fun _ => ?_) (fun c1 => absurd (if_pos rfl) c1)
  refine lv_goto (tgt := 771) hx hb dL_law_768 (by decide) ?_
  exact kc H locs ls hP hD hS (lv_sub hl [2, 3, 4, 5, 6, 7] rfl)
set_option maxHeartbeats 4000000 in
set_option maxRecDepth 100000 in
theorem law_whole_t1 {p : Program} {l : Launch} {e : Env} {s : State} {m : MethodId} {below : List Frame} {meth : Method} {c : Code} {D : va_G} {b L : Nat} {xs : Nat → Int32} {ck : Nat → ClassId} {ad : Nat → Nat} {sa : Nat → Nat} {H : Heap} {locs : List Loc} {cells slots : Nat} {Q : State → Prop} {ls : Array Slot} {x : Int32} {g o : NL} {od : Nat → UInt64} {th : Int32} {mi : NI} {di : NL} {po : NI} {be : Int32} {mm : Int64} {ee : Int32} {fa fb : NI} (X : LX p l s m meth c b L xs D ck sa) (hP : va_P D vwCl (wW ck ad g o od th mi di po be mm ee fa fb) H) (hD : va_D (AA s) (wW ck ad g o od th mi di po be mm ee fa fb)) (hS : va_S (AA s) s.heap H locs) (hl : lv_has ls 9 [(0, .ref b), (1, .ref (ad 0)), (2, .ref (ad 4)), (3, .ref (ad 2)), (4, .ref (ad 3)), (5, .int x)]) (h1 : vp_in (x + 1) L) (hc : cells + 1 ≤ 1043 ∧ slots + 6 ≤ 8592) (r : Int64) (mi' : NI) (di' : NL) (po' : NI) (be' : Int32) (mm' : Int64) (ee' : Int32) (fa' fb' : NI) (hj : tX0_whole g (xs (x + 1).toNatClampNeg) = some 1) (hm : jX2_whole th mi di po be mm ee fa fb (xs (x + 1).toNatClampNeg) = some (r, 1, mi', di', po', be', mm', ee', fa', fb'))
    (kc : ∀ (H1 : Heap) (locs1 : List Loc) (ls1 : Array Slot), va_P D vwCl (wW ck ad g o od 1 mi' di' po' be' mm' ee' fa' fb') H1 → va_D (AA s) (wW ck ad g o od 1 mi' di' po' be' mm' ee' fa' fb') → va_S (AA s) s.heap H1 locs1 → lv_has ls1 9 [(0, .ref b), (1, .ref (ad 0)), (2, .ref (ad 4)), (3, .ref (ad 2)), (4, .ref (ad 3)), (5, .int x)] → W p l e room_1 s m #[Value.ref b] below meth c H1 locs1 (cells + 1) (slots + 6) Q (F0 m 771 ls1 [])) : W p l e room_1 s m #[Value.ref b] below meth c H locs cells slots Q (F0 m 716 ls []) := by
  obtain ⟨C, hK, hX9, hS9, hZ9, hX, hbl, hl0⟩ := id X
  obtain ⟨hx, hb, hml, hown, hg, hr, hlocks⟩ := id C
  have hbA : ¬ (AA s) b := Nat.not_le.mpr hbl
  refine lv_aload_n hx hb dL_law_716 rfl (lv_at hl 1 rfl) ?_
  refine lv_aload_n hx hb dL_law_717 rfl (lv_at hl 0 rfl) ?_
  refine lv_iload hx hb dL_law_718 (lv_at hl 5 rfl) ?_
  refine lv_iconst (v := 1) hx hb dL_law_720 (by decide) ?_
  refine lv_iadd hx hb dL_law_721 ?_
  refine va_sld hx hb hX hbl hbA hS h1 dL_law_722 ?_
  refine lv_aload_n hx hb dL_law_723 rfl (lv_at hl 3 rfl) ?_
  refine callW C hK hX9 hS9 hZ9 hP hD hS (lL_whole_t1 l hl0 sa ck ad g o (xs (x + 1).toNatClampNeg) hj) sw_whole tw_280 (by decide) rfl hl.1 (rest := []) rfl (Nat.le_of_ble_eq_true rfl) hc dL_law_724 (fun H locs hP hD hS => ?_)
  have hP : va_P D vwCl (wW ck ad g o od th mi di po be mm ee fa fb) H := hP
  have hD : va_D (AA s) (wW ck ad g o od th mi di po be mm ee fa fb) := hD
  refine W.eq (g2 := F0 m 727 ls [.int 1]) rfl ?_
  refine lv_istore (lv' := [(6, .int 1), (0, .ref b), (1, .ref (ad 0)), (2, .ref (ad 4)), (3, .ref (ad 2)), (4, .ref (ad 3)), (5, .int x)]) hx hb dL_law_727 hl (by decide) rfl (fun ls hl => ?_)
  refine lv_aload_n hx hb dL_law_729 rfl (lv_at hl 3 rfl) ?_
  refine lv_aload_n hx hb dL_law_730 rfl (lv_at hl 1 rfl) ?_
  refine lv_iload hx hb dL_law_731 (lv_at hl 6 rfl) ?_
  refine lv_iconst (v := 1) hx hb dL_law_733 (by decide) ?_
  refine lv_iadd hx hb dL_law_734 ?_
  refine va_sld hx hb hX hbl hbA hS h1 dL_law_735 ?_
  refine callWM C hK hX9 hP hD hS (cX2_whole_met l ck (fun i => ad (i + 4)) th mi di po be mm ee fa fb (xs (x + 1).toNatClampNeg) (r, 1, mi', di', po', be', mm', ee', fa', fb') hm) vc_X2_whole tw_554 (by decide) rfl hl.1 (rest := []) rfl (Nat.le_of_ble_eq_true rfl) (by have := hc; show cells + 1 ≤ 1043 ∧ slots + 6 ≤ 8592; omega) dL_law_736 (fun H locs hP hD hS => ?_)
  have hP : va_P D vwCl (wW ck ad g o od 1 mi' di' po' be' mm' ee' fa' fb') H := hP
  have hD : va_D (AA s) (wW ck ad g o od 1 mi' di' po' be' mm' ee' fa' fb') := hD
  refine W.eq (g2 := F0 m 739 ls [.long r]) rfl ?_
  refine lv_lstore (lv' := [(7, .long r), (6, .int 1), (0, .ref b), (1, .ref (ad 0)), (2, .ref (ad 4)), (3, .ref (ad 2)), (4, .ref (ad 3)), (5, .int x)]) hx hb dL_law_739 hl (by decide) rfl (fun ls hl => ?_)
  refine lv_aload_n hx hb dL_law_741 rfl (lv_at hl 4 rfl) ?_
  refine callWM C hK hX9 hP hD hS (cX2_thrown_met l ck (fun i => ad (i + 4)) 1 mi' di' po' be' mm' ee' fa' fb' (1, 1, mi', di', po', be', mm', ee', fa', fb') rfl) vc_X2_thrown tw_354 (by decide) rfl hl.1 (As := []) (rest := []) rfl (Nat.le_of_ble_eq_true rfl) (by have := hc; show cells + 1 ≤ 1043 ∧ slots + 6 ≤ 8592; omega) dL_law_742 (fun H locs hP hD hS => ?_)
  have hP : va_P D vwCl (wW ck ad g o od 1 mi' di' po' be' mm' ee' fa' fb') H := hP
  have hD : va_D (AA s) (wW ck ad g o od 1 mi' di' po' be' mm' ee' fa' fb') := hD
  refine W.eq (g2 := F0 m 745 ls [.int 1]) rfl ?_
  refine lv_iload hx hb dL_law_745 (lv_at hl 1 rfl) ?_
  refine lv_icmp_eq (tgt := 752) hx hb dL_law_747 (by decide) (fun _ => ?_) (fun c1 => absurd rfl c1)
  refine lv_iload hx hb dL_law_752 (lv_at hl 1 rfl) ?_
  refine lv_if_ne (tgt := 768) hx hb dL_law_754 (by decide) (fun _ => ?_) (fun c1 => absurd c1 (by decide))
  refine lv_goto (tgt := 771) hx hb dL_law_768 (by decide) ?_
  exact kc H locs ls hP hD hS (lv_sub hl [2, 3, 4, 5, 6, 7] rfl)
set_option maxHeartbeats 4000000 in
set_option maxRecDepth 100000 in
theorem law_whole_t2 {p : Program} {l : Launch} {e : Env} {s : State} {m : MethodId} {below : List Frame} {meth : Method} {c : Code} {D : va_G} {b L : Nat} {xs : Nat → Int32} {ck : Nat → ClassId} {ad : Nat → Nat} {sa : Nat → Nat} {H : Heap} {locs : List Loc} {cells slots : Nat} {Q : State → Prop} {ls : Array Slot} {x : Int32} {g o : NL} {od : Nat → UInt64} {th : Int32} {mi : NI} {di : NL} {po : NI} {be : Int32} {mm : Int64} {ee : Int32} {fa fb : NI} (X : LX p l s m meth c b L xs D ck sa) (hP : va_P D vwCl (wW ck ad g o od th mi di po be mm ee fa fb) H) (hD : va_D (AA s) (wW ck ad g o od th mi di po be mm ee fa fb)) (hS : va_S (AA s) s.heap H locs) (hl : lv_has ls 9 [(0, .ref b), (1, .ref (ad 0)), (2, .ref (ad 4)), (3, .ref (ad 2)), (4, .ref (ad 3)), (5, .int x)]) (h1 : vp_in (x + 1) L) (hc : cells + 1 ≤ 1043 ∧ slots + 6 ≤ 8592) (r : Int64) (mi' : NI) (di' : NL) (po' : NI) (be' : Int32) (mm' : Int64) (ee' : Int32) (fa' fb' : NI) (hj : tX0_whole g (xs (x + 1).toNatClampNeg) = some 2) (hm : jX2_whole th mi di po be mm ee fa fb (xs (x + 1).toNatClampNeg) = some (r, 2, mi', di', po', be', mm', ee', fa', fb'))
    (kc : ∀ (H1 : Heap) (locs1 : List Loc) (ls1 : Array Slot), va_P D vwCl (wW ck ad g o od 2 mi' di' po' be' mm' ee' fa' fb') H1 → va_D (AA s) (wW ck ad g o od 2 mi' di' po' be' mm' ee' fa' fb') → va_S (AA s) s.heap H1 locs1 → lv_has ls1 9 [(0, .ref b), (1, .ref (ad 0)), (2, .ref (ad 4)), (3, .ref (ad 2)), (4, .ref (ad 3)), (5, .int x)] → W p l e room_1 s m #[Value.ref b] below meth c H1 locs1 (cells + 1) (slots + 6) Q (F0 m 771 ls1 [])) : W p l e room_1 s m #[Value.ref b] below meth c H locs cells slots Q (F0 m 716 ls []) := by
  obtain ⟨C, hK, hX9, hS9, hZ9, hX, hbl, hl0⟩ := id X
  obtain ⟨hx, hb, hml, hown, hg, hr, hlocks⟩ := id C
  have hbA : ¬ (AA s) b := Nat.not_le.mpr hbl
  refine lv_aload_n hx hb dL_law_716 rfl (lv_at hl 1 rfl) ?_
  refine lv_aload_n hx hb dL_law_717 rfl (lv_at hl 0 rfl) ?_
  refine lv_iload hx hb dL_law_718 (lv_at hl 5 rfl) ?_
  refine lv_iconst (v := 1) hx hb dL_law_720 (by decide) ?_
  refine lv_iadd hx hb dL_law_721 ?_
  refine va_sld hx hb hX hbl hbA hS h1 dL_law_722 ?_
  refine lv_aload_n hx hb dL_law_723 rfl (lv_at hl 3 rfl) ?_
  refine callW C hK hX9 hS9 hZ9 hP hD hS (lL_whole_t2 l hl0 sa ck ad g o (xs (x + 1).toNatClampNeg) hj) sw_whole tw_280 (by decide) rfl hl.1 (rest := []) rfl (Nat.le_of_ble_eq_true rfl) hc dL_law_724 (fun H locs hP hD hS => ?_)
  have hP : va_P D vwCl (wW ck ad g o od th mi di po be mm ee fa fb) H := hP
  have hD : va_D (AA s) (wW ck ad g o od th mi di po be mm ee fa fb) := hD
  refine W.eq (g2 := F0 m 727 ls [.int 2]) rfl ?_
  refine lv_istore (lv' := [(6, .int 2), (0, .ref b), (1, .ref (ad 0)), (2, .ref (ad 4)), (3, .ref (ad 2)), (4, .ref (ad 3)), (5, .int x)]) hx hb dL_law_727 hl (by decide) rfl (fun ls hl => ?_)
  refine lv_aload_n hx hb dL_law_729 rfl (lv_at hl 3 rfl) ?_
  refine lv_aload_n hx hb dL_law_730 rfl (lv_at hl 1 rfl) ?_
  refine lv_iload hx hb dL_law_731 (lv_at hl 6 rfl) ?_
  refine lv_iconst (v := 1) hx hb dL_law_733 (by decide) ?_
  refine lv_iadd hx hb dL_law_734 ?_
  refine va_sld hx hb hX hbl hbA hS h1 dL_law_735 ?_
  refine callWM C hK hX9 hP hD hS (cX2_whole_met l ck (fun i => ad (i + 4)) th mi di po be mm ee fa fb (xs (x + 1).toNatClampNeg) (r, 2, mi', di', po', be', mm', ee', fa', fb') hm) vc_X2_whole tw_554 (by decide) rfl hl.1 (rest := []) rfl (Nat.le_of_ble_eq_true rfl) (by have := hc; show cells + 1 ≤ 1043 ∧ slots + 6 ≤ 8592; omega) dL_law_736 (fun H locs hP hD hS => ?_)
  have hP : va_P D vwCl (wW ck ad g o od 2 mi' di' po' be' mm' ee' fa' fb') H := hP
  have hD : va_D (AA s) (wW ck ad g o od 2 mi' di' po' be' mm' ee' fa' fb') := hD
  refine W.eq (g2 := F0 m 739 ls [.long r]) rfl ?_
  refine lv_lstore (lv' := [(7, .long r), (6, .int 2), (0, .ref b), (1, .ref (ad 0)), (2, .ref (ad 4)), (3, .ref (ad 2)), (4, .ref (ad 3)), (5, .int x)]) hx hb dL_law_739 hl (by decide) rfl (fun ls hl => ?_)
  refine lv_aload_n hx hb dL_law_741 rfl (lv_at hl 4 rfl) ?_
  refine callWM C hK hX9 hP hD hS (cX2_thrown_met l ck (fun i => ad (i + 4)) 2 mi' di' po' be' mm' ee' fa' fb' (2, 2, mi', di', po', be', mm', ee', fa', fb') rfl) vc_X2_thrown tw_354 (by decide) rfl hl.1 (As := []) (rest := []) rfl (Nat.le_of_ble_eq_true rfl) (by have := hc; show cells + 1 ≤ 1043 ∧ slots + 6 ≤ 8592; omega) dL_law_742 (fun H locs hP hD hS => ?_)
  have hP : va_P D vwCl (wW ck ad g o od 2 mi' di' po' be' mm' ee' fa' fb') H := hP
  have hD : va_D (AA s) (wW ck ad g o od 2 mi' di' po' be' mm' ee' fa' fb') := hD
  refine W.eq (g2 := F0 m 745 ls [.int 2]) rfl ?_
  refine lv_iload hx hb dL_law_745 (lv_at hl 1 rfl) ?_
  refine lv_icmp_eq (tgt := 752) hx hb dL_law_747 (by decide) (fun _ => ?_) (fun c1 => absurd rfl c1)
  refine lv_iload hx hb dL_law_752 (lv_at hl 1 rfl) ?_
  refine lv_if_ne (tgt := 768) hx hb dL_law_754 (by decide) (fun _ => ?_) (fun c1 => absurd c1 (by decide))
  refine lv_goto (tgt := 771) hx hb dL_law_768 (by decide) ?_
  exact kc H locs ls hP hD hS (lv_sub hl [2, 3, 4, 5, 6, 7] rfl)
set_option maxHeartbeats 4000000 in
set_option maxRecDepth 100000 in
theorem law_loop {p : Program} {l : Launch} {e : Env} {s : State} {m : MethodId} {below : List Frame} {meth : Method} {c : Code} {D : va_G} {b L : Nat} {xs : Nat → Int32} {ck : Nat → ClassId} {ad : Nat → Nat} {sa : Nat → Nat} (hL : L ≤ 2560) (X : LX p l s m meth c b L xs D ck sa) :
    ∀ (n i : Nat), i ≤ L + 5 → L + 10 ≤ i + 5 * n → ∀ (cells slots : Nat), cells + n ≤ 1043 → slots + 6 * n ≤ 8592 → ∀ (g o : NL) (od : Nat → UInt64) (th : Int32) (mi : NI) (di : NL) (po : NI) (be : Int32) (mm : Int64) (ee : Int32) (fa fb : NI), Rel g mi di po → ∀ (H : Heap) (locs : List Loc) (ls : Array Slot) (x : Int32), x = nI i → va_P D vwCl (wW ck ad g o od th mi di po be mm ee fa fb) H → va_D (AA s) (wW ck ad g o od th mi di po be mm ee fa fb) → va_S (AA s) s.heap H locs → lv_has ls 9 [(0, .ref b), (1, .ref (ad 0)), (2, .ref (ad 4)), (3, .ref (ad 2)), (4, .ref (ad 3)), (5, .int x)] → W p l e room_1 s m #[Value.ref b] below meth c H locs cells slots (lw_Z below #[Value.ref b] s) (F0 m 28 ls []) := by
  obtain ⟨C, hK, hX9, hS9, hZ9, hX, hbl, hl0⟩ := id X
  obtain ⟨hx, hb, hml, hown, hg, hr, hlocks⟩ := id C
  have hbA : ¬ (AA s) b := Nat.not_le.mpr hbl
  intro n
  induction n with
  | zero => intro i h1 h2; exact absurd h2 (by omega)
  | succ n ih =>
    intro i hi hin cells slots hc1 hc2 g o od th mi di po be mm ee fa fb hRel H locs ls x ex hP hD hS hl
    refine lv_iload hx hb dL_law_28 (lv_at hl 5 rfl) ?_
    refine lv_aload_n hx hb dL_law_30 rfl (lv_at hl 0 rfl) ?_
    refine va_slen hx hb hX hbl hbA hS dL_law_31 ?_
    refine lv_iconst (v := 5) hx hb dL_law_32 (by decide) ?_
    refine lv_isub hx hb dL_law_33 ?_
    refine lv_icmp_gt (tgt := 777) hx hb dL_law_34 (by decide) (fun c1 => ?_) (fun c1 => ?_)
    · refine lv_iconst (v := 1) hx hb dL_law_777 (by decide) ?_
      refine va_forget (fun q hq => hS.2.2 q hq) ?_
      refine W.widen (k := 1043) (n := 8592) (by omega) (by omega) ?_
      exact lw_ret hx hb hr hlocks dL_law_778
    · have hlt : i + 5 ≤ L := law_in hL (by omega) (by rw [← ex]; exact c1)
      have e1 : x + 1 = nI (i + 1) := by rw [ex]; exact nI_add i 1
      have e2 : x + 2 = nI (i + 2) := by rw [ex]; exact nI_add i 2
      have e3 : x + 3 = nI (i + 3) := by rw [ex]; exact nI_add i 3
      have e4 : x + 4 = nI (i + 4) := by rw [ex]; exact nI_add i 4
      have e5 : x + 5 = nI (i + 5) := by rw [ex]; exact nI_add i 5
      have h0 : vp_in x L := by rw [ex]; exact vp_in_nI (by omega) (by omega)
      have h1 : vp_in (x + 1) L := by rw [e1]; exact vp_in_nI (by omega) (by omega)
      have h2 : vp_in (x + 2) L := by rw [e2]; exact vp_in_nI (by omega) (by omega)
      have h3 : vp_in (x + 3) L := by rw [e3]; exact vp_in_nI (by omega) (by omega)
      have h4 : vp_in (x + 4) L := by rw [e4]; exact vp_in_nI (by omega) (by omega)
      have hc : cells + 1 ≤ 1043 ∧ slots + 6 ≤ 8592 := ⟨by omega, by omega⟩
      have kc : ∀ (g o : NL) (od : Nat → UInt64) (th : Int32) (mi : NI) (di : NL) (po : NI) (be : Int32) (mm : Int64) (ee : Int32) (fa fb : NI), Rel g mi di po → ∀ (H1 : Heap) (locs1 : List Loc) (ls1 : Array Slot), va_P D vwCl (wW ck ad g o od th mi di po be mm ee fa fb) H1 → va_D (AA s) (wW ck ad g o od th mi di po be mm ee fa fb) → va_S (AA s) s.heap H1 locs1 → lv_has ls1 9 [(0, .ref b), (1, .ref (ad 0)), (2, .ref (ad 4)), (3, .ref (ad 2)), (4, .ref (ad 3)), (5, .int x)] → W p l e room_1 s m #[Value.ref b] below meth c H1 locs1 (cells + 1) (slots + 6) (lw_Z below #[Value.ref b] s) (F0 m 771 ls1 []) := by
        intro g o od th mi di po be mm ee fa fb hRel H locs ls hP hD hS hl
        refine lv_iinc (v := x + 5) (lv' := [(5, .int (x + 5)), (0, .ref b), (1, .ref (ad 0)), (2, .ref (ad 4)), (3, .ref (ad 2)), (4, .ref (ad 3))]) hx hb dL_law_771 hl (k := 5) rfl rfl (by decide) rfl (fun ls hl => ?_)
        refine lv_goto (tgt := 28) hx hb dL_law_774 (by decide) ?_
        exact ih (i + 5) (by omega) (by omega) (cells + 1) (slots + 6) (by omega) (by omega) g o od th mi di po be mm ee fa fb hRel H locs ls (x + 5) e5 hP hD hS (lv_sub hl [1, 2, 3, 4, 5, 0] rfl)
      refine lv_aload_n hx hb dL_law_37 rfl (lv_at hl 0 rfl) ?_
      refine lv_iload hx hb dL_law_38 (lv_at hl 5 rfl) ?_
      refine va_sld hx hb hX hbl hbA hS h0 dL_law_40 ?_
      refine lv_bipush (v := 15) hx hb dL_law_41 (by decide) ?_
      refine lv_iand hx hb dL_law_43 ?_
      generalize (xs x.toNatClampNeg &&& 15) = v
      by_cases c2 : v = 0
      · refine sw_in hx hb 0 96 dL_law_44 c2 (by decide) (by decide) (by decide) ?_
        rcases ok_set g th mi di po be mm ee fa fb (xs (x + 1).toNatClampNeg) ((sl ((xs (x + 2).toNatClampNeg).toInt64) 32) ||| ((xs (x + 3).toNatClampNeg).toInt64 &&& 4294967295)) (xs (x + 4).toNatClampNeg) hRel with ⟨r, g', mi', di', po', be', mm', ee', fa', fb', hj, hm, hR'⟩ | ⟨r, mi', di', po', be', mm', ee', fa', fb', hj, hm, hR'⟩
        · exact law_set_n X hP hD hS hl h1 h2 h3 h4 hc r g' mi' di' po' be' mm' ee' fa' fb' hj hm (kc _ _ _ _ _ _ _ _ _ _ _ _ hR')
        · exact law_set_t1 X hP hD hS hl h1 h2 h3 h4 hc r mi' di' po' be' mm' ee' fa' fb' hj hm (kc _ _ _ _ _ _ _ _ _ _ _ _ hR')
      by_cases c3 : v = 1
      · refine sw_in hx hb 1 208 dL_law_44 c3 (by decide) (by decide) (by decide) ?_
        rcases ok_combine g th mi di po be mm ee fa fb (xs (x + 1).toNatClampNeg) (xs (x + 2).toNatClampNeg) (xs (x + 3).toNatClampNeg) (xs (x + 4).toNatClampNeg) hRel with ⟨r, g', mi', di', po', be', mm', ee', fa', fb', hj, hm, hR'⟩ | ⟨r, mi', di', po', be', mm', ee', fa', fb', hj, hm, hR'⟩
        · exact law_combine_n X hP hD hS hl h1 h2 h3 h4 hc r g' mi' di' po' be' mm' ee' fa' fb' hj hm (kc _ _ _ _ _ _ _ _ _ _ _ _ hR')
        · exact law_combine_t1 X hP hD hS hl h1 h2 h3 h4 hc r mi' di' po' be' mm' ee' fa' fb' hj hm (kc _ _ _ _ _ _ _ _ _ _ _ _ hR')
      by_cases c4 : v = 2
      · refine sw_in hx hb 2 300 dL_law_44 c4 (by decide) (by decide) (by decide) ?_
        rcases ok_change g th mi di po be mm ee fa fb (xs (x + 1).toNatClampNeg) (xs (x + 2).toNatClampNeg) (xs (x + 3).toNatClampNeg) hRel with ⟨r, g', mi', di', po', be', mm', ee', fa', fb', hj, hm, hR'⟩ | ⟨r, mi', di', po', be', mm', ee', fa', fb', hj, hm, hR'⟩
        · exact law_change_n X hP hD hS hl h1 h2 h3 hc r g' mi' di' po' be' mm' ee' fa' fb' hj hm (kc _ _ _ _ _ _ _ _ _ _ _ _ hR')
        · exact law_change_t1 X hP hD hS hl h1 h2 h3 hc r mi' di' po' be' mm' ee' fa' fb' hj hm (kc _ _ _ _ _ _ _ _ _ _ _ _ hR')
      by_cases c5 : v = 3
      · refine sw_in hx hb 3 380 dL_law_44 c5 (by decide) (by decide) (by decide) ?_
        rcases ok_power g th mi di po be mm ee fa fb (xs (x + 1).toNatClampNeg) (xs (x + 2).toNatClampNeg) (xs (x + 3).toNatClampNeg) hRel with ⟨r, g', mi', di', po', be', mm', ee', fa', fb', hj, hm, hR'⟩ | ⟨r, mi', di', po', be', mm', ee', fa', fb', hj, hm, hR'⟩
        · exact law_power_n X hP hD hS hl h1 h2 h3 hc r g' mi' di' po' be' mm' ee' fa' fb' hj hm (kc _ _ _ _ _ _ _ _ _ _ _ _ hR')
        · exact law_power_t1 X hP hD hS hl h1 h2 h3 hc r mi' di' po' be' mm' ee' fa' fb' hj hm (kc _ _ _ _ _ _ _ _ _ _ _ _ hR')
      by_cases c6 : v = 4
      · refine sw_in hx hb 4 460 dL_law_44 c6 (by decide) (by decide) (by decide) ?_
        rcases ok_order g th mi di po be mm ee fa fb (xs (x + 1).toNatClampNeg) (xs (x + 2).toNatClampNeg) hRel with ⟨r, g', mi', di', po', be', mm', ee', fa', fb', hj, hm, hR'⟩ | ⟨r, mi', di', po', be', mm', ee', fa', fb', hj, hm, hR'⟩
        · exact law_order_n X hP hD hS hl h1 h2 hc r g' mi' di' po' be' mm' ee' fa' fb' hj hm (kc _ _ _ _ _ _ _ _ _ _ _ _ hR')
        · exact law_order_t1 X hP hD hS hl h1 h2 hc r mi' di' po' be' mm' ee' fa' fb' hj hm (kc _ _ _ _ _ _ _ _ _ _ _ _ hR')
      by_cases c7 : v = 5
      · refine sw_in hx hb 5 528 dL_law_44 c7 (by decide) (by decide) (by decide) ?_
        rcases ok_digits g th mi di po be mm ee fa fb (xs (x + 1).toNatClampNeg) hRel with ⟨r, g', mi', di', po', be', mm', ee', fa', fb', hj, hm, hR'⟩ | ⟨r, mi', di', po', be', mm', ee', fa', fb', hj, hm, hR'⟩
        · exact law_digits_n X hP hD hS hl h1 hc r g' mi' di' po' be' mm' ee' fa' fb' hj hm (kc _ _ _ _ _ _ _ _ _ _ _ _ hR')
        · exact law_digits_t1 X hP hD hS hl h1 hc r mi' di' po' be' mm' ee' fa' fb' hj hm (kc _ _ _ _ _ _ _ _ _ _ _ _ hR')
      by_cases c8 : v = 6
      · refine sw_in hx hb 6 583 dL_law_44 c8 (by decide) (by decide) (by decide) ?_
        rcases ok_exponent g th mi di po be mm ee fa fb (xs (x + 1).toNatClampNeg) hRel with ⟨r, g', mi', di', po', be', mm', ee', fa', fb', hj, hm, hR'⟩ | ⟨r, mi', di', po', be', mm', ee', fa', fb', hj, hm, hR'⟩
        · exact law_exponent_n X hP hD hS hl h1 hc r g' mi' di' po' be' mm' ee' fa' fb' hj hm (kc _ _ _ _ _ _ _ _ _ _ _ _ hR')
        · exact law_exponent_t1 X hP hD hS hl h1 hc r mi' di' po' be' mm' ee' fa' fb' hj hm (kc _ _ _ _ _ _ _ _ _ _ _ _ hR')
      by_cases c9 : v = 7
      · refine sw_in hx hb 7 639 dL_law_44 c9 (by decide) (by decide) (by decide) ?_
        rcases ok_value g th mi di po be mm ee fa fb (xs (x + 1).toNatClampNeg) hRel with ⟨r, g', mi', di', po', be', mm', ee', fa', fb', hj, hm, hR', hd⟩ | ⟨r, mi', di', po', be', mm', ee', fa', fb', hj, hm, hR'⟩
        · exact law_value_n X hP hD hS hl h1 hc r g' mi' di' po' be' mm' ee' fa' fb' hj hm hd (kc _ _ _ _ _ _ _ _ _ _ _ _ hR')
        · exact law_value_t1 X hP hD hS hl h1 hc r mi' di' po' be' mm' ee' fa' fb' hj hm (kc _ _ _ _ _ _ _ _ _ _ _ _ hR')
      by_cases c10 : v = 8
      · refine sw_in hx hb 8 716 dL_law_44 c10 (by decide) (by decide) (by decide) ?_
        rcases ok_whole g th mi di po be mm ee fa fb (xs (x + 1).toNatClampNeg) hRel with ⟨r, g', mi', di', po', be', mm', ee', fa', fb', hj, hm, hR'⟩ | ⟨r, mi', di', po', be', mm', ee', fa', fb', hj, hm, hR'⟩ | ⟨r, mi', di', po', be', mm', ee', fa', fb', hj, hm, hR'⟩
        · exact law_whole_n X hP hD hS hl h1 hc r g' mi' di' po' be' mm' ee' fa' fb' hj hm (kc _ _ _ _ _ _ _ _ _ _ _ _ hR')
        · exact law_whole_t1 X hP hD hS hl h1 hc r mi' di' po' be' mm' ee' fa' fb' hj hm (kc _ _ _ _ _ _ _ _ _ _ _ _ hR')
        · exact law_whole_t2 X hP hD hS hl h1 hc r mi' di' po' be' mm' ee' fa' fb' hj hm (kc _ _ _ _ _ _ _ _ _ _ _ _ hR')
      refine sw_def hx hb (tgt := 771) (n := 9) [0, 1, 2, 3, 4, 5, 6, 7, 8] dL_law_44 (by decide) (by decide) (by decide) (fun v9 hv9 => ?_) ?_
      · rcases List.mem_cons.mp hv9 with rfl | hv9
        · exact c2
        rcases List.mem_cons.mp hv9 with rfl | hv9
        · exact c3
        rcases List.mem_cons.mp hv9 with rfl | hv9
        · exact c4
        rcases List.mem_cons.mp hv9 with rfl | hv9
        · exact c5
        rcases List.mem_cons.mp hv9 with rfl | hv9
        · exact c6
        rcases List.mem_cons.mp hv9 with rfl | hv9
        · exact c7
        rcases List.mem_cons.mp hv9 with rfl | hv9
        · exact c8
        rcases List.mem_cons.mp hv9 with rfl | hv9
        · exact c9
        rcases List.mem_cons.mp hv9 with rfl | hv9
        · exact c10
        exact absurd hv9 List.not_mem_nil
      refine W.widen (k := cells + 1) (n := slots + 6) (by omega) (by omega) ?_
      exact kc g o od th mi di po be mm ee fa fb hRel H locs ls hP hD hS hl
