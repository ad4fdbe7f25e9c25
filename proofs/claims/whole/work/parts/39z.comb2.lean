/-! combine, kind by kind -/
theorem zq_finC {g : NL} {mi : NI} {di : NL} {po : NI} (hR : Rel g mi di po) {t0 : Nat} (h0 : t0 < 16) {n m : Nat} {e : Int} {v : Bool} (hn : nrm m e n) {fa fb : NI} {jx : Option (Int32 × NL)} {jc : Option (Int32 × MS)} (hx : jx = jX0_keep g (nI t0) (lZ (sg v ((min n BEY : Nat) : Int)))) (hc : jc = some (iZ (if n < BEY then 0 else -1), 0, mi, di, po, bI (v && decide (n ≠ 0)), lN m, iZ e, fa, fb)) :
    OKn jx (bM jc fun r_1 th_1 mi_1 di_1 po_1 be_1 mm_1 ee_1 fa_1 fb_1 => jX2_keep th_1 mi_1 di_1 po_1 be_1 mm_1 ee_1 fa_1 fb_1 (nI t0) r_1) := by
  rw [hx, hc, bM_s]
  exact fin_ok hR h0 v hn fa fb
theorem zq_finK {g : NL} {mi : NI} {di : NL} {po : NI} (hR : Rel g mi di po) {t0 : Nat} {c : Int32} (hc0 : ¬ c = 0) {b' : Int32} {mm' : Int64} {ee' : Int32} {fa fb : NI} {jx : Option (Int32 × NL)} {jc : Option (Int32 × MS)} (hx : jx = some (c, g)) (hc : jc = some (c, 0, mi, di, po, b', mm', ee', fa, fb)) :
    OKn jx (bM jc fun r_1 th_1 mi_1 di_1 po_1 be_1 mm_1 ee_1 fa_1 fb_1 => jX2_keep th_1 mi_1 di_1 po_1 be_1 mm_1 ee_1 fa_1 fb_1 (nI t0) r_1) := by
  rw [hx, hc, bM_s]
  refine ⟨c, g, mi, di, po, b', mm', ee', fa, fb, rfl, ?_, hR⟩
  unfold jX2_keep
  rw [if_neg hc0]
theorem zq_finR {g : NL} {mi : NI} {di : NL} {po : NI} (hR : Rel g mi di po) {t0 : Nat} (h0 : t0 < 16) {v : Bool} {m : Nat} {e : Int} (h : nB v m e) {fa fb : NI} {jx : Option (Int32 × NL)} {jc : Option (Int32 × MS)} (hx : jx = jX0_keep g (nI t0) (lZ (sg v (rk m e)))) (hc : jc = some (0, 0, mi, di, po, bI v, lN m, iZ e, fa, fb)) :
    OKn jx (bM jc fun r_1 th_1 mi_1 di_1 po_1 be_1 mm_1 ee_1 fa_1 fb_1 => jX2_keep th_1 mi_1 di_1 po_1 be_1 mm_1 ee_1 fa_1 fb_1 (nI t0) r_1) := by
  rw [hx, hc, bM_s]
  obtain ⟨k1, k2, k3⟩ := keep_ok hR h0 h 0 fa fb
  exact ⟨0, _, _, _, _, _, _, _, _, _, k1, k2, k3⟩
theorem zq_over (g : NL) (t0 : Nat) (v : Bool) : jX0_keep g (nI t0) (lZ (sg v ((BEY : Nat) : Int))) = some (-1, g) := by
  have hB : ((BEY : Nat) : Int) = 9218868437227405312 := rfl
  unfold jX0_keep
  rw [if_neg]
  intro q
  have := (over_0 (by unfold sg; split <;> omega) (by unfold sg; split <;> omega)).mp q
  revert this
  unfold sg; split <;> omega
theorem zq_c0 {g : NL} {mi : NI} {di : NL} {po : NI} (hR : Rel g mi di po) {t0 t u : Nat} (h0 : t0 < 16) (ht : t < 16) (hu : u < 16) (be : Int32) (mm : Int64) (ee : Int32) (fa fb : NI) :
    OKn (jX0_combineRanks g (nI t0) (nI 0) (g t) (g u)) (bM (jX2_combined 0 mi di po be mm ee fa fb (nI 0) (nI t) (nI u)) fun r_1 th_1 mi_1 di_1 po_1 be_1 mm_1 ee_1 fa_1 fb_1 => jX2_keep th_1 mi_1 di_1 po_1 be_1 mm_1 ee_1 fa_1 fb_1 (nI t0) r_1) := by
  have ho : ok (nI t) 16 = true := ok_n ht (by decide)
  have hou : ok (nI u) 16 = true := ok_n hu (by decide)
  obtain ⟨v1, m1, e1, h12, h13, h14, h15, h16⟩ := rel_get (hR t ht)
  obtain ⟨v2, m2, e2, h22, h23, h24, h25, h26⟩ := rel_get (hR u hu)
  obtain ⟨m', e', fa', fb', k1, k2⟩ := ms_sum ht hu h12 h13 h14 h16 h22 h23 h24 h26 false 0 be mm ee fa fb
  rw [ot_f h26] at k1 k2
  exact zq_finC hR h0 k2 (by unfold jX0_combineRanks; rw [if_pos (show nI 0 = 0 by decide), b2_id, h15, h25, cs_sum h16 h26]) (by unfold jX2_combined; rw [if_pos (show nI 0 = 0 by decide), bM_id]; exact k1)
theorem zq_c1 {g : NL} {mi : NI} {di : NL} {po : NI} (hR : Rel g mi di po) {t0 t u : Nat} (h0 : t0 < 16) (ht : t < 16) (hu : u < 16) (be : Int32) (mm : Int64) (ee : Int32) (fa fb : NI) :
    OKn (jX0_combineRanks g (nI t0) (nI 1) (g t) (g u)) (bM (jX2_combined 0 mi di po be mm ee fa fb (nI 1) (nI t) (nI u)) fun r_1 th_1 mi_1 di_1 po_1 be_1 mm_1 ee_1 fa_1 fb_1 => jX2_keep th_1 mi_1 di_1 po_1 be_1 mm_1 ee_1 fa_1 fb_1 (nI t0) r_1) := by
  have ho : ok (nI t) 16 = true := ok_n ht (by decide)
  have hou : ok (nI u) 16 = true := ok_n hu (by decide)
  obtain ⟨v1, m1, e1, h12, h13, h14, h15, h16⟩ := rel_get (hR t ht)
  obtain ⟨v2, m2, e2, h22, h23, h24, h25, h26⟩ := rel_get (hR u hu)
  obtain ⟨m', e', fa', fb', k1, k2⟩ := ms_sum ht hu h12 h13 h14 h16 h22 h23 h24 h26 true 0 be mm ee fa fb
  exact zq_finC hR h0 k2 (by unfold jX0_combineRanks; rw [if_neg (show ¬ nI 1 = 0 by decide), if_pos (show nI 1 = 1 by decide), b2_id, h15, h25, ot_t h26, cs_sum h16 (ot_n h26 true)]) (by unfold jX2_combined; rw [if_neg (show ¬ nI 1 = 0 by decide), if_pos (show nI 1 = 1 by decide), bM_id]; exact k1)
theorem zq_c2 {g : NL} {mi : NI} {di : NL} {po : NI} (hR : Rel g mi di po) {t0 t u : Nat} (h0 : t0 < 16) (ht : t < 16) (hu : u < 16) (be : Int32) (mm : Int64) (ee : Int32) (fa fb : NI) :
    OKn (jX0_combineRanks g (nI t0) (nI 2) (g t) (g u)) (bM (jX2_combined 0 mi di po be mm ee fa fb (nI 2) (nI t) (nI u)) fun r_1 th_1 mi_1 di_1 po_1 be_1 mm_1 ee_1 fa_1 fb_1 => jX2_keep th_1 mi_1 di_1 po_1 be_1 mm_1 ee_1 fa_1 fb_1 (nI t0) r_1) := by
  have ho : ok (nI t) 16 = true := ok_n ht (by decide)
  have hou : ok (nI u) 16 = true := ok_n hu (by decide)
  obtain ⟨v1, m1, e1, h12, h13, h14, h15, h16⟩ := rel_get (hR t ht)
  obtain ⟨v2, m2, e2, h22, h23, h24, h25, h26⟩ := rel_get (hR u hu)
  obtain ⟨m', e', fa', k1, k2, -⟩ := ms_prod ht hu h12 h13 h14 h16 h22 h23 h24 h26 0 be mm ee fa fb
  exact zq_finC hR h0 k2 (by unfold jX0_combineRanks; rw [if_neg (show ¬ nI 2 = 0 by decide), if_neg (show ¬ nI 2 = 1 by decide), if_pos (show nI 2 = 2 by decide), b2_id, h15, h25, cs_prod h16 h26]) (by unfold jX2_combined; rw [if_neg (show ¬ nI 2 = 0 by decide), if_neg (show ¬ nI 2 = 1 by decide), if_pos (show nI 2 = 2 by decide), bM_id]; exact k1)
theorem zq_c3 {g : NL} {mi : NI} {di : NL} {po : NI} (hR : Rel g mi di po) {t0 t u : Nat} (h0 : t0 < 16) (ht : t < 16) (hu : u < 16) (be : Int32) (mm : Int64) (ee : Int32) (fa fb : NI) :
    OKn (jX0_combineRanks g (nI t0) (nI 3) (g t) (g u)) (bM (jX2_combined 0 mi di po be mm ee fa fb (nI 3) (nI t) (nI u)) fun r_1 th_1 mi_1 di_1 po_1 be_1 mm_1 ee_1 fa_1 fb_1 => jX2_keep th_1 mi_1 di_1 po_1 be_1 mm_1 ee_1 fa_1 fb_1 (nI t0) r_1) := by
  have ho : ok (nI t) 16 = true := ok_n ht (by decide)
  have hou : ok (nI u) 16 = true := ok_n hu (by decide)
  obtain ⟨v1, m1, e1, h12, h13, h14, h15, h16⟩ := rel_get (hR t ht)
  obtain ⟨v2, m2, e2, h22, h23, h24, h25, h26⟩ := rel_get (hR u hu)
  have z2 : (lN m2 = 0) ↔ m2 = 0 := ln0 (by have := h26.1; omega)
  by_cases c : m2 = 0
  · refine zq_finK (c := -2) (b' := be) (mm' := mm) (ee' := ee) (fa := fa) (fb := fb) hR (by decide) ?_ ?_
    · unfold jX0_combineRanks
      rw [if_neg (show ¬ nI 3 = 0 by decide), if_neg (show ¬ nI 3 = 1 by decide), if_neg (show ¬ nI 3 = 2 by decide), if_pos (show nI 3 = 3 by decide), h25, if_pos ((sg_0 h26).mpr c)]
    · unfold jX2_combined
      rw [if_neg (show ¬ nI 3 = 0 by decide), if_neg (show ¬ nI 3 = 1 by decide), if_neg (show ¬ nI 3 = 2 by decide), if_pos (show nI 3 = 3 by decide)]
      simp only [hou, if_true]
      rw [nI_clamp (by omega), h23, if_pos (z2.mpr c)]
  · obtain ⟨m', e', fa', k1, k2⟩ := ms_quot (mi := mi) (di := di) (po := po) (v := v1 != v2) h16.1 h26.1 c h16.2.1 h16.2.2.1 h26.2.1 h26.2.2.1 0 be mm ee fa fb
    refine zq_finC (v := v1 != v2) (fa := fa') (fb := fb) hR h0 k2 ?_ ?_
    · unfold jX0_combineRanks
      rw [if_neg (show ¬ nI 3 = 0 by decide), if_neg (show ¬ nI 3 = 1 by decide), if_neg (show ¬ nI 3 = 2 by decide), if_pos (show nI 3 = 3 by decide), h15, h25, if_neg (fun q => c ((sg_0 h26).mp q)), cs_quot h16 h26 c, Option.bind_some, b2_id]
    · unfold jX2_combined
      rw [if_neg (show ¬ nI 3 = 0 by decide), if_neg (show ¬ nI 3 = 1 by decide), if_neg (show ¬ nI 3 = 2 by decide), if_pos (show nI 3 = 3 by decide)]
      simp only [ho, hou, if_true]
      rw [nI_clamp (by omega), nI_clamp (by omega), h13, h23, h12, h22, h14, h24, if_neg (fun q => c (z2.mp q)), bM_id, ne_bI]
      exact k1
theorem zq_c4 {g : NL} {mi : NI} {di : NL} {po : NI} (hR : Rel g mi di po) {t0 t u : Nat} (h0 : t0 < 16) (ht : t < 16) (hu : u < 16) (be : Int32) (mm : Int64) (ee : Int32) (fa fb : NI) :
    OKn (jX0_combineRanks g (nI t0) (nI 4) (g t) (g u)) (bM (jX2_combined 0 mi di po be mm ee fa fb (nI 4) (nI t) (nI u)) fun r_1 th_1 mi_1 di_1 po_1 be_1 mm_1 ee_1 fa_1 fb_1 => jX2_keep th_1 mi_1 di_1 po_1 be_1 mm_1 ee_1 fa_1 fb_1 (nI t0) r_1) := by
  have ho : ok (nI t) 16 = true := ok_n ht (by decide)
  have hou : ok (nI u) 16 = true := ok_n hu (by decide)
  obtain ⟨v1, m1, e1, h12, h13, h14, h15, h16⟩ := rel_get (hR t ht)
  obtain ⟨v2, m2, e2, h22, h23, h24, h25, h26⟩ := rel_get (hR u hu)
  have z2 : (lN m2 = 0) ↔ m2 = 0 := ln0 (by have := h26.1; omega)
  by_cases c : m2 = 0
  · refine zq_finK (c := -2) (b' := be) (mm' := mm) (ee' := ee) (fa := fa) (fb := fb) hR (by decide) ?_ ?_
    · unfold jX0_combineRanks
      rw [if_neg (show ¬ nI 4 = 0 by decide), if_neg (show ¬ nI 4 = 1 by decide), if_neg (show ¬ nI 4 = 2 by decide), if_neg (show ¬ nI 4 = 3 by decide), if_pos (show nI 4 = 4 by decide), h25, if_pos ((sg_0 h26).mpr c)]
    · unfold jX2_combined
      rw [if_neg (show ¬ nI 4 = 0 by decide), if_neg (show ¬ nI 4 = 1 by decide), if_neg (show ¬ nI 4 = 2 by decide), if_neg (show ¬ nI 4 = 3 by decide), if_pos (show nI 4 = 4 by decide)]
      simp only [hou, if_true]
      rw [nI_clamp (by omega), h23, if_pos (z2.mpr c)]
  · obtain ⟨m', e', k1, k2⟩ := ms_rest ht hu h12 h13 h14 h16 h23 h24 h26 c 0 be mm ee fa fb
    refine zq_finC (v := v1) (fa := fa) (fb := fb) hR h0 k2 ?_ ?_
    · unfold jX0_combineRanks
      rw [if_neg (show ¬ nI 4 = 0 by decide), if_neg (show ¬ nI 4 = 1 by decide), if_neg (show ¬ nI 4 = 2 by decide), if_neg (show ¬ nI 4 = 3 by decide), if_pos (show nI 4 = 4 by decide), h15, h25, if_neg (fun q => c ((sg_0 h26).mp q)), cs_rest h16 h26 c, Option.bind_some, b2_id]
    · unfold jX2_combined
      rw [if_neg (show ¬ nI 4 = 0 by decide), if_neg (show ¬ nI 4 = 1 by decide), if_neg (show ¬ nI 4 = 2 by decide), if_neg (show ¬ nI 4 = 3 by decide), if_pos (show nI 4 = 4 by decide)]
      simp only [hou, if_true]
      rw [nI_clamp (by omega), h23, if_neg (fun q => c (z2.mp q)), bM_id]
      exact k1
theorem zq_c5 {g : NL} {mi : NI} {di : NL} {po : NI} (hR : Rel g mi di po) {t0 t u : Nat} (h0 : t0 < 16) (ht : t < 16) (hu : u < 16) (be : Int32) (mm : Int64) (ee : Int32) (fa fb : NI) :
    OKn (jX0_combineRanks g (nI t0) (nI 5) (g t) (g u)) (bM (jX2_combined 0 mi di po be mm ee fa fb (nI 5) (nI t) (nI u)) fun r_1 th_1 mi_1 di_1 po_1 be_1 mm_1 ee_1 fa_1 fb_1 => jX2_keep th_1 mi_1 di_1 po_1 be_1 mm_1 ee_1 fa_1 fb_1 (nI t0) r_1) := by
  have ho : ok (nI t) 16 = true := ok_n ht (by decide)
  have hou : ok (nI u) 16 = true := ok_n hu (by decide)
  obtain ⟨v1, m1, e1, h12, h13, h14, h15, h16⟩ := rel_get (hR t ht)
  obtain ⟨v2, m2, e2, h22, h23, h24, h25, h26⟩ := rel_get (hR u hu)
  have hpick : ∀ (w : Nat), w < 16 → jX2_pick 0 mi di po be mm ee fa fb (nI w) = some (0, 0, mi, di, po, mi w, di w, po w, fa, fb) := fun w hw => by
    obtain ⟨v9, m9, e9, q2, q3, q4, q5, q6⟩ := rel_get (hR w hw)
    unfold jX2_pick
    rw [take_n hw q2, bMv_s, q2]
  have hcm := compare_n hR hu ht 0 be mm ee fa fb
  have hC : ∀ (w : Nat), w < 16 → (if 0 ≤ iZ (cmpZ (g u).toInt (g t).toInt) then nI t else nI u) = nI w → jX2_combined 0 mi di po be mm ee fa fb (nI 5) (nI t) (nI u) = some (0, 0, mi, di, po, mi w, di w, po w, fa, fb) := fun w hw hq => by
    unfold jX2_combined
    rw [if_neg (show ¬ nI 5 = 0 by decide), if_neg (show ¬ nI 5 = 1 by decide), if_neg (show ¬ nI 5 = 2 by decide), if_neg (show ¬ nI 5 = 3 by decide), if_neg (show ¬ nI 5 = 4 by decide), if_pos (show nI 5 = 5 by decide), hcm, bM_s, bM_id, hq]
    exact hpick w hw
  have hJ : ∀ x : Int64, jminl (g t) (g u) = x → jX0_combineRanks g (nI t0) (nI 5) (g t) (g u) = jX0_keep g (nI t0) x := fun x hx => by
    unfold jX0_combineRanks
    rw [if_neg (show ¬ nI 5 = 0 by decide), if_neg (show ¬ nI 5 = 1 by decide), if_neg (show ¬ nI 5 = 2 by decide), if_neg (show ¬ nI 5 = 3 by decide), if_neg (show ¬ nI 5 = 4 by decide), if_pos (show nI 5 = 5 by decide), b2_id, hx]
  unfold cmpZ at hC
  by_cases c : g u < g t
  · have c' := Int64.lt_iff_toInt_lt.mp c
    refine zq_finR (fa := fa) (fb := fb) hR h0 h26 (hJ _ ?_) ?_
    · unfold jminl; rw [if_pos c]; exact h25
    · rw [hC u hu (by rw [if_pos c', if_neg (by decide)]), h22, h23, h24]
  · have c' : ¬ (g u).toInt < (g t).toInt := fun q => c (Int64.lt_iff_toInt_lt.mpr q)
    refine zq_finR (fa := fa) (fb := fb) hR h0 h16 (hJ _ ?_) ?_
    · unfold jminl; rw [if_neg c]; exact h15
    · rw [hC t ht (by rw [if_neg c']; split <;> (rw [if_pos (by decide)])), h12, h13, h14]
theorem zq_c6 {g : NL} {mi : NI} {di : NL} {po : NI} (hR : Rel g mi di po) {t0 t u : Nat} (h0 : t0 < 16) (ht : t < 16) (hu : u < 16) (be : Int32) (mm : Int64) (ee : Int32) (fa fb : NI) :
    OKn (jX0_combineRanks g (nI t0) (nI 6) (g t) (g u)) (bM (jX2_combined 0 mi di po be mm ee fa fb (nI 6) (nI t) (nI u)) fun r_1 th_1 mi_1 di_1 po_1 be_1 mm_1 ee_1 fa_1 fb_1 => jX2_keep th_1 mi_1 di_1 po_1 be_1 mm_1 ee_1 fa_1 fb_1 (nI t0) r_1) := by
  have ho : ok (nI t) 16 = true := ok_n ht (by decide)
  have hou : ok (nI u) 16 = true := ok_n hu (by decide)
  obtain ⟨v1, m1, e1, h12, h13, h14, h15, h16⟩ := rel_get (hR t ht)
  obtain ⟨v2, m2, e2, h22, h23, h24, h25, h26⟩ := rel_get (hR u hu)
  have hpick : ∀ (w : Nat), w < 16 → jX2_pick 0 mi di po be mm ee fa fb (nI w) = some (0, 0, mi, di, po, mi w, di w, po w, fa, fb) := fun w hw => by
    obtain ⟨v9, m9, e9, q2, q3, q4, q5, q6⟩ := rel_get (hR w hw)
    unfold jX2_pick
    rw [take_n hw q2, bMv_s, q2]
  have hcm := compare_n hR hu ht 0 be mm ee fa fb
  have hC : ∀ (w : Nat), w < 16 → (if iZ (cmpZ (g u).toInt (g t).toInt) ≤ 0 then nI t else nI u) = nI w → jX2_combined 0 mi di po be mm ee fa fb (nI 6) (nI t) (nI u) = some (0, 0, mi, di, po, mi w, di w, po w, fa, fb) := fun w hw hq => by
    unfold jX2_combined
    rw [if_neg (show ¬ nI 6 = 0 by decide), if_neg (show ¬ nI 6 = 1 by decide), if_neg (show ¬ nI 6 = 2 by decide), if_neg (show ¬ nI 6 = 3 by decide), if_neg (show ¬ nI 6 = 4 by decide), if_neg (show ¬ nI 6 = 5 by decide), if_pos (show nI 6 = 6 by decide), hcm, bM_s, bM_id, hq]
    exact hpick w hw
  have hJ : ∀ x : Int64, jmaxl (g t) (g u) = x → jX0_combineRanks g (nI t0) (nI 6) (g t) (g u) = jX0_keep g (nI t0) x := fun x hx => by
    unfold jX0_combineRanks
    rw [if_neg (show ¬ nI 6 = 0 by decide), if_neg (show ¬ nI 6 = 1 by decide), if_neg (show ¬ nI 6 = 2 by decide), if_neg (show ¬ nI 6 = 3 by decide), if_neg (show ¬ nI 6 = 4 by decide), if_neg (show ¬ nI 6 = 5 by decide), if_pos (show nI 6 = 6 by decide), b2_id, hx]
  unfold cmpZ at hC
  by_cases c : g u < g t
  · have c' := Int64.lt_iff_toInt_lt.mp c
    refine zq_finR (fa := fa) (fb := fb) hR h0 h16 (hJ _ ?_) ?_
    · unfold jmaxl; rw [if_pos c]; exact h15
    · rw [hC t ht (by rw [if_pos c', if_pos (by decide)]), h12, h13, h14]
  · have c' : ¬ (g u).toInt < (g t).toInt := fun q => c (Int64.lt_iff_toInt_lt.mpr q)
    by_cases d : (g u).toInt = (g t).toInt
    · have d' : g u = g t := Int64.toInt_inj.mp d
      refine zq_finR (fa := fa) (fb := fb) hR h0 h16 (hJ _ ?_) ?_
      · unfold jmaxl; rw [if_neg c, d']; exact h15
      · rw [hC t ht (by rw [if_neg c', if_pos d, if_pos (by decide)]), h12, h13, h14]
    · refine zq_finR (fa := fa) (fb := fb) hR h0 h26 (hJ _ ?_) ?_
      · unfold jmaxl; rw [if_neg c]; exact h25
      · rw [hC u hu (by rw [if_neg c', if_neg d, if_neg (by decide)]), h22, h23, h24]
theorem zq_c7 {g : NL} {mi : NI} {di : NL} {po : NI} (hR : Rel g mi di po) {t0 t u : Nat} (h0 : t0 < 16) (ht : t < 16) (hu : u < 16) (be : Int32) (mm : Int64) (ee : Int32) (fa fb : NI) :
    OKn (jX0_combineRanks g (nI t0) (nI 7) (g t) (g u)) (bM (jX2_combined 0 mi di po be mm ee fa fb (nI 7) (nI t) (nI u)) fun r_1 th_1 mi_1 di_1 po_1 be_1 mm_1 ee_1 fa_1 fb_1 => jX2_keep th_1 mi_1 di_1 po_1 be_1 mm_1 ee_1 fa_1 fb_1 (nI t0) r_1) := by
  have ho : ok (nI t) 16 = true := ok_n ht (by decide)
  have hou : ok (nI u) 16 = true := ok_n hu (by decide)
  obtain ⟨v1, m1, e1, h12, h13, h14, h15, h16⟩ := rel_get (hR t ht)
  obtain ⟨v2, m2, e2, h22, h23, h24, h25, h26⟩ := rel_get (hR u hu)
  obtain ⟨s1, s2⟩ := ms_serr ht hu h12 h13 h14 h16 h22 h23 h24 h26 0 be mm ee fa fb
  have hs := cs_serr h16 h26
  by_cases c : RA (V v1 m1 e1 + V v2 m2 e2) < BEY
  · obtain ⟨m', e', fa', fb', k1, k2⟩ := s2 c
    rw [if_pos c] at hs
    refine zq_finC (v := decide (ER (V v1 m1 e1 + V v2 m2 e2) < 0)) (fa := fa') (fb := fb') hR h0 k2 ?_ ?_
    · unfold jX0_combineRanks
      rw [if_neg (show ¬ nI 7 = 0 by decide), if_neg (show ¬ nI 7 = 1 by decide), if_neg (show ¬ nI 7 = 2 by decide), if_neg (show ¬ nI 7 = 3 by decide), if_neg (show ¬ nI 7 = 4 by decide), if_neg (show ¬ nI 7 = 5 by decide), if_neg (show ¬ nI 7 = 6 by decide), if_pos (show nI 7 = 7 by decide), b2_id, h15, h25, hs]
    · unfold jX2_combined
      rw [if_neg (show ¬ nI 7 = 0 by decide), if_neg (show ¬ nI 7 = 1 by decide), if_neg (show ¬ nI 7 = 2 by decide), if_neg (show ¬ nI 7 = 3 by decide), if_neg (show ¬ nI 7 = 4 by decide), if_neg (show ¬ nI 7 = 5 by decide), if_neg (show ¬ nI 7 = 6 by decide), if_pos (show nI 7 = 7 by decide), bM_id]
      exact k1
  · obtain ⟨b', mm', ee', fa', fb', k1⟩ := s1 c
    rw [if_neg c] at hs
    refine zq_finK (c := -1) hR (by decide) ?_ ?_ (b' := b') (mm' := mm') (ee' := ee') (fa := fa') (fb := fb')
    · unfold jX0_combineRanks
      rw [if_neg (show ¬ nI 7 = 0 by decide), if_neg (show ¬ nI 7 = 1 by decide), if_neg (show ¬ nI 7 = 2 by decide), if_neg (show ¬ nI 7 = 3 by decide), if_neg (show ¬ nI 7 = 4 by decide), if_neg (show ¬ nI 7 = 5 by decide), if_neg (show ¬ nI 7 = 6 by decide), if_pos (show nI 7 = 7 by decide), b2_id, h15, h25, hs, zq_over]
    · unfold jX2_combined
      rw [if_neg (show ¬ nI 7 = 0 by decide), if_neg (show ¬ nI 7 = 1 by decide), if_neg (show ¬ nI 7 = 2 by decide), if_neg (show ¬ nI 7 = 3 by decide), if_neg (show ¬ nI 7 = 4 by decide), if_neg (show ¬ nI 7 = 5 by decide), if_neg (show ¬ nI 7 = 6 by decide), if_pos (show nI 7 = 7 by decide), bM_id]
      exact k1
theorem zq_c8 {g : NL} {mi : NI} {di : NL} {po : NI} (hR : Rel g mi di po) {t0 t u : Nat} (h0 : t0 < 16) (ht : t < 16) (hu : u < 16) (be : Int32) (mm : Int64) (ee : Int32) (fa fb : NI) :
    OKn (jX0_combineRanks g (nI t0) (nI 8) (g t) (g u)) (bM (jX2_combined 0 mi di po be mm ee fa fb (nI 8) (nI t) (nI u)) fun r_1 th_1 mi_1 di_1 po_1 be_1 mm_1 ee_1 fa_1 fb_1 => jX2_keep th_1 mi_1 di_1 po_1 be_1 mm_1 ee_1 fa_1 fb_1 (nI t0) r_1) := by
  have ho : ok (nI t) 16 = true := ok_n ht (by decide)
  have hou : ok (nI u) 16 = true := ok_n hu (by decide)
  obtain ⟨v1, m1, e1, h12, h13, h14, h15, h16⟩ := rel_get (hR t ht)
  obtain ⟨v2, m2, e2, h22, h23, h24, h25, h26⟩ := rel_get (hR u hu)
  obtain ⟨s1, s2, s3, s4⟩ := ms_perr ht hu h12 h13 h14 h16 h22 h23 h24 h26 0 be mm ee fa fb
  have hsm := cs_small h16 h26
  have hpr := cs_prod h16 h26
  have hB : BEY = 9218868437227405312 := rfl
  have hC : ∀ r, jX2_productError 0 mi di po be mm ee fa fb (nI t) (nI u) = r → jX2_combined 0 mi di po be mm ee fa fb (nI 8) (nI t) (nI u) = r := fun r hr => by
    unfold jX2_combined
    rw [if_neg (show ¬ nI 8 = 0 by decide), if_neg (show ¬ nI 8 = 1 by decide), if_neg (show ¬ nI 8 = 2 by decide), if_neg (show ¬ nI 8 = 3 by decide), if_neg (show ¬ nI 8 = 4 by decide), if_neg (show ¬ nI 8 = 5 by decide), if_neg (show ¬ nI 8 = 6 by decide), if_neg (show ¬ nI 8 = 7 by decide), bM_id]
    exact hr
  have hJ : ∀ x : Int64, (jX0_isSmallProduct (g t) (g u)) = 0 → jX0_productError (g t) (g u) = x → jX0_combineRanks g (nI t0) (nI 8) (g t) (g u) = jX0_keep g (nI t0) x := fun x q hx => by
    unfold jX0_combineRanks
    rw [if_neg (show ¬ nI 8 = 0 by decide), if_neg (show ¬ nI 8 = 1 by decide), if_neg (show ¬ nI 8 = 2 by decide), if_neg (show ¬ nI 8 = 3 by decide), if_neg (show ¬ nI 8 = 4 by decide), if_neg (show ¬ nI 8 = 5 by decide), if_neg (show ¬ nI 8 = 6 by decide), if_neg (show ¬ nI 8 = 7 by decide), if_pos q, b2_id, hx]
  by_cases c1 : m1 = 0 ∨ m2 = 0
  · have hN : m1 * m2 = 0 := by rcases c1 with r | r <;> simp [r]
    rw [hN, RN_0] at s2 hpr
    obtain ⟨m', e', fa', k1, k2⟩ := s2 (by decide) c1
    refine zq_finC (v := false) (n := 0) hR h0 k2 (hJ _ ?_ ?_) (hC _ k1)
    · rw [h15, h25, hsm]; rcases c1 with r | r
      · exact Or.inl r
      · exact Or.inr (Or.inl r)
    · have hz : lZ (sg (v1 != v2) ((min 0 BEY : Nat) : Int)) = 0 := by cases (v1 != v2) <;> rfl
      rw [hz] at hpr
      unfold jX0_productError
      rw [h15, h25, hpr, if_pos rfl]; rfl
  · have d1 : m1 ≠ 0 := fun q => c1 (Or.inl q)
    have d2 : m2 ≠ 0 := fun q => c1 (Or.inr q)
    by_cases c2 : -960 ≤ (bl (m1 * m2) : Int) - 1 + (e1 + e2)
    · have hs0 : jX0_isSmallProduct (g t) (g u) = 0 := by rw [h15, h25, hsm]; exact Or.inr (Or.inr c2)
      by_cases c3 : RN (m1 * m2) (e1 + e2) false < BEY
      · obtain ⟨mr, R, er, m', e', fa', fb', j1, j2, j3, j4, j5, k1, k2⟩ := s4 c3 d1 d2 c2
        exact zq_finC hR h0 k2 (hJ _ hs0 (by rw [h15, h25]; exact cs_perr h16 h26 d1 d2 c2 j1 c3 j2 j3 j4 j5)) (hC _ k1)
      · obtain ⟨b', mm', ee', fa', fb', k1⟩ := s1 c3
        rw [Nat.min_eq_right (by omega)] at hpr
        refine zq_finK (c := -1) hR (by decide) ?_ (hC _ k1)
        rw [hJ (lZ (sg (v1 != v2) ((BEY : Nat) : Int))) hs0 ?_, zq_over]
        have hover : ¬ jX0_isOver (lZ (sg (v1 != v2) ((BEY : Nat) : Int))) = 0 := fun q => by
          have := (over_0 (by unfold sg; split <;> omega) (by unfold sg; split <;> omega)).mp q
          revert this
          unfold sg; split <;> omega
        have hz : ¬ lZ (sg (v1 != v2) ((BEY : Nat) : Int)) = 0 := fun q => by rw [q] at hover; exact hover (by decide)
        unfold jX0_productError
        rw [h15, h25, hpr, if_neg hz, if_neg hover]
    · have hs0 : ¬ jX0_isSmallProduct (g t) (g u) = 0 := fun q => by
        rw [h15, h25, hsm] at q
        rcases q with q | q | q
        · exact d1 q
        · exact d2 q
        · exact c2 q
      have c3 : RN (m1 * m2) (e1 + e2) false < BEY := by
        have hm0 : m1 * m2 ≠ 0 := fun w => by rcases Nat.mul_eq_zero.mp w with h | h; exact d1 h; exact d2 h
        have hcut := cut_ge (m1 * m2) (e1 + e2)
        have hb1 := bl_pos hm0
        have hrl := rr_le (m1 * m2) (e1 + e2) false
        unfold RN
        rw [if_neg hm0]
        omega
      obtain ⟨b', mm', ee', fa', fb', k1⟩ := s3 c3 d1 d2 c2
      refine zq_finK (c := -4) hR (by decide) ?_ (hC _ k1)
      unfold jX0_combineRanks
      rw [if_neg (show ¬ nI 8 = 0 by decide), if_neg (show ¬ nI 8 = 1 by decide), if_neg (show ¬ nI 8 = 2 by decide), if_neg (show ¬ nI 8 = 3 by decide), if_neg (show ¬ nI 8 = 4 by decide), if_neg (show ¬ nI 8 = 5 by decide), if_neg (show ¬ nI 8 = 6 by decide), if_neg (show ¬ nI 8 = 7 by decide), if_neg hs0]
theorem ok_combine (g : NL) (th : Int32) (mi : NI) (di : NL) (po : NI) (be : Int32) (mm : Int64) (ee : Int32) (fa fb : NI) (x1 : Int32) (x2 : Int32) (x3 : Int32) (x4 : Int32) (hR : Rel g mi di po) : OKn (jX0_combine g x1 x2 x3 x4) (jX2_combine th mi di po be mm ee fa fb x1 x2 x3 x4) ∨ OKt (tX0_combine g x1 x2 x3 x4) (jX2_combine th mi di po be mm ee fa fb x1 x2 x3 x4) g 1 1 := by
  have hbad : ∀ f : Int32, f = 1 → jX2_combine_B41 f mi di po be mm ee fa fb x1 x2 x3 x4 = some (0, 1, mi, di, po, be, mm, ee, fa, fb) := fun f hf => by
    unfold jX2_combine_B41
    rw [hf, if_neg (by decide)]
  by_cases h1 : rok x1 = true
  · by_cases h3 : rok x3 = true
    · by_cases h4 : rok x4 = true
      · by_cases h2 : kok x2 = true
        · left
          obtain ⟨t0, ht0, rfl, -⟩ := rok_of h1
          obtain ⟨t, ht, rfl, ho⟩ := rok_of h3
          obtain ⟨u, hu, rfl, hou⟩ := rok_of h4
          obtain ⟨q1, q2⟩ := of_decide_eq_true h2
          have hw : ¬ jX2_within x2 0 8 = 0 := fun w => by
            rcases wi_0.mp w with q | q
            · exact q1 q
            · exact absurd q2 (Int32.not_le.mpr q)
          obtain ⟨k, hk, rfl⟩ := nI_of2 (M := 8) (n := 8) rfl q1 q2
          have hX : jX0_combine g (nI t0) (nI k) (nI t) (nI u) = jX0_combineRanks g (nI t0) (nI k) (g t) (g u) := by
            unfold jX0_combine
            rw [if_pos h1, if_pos h3, if_pos h4, if_pos h2, if_pos ho, if_pos hou, b2_id, nI_clamp (by omega), nI_clamp (by omega)]
          have hM : jX2_combine th mi di po be mm ee fa fb (nI t0) (nI k) (nI t) (nI u) = bM (jX2_combined 0 mi di po be mm ee fa fb (nI k) (nI t) (nI u)) fun r_1 th_1 mi_1 di_1 po_1 be_1 mm_1 ee_1 fa_1 fb_1 => jX2_keep th_1 mi_1 di_1 po_1 be_1 mm_1 ee_1 fa_1 fb_1 (nI t0) r_1 := by
            unfold jX2_combine jX2_combine_B41
            rw [if_neg (fun z => (isr_0.mp z) h1), if_neg (fun z => (isr_0.mp z) h3), if_neg (fun z => (isr_0.mp z) h4), if_neg hw, if_pos (by decide)]
            simp only [bM_id]
          rw [hX, hM]
          rcases (show k = 0 ∨ k = 1 ∨ k = 2 ∨ k = 3 ∨ k = 4 ∨ k = 5 ∨ k = 6 ∨ k = 7 ∨ k = 8 by omega) with rfl | rfl | rfl | rfl | rfl | rfl | rfl | rfl | rfl
          · exact zq_c0 hR ht0 ht hu be mm ee fa fb
          · exact zq_c1 hR ht0 ht hu be mm ee fa fb
          · exact zq_c2 hR ht0 ht hu be mm ee fa fb
          · exact zq_c3 hR ht0 ht hu be mm ee fa fb
          · exact zq_c4 hR ht0 ht hu be mm ee fa fb
          · exact zq_c5 hR ht0 ht hu be mm ee fa fb
          · exact zq_c6 hR ht0 ht hu be mm ee fa fb
          · exact zq_c7 hR ht0 ht hu be mm ee fa fb
          · exact zq_c8 hR ht0 ht hu be mm ee fa fb
        · right
          refine ⟨0, mi, di, po, be, mm, ee, fa, fb, ?_, ?_, hR⟩
          · unfold tX0_combine; rw [if_pos h1, if_pos h3, if_pos h4, if_neg h2]
          · unfold jX2_combine
            apply hbad
            have hw : jX2_within x2 0 8 = 0 := wi_0.mpr (by
              by_cases q : x2 < 0
              · exact Or.inl q
              · right
                apply Int32.not_le.mp
                intro q2
                exact h2 (decide_eq_true ⟨q, q2⟩))
            rw [if_neg (fun z => (isr_0.mp z) h1), if_neg (fun z => (isr_0.mp z) h3), if_neg (fun z => (isr_0.mp z) h4), if_pos hw]
      · right
        refine ⟨0, mi, di, po, be, mm, ee, fa, fb, ?_, ?_, hR⟩
        · unfold tX0_combine; rw [if_pos h1, if_pos h3, if_neg h4]
        · unfold jX2_combine
          apply hbad
          rw [if_neg (fun z => (isr_0.mp z) h1), if_neg (fun z => (isr_0.mp z) h3), if_pos (isr_0.mpr h4)]
    · right
      refine ⟨0, mi, di, po, be, mm, ee, fa, fb, ?_, ?_, hR⟩
      · unfold tX0_combine; rw [if_pos h1, if_neg h3]
      · unfold jX2_combine
        apply hbad
        rw [if_neg (fun z => (isr_0.mp z) h1), if_pos (isr_0.mpr h3)]
  · right
    refine ⟨0, mi, di, po, be, mm, ee, fa, fb, ?_, ?_, hR⟩
    · unfold tX0_combine; rw [if_neg h1]
    · unfold jX2_combine
      apply hbad
      rw [if_pos (isr_0.mpr h1)]
