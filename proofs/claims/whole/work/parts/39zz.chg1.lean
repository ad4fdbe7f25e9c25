/-! change: the other sign, the size, the neighbours -/
theorem zq_h0 {g : NL} {mi : NI} {di : NL} {po : NI} (hR : Rel g mi di po) {t0 t : Nat} (h0 : t0 < 16) (ht : t < 16) (be : Int32) (mm : Int64) (ee : Int32) (fa fb : NI) :
    OKn (jX0_changeRank g (nI t0) (nI 0) (g t)) (bM (jX2_changed 0 mi di po be mm ee fa fb (nI 0) (nI t)) fun r_1 th_1 mi_1 di_1 po_1 be_1 mm_1 ee_1 fa_1 fb_1 => jX2_keep th_1 mi_1 di_1 po_1 be_1 mm_1 ee_1 fa_1 fb_1 (nI t0) r_1) := by
  obtain ⟨v, m, e, h2, h3, h4, h5, h6⟩ := rel_get (hR t ht)
  have hm := h6.1
  have h50 := h6.2.2.2.2
  refine zq_finR (fa := fa) (fb := fb) hR h0 (ot_n h6 true) ?_ ?_
  · unfold jX0_changeRank
    rw [if_pos (show nI 0 = 0 by decide), b2_id, h5, ot_t h6]
  · unfold jX2_changed
    rw [if_pos (show nI 0 = 0 by decide), take_n ht h2, bMv_s, h3, h4]
    have hb : (if bI v = 0 then (if lN m ≤ 0 then 0 else 1 : Int32) else 0 : Int32) = bI (ot v true m) := by
      unfold ot
      cases v with
      | true => rw [if_neg (by decide)]; rfl
      | false =>
        rw [if_pos (show bI false = 0 from rfl)]
        by_cases c : m = 0
        · subst c; decide
        · rw [if_neg (fun q => c (by have := (ln_le (b := 0) (by omega) (by omega)).mp q; omega))]
          simp [show 0 < m by omega, bI]
    rw [hb]
theorem zq_h1 {g : NL} {mi : NI} {di : NL} {po : NI} (hR : Rel g mi di po) {t0 t : Nat} (h0 : t0 < 16) (ht : t < 16) (be : Int32) (mm : Int64) (ee : Int32) (fa fb : NI) :
    OKn (jX0_changeRank g (nI t0) (nI 1) (g t)) (bM (jX2_changed 0 mi di po be mm ee fa fb (nI 1) (nI t)) fun r_1 th_1 mi_1 di_1 po_1 be_1 mm_1 ee_1 fa_1 fb_1 => jX2_keep th_1 mi_1 di_1 po_1 be_1 mm_1 ee_1 fa_1 fb_1 (nI t0) r_1) := by
  obtain ⟨v, m, e, h2, h3, h4, h5, h6⟩ := rel_get (hR t ht)
  have hb := rk_b h6
  have h7 : nB false m e := ⟨h6.1, h6.2.1, h6.2.2.1, h6.2.2.2.1, fun q => absurd q (by decide)⟩
  refine zq_finR (fa := fa) (fb := fb) hR h0 h7 ?_ ?_
  · unfold jX0_changeRank
    rw [if_neg (show ¬ nI 1 = 0 by decide), if_pos (show nI 1 = 1 by decide), b2_id, h5, jabsl_z (by unfold sg; split <;> omega) (by unfold sg; split <;> omega), sg_abs v hb.1, ← lZ_N, show (((rk m e).toNat : Nat) : Int) = rk m e by omega]
    rfl
  · unfold jX2_changed
    rw [if_neg (show ¬ nI 1 = 0 by decide), if_pos (show nI 1 = 1 by decide), take_n ht h2, bMv_s, h3, h4]
    rfl
theorem zq_nb (z : Int) (hz : z.natAbs ≤ 9218868437227405312) (th : Int32) (mi : NI) (di : NL) (po : NI) (be : Int32) (mm : Int64) (ee : Int32) (fa fb : NI) :
    ∃ (m : Nat) (e : Int), nrm m e z.natAbs ∧ jX2_neighbour_B57 th mi di po be mm ee fa fb (lZ z) 9218868437227405311 = (if z.natAbs < BEY then some (0, th, mi, di, po, bI (decide (z < 0)), lN m, iZ e, fa, fb) else some (-1, th, mi, di, po, be, mm, ee, fa, fb)) := by
  have hB : BEY = 9218868437227405312 := rfl
  have ea : (if 0 ≤ lZ z then lZ z else -lZ z : Int64) = lN z.natAbs := by
    by_cases q : 0 ≤ z
    · rw [if_pos ((l0le (by omega) (by omega)).mpr q), ← lZ_N]; congr 1; omega
    · rw [if_neg (fun w => q ((l0le (by omega) (by omega)).mp w)), ← lZ_N, lz_neg]; congr 1; omega
  have es : (if 0 ≤ lZ z then 0 else 1 : Int32) = bI (decide (z < 0)) := by
    by_cases q : 0 ≤ z
    · rw [if_pos ((l0le (by omega) (by omega)).mpr q)]; simp [show ¬ z < 0 by omega, bI]
    · rw [if_neg (fun w => q ((l0le (by omega) (by omega)).mp w))]; simp [show z < 0 by omega, bI]
  unfold jX2_neighbour_B57 jX2_neighbour_B71
  rw [ea, es]
  generalize z.natAbs = n at *
  have hc : (lN n ≤ 9218868437227405311) ↔ n < BEY := by
    rw [show (9218868437227405311 : Int64) = lN 9218868437227405311 from rfl, ln_le (by omega) (by omega)]; omega
  by_cases c : n < 2 ^ 53
  · refine ⟨n, -1074, ⟨c, by omega, Or.inr rfl, by omega⟩, ?_⟩
    have hn : ¬ (9007199254740992 : Int64) ≤ lN n := fun q => by have := (ln_le (a := 9007199254740992) (by omega) (by omega)).mp q; omega
    simp only [hc, if_neg hn]
    rw [show sl (((-1074 : Int32) + 1074).toInt64) 52 = lN 0 by decide, lN_sub (by omega), Nat.sub_zero]
    rfl
  · have hn : (9007199254740992 : Int64) ≤ lN n := (ln_le (a := 9007199254740992) (by omega) (by omega)).mpr (by omega)
    have hdm := Nat.div_add_mod n (2 ^ 52)
    refine ⟨n % 2 ^ 52 + 2 ^ 52, ((n / 2 ^ 52 : Nat) : Int) - 1 - 1074, ⟨by omega, by omega, Or.inl (by omega), by omega⟩, ?_⟩
    simp only [hc, if_pos hn]
    have e1 : (sr (lN n) 52).toInt32 - 1 - 1074 = iZ (((n / 2 ^ 52 : Nat) : Int) - 1 - 1074) := by
      rw [show (52 : Int32) = nI 52 from rfl, sr_n (by omega) (by omega), lN_i, ← iZ_N, show (1 : Int32) = iZ 1 from rfl, iz_sub, show (1074 : Int32) = iZ 1074 from rfl, iz_sub]
    have e2 : lN n - sl ((iZ (((n / 2 ^ 52 : Nat) : Int) - 1 - 1074) + 1074).toInt64) 52 = lN (n % 2 ^ 52 + 2 ^ 52) := by
      rw [show (1074 : Int32) = iZ 1074 from rfl, iz_add, iz_to (by omega) (by omega), show (52 : Int32) = nI 52 from rfl, sl_n _ (by omega), lN_sub (by omega)]
      congr 1
      omega
    rw [e1, e2]
theorem zq_hn {g : NL} {mi : NI} {di : NL} {po : NI} (hR : Rel g mi di po) {t0 t : Nat} (h0 : t0 < 16) (ht : t < 16) (be : Int32) (mm : Int64) (ee : Int32) (fa fb : NI) (up : Bool) {jx : Option (Int32 × NL)} {jc : Option (Int32 × MS)} (hx : jx = jX0_keep g (nI t0) (if up = true then g t + 1 else g t - 1)) (hc : jc = jX2_neighbour 0 mi di po be mm ee fa fb (nI t) (bI up)) :
    OKn jx (bM jc fun r_1 th_1 mi_1 di_1 po_1 be_1 mm_1 ee_1 fa_1 fb_1 => jX2_keep th_1 mi_1 di_1 po_1 be_1 mm_1 ee_1 fa_1 fb_1 (nI t0) r_1) := by
  have ho : ok (nI t) 16 = true := ok_n ht (by decide)
  obtain ⟨v, m, e, h2, h3, h4, h5, h6⟩ := rel_get (hR t ht)
  have hb := rk_b h6
  have hB : BEY = 9218868437227405312 := rfl
  have g1 := h6.2.1
  have g2 := h6.2.2.1
  obtain ⟨z, hz⟩ : ∃ z : Int, z = sg v (rk m e) + (if up = true then 1 else -1) := ⟨_, rfl⟩
  have hzb : z.natAbs ≤ 9218868437227405312 := by
    rw [hz]; unfold sg; split <;> split <;> omega
  obtain ⟨m', e', hn, hnb⟩ := zq_nb z hzb 0 mi di po be mm ee fa fb
  have hx' : (if up = true then g t + 1 else g t - 1) = lZ z := by
    rw [h5, hz]
    cases up
    · rw [if_neg (by decide), if_neg (by decide), show (1 : Int64) = lZ 1 from rfl, lz_sub]; rfl
    · rw [if_pos rfl, if_pos rfl, show (1 : Int64) = lZ 1 from rfl, lz_add]
  have hc' : jX2_neighbour 0 mi di po be mm ee fa fb (nI t) (bI up) = jX2_neighbour_B57 0 mi di po be mm ee fa fb (lZ z) 9218868437227405311 := by
    unfold jX2_neighbour jX2_neighbour_B22 jX2_neighbour_B43
    simp only [ho, if_true]
    rw [nI_clamp (by omega), h2, h3, h4]
    have e1 : sl ((iZ e + 1074).toInt64) 52 + lN m = lZ (rk m e) := by
      rw [show (1074 : Int32) = iZ 1074 from rfl, iz_add, iz_to (by omega) (by omega), show (52 : Int32) = nI 52 from rfl, sl_n _ (by omega), lN_add, ← lZ_N]
      congr 1
      unfold rk; omega
    have e2 : (if bI v = 0 then lZ (rk m e) else -lZ (rk m e) : Int64) = lZ (sg v (rk m e)) := by
      cases v
      · rw [if_pos (show bI false = 0 from rfl)]; rfl
      · rw [if_neg (show ¬ bI true = 0 by decide), lz_neg]; rfl
    have e3 : (if bI up = 0 then lZ (sg v (rk m e)) - 1 else lZ (sg v (rk m e)) + 1 : Int64) = lZ z := by
      rw [hz]
      cases up
      · rw [if_pos (show bI false = 0 from rfl), if_neg (by decide), show (1 : Int64) = lZ 1 from rfl, lz_sub]; rfl
      · rw [if_neg (show ¬ bI true = 0 by decide), if_pos rfl, show (1 : Int64) = lZ 1 from rfl, lz_add]
    rw [e1, e2, e3]
  rw [hx'] at hx
  rw [hc', hnb] at hc
  by_cases c : z.natAbs < BEY
  · rw [if_pos c] at hc
    refine zq_finC (v := decide (z < 0)) (fa := fa) (fb := fb) hR h0 hn ?_ ?_
    · rw [hx, Nat.min_eq_left (Nat.le_of_lt c)]
      congr 2
      unfold sg
      by_cases d : z < 0
      · rw [if_pos (decide_eq_true d)]; omega
      · rw [if_neg (by simp [d])]; omega
    · rw [hc, if_pos c]
      have hbb : (decide (z < 0) && decide (z.natAbs ≠ 0)) = decide (z < 0) := by
        by_cases d : z < 0
        · simp [d, show z ≠ 0 by omega]
        · simp [d]
      rw [hbb]; rfl
  · rw [if_neg c] at hc
    refine zq_finK (c := -1) (b' := be) (mm' := mm) (ee' := ee) (fa := fa) (fb := fb) hR (by decide) ?_ hc
    have hzz : z = sg (decide (z < 0)) ((BEY : Nat) : Int) := by
      unfold sg
      by_cases d : z < 0
      · rw [if_pos (decide_eq_true d)]; omega
      · rw [if_neg (by simp [d])]; omega
    rw [hx, hzz]
    exact zq_over g t0 _
