/-! change: whole numbers -/
theorem zq_wa {v : Bool} {m : Nat} {e : Int} (h : nB v m e) (he : e < 0) (x0 : Int32) : ∃ d : Nat, jX0_wholeNear x0 (lZ (sg v (rk m e))) = jX0_wholeNear_B56 x0 (lZ (sg v (rk m e))) (lN m) (nI d) (lN (m / 2 ^ (-e).toNat)) (lN (if m % 2 ^ (-e).toNat = 0 then m / 2 ^ (-e).toNat else m / 2 ^ (-e).toNat + 1)) ∧ jX0_nearestWhole (lN m) (nI d) = lN (rq m (-e).toNat false) := by
  obtain ⟨o1, o2⟩ := mo_n h
  obtain ⟨h1, h2, h3, h4, h5⟩ := h
  obtain ⟨c, hc⟩ : ∃ c : Nat, -e = c := ⟨(-e).toNat, by omega⟩
  have hd : jmin (-(iZ e)) 62 = nI (min c 62) := by
    rw [iz_neg, hc, show (62 : Int32) = iZ 62 from rfl, jmin_z (by omega) (by omega) (by omega) (by omega), ← iZ_N]
    congr 1; omega
  have hw : m / 2 ^ (min c 62) = m / 2 ^ c ∧ m % 2 ^ (min c 62) = m % 2 ^ c ∧ rq m (min c 62) false = rq m c false := by
    by_cases q : c ≤ 62
    · rw [Nat.min_eq_left q]; exact ⟨rfl, rfl, rfl⟩
    · rw [Nat.min_eq_right (by omega)]
      have p1 : m < 2 ^ c := Nat.lt_of_lt_of_le h1 (Nat.pow_le_pow_right (by decide) (by omega))
      have p2 : m < 2 ^ (c - 1) := Nat.lt_of_lt_of_le h1 (Nat.pow_le_pow_right (by decide) (by omega))
      rw [Nat.div_eq_of_lt p1, Nat.mod_eq_of_lt p1, rq_big false p2, rq_big false (show m < 2 ^ (62 - 1) by omega), Nat.div_eq_of_lt (show m < 2 ^ 62 by omega), Nat.mod_eq_of_lt (show m < 2 ^ 62 by omega)]
      exact ⟨rfl, rfl, rfl⟩
  refine ⟨min c 62, ?_, ?_⟩
  · unfold jX0_wholeNear
    rw [o2, if_pos ((ilt0 (by omega) (by omega)).mpr he), o1]
    unfold jX0_wholeNear_B17 jX0_wholeNear_B26
    rw [hd, su_n (by omega) (by omega), lp_n (by omega) (by omega), hw.1, hw.2.1, hc, Int.toNat_natCast, lN_1]
    congr 1
    have hml : m % 2 ^ c < 2 ^ 63 := Nat.lt_of_le_of_lt (Nat.mod_le _ _) (by omega)
    by_cases q : m % 2 ^ c = 0
    · rw [if_pos ((ln0 hml).mpr q), if_pos q]
    · rw [if_neg (fun w => q ((ln0 hml).mp w)), if_neg q]
  · rw [nw_n (by omega) (by omega) (by omega), hw.2.2, hc, Int.toNat_natCast]
theorem zq_wn {v : Bool} {m : Nat} {e : Int} (h : nB v m e) {n : Nat} (hn : n < 2 ^ 63) : jX0_wholeNear_B140 (lZ (sg v (rk m e))) (lN n) = lZ (sg v ((min (RN n 0 false) BEY : Nat) : Int)) := by
  have hb := rk_b h
  have s1 := sg_neg h
  unfold jX0_wholeNear_B140
  rw [show (0 : Int32) = iZ 0 from rfl, near_n hn (by omega) (by omega), ← lZ_N, ws_z (by unfold sg; split <;> omega) (by unfold sg; split <;> omega)]
  congr 1
  cases v with
  | true => rw [if_pos (s1.mpr rfl)]; rfl
  | false => rw [if_neg (fun q => absurd (s1.mp q) (by decide))]; rfl
theorem zq_wb {mi : NI} {di : NL} {po : NI} {t : Nat} (ht : t < 16) {v : Bool} {m : Nat} {e : Int} (hm1 : mi t = bI v) (hd1 : di t = lN m) (hp1 : po t = iZ e) (h : nB v m e) (he : e < 0) (x2 : Int32) (th be : Int32) (mm : Int64) (ee : Int32) (fa fb : NI) :
    jX2_wholeOf th mi di po be mm ee fa fb (nI t) x2 = jX2_wholeOf_B130 th mi di po (bI v) (lN m) (iZ e) fa fb x2 (lN (m / 2 ^ (-e).toNat)) (bI (decide (m / 2 ^ ((-e).toNat - 1) % 2 = 1))) (bI (decide (m % 2 ^ ((-e).toNat - 1) ≠ 0))) (bI (decide (m % 2 ^ (-e).toNat ≠ 0))) := by
  obtain ⟨h1, h2, h3, h4, h5⟩ := h
  obtain ⟨c, hc⟩ : ∃ c : Nat, -e = c := ⟨(-e).toNat, by omega⟩
  unfold jX2_wholeOf
  rw [take_n ht hm1, bMv_s, hd1, hp1, if_pos ((ilt0 (by omega) (by omega)).mpr he), iz_neg, hc, Int.toNat_natCast, iZ_N]
  unfold jX2_wholeOf_B20 jX2_wholeOf_B38 jX2_wholeOf_B66 jX2_wholeOf_B113
  have hc1 : nI c - 1 = nI (c - 1) := by rw [show c = (c - 1) + 1 by omega, nI_pred]; rfl
  have l53 : (nI c ≤ 53) ↔ c ≤ 53 := nI_leI (b := 53) (by omega) (by decide)
  have l53' : ((53 : Int32) < nI c) ↔ 53 < c := nI_ltI (a := 53) (by decide) (by omega)
  have e1 : (if nI c ≤ 53 then sr (lN m) (nI c) else 0 : Int64) = lN (m / 2 ^ c) := by
    by_cases q : c ≤ 53
    · rw [if_pos (l53.mpr q), sr_n (by omega) (by omega)]
    · rw [if_neg (fun w => q (l53.mp w)), Nat.div_eq_of_lt (Nat.lt_of_lt_of_le h1 (Nat.pow_le_pow_right (by decide) (by omega)))]; rfl
  have e2 : (if 53 < nI c then 0 else (if ((sr (lN m) (nI c - 1)) &&& 1) = 1 then 1 else 0 : Int32) : Int32) = bI (decide (m / 2 ^ (c - 1) % 2 = 1)) := by
    by_cases q : 53 < c
    · rw [if_pos (l53'.mpr q), Nat.div_eq_of_lt (Nat.lt_of_lt_of_le h1 (Nat.pow_le_pow_right (by decide) (by omega)))]; rfl
    · rw [if_neg (fun w => q (l53'.mp w)), hc1, sr_n (by omega) (by omega), wb_a1 (Nat.lt_of_le_of_lt (Nat.div_le_self _ _) (by omega))]
      have hq : (lN (m / 2 ^ (c - 1) % 2) = 1) ↔ m / 2 ^ (c - 1) % 2 = 1 := ln_eq (b := 1) (by omega) (by omega)
      by_cases w : m / 2 ^ (c - 1) % 2 = 1
      · rw [if_pos (hq.mpr w), decide_eq_true w]; rfl
      · rw [if_neg (fun y => w (hq.mp y)), decide_eq_false w]; rfl
  have e3 : (if nI c ≤ 53 then (if (lN m &&& ((sl 1 (nI c - 1)) - 1)) ≤ 0 then 0 else 1 : Int32) else (if lN m ≤ 0 then 0 else 1 : Int32) : Int32) = bI (decide (m % 2 ^ (c - 1) ≠ 0)) := by
    have aux : ∀ x : Nat, x < 2 ^ 63 → (if lN x ≤ 0 then 0 else 1 : Int32) = bI (decide (x ≠ 0)) := fun x hx => by
      by_cases w : x = 0
      · subst w; decide
      · rw [if_neg (fun y => w (by have := (ln_le (b := 0) hx (by omega)).mp y; omega)), decide_eq_true w]; rfl
    by_cases q : c ≤ 53
    · have hlp := lp_n (n := m) (k := c - 1) (by omega) (by omega)
      unfold jX0_lowPlaces at hlp
      rw [if_pos (l53.mpr q), hc1, hlp, aux _ (Nat.lt_of_le_of_lt (Nat.mod_le _ _) (by omega))]
    · rw [if_neg (fun w => q (l53.mp w)), aux m (by omega), Nat.mod_eq_of_lt (Nat.lt_of_lt_of_le h1 (Nat.pow_le_pow_right (by decide) (by omega)))]
  rw [e1, e2, e3]
  have e4 : (if bI (decide (m / 2 ^ (c - 1) % 2 = 1)) = 0 then (if bI (decide (m % 2 ^ (c - 1) ≠ 0)) = 0 then 0 else 1 : Int32) else 1 : Int32) = bI (decide (m % 2 ^ c ≠ 0)) := by
    have hs := md_s m (c - 1)
    rw [show c - 1 + 1 = c by omega] at hs
    have hp := Nat.two_pow_pos (c - 1)
    rcases (show m / 2 ^ (c - 1) % 2 = 0 ∨ m / 2 ^ (c - 1) % 2 = 1 by omega) with w | w
    · rw [w, Nat.mul_zero, Nat.add_zero] at hs
      rw [w, hs]
      by_cases y : m % 2 ^ (c - 1) = 0
      · rw [y]; decide
      · rw [decide_eq_true y]; decide
    · rw [w, Nat.mul_one] at hs
      rw [w, hs, decide_eq_true (show m % 2 ^ (c - 1) + 2 ^ (c - 1) ≠ 0 by omega), if_neg (show ¬ bI (decide ((1 : Nat) = 1)) = 0 by decide)]; rfl
  rw [e4]
/-- the model's end -/
theorem zq_we {mi : NI} {di : NL} {po : NI} {v : Bool} {n : Nat} (hn : n < 2 ^ 53) (b : Bool) (w : Nat) (hw : n = if b = true then w + 1 else w) (mm : Int64) (ee : Int32) (fa fb : NI) :
    ∃ (m' : Nat) (e' : Int), jX2_wholeOf_B212 0 mi di po (bI v) mm ee fa fb (lN w) (bI b) = some (iZ (if RN n 0 false < BEY then 0 else -1), 0, mi, di, po, bI (v && decide (RN n 0 false ≠ 0)), lN m', iZ e', fa, fb) ∧ nrm m' e' (RN n 0 false) := by
  obtain ⟨m', e', k1, k2⟩ := settle_n 0 mi di po (bI v) fa fb n 0 (by omega) (by omega) (by omega)
  rw [be_z (e := 0) hn (by omega)] at k1
  refine ⟨m', e', ?_, k2⟩
  unfold jX2_wholeOf_B212
  rw [bM_id, ← k1, hw]
  cases b with
  | true => rw [if_neg (show ¬ bI true = 0 by decide), if_pos rfl, lN_1]; rfl
  | false => rw [if_pos (show bI false = 0 from rfl), if_neg (by decide)]; rfl
theorem zq_h3 {g : NL} {mi : NI} {di : NL} {po : NI} (hR : Rel g mi di po) {t0 t : Nat} (h0 : t0 < 16) (ht : t < 16) (be : Int32) (mm : Int64) (ee : Int32) (fa fb : NI) :
    OKn (jX0_changeRank g (nI t0) (nI 3) (g t)) (bM (jX2_changed 0 mi di po be mm ee fa fb (nI 3) (nI t)) fun r_1 th_1 mi_1 di_1 po_1 be_1 mm_1 ee_1 fa_1 fb_1 => jX2_keep th_1 mi_1 di_1 po_1 be_1 mm_1 ee_1 fa_1 fb_1 (nI t0) r_1) := by
  obtain ⟨v, m, e, h2, h3, h4, h5, h6⟩ := rel_get (hR t ht)
  have hX : jX0_changeRank g (nI t0) (nI 3) (g t) = jX0_keep g (nI t0) (jX0_wholeNear (nI 3) (g t)) := by
    unfold jX0_changeRank
    rw [if_neg (show ¬ nI 3 = 0 by decide), if_neg (show ¬ nI 3 = 1 by decide), if_neg (show ¬ nI 3 = 2 by decide), if_pos (show nI 3 = 3 by decide), b2_id]
  have hC : jX2_changed 0 mi di po be mm ee fa fb (nI 3) (nI t) = jX2_wholeOf 0 mi di po be mm ee fa fb (nI t) (nI 3 - 3) := by
    unfold jX2_changed
    rw [if_neg (show ¬ nI 3 = 0 by decide), if_neg (show ¬ nI 3 = 1 by decide), if_neg (show ¬ nI 3 = 2 by decide), if_neg (show ¬ nI 3 = 7 by decide), if_neg (show ¬ nI 3 = 8 by decide), bM_id]
  by_cases he : e < 0
  · have hm := h6.1
    have h1c : 1 ≤ (-e).toNat := by omega
    have hw1 : (m / 2 ^ (-e).toNat) < 2 ^ 52 := (Nat.div_lt_iff_lt_mul (Nat.two_pow_pos _)).mpr (by
      have : 2 ^ 1 ≤ 2 ^ (-e).toNat := Nat.pow_le_pow_right (by decide) h1c
      have := Nat.mul_le_mul_left (2 ^ 52) this
      omega)
    have hn53 : (if (v && decide (m % 2 ^ (-e).toNat ≠ 0)) = true then (m / 2 ^ (-e).toNat) + 1 else (m / 2 ^ (-e).toNat)) < 2 ^ 53 := by split <;> omega
    have hn63 : (if (v && decide (m % 2 ^ (-e).toNat ≠ 0)) = true then (m / 2 ^ (-e).toNat) + 1 else (m / 2 ^ (-e).toNat)) < 2 ^ 63 := by omega
    obtain ⟨d, hw, hw2⟩ := zq_wa h6 he (nI 3)
    obtain ⟨m', e', k1, k2⟩ := zq_we (mi := mi) (di := di) (po := po) (v := v) hn53 (v && decide (m % 2 ^ (-e).toNat ≠ 0)) (m / 2 ^ (-e).toNat) rfl (lN m) (iZ e) fa fb
    refine zq_finC (v := v) (fa := fa) (fb := fb) hR h0 k2 ?_ ?_
    · rw [hX, h5, hw]
      unfold jX0_wholeNear_B56
      rw [if_pos (show nI 3 = 3 by decide)]
      have hx : (if (0 : Int64) ≤ lZ (sg v (rk m e)) then lN (m / 2 ^ (-e).toNat) else lN (if m % 2 ^ (-e).toNat = 0 then m / 2 ^ (-e).toNat else m / 2 ^ (-e).toNat + 1) : Int64) = lN (if (v && decide (m % 2 ^ (-e).toNat ≠ 0)) = true then (m / 2 ^ (-e).toNat) + 1 else (m / 2 ^ (-e).toNat)) := by
        cases v
        · rw [if_pos (ge_sg h6 |>.mpr rfl)]; by_cases q : m % 2 ^ (-e).toNat = 0 <;> simp [q]
        · rw [if_neg (fun q => absurd (ge_sg h6 |>.mp q) (by decide))]; by_cases q : m % 2 ^ (-e).toNat = 0 <;> simp [q]
      rw [hx, zq_wn h6 hn63]
    · rw [hC, zq_wb ht h2 h3 h4 h6 he]
      unfold jX2_wholeOf_B130
      rw [if_pos (show nI 3 - 3 = 0 by decide)]
      have hb9 : (if bI v = 0 then 0 else (if bI (decide (m % 2 ^ (-e).toNat ≠ 0)) = 0 then 0 else 1 : Int32) : Int32) = bI (v && decide (m % 2 ^ (-e).toNat ≠ 0)) := by cases v <;> by_cases q : m % 2 ^ (-e).toNat = 0 <;> simp [q, bI]
      rw [hb9]; exact k1
  · refine zq_finR (fa := fa) (fb := fb) hR h0 h6 ?_ ?_
    · rw [hX]
      unfold jX0_wholeNear
      rw [h5, (mo_n h6).2, if_neg (fun q => he ((ilt0 (by have := h6.2.1; omega) (by have := h6.2.2.1; omega)).mp q))]
    · rw [hC]
      unfold jX2_wholeOf
      rw [take_n ht h2, bMv_s, h3, h4, if_neg (fun q => he ((ilt0 (by have := h6.2.1; omega) (by have := h6.2.2.1; omega)).mp q))]
theorem zq_h4 {g : NL} {mi : NI} {di : NL} {po : NI} (hR : Rel g mi di po) {t0 t : Nat} (h0 : t0 < 16) (ht : t < 16) (be : Int32) (mm : Int64) (ee : Int32) (fa fb : NI) :
    OKn (jX0_changeRank g (nI t0) (nI 4) (g t)) (bM (jX2_changed 0 mi di po be mm ee fa fb (nI 4) (nI t)) fun r_1 th_1 mi_1 di_1 po_1 be_1 mm_1 ee_1 fa_1 fb_1 => jX2_keep th_1 mi_1 di_1 po_1 be_1 mm_1 ee_1 fa_1 fb_1 (nI t0) r_1) := by
  obtain ⟨v, m, e, h2, h3, h4, h5, h6⟩ := rel_get (hR t ht)
  have hX : jX0_changeRank g (nI t0) (nI 4) (g t) = jX0_keep g (nI t0) (jX0_wholeNear (nI 4) (g t)) := by
    unfold jX0_changeRank
    rw [if_neg (show ¬ nI 4 = 0 by decide), if_neg (show ¬ nI 4 = 1 by decide), if_neg (show ¬ nI 4 = 2 by decide), if_neg (show ¬ nI 4 = 3 by decide), if_pos (show nI 4 = 4 by decide), b2_id]
  have hC : jX2_changed 0 mi di po be mm ee fa fb (nI 4) (nI t) = jX2_wholeOf 0 mi di po be mm ee fa fb (nI t) (nI 4 - 3) := by
    unfold jX2_changed
    rw [if_neg (show ¬ nI 4 = 0 by decide), if_neg (show ¬ nI 4 = 1 by decide), if_neg (show ¬ nI 4 = 2 by decide), if_neg (show ¬ nI 4 = 7 by decide), if_neg (show ¬ nI 4 = 8 by decide), bM_id]
  by_cases he : e < 0
  · have hm := h6.1
    have h1c : 1 ≤ (-e).toNat := by omega
    have hw1 : (m / 2 ^ (-e).toNat) < 2 ^ 52 := (Nat.div_lt_iff_lt_mul (Nat.two_pow_pos _)).mpr (by
      have : 2 ^ 1 ≤ 2 ^ (-e).toNat := Nat.pow_le_pow_right (by decide) h1c
      have := Nat.mul_le_mul_left (2 ^ 52) this
      omega)
    have hn53 : (if (!v && decide (m % 2 ^ (-e).toNat ≠ 0)) = true then (m / 2 ^ (-e).toNat) + 1 else (m / 2 ^ (-e).toNat)) < 2 ^ 53 := by split <;> omega
    have hn63 : (if (!v && decide (m % 2 ^ (-e).toNat ≠ 0)) = true then (m / 2 ^ (-e).toNat) + 1 else (m / 2 ^ (-e).toNat)) < 2 ^ 63 := by omega
    obtain ⟨d, hw, hw2⟩ := zq_wa h6 he (nI 4)
    obtain ⟨m', e', k1, k2⟩ := zq_we (mi := mi) (di := di) (po := po) (v := v) hn53 (!v && decide (m % 2 ^ (-e).toNat ≠ 0)) (m / 2 ^ (-e).toNat) rfl (lN m) (iZ e) fa fb
    refine zq_finC (v := v) (fa := fa) (fb := fb) hR h0 k2 ?_ ?_
    · rw [hX, h5, hw]
      unfold jX0_wholeNear_B56
      rw [if_neg (show ¬ nI 4 = 3 by decide), if_pos (show nI 4 = 4 by decide)]
      have hx : (if (0 : Int64) ≤ lZ (sg v (rk m e)) then lN (if m % 2 ^ (-e).toNat = 0 then m / 2 ^ (-e).toNat else m / 2 ^ (-e).toNat + 1) else lN (m / 2 ^ (-e).toNat) : Int64) = lN (if (!v && decide (m % 2 ^ (-e).toNat ≠ 0)) = true then (m / 2 ^ (-e).toNat) + 1 else (m / 2 ^ (-e).toNat)) := by
        cases v
        · rw [if_pos (ge_sg h6 |>.mpr rfl)]; by_cases q : m % 2 ^ (-e).toNat = 0 <;> simp [q]
        · rw [if_neg (fun q => absurd (ge_sg h6 |>.mp q) (by decide))]; by_cases q : m % 2 ^ (-e).toNat = 0 <;> simp [q]
      rw [hx, zq_wn h6 hn63]
    · rw [hC, zq_wb ht h2 h3 h4 h6 he]
      unfold jX2_wholeOf_B130
      rw [if_neg (show ¬ nI 4 - 3 = 0 by decide), if_pos (show nI 4 - 3 = 1 by decide)]
      have hb9 : (if bI v = 0 then (if bI (decide (m % 2 ^ (-e).toNat ≠ 0)) = 0 then 0 else 1 : Int32) else 0 : Int32) = bI (!v && decide (m % 2 ^ (-e).toNat ≠ 0)) := by cases v <;> by_cases q : m % 2 ^ (-e).toNat = 0 <;> simp [q, bI]
      rw [hb9]; exact k1
  · refine zq_finR (fa := fa) (fb := fb) hR h0 h6 ?_ ?_
    · rw [hX]
      unfold jX0_wholeNear
      rw [h5, (mo_n h6).2, if_neg (fun q => he ((ilt0 (by have := h6.2.1; omega) (by have := h6.2.2.1; omega)).mp q))]
    · rw [hC]
      unfold jX2_wholeOf
      rw [take_n ht h2, bMv_s, h3, h4, if_neg (fun q => he ((ilt0 (by have := h6.2.1; omega) (by have := h6.2.2.1; omega)).mp q))]
theorem zq_h5 {g : NL} {mi : NI} {di : NL} {po : NI} (hR : Rel g mi di po) {t0 t : Nat} (h0 : t0 < 16) (ht : t < 16) (be : Int32) (mm : Int64) (ee : Int32) (fa fb : NI) :
    OKn (jX0_changeRank g (nI t0) (nI 5) (g t)) (bM (jX2_changed 0 mi di po be mm ee fa fb (nI 5) (nI t)) fun r_1 th_1 mi_1 di_1 po_1 be_1 mm_1 ee_1 fa_1 fb_1 => jX2_keep th_1 mi_1 di_1 po_1 be_1 mm_1 ee_1 fa_1 fb_1 (nI t0) r_1) := by
  obtain ⟨v, m, e, h2, h3, h4, h5, h6⟩ := rel_get (hR t ht)
  have hX : jX0_changeRank g (nI t0) (nI 5) (g t) = jX0_keep g (nI t0) (jX0_wholeNear (nI 5) (g t)) := by
    unfold jX0_changeRank
    rw [if_neg (show ¬ nI 5 = 0 by decide), if_neg (show ¬ nI 5 = 1 by decide), if_neg (show ¬ nI 5 = 2 by decide), if_neg (show ¬ nI 5 = 3 by decide), if_neg (show ¬ nI 5 = 4 by decide), if_pos (show nI 5 = 5 by decide), b2_id]
  have hC : jX2_changed 0 mi di po be mm ee fa fb (nI 5) (nI t) = jX2_wholeOf 0 mi di po be mm ee fa fb (nI t) (nI 5 - 3) := by
    unfold jX2_changed
    rw [if_neg (show ¬ nI 5 = 0 by decide), if_neg (show ¬ nI 5 = 1 by decide), if_neg (show ¬ nI 5 = 2 by decide), if_neg (show ¬ nI 5 = 7 by decide), if_neg (show ¬ nI 5 = 8 by decide), bM_id]
  by_cases he : e < 0
  · have hm := h6.1
    have h1c : 1 ≤ (-e).toNat := by omega
    have hw1 : (m / 2 ^ (-e).toNat) < 2 ^ 52 := (Nat.div_lt_iff_lt_mul (Nat.two_pow_pos _)).mpr (by
      have : 2 ^ 1 ≤ 2 ^ (-e).toNat := Nat.pow_le_pow_right (by decide) h1c
      have := Nat.mul_le_mul_left (2 ^ 52) this
      omega)
    have hn53 : (if false = true then (m / 2 ^ (-e).toNat) + 1 else (m / 2 ^ (-e).toNat)) < 2 ^ 53 := by split <;> omega
    have hn63 : (if false = true then (m / 2 ^ (-e).toNat) + 1 else (m / 2 ^ (-e).toNat)) < 2 ^ 63 := by omega
    obtain ⟨d, hw, hw2⟩ := zq_wa h6 he (nI 5)
    obtain ⟨m', e', k1, k2⟩ := zq_we (mi := mi) (di := di) (po := po) (v := v) hn53 false (m / 2 ^ (-e).toNat) rfl (lN m) (iZ e) fa fb
    refine zq_finC (v := v) (fa := fa) (fb := fb) hR h0 k2 ?_ ?_
    · rw [hX, h5, hw]
      unfold jX0_wholeNear_B56
      rw [if_neg (show ¬ nI 5 = 3 by decide), if_neg (show ¬ nI 5 = 4 by decide), if_pos (show nI 5 = 5 by decide)]
      rw [show lN (m / 2 ^ (-e).toNat) = lN (if false = true then (m / 2 ^ (-e).toNat) + 1 else (m / 2 ^ (-e).toNat)) by simp, zq_wn h6 hn63]
    · rw [hC, zq_wb ht h2 h3 h4 h6 he]
      unfold jX2_wholeOf_B130
      rw [if_neg (show ¬ nI 5 - 3 = 0 by decide), if_neg (show ¬ nI 5 - 3 = 1 by decide), if_neg (show ¬ nI 5 - 3 = 3 by decide)]
      exact k1
  · refine zq_finR (fa := fa) (fb := fb) hR h0 h6 ?_ ?_
    · rw [hX]
      unfold jX0_wholeNear
      rw [h5, (mo_n h6).2, if_neg (fun q => he ((ilt0 (by have := h6.2.1; omega) (by have := h6.2.2.1; omega)).mp q))]
    · rw [hC]
      unfold jX2_wholeOf
      rw [take_n ht h2, bMv_s, h3, h4, if_neg (fun q => he ((ilt0 (by have := h6.2.1; omega) (by have := h6.2.2.1; omega)).mp q))]
theorem zq_h6 {g : NL} {mi : NI} {di : NL} {po : NI} (hR : Rel g mi di po) {t0 t : Nat} (h0 : t0 < 16) (ht : t < 16) (be : Int32) (mm : Int64) (ee : Int32) (fa fb : NI) :
    OKn (jX0_changeRank g (nI t0) (nI 6) (g t)) (bM (jX2_changed 0 mi di po be mm ee fa fb (nI 6) (nI t)) fun r_1 th_1 mi_1 di_1 po_1 be_1 mm_1 ee_1 fa_1 fb_1 => jX2_keep th_1 mi_1 di_1 po_1 be_1 mm_1 ee_1 fa_1 fb_1 (nI t0) r_1) := by
  obtain ⟨v, m, e, h2, h3, h4, h5, h6⟩ := rel_get (hR t ht)
  have hX : jX0_changeRank g (nI t0) (nI 6) (g t) = jX0_keep g (nI t0) (jX0_wholeNear (nI 6) (g t)) := by
    unfold jX0_changeRank
    rw [if_neg (show ¬ nI 6 = 0 by decide), if_neg (show ¬ nI 6 = 1 by decide), if_neg (show ¬ nI 6 = 2 by decide), if_neg (show ¬ nI 6 = 3 by decide), if_neg (show ¬ nI 6 = 4 by decide), if_neg (show ¬ nI 6 = 5 by decide), if_pos (show nI 6 = 6 by decide), b2_id]
  have hC : jX2_changed 0 mi di po be mm ee fa fb (nI 6) (nI t) = jX2_wholeOf 0 mi di po be mm ee fa fb (nI t) (nI 6 - 3) := by
    unfold jX2_changed
    rw [if_neg (show ¬ nI 6 = 0 by decide), if_neg (show ¬ nI 6 = 1 by decide), if_neg (show ¬ nI 6 = 2 by decide), if_neg (show ¬ nI 6 = 7 by decide), if_neg (show ¬ nI 6 = 8 by decide), bM_id]
  by_cases he : e < 0
  · have hm := h6.1
    have h1c : 1 ≤ (-e).toNat := by omega
    have hw1 : (m / 2 ^ (-e).toNat) < 2 ^ 52 := (Nat.div_lt_iff_lt_mul (Nat.two_pow_pos _)).mpr (by
      have : 2 ^ 1 ≤ 2 ^ (-e).toNat := Nat.pow_le_pow_right (by decide) h1c
      have := Nat.mul_le_mul_left (2 ^ 52) this
      omega)
    have hn53 : (if (decide (m / 2 ^ ((-e).toNat - 1) % 2 = 1) && (decide (m % 2 ^ ((-e).toNat - 1) ≠ 0) || decide (m / 2 ^ (-e).toNat % 2 = 1))) = true then (m / 2 ^ (-e).toNat) + 1 else (m / 2 ^ (-e).toNat)) < 2 ^ 53 := by split <;> omega
    have hn63 : (if (decide (m / 2 ^ ((-e).toNat - 1) % 2 = 1) && (decide (m % 2 ^ ((-e).toNat - 1) ≠ 0) || decide (m / 2 ^ (-e).toNat % 2 = 1))) = true then (m / 2 ^ (-e).toNat) + 1 else (m / 2 ^ (-e).toNat)) < 2 ^ 63 := by omega
    obtain ⟨d, hw, hw2⟩ := zq_wa h6 he (nI 6)
    obtain ⟨m', e', k1, k2⟩ := zq_we (mi := mi) (di := di) (po := po) (v := v) hn53 (decide (m / 2 ^ ((-e).toNat - 1) % 2 = 1) && (decide (m % 2 ^ ((-e).toNat - 1) ≠ 0) || decide (m / 2 ^ (-e).toNat % 2 = 1))) (m / 2 ^ (-e).toNat) rfl (lN m) (iZ e) fa fb
    refine zq_finC (v := v) (fa := fa) (fb := fb) hR h0 k2 ?_ ?_
    · rw [hX, h5, hw]
      unfold jX0_wholeNear_B56
      rw [if_neg (show ¬ nI 6 = 3 by decide), if_neg (show ¬ nI 6 = 4 by decide), if_neg (show ¬ nI 6 = 5 by decide)]
      have hq : rq m (-e).toNat false = (if (decide (m / 2 ^ ((-e).toNat - 1) % 2 = 1) && (decide (m % 2 ^ ((-e).toNat - 1) ≠ 0) || decide (m / 2 ^ (-e).toNat % 2 = 1))) = true then (m / 2 ^ (-e).toNat) + 1 else (m / 2 ^ (-e).toNat)) := by
        unfold rq
        by_cases q1 : m / 2 ^ ((-e).toNat - 1) % 2 = 1
        · by_cases q2 : m % 2 ^ ((-e).toNat - 1) = 0
          · by_cases q3 : m / 2 ^ (-e).toNat % 2 = 1
            · simp [q1, q2, q3]
            · simp [q1, q2, q3]
          · simp [q1, q2]
        · simp [q1]
      rw [hw2, hq, zq_wn h6 hn63]
    · rw [hC, zq_wb ht h2 h3 h4 h6 he]
      unfold jX2_wholeOf_B130
      rw [if_neg (show ¬ nI 6 - 3 = 0 by decide), if_neg (show ¬ nI 6 - 3 = 1 by decide), if_pos (show nI 6 - 3 = 3 by decide)]
      have hrem : lN (m / 2 ^ (-e).toNat) - lN (m / 2 ^ (-e).toNat) / 2 * 2 = lN ((m / 2 ^ (-e).toNat) % 2) := ln_rem (b := 2) (by omega) (by omega)
      have hodd : (lN ((m / 2 ^ (-e).toNat) % 2) = 1) ↔ (m / 2 ^ (-e).toNat) % 2 = 1 := ln_eq (b := 1) (by omega) (by omega)
      rw [hrem, ← k1]
      by_cases q1 : m / 2 ^ ((-e).toNat - 1) % 2 = 1
      · rw [decide_eq_true q1, if_neg (show ¬ bI true = 0 by decide)]
        by_cases q2 : m % 2 ^ ((-e).toNat - 1) = 0
        · rw [if_pos (by rw [bI_0]; simp [q2])]
          by_cases q3 : (m / 2 ^ (-e).toNat) % 2 = 1
          · rw [if_pos (hodd.mpr q3)]; simp [q2, q3, bI]
          · rw [if_neg (fun y => q3 (hodd.mp y))]; simp [q2, q3, bI]
        · rw [if_neg (fun y => by rw [bI_0] at y; simp [q2] at y)]; simp [q2, bI]
      · rw [decide_eq_false q1, if_pos (show bI false = 0 from rfl)]; simp [bI]
  · refine zq_finR (fa := fa) (fb := fb) hR h0 h6 ?_ ?_
    · rw [hX]
      unfold jX0_wholeNear
      rw [h5, (mo_n h6).2, if_neg (fun q => he ((ilt0 (by have := h6.2.1; omega) (by have := h6.2.2.1; omega)).mp q))]
    · rw [hC]
      unfold jX2_wholeOf
      rw [take_n ht h2, bMv_s, h3, h4, if_neg (fun q => he ((ilt0 (by have := h6.2.1; omega) (by have := h6.2.2.1; omega)).mp q))]
