/-! errors: the model -/
theorem zq_low_L {th : Int32} {mi : NI} {di : NL} {po : NI} {be : Int32} {fa fb : NI} (p : Int) (hp : -5000 ≤ p) (hp2 : p ≤ 5000) : ∀ (d k m : Nat) (e : Int), -5000 ≤ e → e + d = p → d < k → m < 2 ^ 53 → jX2_lower_L0 k th mi di po be (lN m) (iZ e) fa fb (iZ p) = some (th, mi, di, po, be, lN (m / 2 ^ d), iZ p, fa, fb) := by
  intro d
  induction d with
  | zero =>
    intro k m e he0 he hk hm
    obtain ⟨k, rfl⟩ : ∃ z, k = z + 1 := ⟨k - 1, by omega⟩
    have : e = p := by omega
    subst this
    unfold jX2_lower_L0
    rw [if_pos (Int32.le_refl _), Nat.pow_zero, Nat.div_one]
  | succ d ih =>
    intro k m e he0 he hk hm
    obtain ⟨k, rfl⟩ : ∃ z, k = z + 1 := ⟨k - 1, by omega⟩
    have hd2 : lN m / 2 = lN (m / 2) := ln_div (b := 2) (by omega) (by omega)
    unfold jX2_lower_L0
    rw [if_neg (fun q => by have := (iz_le (by omega) (by omega) (by omega) (by omega)).mp q; omega), hd2, show (1 : Int32) = iZ 1 from rfl, iz_add, ih k (m / 2) (e + 1) (by omega) (by omega) (by omega) (by omega), Nat.div_div_eq_div_mul, Nat.mul_comm, ← Nat.pow_succ]
theorem zq_low {th : Int32} {mi : NI} {di : NL} {po : NI} {be : Int32} {fa fb : NI} {p e : Int} {m : Nat} (hp : -3000 ≤ p) (hp2 : p ≤ 3000) (he : -1074 ≤ e) (he2 : e ≤ 971) (hm : m < 2 ^ 53) : jX2_lower th mi di po be (lN m) (iZ e) fa fb (iZ p) = some (th, mi, di, po, be, lN (m / 2 ^ (p - e).toNat), iZ (max e p), fa, fb) := by
  unfold jX2_lower
  by_cases c : e < p
  · obtain ⟨d, hd⟩ : ∃ d : Nat, p - e = d := ⟨(p - e).toNat, by omega⟩
    rw [zq_low_L p (by omega) (by omega) d FU m e (by omega) (by omega) (by unfold FU; omega) hm, hd, Int.toNat_natCast, Int.max_eq_right (by omega)]
  · have e1 : jX2_lower_L0 FU th mi di po be (lN m) (iZ e) fa fb (iZ p) = some (th, mi, di, po, be, lN m, iZ e, fa, fb) := by
      rw [show FU = 4999 + 1 from rfl]
      unfold jX2_lower_L0
      rw [if_pos ((iz_le (by omega) (by omega) (by omega) (by omega)).mpr (by omega))]
    rw [e1, show (p - e).toNat = 0 by omega, Nat.pow_zero, Nat.div_one, Int.max_eq_left (by omega)]
def zq_D (N R : Nat) : Nat := if N < R then R - N else N - R
theorem zq_err {th : Int32} {mi : NI} {di : NL} {po : NI} {be : Int32} {fa fb : NI} {N R m : Nat} {e p : Int} (hA : Bg fa N) (hm : m < 2 ^ 53) (he : p ≤ e) (he2 : e - p ≤ 2100) (hR : m * 2 ^ (e - p).toNat = R) (hp : -3000 ≤ p) (hp2 : p ≤ 3000) (w : Bool) :
    ∃ (m' : Nat) (e' : Int) (fa' fb' : NI), jX2_errorOf th mi di po be (lN m) (iZ e) fa fb (bI w) (iZ p) = some (iZ (if RN (zq_D N R) p false < BEY then 0 else -1), th, mi, di, po, bI ((w != decide (N < R)) && decide (RN (zq_D N R) p false ≠ 0)), lN m', iZ e', fa', fb') ∧ nrm m' e' (RN (zq_D N R) p false) := by
  obtain ⟨d, hd⟩ : ∃ d : Nat, e - p = d := ⟨(e - p).toNat, by omega⟩
  rw [hd, Int.toNat_natCast] at hR
  have hb := up_small (d := d) hm (by omega)
  have big : m * 2 ^ d < 2 ^ 3360 := Nat.lt_of_lt_of_le hb (Nat.pow_le_pow_right (by decide) (by decide))
  obtain ⟨f1, g1, B1⟩ := bg_set fb (N := m) (by omega)
  obtain ⟨f2, g2, B2⟩ := bg_up (n := d) B1 (by omega) big
  rw [hR] at B2
  unfold jX2_errorOf
  rw [g1, Option.bind_some, iz_sub, hd, iZ_N, g2, Option.bind_some, bg_compare hA B2, b3_s]
  have hbn : ∀ (x3 : Int32) (c : Bool), (if 0 ≤ x3 then 0 else 1 : Int32) = bI c → (if bI w = (if 0 ≤ x3 then 0 else 1 : Int32) then 0 else 1 : Int32) = bI (w != c) := fun x3 c h => by rw [h, ne_bI]
  unfold zq_D
  by_cases c : N < R
  · rw [if_pos c, if_pos c, if_neg (show ¬ (0 : Int32) ≤ iZ (-1) by decide)]
    obtain ⟨f5, f6, g5, B5, B6⟩ := bg_swap th mi di po be (lN m) (iZ e) hA B2
    obtain ⟨f7, g7, B7⟩ := bg_less B5 B6 (by omega)
    obtain ⟨m', e', k1, k2⟩ := near_m B7 (p := p) (by omega) (by omega) (w != decide (N < R)) false th mi di po be (lN m) (iZ e) f6
    refine ⟨m', e', f7, f6, ?_, k2⟩
    rw [g5, bMv_s]
    unfold jX2_errorOf_B44
    rw [g7, b2_s, bM_id, hbn (iZ (-1)) (decide (N < R)) (by rw [decide_eq_true c]; decide)]
    exact k1
  · rw [if_neg c, if_neg c]
    have hge : (0 : Int32) ≤ iZ (if N = R then 0 else 1) := by split <;> decide
    rw [if_pos hge]
    obtain ⟨f7, g7, B7⟩ := bg_less hA B2 (by omega)
    obtain ⟨m', e', k1, k2⟩ := near_m B7 (p := p) (by omega) (by omega) (w != decide (N < R)) false th mi di po be (lN m) (iZ e) f2
    refine ⟨m', e', f7, f2, ?_, k2⟩
    unfold jX2_errorOf_B44
    rw [g7, b2_s, bM_id, hbn _ (decide (N < R)) (by rw [decide_eq_false c, if_pos hge]; rfl)]
    exact k1
/-- the rounded number in the units of the exact one -/
theorem zq_unit {N q : Nat} : ∃ R : Nat, rnd (N * 2 ^ q) = R * 2 ^ q := by
  unfold rnd
  by_cases c : bl (N * 2 ^ q) ≤ 53
  · rw [if_pos c]; exact ⟨N, rfl⟩
  · rw [if_neg c]
    by_cases d : bl (N * 2 ^ q) - 53 ≤ q
    · refine ⟨N, rq_dvd (by omega) (Nat.mod_eq_zero_of_dvd ?_)⟩
      exact Nat.dvd_trans (Nat.pow_dvd_pow 2 d) (Nat.dvd_mul_left _ _)
    · obtain ⟨x, hx⟩ : ∃ x, bl (N * 2 ^ q) - 53 = x + q := ⟨bl (N * 2 ^ q) - 53 - q, by omega⟩
      rw [hx]
      exact ⟨rq (N * 2 ^ q) (x + q) false * 2 ^ x, by rw [Nat.pow_add, Nat.mul_assoc]⟩
theorem zq_r1 (n : Nat) : (iZ (if n < BEY then 0 else -1) = -1) ↔ ¬ n < BEY := by
  by_cases c : n < BEY
  · rw [if_pos c]; constructor
    · intro q; exact absurd q (by decide)
    · intro q; exact absurd c q
  · rw [if_neg c]; constructor
    · intro _; exact c
    · intro _; rfl
theorem ms_serr {mi : NI} {di : NL} {po : NI} {t u : Nat} (ht : t < 16) (hu : u < 16) {v1 v2 : Bool} {m1 m2 : Nat} {e1 e2 : Int} (hm1 : mi t = bI v1) (hd1 : di t = lN m1) (hp1 : po t = iZ e1) (n1 : nB v1 m1 e1) (hm2 : mi u = bI v2) (hd2 : di u = lN m2) (hp2 : po u = iZ e2) (n2 : nB v2 m2 e2) (th be : Int32) (mm : Int64) (ee : Int32) (fa fb : NI) :
    (¬ RA (V v1 m1 e1 + V v2 m2 e2) < BEY → ∃ (b' : Int32) (mm' : Int64) (ee' : Int32) (fa' fb' : NI), jX2_sumError th mi di po be mm ee fa fb (nI t) (nI u) = some (-1, th, mi, di, po, b', mm', ee', fa', fb')) ∧
    (RA (V v1 m1 e1 + V v2 m2 e2) < BEY → ∃ (m' : Nat) (e' : Int) (fa' fb' : NI), jX2_sumError th mi di po be mm ee fa fb (nI t) (nI u) = some (iZ (if RA (ER (V v1 m1 e1 + V v2 m2 e2)) < BEY then 0 else -1), th, mi, di, po, bI (decide (ER (V v1 m1 e1 + V v2 m2 e2) < 0) && decide (RA (ER (V v1 m1 e1 + V v2 m2 e2)) ≠ 0)), lN m', iZ e', fa', fb') ∧ nrm m' e' (RA (ER (V v1 m1 e1 + V v2 m2 e2)))) := by
  have ho : ok (nI t) 16 = true := ok_n ht (by decide)
  have hou : ok (nI u) 16 = true := ok_n hu (by decide)
  obtain ⟨w, f1, f2, h1, h2, h3⟩ := ex_sum (g := fun _ => 0) ht hu hm1 hd1 hp1 n1 hm2 hd2 hp2 n2 false th be mm ee fa fb
  rw [ot_f n2] at h2 h3
  have q1 := n1.2.1
  have q2 := n1.2.2.1
  have q3 := n2.2.1
  have q4 := n2.2.2.1
  have hz6 : (iZ e2 ≤ iZ e1) ↔ e2 ≤ e1 := iz_le (by omega) (by omega) (by omega) (by omega)
  have hRA := S2_RA (v1 := v1) (v2 := v2) (m1 := m1) (m2 := m2) q1 q3
  have hSV := S2_V (v1 := v1) (v2 := v2) (m1 := m1) (m2 := m2) q1 q3
  obtain ⟨m', e', k1, k2⟩ := near_m h2 (p := min e1 e2) (by omega) (by omega) w false th mi di po be mm ee f2
  rw [hRA] at k1 k2
  generalize hS : S2 v1 v2 m1 m2 e1 e2 = S at *
  generalize hp : min e1 e2 = p at *
  generalize hz : V v1 m1 e1 + V v2 m2 e2 = z at *
  -- both roads are one
  have hroad : jX2_sumError th mi di po be mm ee fa fb (nI t) (nI u) = (bM (jX2_nearest th mi di po be mm ee f1 f2 (bI w) (iZ p) 0) fun r_2 th_2 mi_2 di_2 po_2 be_2 mm_2 ee_2 fa_2 fb_2 => (if r_2 = (-1) then some ((-1), th_2, mi_2, di_2, po_2, be_2, mm_2, ee_2, fa_2, fb_2) else (bMv (jX2_lower th_2 mi_2 di_2 po_2 be_2 mm_2 ee_2 fa_2 fb_2 (iZ p)) fun th_3 mi_3 di_3 po_3 be_3 mm_3 ee_3 fa_3 fb_3 => jX2_errorOf th_3 mi_3 di_3 po_3 be_3 mm_3 ee_3 fa_3 fb_3 (bI w) (iZ p)))) := by
    unfold jX2_sumError
    have h1 : jX2_exactSum th mi di po be mm ee fa fb (nI t) (nI u) 0 = some (bI w, th, mi, di, po, be, mm, ee, f1, f2) := h1
    rw [h1, bM_s]
    simp only [ho, hou, if_true, bM_id]
    rw [nI_clamp (by omega), nI_clamp (by omega), hp1, hp2]
    by_cases c : e2 ≤ e1
    · rw [if_pos (hz6.mpr c), show e2 = p by omega]
    · rw [if_neg (fun q => c (hz6.mp q)), show e1 = p by omega]
  have k1 : jX2_nearest th mi di po be mm ee f1 f2 (bI w) (iZ p) 0 = _ := k1
  rw [hroad, k1, bM_s]
  refine ⟨fun hover => ?_, fun hlt => ?_⟩
  · rw [if_pos ((zq_r1 _).mpr hover)]
    exact ⟨_, _, _, _, _, rfl⟩
  · rw [if_neg (fun q => (zq_r1 _).mp q hlt)]
    have he' := (nrm_over k2).mpr hlt
    obtain ⟨a1, a2, a3, a4⟩ := id k2
    rw [zq_low (by omega) (by omega) a2 he' a1, bMv_s]
    -- the rounded number
    have hrr := nrm_rnd (N := z.natAbs) k2
    have hzabs : z.natAbs = S.natAbs * 2 ^ (p + 1074).toNat := by rw [← hSV, Int.natAbs_mul, Int.natAbs_natCast]
    obtain ⟨R, hR⟩ := zq_unit (N := S.natAbs) (q := (p + 1074).toNat)
    rw [← hzabs] at hR
    rw [hR] at hrr
    have hmR : (m' / 2 ^ (p - e').toNat) * 2 ^ (max e' p - p).toNat = R := by
      by_cases c : p ≤ e'
      · rw [show (p - e').toNat = 0 by omega, Nat.pow_zero, Nat.div_one, show max e' p = e' by omega]
        have h5 : m' * 2 ^ (e' - p).toNat * 2 ^ (p + 1074).toNat = R * 2 ^ (p + 1074).toNat := by
          rw [Nat.mul_assoc, ← Nat.pow_add, show (e' - p).toNat + (p + 1074).toNat = (e' + 1074).toNat by omega]; exact hrr
        exact Nat.eq_of_mul_eq_mul_right (Nat.two_pow_pos _) h5
      · rw [show (max e' p - p).toNat = 0 by omega, Nat.pow_zero, Nat.mul_one]
        have h5 : m' * 2 ^ (e' + 1074).toNat = R * 2 ^ (p - e').toNat * 2 ^ (e' + 1074).toNat := by
          rw [Nat.mul_assoc, ← Nat.pow_add, show (p - e').toNat + (e' + 1074).toNat = (p + 1074).toNat by omega]; exact hrr
        have h6 := Nat.eq_of_mul_eq_mul_right (Nat.two_pow_pos _) h5
        rw [h6, Nat.mul_div_cancel _ (Nat.two_pow_pos _)]
    have hlm : m' / 2 ^ (p - e').toNat < 2 ^ 53 := Nat.lt_of_le_of_lt (Nat.div_le_self _ _) a1
    obtain ⟨m9, e9, fa9, fb9, j1, j2⟩ := zq_err (th := th) (mi := mi) (di := di) (po := po) (be := bI (w && decide (RA z ≠ 0))) (fb := f2) h2 hlm (show p ≤ max e' p by omega) (by omega) hmR (by omega) (by omega) w
    -- the error
    have hER : ER z = sg (decide (S < 0)) ((S.natAbs : Int) - R) * ((2 ^ (p + 1074).toNat : Nat) : Int) := by
      have hs : decide (z < 0) = decide (S < 0) := by rw [← hSV]; simp only [mul_sgn (Nat.two_pow_pos _)]
      unfold ER
      rw [hs, hR, ← hSV, sg_mul]
      by_cases c : S < 0
      · rw [decide_eq_true c]; unfold sg; rw [if_pos rfl, if_pos rfl, ← Int.sub_mul]; congr 1; omega
      · rw [decide_eq_false c]; unfold sg; rw [if_neg (by decide), if_neg (by decide), ← Int.sub_mul]; congr 1; omega
    have hD : (ER z).natAbs = zq_D S.natAbs R * 2 ^ (p + 1074).toNat := by
      rw [hER, Int.natAbs_mul, Int.natAbs_natCast]
      congr 1
      unfold zq_D sg
      split <;> split <;> omega
    have hRA2 : RN (zq_D S.natAbs R) p false = RA (ER z) := by
      unfold RA
      rw [hD, RN_s]; congr 1; omega
    rw [hRA2] at j1 j2
    refine ⟨m9, e9, fa9, fb9, ?_, j2⟩
    rw [j1]
    have hb : ((w != decide (S.natAbs < R)) && decide (RA (ER z) ≠ 0)) = (decide (ER z < 0) && decide (RA (ER z) ≠ 0)) := by
      by_cases c0 : RA (ER z) = 0
      · simp [c0]
      · have hne : ER z ≠ 0 := fun q => c0 (by rw [q]; exact RN_0 _ _)
        have hneg : (ER z < 0) ↔ sg (decide (S < 0)) ((S.natAbs : Int) - R) < 0 := by rw [hER]; exact mul_sgn (Nat.two_pow_pos _)
        have hne2 : zq_D S.natAbs R ≠ 0 := fun q => by rw [q, Nat.zero_mul] at hD; omega
        have hS0 : S ≠ 0 := fun q => by
          subst q
          have : z = 0 := by rw [← hSV, Int.zero_mul]
          apply hne
          rw [this]; decide
        have hw := h3 hS0
        rw [hw]
        have : (decide (S < 0) != decide (S.natAbs < R)) = decide (ER z < 0) := by
          simp only [hneg]
          unfold zq_D at hne2
          unfold sg
          by_cases c1 : S < 0
          · by_cases c2 : S.natAbs < R
            · rw [decide_eq_true c1, decide_eq_true c2, if_pos rfl, decide_eq_false (by omega)]; rfl
            · rw [if_neg c2] at hne2
              rw [decide_eq_true c1, decide_eq_false c2, if_pos rfl, decide_eq_true (by omega)]; rfl
          · by_cases c2 : S.natAbs < R
            · rw [decide_eq_false c1, decide_eq_true c2, if_neg (by decide), decide_eq_true (by omega)]; rfl
            · rw [decide_eq_false c1, decide_eq_false c2, if_neg (by decide), decide_eq_false (by omega)]; rfl
        rw [this]
    rw [hb]
