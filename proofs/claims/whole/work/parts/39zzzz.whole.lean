/-! whole -/
theorem zq_wh57 {th : Int32} {mi : NI} {di : NL} {po : NI} {be : Int32} {mm : Int64} {ee : Int32} {fa fb : NI} {x1 : Int32} : ∀ (d k m : Nat), d < k → m < 2 ^ 53 → d ≤ 2000 → ∃ w : Nat, (m % 2 ^ d = 0 → w = m / 2 ^ d) ∧ jX2_whole_L57 k th mi di po be mm ee fa fb x1 1 (lN m) (iZ (-(d : Int))) = jX2_whole_L103 FU th mi di po be mm ee fa fb x1 (bI (decide (m % 2 ^ d = 0))) (lN w) 0 := by
  intro d
  induction d with
  | zero =>
    intro k m hk hm _
    obtain ⟨k, rfl⟩ : ∃ z, k = z + 1 := ⟨k - 1, by omega⟩
    refine ⟨m, fun _ => by rw [Nat.pow_zero, Nat.div_one], ?_⟩
    show (if (0 : Int32) ≤ iZ (-((0 : Nat) : Int)) then jX2_whole_L103 FU th mi di po be mm ee fa fb x1 1 (lN m) 0 else _) = _
    rw [if_pos (by decide), Nat.pow_zero, Nat.mod_one]; rfl
  | succ d ih =>
    intro k m hk hm hd
    obtain ⟨k, rfl⟩ : ∃ z, k = z + 1 := ⟨k - 1, by omega⟩
    have sh : jX2_whole_L57 (k + 1) th mi di po be mm ee fa fb x1 1 (lN m) (iZ (-((d + 1 : Nat) : Int))) = (if (0 : Int32) ≤ iZ (-((d + 1 : Nat) : Int)) then jX2_whole_L103 FU th mi di po be mm ee fa fb x1 1 (lN m) 0 else (if (1 : Int32) = 0 then jX2_whole_L103 FU th mi di po be mm ee fa fb x1 1 (lN m) 0 else (if lN m ≤ 0 then jX2_whole_L103 FU th mi di po be mm ee fa fb x1 1 (lN m) 0 else jX2_whole_L57 k th mi di po be mm ee fa fb x1 (if (lN m - lN m / 2 * 2) = 0 then 1 else 0 : Int32) (lN m / 2) (iZ (-((d + 1 : Nat) : Int)) + 1)))) := rfl
    rw [sh, if_neg (fun q => by have := (i0le (by omega) (by omega)).mp q; omega), if_neg (show ¬ (1 : Int32) = 0 by decide)]
    by_cases c : m = 0
    · subst c
      refine ⟨0, fun _ => by rw [Nat.zero_div], ?_⟩
      rw [if_pos (show lN 0 ≤ 0 by decide), Nat.zero_mod]; rfl
    · have hrem : lN m - lN m / 2 * 2 = lN (m % 2) := ln_rem (b := 2) (by omega) (by omega)
      have hdiv : lN m / 2 = lN (m / 2) := ln_div (b := 2) (by omega) (by omega)
      have hz : (lN (m % 2) = 0) ↔ m % 2 = 0 := ln0 (by omega)
      rw [if_neg (fun q => c (by have := (ln_le (b := 0) (by omega) (by omega)).mp q; omega)), hrem, hdiv, show (1 : Int32) = iZ 1 from rfl, iz_add, show -((d + 1 : Nat) : Int) + 1 = -(d : Int) by omega]
      have hm2 : m % 2 ^ (d + 1) = 0 ↔ (m % 2 = 0 ∧ m / 2 % 2 ^ d = 0) := by
        rw [Nat.pow_succ, Nat.mul_comm, Nat.mod_mul]; omega
      have hd2 : m / 2 ^ (d + 1) = m / 2 / 2 ^ d := by rw [Nat.pow_succ, Nat.mul_comm, Nat.div_div_eq_div_mul]
      by_cases q : m % 2 = 0
      · rw [if_pos (hz.mpr q)]
        obtain ⟨w, h1, h2⟩ := ih k (m / 2) (by omega) (by omega) (by omega)
        refine ⟨w, fun y => by rw [hd2]; exact h1 (hm2.mp y).2, ?_⟩
        have e1 : decide (m % 2 ^ (d + 1) = 0) = decide (m / 2 % 2 ^ d = 0) := by simp only [hm2, q, true_and]
        rw [e1]; exact h2
      · rw [if_neg (fun y => q (hz.mp y))]
        refine ⟨m / 2, fun y => absurd (hm2.mp y).1 q, ?_⟩
        have e1 : decide (m % 2 ^ (d + 1) = 0) = false := decide_eq_false (fun y => q (hm2.mp y).1)
        rw [e1]
        obtain ⟨k, rfl⟩ : ∃ z, k = z + 1 := ⟨k - 1, by omega⟩
        have sh2 : jX2_whole_L57 (k + 1) th mi di po be mm ee fa fb x1 0 (lN (m / 2)) (iZ (-(d : Int))) = (if (0 : Int32) ≤ iZ (-(d : Int)) then jX2_whole_L103 FU th mi di po be mm ee fa fb x1 0 (lN (m / 2)) 0 else (if (0 : Int32) = 0 then jX2_whole_L103 FU th mi di po be mm ee fa fb x1 0 (lN (m / 2)) 0 else _)) := rfl
        rw [sh2]
        split
        · rfl
        · rw [if_pos rfl]; rfl
theorem zq_whS {th : Int32} {mi : NI} {di : NL} {po : NI} {be : Int32} {mm : Int64} {ee : Int32} {fa fb : NI} {t : Nat} (ht : t < 16) {e : Nat} (hp : po t = nI e) (he : e < 2000) {m : Nat} : ∀ (d j k : Nat), j + d ≤ e → (∀ i, i < j + d → m * 2 ^ i < 2 ^ 62) → jX2_whole_L103 (k + d) th mi di po be mm ee fa fb (nI t) 1 (lN (m * 2 ^ j)) (nI j) = jX2_whole_L103 k th mi di po be mm ee fa fb (nI t) 1 (lN (m * 2 ^ (j + d))) (nI (j + d)) := by
  have ho : ok (nI t) 16 = true := ok_n ht (by decide)
  intro d
  induction d with
  | zero => intro j k _ _; rfl
  | succ d ih =>
    intro j k h1 h2
    have hj := h2 j (by omega)
    have e1 : jX2_whole_L103 (k + (d + 1)) th mi di po be mm ee fa fb (nI t) 1 (lN (m * 2 ^ j)) (nI j) = jX2_whole_L103 (k + d) th mi di po be mm ee fa fb (nI t) 1 (lN (m * 2 ^ (j + 1))) (nI (j + 1)) := by
      show jX2_whole_L103 ((k + d) + 1) th mi di po be mm ee fa fb (nI t) 1 (lN (m * 2 ^ j)) (nI j) = _
      rw [jX2_whole_L103]
      rw [if_pos ho, nI_clamp (by omega), hp, if_neg (nI_ge (by omega) (by omega)), if_neg (show ¬ (1 : Int32) = 0 by decide), if_pos (show lN (m * 2 ^ j) < 4611686018427387904 from (ln_lt (b := 4611686018427387904) (by omega) (by omega)).mpr (by omega)), show (2 : Int64) = lN 2 from rfl, lN_mul, nI_1]
      congr 2
      rw [Nat.pow_succ, Nat.mul_comm (2 ^ j) 2, Nat.mul_left_comm]
    rw [e1, ih (j + 1) k (by omega) (fun i hi => h2 i (by omega)), show j + 1 + d = j + (d + 1) by omega]
theorem zq_whE {th : Int32} {mi : NI} {di : NL} {po : NI} {be : Int32} {mm : Int64} {ee : Int32} {fa fb : NI} {t : Nat} (ht : t < 16) {e : Int} (hp : po t = iZ e) (he1 : -2000 ≤ e) (he2 : e < 2000) (k : Nat) (x2 : Int32) (x3 : Int64) (x5 : Nat) (h5 : x5 < 2000) (h : e ≤ x5 ∨ x2 = 0) : jX2_whole_L103 (k + 1) th mi di po be mm ee fa fb (nI t) x2 x3 (nI x5) = jX2_whole_B161 th mi di po be mm ee fa fb (nI t) x2 x3 := by
  have ho : ok (nI t) 16 = true := ok_n ht (by decide)
  rw [jX2_whole_L103]
  rw [if_pos ho, nI_clamp (by omega), hp]
  by_cases c : e ≤ x5
  · rw [if_pos (by rw [← iZ_N]; exact (iz_le (by omega) (by omega) (by omega) (by omega)).mpr c)]
  · rw [if_neg (fun q => c (by rw [← iZ_N] at q; exact (iz_le (by omega) (by omega) (by omega) (by omega)).mp q)), if_pos (h.resolve_left c)]
theorem zq_B1 {mi : NI} {di : NL} {po : NI} {be : Int32} {mm : Int64} {ee : Int32} {fa fb : NI} {t : Nat} (ht : t < 16) {v : Bool} (hm : mi t = bI v) (n : Nat) : jX2_whole_B161 0 mi di po be mm ee fa fb (nI t) 1 (lN n) = some (lZ (sg v n), 0, mi, di, po, be, mm, ee, fa, fb) := by
  have ho : ok (nI t) 16 = true := ok_n ht (by decide)
  unfold jX2_whole_B161
  rw [if_neg (show ¬ (1 : Int32) = 0 by decide), if_pos ho, nI_clamp (by omega), hm]
  cases v
  · rw [if_pos (show bI false = 0 from rfl), ← lZ_N]; rfl
  · rw [if_neg (show ¬ bI true = 0 by decide), ← lZ_N, lz_neg]; rfl
theorem zq_B0 {mi : NI} {di : NL} {po : NI} {be : Int32} {mm : Int64} {ee : Int32} {fa fb : NI} {t : Nat} (x3 : Int64) : jX2_whole_B161 0 mi di po be mm ee fa fb (nI t) 0 x3 = some (0, 2, mi, di, po, be, mm, ee, fa, fb) := by
  unfold jX2_whole_B161
  rw [if_pos rfl]
  rfl
theorem ok_whole (g : NL) (th : Int32) (mi : NI) (di : NL) (po : NI) (be : Int32) (mm : Int64) (ee : Int32) (fa fb : NI) (x1 : Int32) (hR : Rel g mi di po) : OKn (jX0_whole g x1) (jX2_whole th mi di po be mm ee fa fb x1) ∨ OKt (tX0_whole g x1) (jX2_whole th mi di po be mm ee fa fb x1) g 1 1 ∨ OKt (tX0_whole g x1) (jX2_whole th mi di po be mm ee fa fb x1) g 2 2 := by
  by_cases h1 : rok x1 = true
  · obtain ⟨t, ht, rfl, ho⟩ := rok_of h1
    obtain ⟨v, m, e, h2, h3, h4, h5, h6⟩ := rel_get (hR t ht)
    have hb := rk_b h6
    have s1 := sg_neg h6
    have g1 := h6.1
    have g2 := h6.2.1
    have g3 := h6.2.2.1
    have g4 := h6.2.2.2.1
    have hl : (-4890909195324358656 : Int64) = lZ (-4890909195324358656) := by decide
    have c1 : ((4890909195324358656 : Int64) ≤ g t) ↔ 4890909195324358656 ≤ sg v (rk m e) := by rw [h5]; exact lz_le (a := 4890909195324358656) (by omega) (by omega) (by unfold sg; split <;> omega) (by unfold sg; split <;> omega)
    have c2 : ((-4890909195324358656 : Int64) ≤ g t) ↔ -4890909195324358656 ≤ sg v (rk m e) := by rw [h5, hl]; exact lz_le (by omega) (by omega) (by unfold sg; split <;> omega) (by unfold sg; split <;> omega)
    have hws : ∀ n : Nat, jX0_withSignOf (lN n) (g t) = lZ (sg v n) := fun n => by
      rw [h5, ← lZ_N, ws_z (by unfold sg; split <;> omega) (by unfold sg; split <;> omega)]
      congr 1
      cases v with
      | true => rw [if_pos (s1.mpr rfl)]; rfl
      | false => rw [if_neg (fun q => absurd (s1.mp q) (by decide))]; rfl
    have hM : jX2_whole th mi di po be mm ee fa fb (nI t) = jX2_whole_L57 FU 0 mi di po be mm ee fa fb (nI t) (if 11 < iZ e then 0 else 1 : Int32) (lN m) (iZ e) := by
      unfold jX2_whole
      simp only [ho, if_true]
      rw [if_neg (fun z => (isr_0.mp z) h1), if_pos (by decide), nI_clamp (by omega), h3, h4]
    have h11 : ((11 : Int32) < iZ e) ↔ 11 < e := iz_lt (a := 11) (by omega) (by omega) (by omega) (by omega)
    have hL57 : ∀ x2 : Int32, 0 ≤ e → jX2_whole_L57 FU 0 mi di po be mm ee fa fb (nI t) x2 (lN m) (iZ e) = jX2_whole_L103 FU 0 mi di po be mm ee fa fb (nI t) x2 (lN m) 0 := fun x2 q => by
      rw [show jX2_whole_L57 FU 0 mi di po be mm ee fa fb (nI t) x2 (lN m) (iZ e) = jX2_whole_L57 (4999 + 1) 0 mi di po be mm ee fa fb (nI t) x2 (lN m) (iZ e) from rfl, jX2_whole_L57]
      rw [if_pos ((i0le (by omega) (by omega)).mpr q)]
    have hXn : ∀ r, jX0_whole g (nI t) = r ↔ (if 4890909195324358656 ≤ g t then none else (if (-4890909195324358656) ≤ g t then (if iZ e < 0 then (if (jX0_lowPlaces (lN m) (jmin (-(iZ e)) 62)) = 0 then some (jX0_withSignOf (su (lN m) (jmin (-(iZ e)) 62)) (g t), g) else none) else some (jX0_withSignOf (sl (lN m) (iZ e)) (g t), g)) else none)) = r := fun r => by
      unfold jX0_whole
      rw [if_pos h1, if_pos ho, nI_clamp (by omega)]
      rw [show jX0_eOf (g t) = iZ e by rw [h5]; exact (mo_n h6).2, show jX0_mOf (g t) = lN m by rw [h5]; exact (mo_n h6).1]
    have hTn : ∀ r, tX0_whole g (nI t) = r ↔ (if 4890909195324358656 ≤ g t then some 2 else (if (-4890909195324358656) ≤ g t then (if iZ e < 0 then (if (jX0_lowPlaces (lN m) (jmin (-(iZ e)) 62)) = 0 then none else some 2) else none) else some 2)) = r := fun r => by
      unfold tX0_whole
      rw [if_pos h1, if_pos ho, nI_clamp (by omega)]
      rw [show jX0_eOf (g t) = iZ e by rw [h5]; exact (mo_n h6).2, show jX0_mOf (g t) = lN m by rw [h5]; exact (mo_n h6).1]
    have hOut : (4890909195324358656 ≤ sg v (rk m e) ∨ sg v (rk m e) < -4890909195324358656) → tX0_whole g (nI t) = some 2 := fun q => by
      rw [hTn]
      by_cases w : (4890909195324358656 : Int64) ≤ g t
      · rw [if_pos w]
      · have : ¬ (-4890909195324358656 : Int64) ≤ g t := fun y => by
          have a := c2.mp y
          have b : ¬ 4890909195324358656 ≤ sg v (rk m e) := fun z => w (c1.mpr z)
          omega
        rw [if_neg w, if_neg this]
    have hIn : ¬ 4890909195324358656 ≤ sg v (rk m e) → -4890909195324358656 ≤ sg v (rk m e) → 0 ≤ e → jX0_whole g (nI t) = some (lZ (sg v ((m * 2 ^ e.toNat : Nat) : Int)), g) := fun q1 q2 q3 => by
      rw [hXn, if_neg (fun y => q1 (c1.mp y)), if_pos (c2.mpr q2), if_neg (fun y => by have := (ilt0 (by omega) (by omega)).mp y; omega)]
      have he : e < 64 := by
        have h7 : ¬ 12 ≤ e := fun y => by
          have : rk m e ≥ 4890909195324358657 := by unfold rk; omega
          cases hv : v
          · rw [hv] at q1; have q1 : ¬ 4890909195324358656 ≤ rk m e := q1; omega
          · rw [hv] at q2; have q2 : -4890909195324358656 ≤ -(rk m e) := q2; omega
        omega
      rw [show iZ e = nI e.toNat by rw [← iZ_N]; congr 1; omega, sl_n m (by omega), hws]
    by_cases hneg : e < 0
    · obtain ⟨c, hc⟩ : ∃ c : Nat, -e = c := ⟨(-e).toNat, by omega⟩
      have hd : jmin (-(iZ e)) 62 = nI (min c 62) := by
        rw [iz_neg, hc, show (62 : Int32) = iZ 62 from rfl, jmin_z (by omega) (by omega) (by omega) (by omega), ← iZ_N]
        congr 1; omega
      have hw : m / 2 ^ (min c 62) = m / 2 ^ c ∧ m % 2 ^ (min c 62) = m % 2 ^ c := by
        by_cases q : c ≤ 62
        · rw [Nat.min_eq_left q]; exact ⟨rfl, rfl⟩
        · rw [Nat.min_eq_right (by omega)]
          have p1 : m < 2 ^ c := Nat.lt_of_lt_of_le g1 (Nat.pow_le_pow_right (by decide) (by omega))
          rw [Nat.div_eq_of_lt p1, Nat.mod_eq_of_lt p1, Nat.div_eq_of_lt (show m < 2 ^ 62 by omega), Nat.mod_eq_of_lt (show m < 2 ^ 62 by omega)]
          exact ⟨rfl, rfl⟩
      have q1 : ¬ (4890909195324358656 : Int64) ≤ g t := fun y => by have := c1.mp y; unfold sg rk at this; split at this <;> omega
      have q2 : (-4890909195324358656 : Int64) ≤ g t := c2.mpr (by unfold sg rk; split <;> omega)
      have q3 : iZ e < 0 := (ilt0 (by omega) (by omega)).mpr hneg
      have hml : m % 2 ^ c < 2 ^ 63 := Nat.lt_of_le_of_lt (Nat.mod_le _ _) (by omega)
      obtain ⟨w, w1, w2⟩ := zq_wh57 (th := 0) (mi := mi) (di := di) (po := po) (be := be) (mm := mm) (ee := ee) (fa := fa) (fb := fb) (x1 := nI t) c FU m (by unfold FU; omega) g1 (by omega)
      have hM2 : jX2_whole th mi di po be mm ee fa fb (nI t) = jX2_whole_B161 0 mi di po be mm ee fa fb (nI t) (bI (decide (m % 2 ^ c = 0))) (lN w) := by
        rw [hM, if_neg (fun y => by have := h11.mp y; omega), show iZ e = iZ (-(c : Int)) by congr 1; omega, w2]
        exact zq_whE ht h4 (by omega) (by omega) 4999 _ _ 0 (by omega) (Or.inl (by omega))
      by_cases z : m % 2 ^ c = 0
      · left
        refine ⟨lZ (sg v ((m / 2 ^ c : Nat) : Int)), g, mi, di, po, be, mm, ee, fa, fb, ?_, ?_, hR⟩
        · rw [hXn, if_neg q1, if_pos q2, if_pos q3, hd, lp_n (by omega) (by omega), hw.2, if_pos ((ln0 hml).mpr z), su_n (by omega) (by omega), hw.1, hws]
        · rw [hM2, decide_eq_true z, w1 z]; exact zq_B1 ht h2 _
      · right; right
        refine ⟨0, mi, di, po, be, mm, ee, fa, fb, ?_, ?_, hR⟩
        · rw [hTn, if_neg q1, if_pos q2, if_pos q3, hd, lp_n (by omega) (by omega), hw.2, if_neg (fun y => z ((ln0 hml).mp y))]
        · rw [hM2, decide_eq_false z]; exact zq_B0 _
    · have hm52 : 2 ^ 52 ≤ m := by omega
      obtain ⟨E, hE⟩ : ∃ E : Nat, e = E := ⟨e.toNat, by omega⟩
      by_cases h12 : 11 < e
      · right; right
        refine ⟨0, mi, di, po, be, mm, ee, fa, fb, ?_, ?_, hR⟩
        · apply hOut
          unfold sg rk
          cases v
          · left; rw [if_neg (by decide)]; omega
          · right; rw [if_pos rfl]; omega
        · rw [hM, if_pos (h11.mpr h12), hL57 _ (by omega), show (0 : Int32) = nI 0 from rfl]
          have := zq_whE (th := 0) (mi := mi) (di := di) (po := po) (be := be) (mm := mm) (ee := ee) (fa := fa) (fb := fb) ht h4 (by omega) (by omega) 4999 0 (lN m) 0 (by omega) (Or.inr rfl)
          exact this.trans (zq_B0 _)
      · have hMs : ∀ d, d ≤ E → d ≤ 10 → jX2_whole th mi di po be mm ee fa fb (nI t) = jX2_whole_L103 (5000 - d) 0 mi di po be mm ee fa fb (nI t) 1 (lN (m * 2 ^ d)) (nI d) := fun d hd1 hd2 => by
          rw [hM, if_neg (fun y => h12 (h11.mp y)), hL57 _ (by omega)]
          have hst := zq_whS (th := 0) (mi := mi) (di := di) (be := be) (mm := mm) (ee := ee) (fa := fa) (fb := fb) ht (show po t = nI E by rw [h4, hE, iZ_N]) (by omega) (m := m) d 0 (5000 - d) (by omega) (fun i hi => by
            have : 2 ^ i ≤ 2 ^ 9 := Nat.pow_le_pow_right (by decide) (by omega)
            have := Nat.mul_le_mul_left m this
            omega)
          rw [Nat.pow_zero, Nat.mul_one, Nat.zero_add, show 5000 - d + d = 5000 by omega] at hst
          exact hst
        by_cases h10 : e ≤ 10
        · left
          refine ⟨lZ (sg v ((m * 2 ^ e.toNat : Nat) : Int)), g, mi, di, po, be, mm, ee, fa, fb, hIn ?_ ?_ (by omega), ?_, hR⟩
          · unfold sg rk; split <;> omega
          · unfold sg rk; split <;> omega
          · rw [hMs E (Nat.le_refl _) (by omega), show 5000 - E = (4999 - E) + 1 by omega, zq_whE ht h4 (by omega) (by omega) _ _ _ E (by omega) (Or.inl (by omega)), zq_B1 ht h2, show e.toNat = E by omega]
        · have hE11 : E = 11 := by omega
          have hl103 : jX2_whole th mi di po be mm ee fa fb (nI t) = jX2_whole_B161 0 mi di po be mm ee fa fb (nI t) (if bI v = 0 then 0 else (if lN (m * 2 ^ 10) = 4611686018427387904 then 1 else 0 : Int32) : Int32) (lN (m * 2 ^ 11)) := by
            rw [hMs 10 (by omega) (by omega), show 5000 - 10 = 4989 + 1 from rfl, jX2_whole_L103]
            rw [if_pos ho, nI_clamp (by omega), h4, hE, hE11, if_neg (show ¬ iZ ((11 : Nat) : Int) ≤ nI 10 by decide), if_neg (show ¬ (1 : Int32) = 0 by decide), if_neg (fun y => by have := (ln_lt (b := 4611686018427387904) (by omega) (by omega)).mp y; omega), if_pos ho, h2, show (2 : Int64) = lN 2 from rfl, lN_mul, nI_1, show 2 * (m * 2 ^ 10) = m * 2 ^ 11 by omega]
            exact zq_whE ht h4 (by omega) (by omega) 4988 _ _ 11 (by omega) (Or.inl (by omega))
          have h62 : (lN (m * 2 ^ 10) = 4611686018427387904) ↔ m = 2 ^ 52 := by
            rw [show (4611686018427387904 : Int64) = lN 4611686018427387904 from rfl, ln_eq (by omega) (by omega)]; omega
          by_cases hmin : v = true ∧ m = 2 ^ 52
          · left
            refine ⟨lZ (sg v ((m * 2 ^ e.toNat : Nat) : Int)), g, mi, di, po, be, mm, ee, fa, fb, hIn ?_ ?_ (by omega), ?_, hR⟩
            · unfold sg rk; rw [if_pos hmin.1]; omega
            · unfold sg rk; rw [if_pos hmin.1]; omega
            · rw [hl103, if_neg (by rw [hmin.1]; decide), if_pos (h62.mpr hmin.2), zq_B1 ht h2, show e.toNat = 11 by omega]
          · right; right
            refine ⟨0, mi, di, po, be, mm, ee, fa, fb, ?_, ?_, hR⟩
            · apply hOut
              unfold sg rk
              cases v
              · left; rw [if_neg (by decide)]; omega
              · right; rw [if_pos rfl]
                have : m ≠ 2 ^ 52 := fun y => hmin ⟨rfl, y⟩
                omega
            · rw [hl103]
              have hz : (if bI v = 0 then 0 else (if lN (m * 2 ^ 10) = 4611686018427387904 then 1 else 0 : Int32) : Int32) = 0 := by
                cases v
                · rw [if_pos (show bI false = 0 from rfl)]
                · rw [if_neg (show ¬ bI true = 0 by decide), if_neg (fun y => hmin ⟨rfl, h62.mp y⟩)]
              rw [hz]; exact zq_B0 _
  · right; left
    refine ⟨0, mi, di, po, be, mm, ee, fa, fb, ?_, ?_, hR⟩
    · unfold tX0_whole; rw [if_neg h1]
    · unfold jX2_whole
      rw [if_pos (isr_0.mpr h1), if_neg (by decide)]
