/-! the rank of what is nearest to N * 2^p (s: and a little more) -/
def cutZ (N : Nat) (p : Int) : Int := max ((bl N : Int) - 53) (-1074 - p)
def rq (N c : Nat) (s : Bool) : Nat := if N / 2 ^ (c - 1) % 2 = 1 ∧ (N % 2 ^ (c - 1) ≠ 0 ∨ s = true ∨ N / 2 ^ c % 2 = 1) then N / 2 ^ c + 1 else N / 2 ^ c
def rr (N : Nat) (p : Int) (s : Bool) : Nat := if cutZ N p ≤ 0 then N * 2 ^ (-(cutZ N p)).toNat else rq N (cutZ N p).toNat s
def RN (N : Nat) (p : Int) (s : Bool) : Nat := if N = 0 then 0 else (p + cutZ N p + 1074).toNat * 2 ^ 52 + rr N p s
abbrev BEY : Nat := 9218868437227405312
theorem cut_ge (N : Nat) (p : Int) : (bl N : Int) - 53 ≤ cutZ N p ∧ -1074 - p ≤ cutZ N p ∧ (cutZ N p = (bl N : Int) - 53 ∨ cutZ N p = -1074 - p) := by
  unfold cutZ; omega
theorem rq_le {N c n : Nat} (s : Bool) (h : N < 2 ^ (n + c)) : rq N c s ≤ 2 ^ n := by
  have h1 : N / 2 ^ c < 2 ^ n := (Nat.div_lt_iff_lt_mul (Nat.two_pow_pos c)).mpr (by rw [← Nat.pow_add]; exact h)
  unfold rq
  split <;> omega
theorem rq_ge {N c n : Nat} (s : Bool) (h : 2 ^ (n + c) ≤ N) : 2 ^ n ≤ rq N c s := by
  have h1 : 2 ^ n ≤ N / 2 ^ c := (Nat.le_div_iff_mul_le (Nat.two_pow_pos c)).mpr (by rw [← Nat.pow_add]; exact h)
  unfold rq
  split <;> omega
theorem rr_le (N : Nat) (p : Int) (s : Bool) : rr N p s ≤ 2 ^ 53 := by
  have hc := cut_ge N p
  have hb := bl_lt N
  unfold rr
  by_cases h : cutZ N p ≤ 0
  · rw [if_pos h]
    have h2 : N * 2 ^ (-(cutZ N p)).toNat < 2 ^ bl N * 2 ^ (-(cutZ N p)).toNat := Nat.mul_lt_mul_of_pos_right hb (Nat.two_pow_pos _)
    rw [← Nat.pow_add] at h2
    have h3 : 2 ^ (bl N + (-(cutZ N p)).toNat) ≤ 2 ^ 53 := Nat.pow_le_pow_right (by decide) (by omega)
    omega
  · rw [if_neg h]
    exact rq_le s (Nat.lt_of_lt_of_le hb (Nat.pow_le_pow_right (by decide) (by omega)))
theorem rr_ge {N : Nat} (h0 : N ≠ 0) (p : Int) (s : Bool) (h1 : cutZ N p = (bl N : Int) - 53) : 2 ^ 52 ≤ rr N p s := by
  have hb := bl_ge h0
  have hp := bl_pos h0
  unfold rr
  by_cases h : cutZ N p ≤ 0
  · rw [if_pos h]
    have h2 : 2 ^ (bl N - 1) * 2 ^ (-(cutZ N p)).toNat ≤ N * 2 ^ (-(cutZ N p)).toNat := Nat.mul_le_mul_right _ hb
    rw [← Nat.pow_add, show bl N - 1 + (-(cutZ N p)).toNat = 52 by omega] at h2
    exact h2
  · rw [if_neg h]
    exact rq_ge s (Nat.le_trans (Nat.pow_le_pow_right (by decide) (by omega)) hb)
theorem rr_lt {N : Nat} (p : Int) (s : Bool) (h1 : cutZ N p ≤ 0) : rr N p s < 2 ^ 53 := by
  have hc := cut_ge N p
  have hb := bl_lt N
  unfold rr
  rw [if_pos h1]
  have h2 : N * 2 ^ (-(cutZ N p)).toNat < 2 ^ bl N * 2 ^ (-(cutZ N p)).toNat := Nat.mul_lt_mul_of_pos_right hb (Nat.two_pow_pos _)
  rw [← Nat.pow_add] at h2
  have h3 : 2 ^ (bl N + (-(cutZ N p)).toNat) ≤ 2 ^ 53 := Nat.pow_le_pow_right (by decide) (by omega)
  omega
theorem rq_big {N c : Nat} (s : Bool) (h : N < 2 ^ (c - 1)) : rq N c s = 0 := by
  have h1 : N / 2 ^ (c - 1) = 0 := Nat.div_eq_of_lt h
  have h2 : N / 2 ^ c = 0 := Nat.div_eq_of_lt (Nat.lt_of_lt_of_le h (Nat.pow_le_pow_right (by decide) (by omega)))
  unfold rq
  rw [h1, h2]; simp
/-- nearestWhole -/
theorem nw_n {N c : Nat} (hN : N < 2 ^ 63) (h1 : 1 ≤ c) (h2 : c < 64) : jX0_nearestWhole (lN N) (nI c) = lN (rq N c false) := by
  have hc1 : nI c - 1 = nI (c - 1) := by rw [show c = (c - 1) + 1 by omega, nI_pred]; rfl
  have hp : 2 ^ (c - 1) < 2 ^ 63 ∨ c - 1 = 63 := by
    rcases (show c - 1 < 63 ∨ c - 1 = 63 by omega) with h | h
    · exact Or.inl (wb_lt2 h)
    · exact Or.inr h
  have hcc : c - 1 < 63 := by omega
  have hp : 2 ^ (c - 1) < 2 ^ 63 := wb_lt2 hcc
  have hm : N % 2 ^ c < 2 ^ 63 := Nat.lt_of_le_of_lt (Nat.mod_le _ _) hN
  have hd : N / 2 ^ c < 2 ^ 63 := Nat.lt_of_le_of_lt (Nat.div_le_self _ _) hN
  have e1 : sl 1 (nI c - 1) = lN (2 ^ (c - 1)) := by
    rw [hc1, show (1 : Int64) = lN 1 from rfl, sl_n 1 (by omega), Nat.one_mul]
  have e2 : jX0_lowPlaces (lN N) (nI c) = lN (N % 2 ^ c) := lp_n (by omega) h2
  have e3 : su (lN N) (nI c) = lN (N / 2 ^ c) := su_n (by omega) h2
  have e4 : lN (N / 2 ^ c) &&& 1 = lN (N / 2 ^ c % 2) := wb_a1 (by omega)
  have key : N % 2 ^ c = N % 2 ^ (c - 1) + 2 ^ (c - 1) * (N / 2 ^ (c - 1) % 2) := by
    have := md_s N (c - 1)
    rw [show c - 1 + 1 = c by omega] at this
    exact this
  have hlt : N % 2 ^ (c - 1) < 2 ^ (c - 1) := Nat.mod_lt _ (Nat.two_pow_pos _)
  unfold jX0_nearestWhole
  rw [e1, e2, e3, e4, lN_1]
  unfold rq
  have c1 : (lN (2 ^ (c - 1)) < lN (N % 2 ^ c)) ↔ 2 ^ (c - 1) < N % 2 ^ c := ln_lt hp hm
  have c2 : (lN (N % 2 ^ c) = lN (2 ^ (c - 1))) ↔ N % 2 ^ c = 2 ^ (c - 1) := ln_eq hm hp
  have c3 : (lN (N / 2 ^ c % 2) = 1) ↔ N / 2 ^ c % 2 = 1 := ln_eq (b := 1) (by omega) (by omega)
  rcases (show N / 2 ^ (c - 1) % 2 = 0 ∨ N / 2 ^ (c - 1) % 2 = 1 by omega) with hb | hb
  · rw [hb, Nat.mul_zero, Nat.add_zero] at key
    have n1 : ¬ lN (2 ^ (c - 1)) < lN (N % 2 ^ c) := fun q => by have := c1.mp q; omega
    have n2 : ¬ lN (N % 2 ^ c) = lN (2 ^ (c - 1)) := fun q => by have := c2.mp q; omega
    rw [if_neg n1, if_neg n2, if_pos rfl, if_neg (by omega)]
  · rw [hb, Nat.mul_one] at key
    by_cases d1 : N % 2 ^ (c - 1) = 0
    · have n1 : ¬ lN (2 ^ (c - 1)) < lN (N % 2 ^ c) := fun q => by have := c1.mp q; omega
      rw [if_neg n1, if_pos (c2.mpr (by omega))]
      by_cases d2 : N / 2 ^ c % 2 = 1
      · rw [if_pos (c3.mpr d2), if_neg (by decide), if_pos ⟨hb, Or.inr (Or.inr d2)⟩]
      · rw [if_neg (fun q => d2 (c3.mp q)), if_pos rfl, if_neg (by simp [d1, d2])]
    · rw [if_pos (c1.mpr (by omega)), if_neg (by decide), if_pos ⟨hb, Or.inl d1⟩]
/-- numberOfLeadingZeros -/
theorem bl_div {N s : Nat} (h : 2 ^ s ≤ N) : bl (N / 2 ^ s) + s = bl N := by
  have h0 : N ≠ 0 := by have := Nat.two_pow_pos s; omega
  have hs := bl_gt h
  have h1 := bl_ge h0
  have h2 := bl_lt N
  have e1 : 2 ^ (bl N - 1 - s) ≤ N / 2 ^ s := (Nat.le_div_iff_mul_le (Nat.two_pow_pos s)).mpr (by rw [← Nat.pow_add, show bl N - 1 - s + s = bl N - 1 by omega]; exact h1)
  have e2 : N / 2 ^ s < 2 ^ (bl N - 1 - s + 1) := (Nat.div_lt_iff_lt_mul (Nat.two_pow_pos s)).mpr (by rw [← Nat.pow_add, show bl N - 1 - s + 1 + s = bl N by omega]; exact h2)
  rw [bl_eq e1 e2]; omega
theorem iu_n {n s : Nat} (h : n < 2 ^ 32) (hs : s < 32) : iu (nI n) (nI s) = nI (n / 2 ^ s) := by
  unfold iu
  exact pk_ushrN h (nI s) s ((show ∀ r, r < 32 → (((nI r).toUInt32 &&& Int32.toUInt32 31).toBitVec % 32).toNat = r by decide +kernel) s hs)
theorem nlz_73 {n : Nat} (h0 : 0 < n) (h : n < 4) (c : Int) : jJ6_numberOfLeadingZeros_0f7a4_B73 (nI n) (iZ c) = iZ (c + 1 - bl n) := by
  unfold jJ6_numberOfLeadingZeros_0f7a4_B73
  rw [show (1 : Int32) = nI 1 from rfl, iu_n (by omega) (by omega), ← iZ_N, iz_sub]
  congr 1
  rcases (show n = 1 ∨ n = 2 ∨ n = 3 by omega) with rfl | rfl | rfl
  · rw [show bl 1 = 1 from bl_eq (n := 0) (by decide) (by decide)]; omega
  · rw [show bl 2 = 2 from bl_eq (n := 1) (by decide) (by decide)]; omega
  · rw [show bl 3 = 2 from bl_eq (n := 1) (by decide) (by decide)]; omega
theorem nlz_61 {n : Nat} (h0 : 0 < n) (h : n < 16) (c : Int) : jJ6_numberOfLeadingZeros_0f7a4_B61 (nI n) (iZ c) = iZ (c + 1 - bl n) := by
  unfold jJ6_numberOfLeadingZeros_0f7a4_B61
  by_cases d : n < 4
  · rw [if_pos (show nI n < 4 from nI_lt (b := 4) d (by decide))]; exact nlz_73 h0 d c
  · rw [if_neg (show ¬ nI n < 4 from nI_nlt (b := 4) (by omega) (by omega)), show (2 : Int32) = nI 2 from rfl, iu_n (by omega) (by omega), show (-nI 2 : Int32) = iZ (-2) from rfl, iz_add, nlz_73 (by omega) (by omega)]
    have := bl_div (N := n) (s := 2) (by omega)
    congr 1; omega
theorem nlz_48 {n : Nat} (h0 : 0 < n) (h : n < 256) (c : Int) : jJ6_numberOfLeadingZeros_0f7a4_B48 (nI n) (iZ c) = iZ (c + 1 - bl n) := by
  unfold jJ6_numberOfLeadingZeros_0f7a4_B48
  by_cases d : n < 16
  · rw [if_pos (show nI n < 16 from nI_lt (b := 16) d (by decide))]; exact nlz_61 h0 d c
  · rw [if_neg (show ¬ nI n < 16 from nI_nlt (b := 16) (by omega) (by omega)), show (4 : Int32) = nI 4 from rfl, iu_n (by omega) (by omega), show (-nI 4 : Int32) = iZ (-4) from rfl, iz_add, nlz_61 (by omega) (by omega)]
    have := bl_div (N := n) (s := 4) (by omega)
    congr 1; omega
theorem nlz_33 {n : Nat} (h0 : 0 < n) (h : n < 65536) (c : Int) : jJ6_numberOfLeadingZeros_0f7a4_B33 (nI n) (iZ c) = iZ (c + 1 - bl n) := by
  unfold jJ6_numberOfLeadingZeros_0f7a4_B33
  by_cases d : n < 256
  · rw [if_pos (show nI n < 256 from nI_lt (b := 256) d (by decide))]; exact nlz_48 h0 d c
  · rw [if_neg (show ¬ nI n < 256 from nI_nlt (b := 256) (by omega) (by omega)), show (8 : Int32) = nI 8 from rfl, iu_n (by omega) (by omega), show (-nI 8 : Int32) = iZ (-8) from rfl, iz_add, nlz_48 (by omega) (by omega)]
    have := bl_div (N := n) (s := 8) (by omega)
    congr 1; omega
theorem nlz_32 {n : Nat} (h0 : 0 < n) (h : n < 2 ^ 32) : jJ6_numberOfLeadingZeros_0f7a4 (nI n) = iZ (32 - bl n) := by
  unfold jJ6_numberOfLeadingZeros_0f7a4
  by_cases d0 : n < 2 ^ 31
  · rw [if_pos (show 0 < nI n from nI_lt (a := 0) h0 (by omega))]
    by_cases d : n < 65536
    · rw [if_pos (show nI n < 65536 from nI_lt (b := 65536) d (by decide)), show (31 : Int32) = iZ 31 from rfl, nlz_33 h0 d]
      rfl
    · rw [if_neg (show ¬ nI n < 65536 from nI_nlt (b := 65536) (by omega) (by omega)), show (16 : Int32) = nI 16 from rfl, iu_n (by omega) (by omega), show (31 + -nI 16 : Int32) = iZ 15 from rfl, nlz_33 (by omega) (by omega)]
      have := bl_div (N := n) (s := 16) (by omega)
      congr 1; omega
  · have e : nI n = iZ ((n : Int) - 4294967296) := by
      rw [← iz_sub, iZ_N, show iZ 4294967296 = 0 from rfl, Int32.sub_zero]
    rw [e, if_neg (fun q => absurd ((i0lt (by omega) (by omega)).mp q) (by omega)), if_neg (fun q => absurd ((ieq0 (by omega) (by omega)).mp q) (by omega))]
    rw [bl_eq (n := 31) (by omega) (by omega)]; rfl
theorem nlz_64 {n : Nat} (h0 : 0 < n) (h : n < 2 ^ 63) : jJ13_numberOfLeadingZeros_95d88 (lN n) = iZ (64 - bl n) := by
  unfold jJ13_numberOfLeadingZeros_95d88
  rw [show (32 : Int32) = nI 32 from rfl, su_n (by omega) (by omega), lN_i, lN_i]
  by_cases d : n < 2 ^ 32
  · rw [Nat.div_eq_of_lt d, if_pos (show nI 0 = 0 from rfl), nlz_32 h0 d, show nI 32 = iZ 32 from rfl, iz_add]
    congr 1; omega
  · have hd : 0 < n / 2 ^ 32 := Nat.div_pos (by omega) (by decide)
    rw [if_neg (show ¬ nI (n / 2 ^ 32) = 0 from nI_ne0 hd (by omega)), nlz_32 hd (by omega)]
    have := bl_div (N := n) (s := 32) (by omega)
    congr 1; omega
