/-! what is lost marked in the last place: the rounding stays -/
def jam (N k : Nat) (s : Bool) : Nat := N / 2 ^ k ||| (if N % 2 ^ k = 0 ∧ s = false then 0 else 1)
theorem jam_or (M b i : Nat) (hb : b ≤ 1) (hi : 1 ≤ i) : (M ||| b) / 2 ^ i = M / 2 ^ i := by
  have h1 : b < 2 ^ i := by
    have : 2 ^ 1 ≤ 2 ^ i := Nat.pow_le_pow_right (by decide) hi
    omega
  rw [Nat.or_div_two_pow, Nat.div_eq_of_lt h1, Nat.or_zero]
theorem RN_jam {N k : Nat} {p : Int} {s : Bool} (hM : 2 ^ 55 ≤ N / 2 ^ k) : RN (jam N k s) (p + k) false = RN N p s := by
  have hp := Nat.two_pow_pos k
  have hN : 2 ^ k ≤ N := by
    rcases Nat.lt_or_ge N (2 ^ k) with h | h
    · rw [Nat.div_eq_of_lt h] at hM; omega
    · exact h
  have hbd := bl_div hN
  unfold jam
  generalize hb : (if N % 2 ^ k = 0 ∧ s = false then 0 else 1 : Nat) = b
  have hb1 : b ≤ 1 := by rw [← hb]; split <;> omega
  have hb0 : b = 0 ↔ (N % 2 ^ k = 0 ∧ s = false) := by
    rw [← hb]
    by_cases c : N % 2 ^ k = 0 ∧ s = false
    · simp [c]
    · rw [if_neg c]; constructor
      · intro q; omega
      · intro q; exact absurd q c
  generalize hMM : N / 2 ^ k = M at *
  have hM0 : M ≠ 0 := by omega
  have g1 := bl_ge hM0
  have g2 := bl_lt M
  have g3 := bl_gt hM
  have hJ1 : M ≤ M ||| b := Nat.left_le_or
  have hJ2 : M ||| b < 2 ^ bl M := Nat.or_lt_two_pow g2 (by
    have : 2 ^ 1 ≤ 2 ^ bl M := Nat.pow_le_pow_right (by decide) (by omega)
    omega)
  have hblJ : bl (M ||| b) = bl M := by
    have := bl_eq (N := M ||| b) (n := bl M - 1) (by omega) (by rw [show bl M - 1 + 1 = bl M by omega]; exact hJ2)
    omega
  have hJ0 : M ||| b ≠ 0 := by omega
  have hN0 : N ≠ 0 := by omega
  have hcJ : cutZ (M ||| b) (p + k) = cutZ N p - k := by
    unfold cutZ
    rw [hblJ, ← hbd]
    omega
  have hc1 := cut_ge (M ||| b) (p + k)
  rw [hblJ] at hc1
  obtain ⟨c1, hcc⟩ : ∃ c1 : Nat, cutZ (M ||| b) (p + k) = c1 := ⟨(cutZ (M ||| b) (p + k)).toNat, by omega⟩
  have hcN : cutZ N p = ((k + c1 : Nat) : Int) := by omega
  have h3 : 3 ≤ c1 := by omega
  unfold RN rr
  rw [if_neg hJ0, if_neg hN0, hcc, hcN, if_neg (by omega), if_neg (by omega), Int.toNat_natCast, Int.toNat_natCast]
  have e1 : (M ||| b) / 2 ^ (c1 - 1) = N / 2 ^ (k + c1 - 1) := by
    rw [jam_or M b _ hb1 (by omega), ← hMM, Nat.div_div_eq_div_mul, ← Nat.pow_add, show k + (c1 - 1) = k + c1 - 1 by omega]
  have e2 : (M ||| b) / 2 ^ c1 = N / 2 ^ (k + c1) := by
    rw [jam_or M b _ hb1 (by omega), ← hMM, Nat.div_div_eq_div_mul, ← Nat.pow_add]
  have hb2 : b < 2 ^ (c1 - 1) := by
    have : 2 ^ 1 ≤ 2 ^ (c1 - 1) := Nat.pow_le_pow_right (by decide) (by omega)
    omega
  have e3 : ((M ||| b) % 2 ^ (c1 - 1) ≠ 0) ↔ (N % 2 ^ (k + c1 - 1) ≠ 0 ∨ s = true) := by
    have ea : N % 2 ^ (k + c1 - 1) = N % 2 ^ k + 2 ^ k * (M % 2 ^ (c1 - 1)) := by
      rw [show k + c1 - 1 = k + (c1 - 1) by omega, Nat.pow_add, Nat.mod_mul, hMM]
    have eb : (M ||| b) % 2 ^ (c1 - 1) = M % 2 ^ (c1 - 1) ||| b := by rw [Nat.or_mod_two_pow, Nat.mod_eq_of_lt hb2]
    rw [eb, ea]
    have ec : (M % 2 ^ (c1 - 1) ||| b = 0) ↔ (M % 2 ^ (c1 - 1) = 0 ∧ b = 0) := Nat.or_eq_zero_iff
    by_cases d1 : M % 2 ^ (c1 - 1) = 0
    · rw [d1, Nat.mul_zero, Nat.add_zero]
      have ed : (0 ||| b) = b := Nat.zero_or b
      rw [ed]
      cases s with
      | true => constructor
                · intro _; exact Or.inr rfl
                · intro _ q; exact absurd (hb0.mp q).2 (by decide)
      | false => constructor
                 · intro q; left; intro w; exact q (hb0.mpr ⟨w, rfl⟩)
                 · intro q w; rcases q with q | q
                   · exact q (hb0.mp w).1
                   · exact absurd q (by decide)
    · have : 0 < 2 ^ k * (M % 2 ^ (c1 - 1)) := Nat.mul_pos hp (by omega)
      constructor
      · intro _; left; omega
      · intro _ q; exact d1 (ec.mp q).1
  have hrq : rq (M ||| b) c1 false = rq N (k + c1) s := by
    unfold rq
    rw [e1, e2]
    have e4 : ((M ||| b) % 2 ^ (c1 - 1) ≠ 0 ∨ false = true ∨ N / 2 ^ (k + c1) % 2 = 1) ↔ (N % 2 ^ (k + c1 - 1) ≠ 0 ∨ s = true ∨ N / 2 ^ (k + c1) % 2 = 1) := by
      rw [e3]
      constructor
      · intro q; rcases q with (q | q) | q | q
        · exact Or.inl q
        · exact Or.inr (Or.inl q)
        · exact absurd q (by decide)
        · exact Or.inr (Or.inr q)
      · intro q; rcases q with q | q | q
        · exact Or.inl (Or.inl q)
        · exact Or.inl (Or.inr q)
        · exact Or.inr (Or.inr q)
    by_cases d : N / 2 ^ (k + c1 - 1) % 2 = 1 ∧ (N % 2 ^ (k + c1 - 1) ≠ 0 ∨ s = true ∨ N / 2 ^ (k + c1) % 2 = 1)
    · rw [if_pos d, if_pos ⟨d.1, e4.mpr d.2⟩]
    · rw [if_neg d, if_neg (fun q => d ⟨q.1, e4.mp q.2⟩)]
  rw [hrq]
  congr 2
  omega
/-- scaling -/
theorem RN_scale {N : Nat} (k : Nat) (p : Int) (s : Bool) (hs : s = false ∨ 2 ^ 55 ≤ N) : RN (N * 2 ^ k) p s = RN N (p + k) s := by
  by_cases h0 : N = 0
  · rw [h0, Nat.zero_mul, RN_0, RN_0]
  · have h00 : N * 2 ^ k ≠ 0 := by have := Nat.mul_pos (Nat.pos_of_ne_zero h0) (Nat.two_pow_pos k); omega
    have hbm := bl_mul h0 k
    have hc : cutZ (N * 2 ^ k) p = cutZ N (p + k) + k := by unfold cutZ; rw [hbm]; omega
    have hcut := cut_ge N (p + k)
    unfold RN rr
    rw [if_neg h0, if_neg h00, hc]
    have ee : p + (cutZ N (p + k) + k) + 1074 = p + k + cutZ N (p + k) + 1074 := by omega
    rw [ee]
    congr 1
    generalize cutZ N (p + k) = c at *
    by_cases c1 : c ≤ 0
    · rw [if_pos c1]
      by_cases c2 : c + k ≤ 0
      · rw [if_pos c2, Nat.mul_assoc, ← Nat.pow_add]; congr 2; omega
      · rw [if_neg c2]
        obtain ⟨d, hd⟩ : ∃ d : Nat, c + k = d := ⟨(c + k).toNat, by omega⟩
        rw [hd, Int.toNat_natCast]
        -- N * 2^k / 2^d is whole
        have e1 : k = (-c).toNat + d := by omega
        unfold rq
        have e2 : N * 2 ^ k / 2 ^ d = N * 2 ^ (-c).toNat := by rw [e1, Nat.pow_add, ← Nat.mul_assoc, Nat.mul_div_cancel _ (Nat.two_pow_pos d)]
        have e3 : N * 2 ^ k / 2 ^ (d - 1) = N * 2 ^ (-c).toNat * 2 := by
          rw [e1, show (-c).toNat + d = (-c).toNat + 1 + (d - 1) by omega, Nat.pow_add, ← Nat.mul_assoc, Nat.mul_div_cancel _ (Nat.two_pow_pos (d - 1)), Nat.pow_succ, ← Nat.mul_assoc]
        rw [e2, e3, if_neg (by omega)]
    · rw [if_neg c1, if_neg (by omega)]
      obtain ⟨d, rfl⟩ : ∃ d : Nat, c = d := ⟨c.toNat, by omega⟩
      rw [show (d : Int) + k = ((d + k : Nat) : Int) by omega, Int.toNat_natCast, Int.toNat_natCast]
      have e1 : N * 2 ^ k / 2 ^ (d + k) = N / 2 ^ d := by rw [Nat.pow_add, Nat.mul_div_mul_right _ _ (Nat.two_pow_pos k)]
      have e2 : N * 2 ^ k / 2 ^ (d + k - 1) = N / 2 ^ (d - 1) := by rw [show d + k - 1 = d - 1 + k by omega, Nat.pow_add, Nat.mul_div_mul_right _ _ (Nat.two_pow_pos k)]
      have e3 : N * 2 ^ k % 2 ^ (d + k - 1) = N % 2 ^ (d - 1) * 2 ^ k := by rw [show d + k - 1 = d - 1 + k by omega, Nat.pow_add, Nat.mul_mod_mul_right]
      have e4 : (N % 2 ^ (d - 1) * 2 ^ k ≠ 0) ↔ (N % 2 ^ (d - 1) ≠ 0) := by
        constructor
        · intro q w; rw [w, Nat.zero_mul] at q; exact q rfl
        · intro q w
          rcases Nat.mul_eq_zero.mp w with h | h
          · exact q h
          · have := Nat.two_pow_pos k; omega
      unfold rq
      rw [e1, e2, e3]
      simp only [e4]
theorem RN_s (N : Nat) (p : Int) (k : Nat) : RN (N * 2 ^ k) p false = RN N (p + k) false := RN_scale k p false (Or.inl rfl)
theorem low_n {m k : Nat} (hm : m < 2 ^ 62) (hk : k < 2 ^ 31) : jX0_lower (lN m) (nI k) = lN (jam m k false) := by
  unfold jX0_lower jam
  have h1 : m / 2 ^ k < 2 ^ 62 := Nat.lt_of_le_of_lt (Nat.div_le_self _ _) hm
  by_cases c : k < 62
  · rw [if_pos (show nI k < 62 from nI_lt (b := 62) c (by decide)), su_n (by omega) (by omega), lp_n (by omega) (by omega)]
    have hz : (lN (m % 2 ^ k) = 0) ↔ m % 2 ^ k = 0 := ln0 (Nat.lt_of_le_of_lt (Nat.mod_le _ _) (by omega))
    by_cases d : m % 2 ^ k = 0
    · rw [if_pos (hz.mpr d), if_pos ⟨d, rfl⟩, show (0 : Int64) = lN 0 from rfl, wb_or (by omega) (by omega)]
    · rw [if_neg (fun q => d (hz.mp q)), if_neg (fun q => d q.1), show (1 : Int64) = lN 1 from rfl, wb_or (by omega) (by omega)]
  · rw [if_neg (show ¬ nI k < 62 from nI_nlt (b := 62) (by omega) (by omega))]
    have h2 : m < 2 ^ k := Nat.lt_of_lt_of_le hm (Nat.pow_le_pow_right (by decide) (by omega))
    rw [Nat.div_eq_of_lt h2, Nat.mod_eq_of_lt h2]
    by_cases d : m = 0
    · rw [if_pos ((ln0 (by omega)).mpr d), if_pos ⟨d, rfl⟩]; rfl
    · rw [if_neg (fun q => d ((ln0 (by omega)).mp q)), if_neg (fun q => d q.1)]; rfl
