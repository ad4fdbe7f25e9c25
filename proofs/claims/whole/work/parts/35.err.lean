/-! errors of sums: all numbers in units of 2^-1074 -/
def V (v : Bool) (m : Nat) (e : Int) : Int := sg v ((m * 2 ^ (e + 1074).toNat : Nat) : Int)
def RA (z : Int) : Nat := RN z.natAbs (-1074) false
theorem sg_mul (v : Bool) (a b : Nat) : sg v ((a * b : Nat) : Int) = sg v (a : Int) * (b : Int) := by
  unfold sg
  split
  · rw [Int.natCast_mul, Int.neg_mul]
  · rw [Int.natCast_mul]
theorem S2_V {v1 v2 : Bool} {m1 m2 : Nat} {e1 e2 : Int} (h1 : -1074 ≤ e1) (h2 : -1074 ≤ e2) : S2 v1 v2 m1 m2 e1 e2 * ((2 ^ (min e1 e2 + 1074).toNat : Nat) : Int) = V v1 m1 e1 + V v2 m2 e2 := by
  unfold S2 sm V
  rw [Int.add_mul, ← sg_mul, ← sg_mul, Nat.mul_assoc, Nat.mul_assoc, ← Nat.pow_add, ← Nat.pow_add, show (e1 - min e1 e2).toNat + (min e1 e2 + 1074).toNat = (e1 + 1074).toNat by omega, show (e2 - min e1 e2).toNat + (min e1 e2 + 1074).toNat = (e2 + 1074).toNat by omega]
theorem S2_RA {v1 v2 : Bool} {m1 m2 : Nat} {e1 e2 : Int} (h1 : -1074 ≤ e1) (h2 : -1074 ≤ e2) : RN (S2 v1 v2 m1 m2 e1 e2).natAbs (min e1 e2) false = RA (V v1 m1 e1 + V v2 m2 e2) := by
  unfold RA
  rw [← S2_V h1 h2, Int.natAbs_mul, Int.natAbs_natCast, RN_s]
  congr 1
  omega
theorem mul_sgn {z : Int} {n : Nat} (hn : 0 < n) : (z * (n : Int) < 0) ↔ z < 0 := by
  constructor
  · intro q
    by_cases h : z < 0
    · exact h
    · have := Int.mul_nonneg (show 0 ≤ z by omega) (show (0 : Int) ≤ (n : Int) by omega); omega
  · intro q
    exact Int.mul_neg_of_neg_of_pos q (by omega)
theorem S2_sgn {v1 v2 : Bool} {m1 m2 : Nat} {e1 e2 : Int} (h1 : -1074 ≤ e1) (h2 : -1074 ≤ e2) : (S2 v1 v2 m1 m2 e1 e2 < 0) ↔ (V v1 m1 e1 + V v2 m2 e2 < 0) := by
  rw [← S2_V h1 h2]
  exact (mul_sgn (Nat.two_pow_pos _)).symm
theorem cs_sumV {v1 v2 : Bool} {m1 m2 : Nat} {e1 e2 : Int} (n1 : nB v1 m1 e1) (n2 : nB v2 m2 e2) :
    jX0_sum (lZ (sg v1 (rk m1 e1))) (lZ (sg v2 (rk m2 e2))) = lZ (sg (decide (V v1 m1 e1 + V v2 m2 e2 < 0)) ((min (RA (V v1 m1 e1 + V v2 m2 e2)) BEY : Nat) : Int)) := by
  rw [cs_sum n1 n2, S2_RA n1.2.1 n2.2.1]
  have : decide (S2 v1 v2 m1 m2 e1 e2 < 0) = decide (V v1 m1 e1 + V v2 m2 e2 < 0) := by
    have := S2_sgn (v1 := v1) (v2 := v2) (m1 := m1) (m2 := m2) n1.2.1 n2.2.1
    simp only [this]
  rw [this]
/-- the rounded number itself -/
def rnd (N : Nat) : Nat := if bl N ≤ 53 then N else rq N (bl N - 53) false * 2 ^ (bl N - 53)
theorem nrm_uniq {m m2 : Nat} {e e2 : Int} {n : Nat} (h : nrm m e n) (h2 : nrm m2 e2 n) : m = m2 ∧ e = e2 := by
  obtain ⟨a1, a2, a3, a4⟩ := h
  obtain ⟨b1, b2, b3, b4⟩ := h2
  omega
theorem nrm_rnd {N : Nat} {m : Nat} {e : Int} (h : nrm m e (RN N (-1074) false)) : m * 2 ^ (e + 1074).toNat = rnd N := by
  by_cases h0 : N = 0
  · subst h0
    rw [RN_0] at h
    obtain ⟨a1, a2, a3, a4⟩ := h
    have hm : m = 0 := by omega
    rw [hm, Nat.zero_mul]; decide
  have hc := cut_ge N (-1074)
  have hb1 := bl_pos h0
  unfold rnd
  by_cases c : bl N ≤ 53
  · rw [if_pos c]
    have hcut : cutZ N (-1074) = 0 := by omega
    have hN : N < 2 ^ 53 := Nat.lt_of_lt_of_le (bl_lt N) (Nat.pow_le_pow_right (by decide) c)
    have hn : nrm N (-1074) (RN N (-1074) false) := ⟨hN, by omega, Or.inr rfl, by rw [RN_fit (by omega) (by omega) (Or.inr rfl)]⟩
    obtain ⟨q1, q2⟩ := nrm_uniq h hn
    rw [q1, q2]
    simp
  · rw [if_neg c]
    have hcut : cutZ N (-1074) = ((bl N - 53 : Nat) : Int) := by omega
    generalize hd : bl N - 53 = d at *
    have hRN : RN N (-1074) false = (-1074 + (d : Int) + 1074).toNat * 2 ^ 52 + rq N d false := by
      unfold RN rr
      rw [if_neg h0, hcut, if_neg (by omega), Int.toNat_natCast]
    have hle : rq N d false ≤ 2 ^ 53 := rq_le false (Nat.lt_of_lt_of_le (bl_lt N) (Nat.pow_le_pow_right (by decide) (by omega)))
    have hge : 2 ^ 52 ≤ rq N d false := rq_ge false (Nat.le_trans (Nat.pow_le_pow_right (by decide) (by omega)) (bl_ge h0))
    generalize rq N d false = q at *
    rcases (show q < 2 ^ 53 ∨ q = 2 ^ 53 by omega) with hq | hq
    · have hn : nrm q (-1074 + d) (RN N (-1074) false) := ⟨hq, by omega, Or.inl hge, by rw [hRN]; omega⟩
      obtain ⟨q1, q2⟩ := nrm_uniq h hn
      rw [q1, q2, show (-1074 + (d : Int) + 1074).toNat = d by omega]
    · have hn : nrm (2 ^ 52) (-1074 + d + 1) (RN N (-1074) false) := ⟨by decide, by omega, Or.inl (by decide), by rw [hRN, hq]; omega⟩
      obtain ⟨q1, q2⟩ := nrm_uniq h hn
      rw [q1, q2, show (-1074 + (d : Int) + 1 + 1074).toNat = 1 + d by omega, hq, Nat.pow_add, ← Nat.mul_assoc]
theorem rq_dvd {N c : Nat} (hc : 1 ≤ c) (h : N % 2 ^ c = 0) : rq N c false * 2 ^ c = N := by
  have hd := Nat.div_add_mod N (2 ^ c)
  rw [h, Nat.add_zero] at hd
  have hm := md_s N (c - 1)
  rw [show c - 1 + 1 = c by omega, h] at hm
  have hp := Nat.two_pow_pos (c - 1)
  have h1 : N / 2 ^ (c - 1) % 2 = 0 := by
    rcases (show N / 2 ^ (c - 1) % 2 = 0 ∨ N / 2 ^ (c - 1) % 2 = 1 by omega) with q | q
    · exact q
    · rw [q] at hm; omega
  unfold rq
  rw [if_neg (by omega), Nat.mul_comm]; exact hd
theorem rnd_rep {N k d : Nat} (h : N = k * 2 ^ d) (hk : k ≤ 2 ^ 53) : rnd N = N := by
  unfold rnd
  by_cases c : bl N ≤ 53
  · rw [if_pos c]
  · rw [if_neg c]
    have hk0 : k ≠ 0 := fun q => by rw [q, Nat.zero_mul] at h; rw [h] at c; exact c (by decide)
    refine rq_dvd (by omega) ?_
    have hb := bl_mul hk0 d
    rw [← h] at hb
    rcases (show k < 2 ^ 53 ∨ k = 2 ^ 53 by omega) with q | q
    · have := bl_le q
      rw [h]
      refine Nat.mod_eq_zero_of_dvd (Nat.dvd_trans (Nat.pow_dvd_pow 2 ?_) (Nat.dvd_mul_left _ _))
      rw [← h]; omega
    · have hbk : bl k = 54 := by rw [q]; exact bl_eq (n := 53) (by decide) (by decide)
      have hN : N = 2 ^ 52 * 2 ^ (d + 1) := by rw [h, q, Nat.pow_succ 2 d]; omega
      have hbN : bl N - 53 = d + 1 := by omega
      rw [hbN, hN, Nat.mul_mod_left]
theorem zq_pw2 {c : Nat} (h : 1 ≤ c) : 2 ^ c = 2 * 2 ^ (c - 1) := by
  obtain ⟨d, rfl⟩ : ∃ d, c = d + 1 := ⟨c - 1, by omega⟩
  rw [Nat.add_sub_cancel, Nat.pow_succ]; omega
/-- how far rounding goes -/
theorem rq_near {N c : Nat} (hc : 1 ≤ c) : rq N c false * 2 ^ c ≤ N + 2 ^ (c - 1) ∧ N ≤ rq N c false * 2 ^ c + 2 ^ (c - 1) := by
  have hd := Nat.div_add_mod N (2 ^ c)
  have hm := md_s N (c - 1)
  rw [show c - 1 + 1 = c by omega] at hm
  have hl := Nat.mod_lt N (Nat.two_pow_pos (c - 1))
  have hp : 2 ^ c = 2 * 2 ^ (c - 1) := zq_pw2 hc
  have hx : (N / 2 ^ c + 1) * 2 ^ c = 2 ^ c * (N / 2 ^ c) + 2 ^ c := by rw [Nat.add_mul, Nat.one_mul, Nat.mul_comm]
  unfold rq
  rcases (show N / 2 ^ (c - 1) % 2 = 0 ∨ N / 2 ^ (c - 1) % 2 = 1 by omega) with q | q
  · rw [if_neg (by omega), Nat.mul_comm (N / 2 ^ c)]
    rw [q] at hm
    omega
  · rw [q] at hm
    split
    · rw [hx]; omega
    · rename_i w
      have : N % 2 ^ (c - 1) = 0 := by
        rcases Nat.eq_zero_or_pos (N % 2 ^ (c - 1)) with z | z
        · exact z
        · exact absurd ⟨q, Or.inl (by omega)⟩ w
      rw [Nat.mul_comm (N / 2 ^ c)]
      omega
/-- Dekker: the rounded sum less the greater one is a number -/
theorem dekker {mg ms a b : Nat} (neg : Bool) (hg : mg < 2 ^ 53) (hs : ms < 2 ^ 53) (hab : b ≤ a) (hle : ms * 2 ^ b ≤ mg * 2 ^ a) (N : Nat) (hN : N = if neg then mg * 2 ^ a - ms * 2 ^ b else mg * 2 ^ a + ms * 2 ^ b) :
    ∃ k d : Nat, k ≤ 2 ^ 53 ∧ ((rnd N : Int) - ((mg * 2 ^ a : Nat) : Int)).natAbs = k * 2 ^ d := by
  -- the exact case
  have exact_case : rnd N = N → ∃ k d : Nat, k ≤ 2 ^ 53 ∧ ((rnd N : Int) - ((mg * 2 ^ a : Nat) : Int)).natAbs = k * 2 ^ d := fun q => ⟨ms, b, by omega, by
    rw [q, hN]
    generalize mg * 2 ^ a = G at *
    generalize ms * 2 ^ b = s at *
    cases neg with
    | true => rw [if_pos rfl]; omega
    | false => rw [if_neg (by decide)]; omega⟩
  by_cases c53 : bl N ≤ 53
  · exact exact_case (by unfold rnd; rw [if_pos c53])
  · have hr : rnd N = rq N (bl N - 53) false * 2 ^ (bl N - 53) := by unfold rnd; rw [if_neg c53]
    have hnear := rq_near (N := N) (c := bl N - 53) (by omega)
    rw [← hr] at hnear
    have hdvd : 2 ^ (bl N - 53) ∣ rnd N := by rw [hr]; exact Nat.dvd_mul_left _ _
    have hG : ∀ x, x ≤ a → 2 ^ x ∣ mg * 2 ^ a := fun x hx => Nat.dvd_trans (Nat.pow_dvd_pow 2 hx) (Nat.dvd_mul_left _ _)
    have hS : ∀ x, x ≤ b → 2 ^ x ∣ ms * 2 ^ b := fun x hx => Nat.dvd_trans (Nat.pow_dvd_pow 2 hx) (Nat.dvd_mul_left _ _)
    have hs2 : ms * 2 ^ b ≤ (2 ^ 53 - 1) * 2 ^ b := Nat.mul_le_mul_right _ (by omega)
    have hg2 : mg * 2 ^ a ≤ (2 ^ 53 - 1) * 2 ^ a := Nat.mul_le_mul_right _ (by omega)
    have hN2 : N ≤ 2 * (mg * 2 ^ a) ∧ N ≤ mg * 2 ^ a + ms * 2 ^ b ∧ mg * 2 ^ a ≤ N + ms * 2 ^ b := by
      rw [hN]
      cases neg with
      | true => rw [if_pos rfl]; omega
      | false => rw [if_neg (by decide)]; omega
    generalize hc : bl N - 53 = c at *
    have hc1 : 1 ≤ c := by omega
    have hpc : 2 ^ c = 2 * 2 ^ (c - 1) := zq_pw2 hc1
    -- a difference of two multiples
    have mult : ∀ x L : Nat, 2 ^ x ∣ rnd N → 2 ^ x ∣ mg * 2 ^ a → ((rnd N : Int) - ((mg * 2 ^ a : Nat) : Int)).natAbs ≤ L * 2 ^ x → L ≤ 2 ^ 53 → ∃ k d : Nat, k ≤ 2 ^ 53 ∧ ((rnd N : Int) - ((mg * 2 ^ a : Nat) : Int)).natAbs = k * 2 ^ d := by
      intro x L h1 h2 h3 h4
      have h5 : 2 ^ x ∣ ((rnd N : Int) - ((mg * 2 ^ a : Nat) : Int)).natAbs := by
        have : ((2 ^ x : Nat) : Int) ∣ (rnd N : Int) - ((mg * 2 ^ a : Nat) : Int) := Int.dvd_sub (Int.natCast_dvd_natCast.mpr h1) (Int.natCast_dvd_natCast.mpr h2)
        have h6 := Int.natAbs_dvd_natAbs.mpr this
        rw [Int.natAbs_natCast] at h6
        exact h6
      obtain ⟨k, hk⟩ := h5
      refine ⟨k, x, ?_, by rw [hk, Nat.mul_comm]⟩
      rw [hk, Nat.mul_comm (2 ^ x)] at h3
      exact Nat.le_trans (Nat.le_of_mul_le_mul_right h3 (Nat.two_pow_pos x)) h4
    by_cases cb : c ≤ b
    · refine exact_case ?_
      rw [hr]
      refine rq_dvd hc1 (Nat.mod_eq_zero_of_dvd ?_)
      rw [hN]
      cases neg with
      | true => rw [if_pos rfl]; exact Nat.dvd_sub (hG c (by omega)) (hS c cb)
      | false => rw [if_neg (by decide)]; exact Nat.dvd_add (hG c (by omega)) (hS c cb)
    · have hbc : 2 ^ b ≤ 2 ^ (c - 1) := Nat.pow_le_pow_right (by decide) (by omega)
      by_cases ca : c ≤ a
      · refine mult c (2 ^ 52) hdvd (hG c ca) ?_ (by decide)
        have h6 : (2 ^ 53 - 1) * 2 ^ b ≤ (2 ^ 53 - 1) * 2 ^ (c - 1) := Nat.mul_le_mul_left _ hbc
        have h7 : 2 ^ 52 * 2 ^ c = (2 ^ 53 - 1) * 2 ^ (c - 1) + 2 ^ (c - 1) := by rw [hpc]; omega
        rw [h7]
        generalize (2 ^ 53 - 1) * 2 ^ (c - 1) = q1 at *
        generalize (2 ^ 53 - 1) * 2 ^ b = q2 at *
        generalize mg * 2 ^ a = G at *
        generalize ms * 2 ^ b = s at *
        generalize 2 ^ (c - 1) = pc at *
        omega
      · have hcl : c = a + 1 := by
          have hlt : N < 2 ^ (54 + a) := by
            have h8 : (2 : Nat) ^ (54 + a) = 2 * (2 ^ 53 * 2 ^ a) := by rw [← Nat.pow_add, show 54 + a = (53 + a) + 1 by omega, Nat.pow_succ]; omega
            have h9 : (2 ^ 53 - 1) * 2 ^ a + 2 ^ a = 2 ^ 53 * 2 ^ a := by omega
            have := Nat.two_pow_pos a
            omega
          have := bl_le hlt
          omega
        subst hcl
        refine mult a (2 ^ 53) (Nat.dvd_trans (Nat.pow_dvd_pow 2 (by omega)) hdvd) (hG a (Nat.le_refl a)) ?_ (Nat.le_refl _)
        rw [show a + 1 - 1 = a by omega] at hnear
        have h9 : (2 ^ 53 - 1) * 2 ^ a + 2 ^ a = 2 ^ 53 * 2 ^ a := by omega
        rw [← h9]
        generalize (2 ^ 53 - 1) * 2 ^ a = q1 at *
        generalize mg * 2 ^ a = G at *
        generalize ms * 2 ^ b = s at *
        generalize 2 ^ a = pa at *
        omega
