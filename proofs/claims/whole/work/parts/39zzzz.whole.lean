/-! whole -/
theorem zq_wh57 {th : Int32} {mi : NI} {di : NL} {po : NI} {be : Int32} {mm : Int64} {ee : Int32} {fa fb : NI} {x1 : Int32} : ∀ (d k m : Nat), d < k → m < 2 ^ 53 → d ≤ 2000 → ∃ w : Nat, (m % 2 ^ d = 0 → w = m / 2 ^ d) ∧ jX2_whole_L57 k th mi di po be mm ee fa fb x1 1 (lN m) (iZ (-(d : Int))) = jX2_whole_L103 FU th mi di po be mm ee fa fb x1 (bI (decide (m % 2 ^ d = 0))) (lN w) 0 := by
  intro d
  induction d with
  | zero =>
    intro k m hk hm _
    obtain ⟨k, rfl⟩ : ∃ z, k = z + 1 := ⟨k - 1, by omega⟩
    refine ⟨m, fun _ => by rw [Nat.pow_zero, Nat.div_one], ?_⟩
    show (if (0 : Int32) ≤ iZ (-((0 : Nat) : Int)) then jX2_whole_L103 FU th mi di po be mm ee fa fb x1 1 (lN m) 0 else _) = _
    rw [if_pos (by decide), Nat.pow_zero, Nat.mod_one]; rfl
  | succ d ih =>
    intro k m hk hm hd
    obtain ⟨k, rfl⟩ : ∃ z, k = z + 1 := ⟨k - 1, by omega⟩
    have sh : jX2_whole_L57 (k + 1) th mi di po be mm ee fa fb x1 1 (lN m) (iZ (-((d + 1 : Nat) : Int))) = (if (0 : Int32) ≤ iZ (-((d + 1 : Nat) : Int)) then jX2_whole_L103 FU th mi di po be mm ee fa fb x1 1 (lN m) 0 else (if (1 : Int32) = 0 then jX2_whole_L103 FU th mi di po be mm ee fa fb x1 1 (lN m) 0 else (if lN m ≤ 0 then jX2_whole_L103 FU th mi di po be mm ee fa fb x1 1 (lN m) 0 else jX2_whole_L57 k th mi di po be mm ee fa fb x1 (if (lN m - lN m / 2 * 2) = 0 then 1 else 0 : Int32) (lN m / 2) (iZ (-((d + 1 : Nat) : Int)) + 1)))) := rfl
    rw [sh, if_neg (fun q => by have := (i0le (by omega) (by omega)).mp q; omega), if_neg (show ¬ (1 : Int32) = 0 by decide)]
    by_cases c : m = 0
    · subst c
      refine ⟨0, fun _ => by rw [Nat.zero_div], ?_⟩
      rw [if_pos (show lN 0 ≤ 0 by decide), Nat.zero_mod]; rfl
    · have hrem : lN m - lN m / 2 * 2 = lN (m % 2) := ln_rem (b := 2) (by omega) (by omega)
      have hdiv : lN m / 2 = lN (m / 2) := ln_div (b := 2) (by omega) (by omega)
      have hz : (lN (m % 2) = 0) ↔ m % 2 = 0 := ln0 (by omega)
      rw [if_neg (fun q => c (by have := (ln_le (b := 0) (by omega) (by omega)).mp q; omega)), hrem, hdiv, show (1 : Int32) = iZ 1 from rfl, iz_add, show -((d + 1 : Nat) : Int) + 1 = -(d : Int) by omega]
      have hm2 : m % 2 ^ (d + 1) = 0 ↔ (m % 2 = 0 ∧ m / 2 % 2 ^ d = 0) := by
        rw [Nat.pow_succ, Nat.mul_comm, Nat.mod_mul]; omega
      have hd2 : m / 2 ^ (d + 1) = m / 2 / 2 ^ d := by rw [Nat.pow_succ, Nat.mul_comm, Nat.div_div_eq_div_mul]
      by_cases q : m % 2 = 0
      · rw [if_pos (hz.mpr q)]
        obtain ⟨w, h1, h2⟩ := ih k (m / 2) (by omega) (by omega) (by omega)
        refine ⟨w, fun y => by rw [hd2]; exact h1 (hm2.mp y).2, ?_⟩
        have e1 : decide (m % 2 ^ (d + 1) = 0) = decide (m / 2 % 2 ^ d = 0) := by simp only [hm2, q, true_and]
        rw [e1]; exact h2
      · rw [if_neg (fun y => q (hz.mp y))]
        refine ⟨m / 2, fun y => absurd (hm2.mp y).1 q, ?_⟩
        have e1 : decide (m % 2 ^ (d + 1) = 0) = false := decide_eq_false (fun y => q (hm2.mp y).1)
        rw [e1]
        obtain ⟨k, rfl⟩ : ∃ z, k = z + 1 := ⟨k - 1, by omega⟩
        have sh2 : jX2_whole_L57 (k + 1) th mi di po be mm ee fa fb x1 0 (lN (m / 2)) (iZ (-(d : Int))) = (if (0 : Int32) ≤ iZ (-(d : Int)) then jX2_whole_L103 FU th mi di po be mm ee fa fb x1 0 (lN (m / 2)) 0 else (if (0 : Int32) = 0 then jX2_whole_L103 FU th mi di po be mm ee fa fb x1 0 (lN (m / 2)) 0 else _)) := rfl
        rw [sh2]
        split
        · rfl
        · rw [if_pos rfl]; rfl
