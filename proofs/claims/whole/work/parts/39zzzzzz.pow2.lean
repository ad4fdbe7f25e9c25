/-! power -/
theorem zq_p41 {th : Int32} {mi : NI} {di : NL} {po : NI} {be : Int32} {mm : Int64} {ee : Int32} {fa fb : NI} {x1 x2 : Int32} {n : Nat} (hn : n < 1025) (h0 : n ≠ 0) : ∀ (d j k : Nat), j + d = bl n - 1 → d < k → jX2_raised_L41 k th mi di po be mm ee fa fb x1 x2 (nI n) (nI (2 ^ j)) = jX2_raised_L64 FU th mi di po be mm ee fa fb x1 x2 (nI n) (nI (2 ^ (bl n - 1) / 2)) := by
  have g1 := bl_ge h0
  have g2 := bl_lt n
  have g3 := bl_pos h0
  have hb := bl_le (N := n) (n := 11) (by omega)
  have hdv : nI n / 2 = nI (n / 2) := pk_div (d := 2) (by omega) (by decide) (by decide)
  have hpw : 2 ^ bl n = 2 * 2 ^ (bl n - 1) := zq_pw2 g3
  intro d
  induction d with
  | zero =>
    intro j k hj hk
    obtain ⟨k, rfl⟩ : ∃ z, k = z + 1 := ⟨k - 1, by omega⟩
    have : j = bl n - 1 := by omega
    subst this
    have hx5 : nI (2 ^ (bl n - 1)) / 2 = nI (2 ^ (bl n - 1) / 2) := pk_div (d := 2) (by omega) (by decide) (by decide)
    rw [jX2_raised_L41, hdv, if_pos (nI_lt (by omega) (by omega)), hx5]
  | succ d ih =>
    intro j k hj hk
    obtain ⟨k, rfl⟩ : ∃ z, k = z + 1 := ⟨k - 1, by omega⟩
    have hp1 : 2 ^ (j + 1) ≤ 2 ^ (bl n - 1) := Nat.pow_le_pow_right (by decide) (by omega)
    rw [Nat.pow_succ] at hp1
    rw [jX2_raised_L41, hdv, if_neg (nI_nlt (by omega) (by omega)), show (2 : Int32) = nI 2 from rfl, pk_mul, show 2 * 2 ^ j = 2 ^ (j + 1) by rw [Nat.pow_succ]; omega]
    exact ih (j + 1) k (by omega) (by omega)
theorem zq_one : (4607182418800017408 : Int64) = lZ (sg false (rk (2 ^ 52) (-52))) ∧ nB false (2 ^ 52) (-52) := ⟨by decide, by decide, by decide, by decide, Or.inl (by decide), fun q => absurd q (by decide)⟩
/-- raised, on both sides -/
theorem zq_raise {mi : NI} {di : NL} {po : NI} {t : Nat} (ht : t < 16) {v0 : Bool} {m0 : Nat} {e0 : Int} (hm0 : mi t = bI v0) (hd0 : di t = lN m0) (hp0 : po t = iZ e0) (n0 : nB v0 m0 e0) {z : Int} (hz : z.natAbs < 1025) (th be : Int32) (mm : Int64) (ee : Int32) (fa fb : NI) :
    (∃ (w : Bool) (b' : Int32) (mm' : Int64) (ee' : Int32) (fa' : NI), jX0_raise (lZ (sg v0 (rk m0 e0))) (nI z.natAbs) = some (lZ (sg w ((BEY : Nat) : Int))) ∧ jX2_raised th mi di po be mm ee fa fb (nI t) (iZ z) = some (-1, th, mi, di, po, b', mm', ee', fa', fb)) ∨
    (∃ (v' : Bool) (m' : Nat) (e' : Int) (fa' : NI), nB v' m' e' ∧ jX0_raise (lZ (sg v0 (rk m0 e0))) (nI z.natAbs) = some (lZ (sg v' (rk m' e'))) ∧ jX2_raised th mi di po be mm ee fa fb (nI t) (iZ z) = jX2_raised_B135 th mi di po (bI v') (lN m') (iZ e') fa' fb (iZ z)) := by
  have ea : (if 0 ≤ iZ z then iZ z else -iZ z : Int32) = nI z.natAbs := by
    by_cases q : 0 ≤ z
    · rw [if_pos ((i0le (by omega) (by omega)).mpr q), ← iZ_N]; congr 1; omega
    · rw [if_neg (fun w => q ((i0le (by omega) (by omega)).mp w)), ← iZ_N, iz_neg]; congr 1; omega
  unfold jX0_raise jX2_raised jX2_raised_B38
  rw [take_n ht hm0, bMv_s, hd0, hp0, ea]
  by_cases c : z = 0
  · subst c
    right
    refine ⟨false, 2 ^ 52, -52, fa, zq_one.2, ?_, ?_⟩
    · rw [if_pos (show nI (Int.natAbs 0) = 0 by decide), ← zq_one.1]
    · rw [if_pos (show iZ 0 = 0 by decide)]
      rw [show jX2_raised_L41 FU th mi di po 0 4503599627370496 (-52) fa fb (nI t) (iZ 0) (nI (Int.natAbs 0)) 1 = jX2_raised_L41 (4999 + 1) th mi di po 0 4503599627370496 (-52) fa fb (nI t) (iZ 0) (nI (Int.natAbs 0)) 1 from rfl, jX2_raised_L41, if_pos (show nI (Int.natAbs 0) / 2 < 1 by decide)]
      rw [show jX2_raised_L64 FU th mi di po 0 4503599627370496 (-52) fa fb (nI t) (iZ 0) (nI (Int.natAbs 0)) (1 / 2) = jX2_raised_L64 (4999 + 1) th mi di po 0 4503599627370496 (-52) fa fb (nI t) (iZ 0) (nI (Int.natAbs 0)) (1 / 2) from rfl, jX2_raised_L64, if_pos (show (1 / 2 : Int32) ≤ 0 by decide)]
      rfl
  · have hn0 : z.natAbs ≠ 0 := by omega
    have hb1 := bl_pos hn0
    have hb := bl_le (N := z.natAbs) (n := 11) (by omega)
    rw [if_neg (fun q => c ((ieq0 (by omega) (by omega)).mp q)), if_neg (show ¬ nI z.natAbs = 0 from nI_ne0 (by omega) (by omega)), nlz_32 (by omega) (by omega), show (31 : Int32) = iZ 31 from rfl, iz_sub, show (1 : Int32) = iZ 1 from rfl, iz_sub, show (31 : Int) - (32 - (bl z.natAbs : Int)) - 1 = ((bl z.natAbs - 1 : Nat) : Int) - 1 by omega]
    have h41 := zq_p41 (th := th) (mi := mi) (di := di) (po := po) (be := bI v0) (mm := lN m0) (ee := iZ e0) (fa := fa) (fb := fb) (x1 := nI t) (x2 := iZ z) hz hn0 (bl z.natAbs - 1) 0 FU (by omega) (by unfold FU; omega)
    rw [show iZ 1 = nI (2 ^ 0) from rfl, h41]
    exact zq_powL ht hm0 hd0 hp0 n0 (iZ z) hz th fb (bl z.natAbs - 1) FU FU v0 m0 e0 fa n0 (by unfold FU; omega) (by unfold FU; omega) (by omega)
