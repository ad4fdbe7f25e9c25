/-! power -/
theorem zq_p41 {th : Int32} {mi : NI} {di : NL} {po : NI} {be : Int32} {mm : Int64} {ee : Int32} {fa fb : NI} {x1 x2 : Int32} {n : Nat} (hn : n < 1025) (h0 : n ≠ 0) : ∀ (d j k : Nat), j + d = bl n - 1 → d < k → jX2_raised_L41 k th mi di po be mm ee fa fb x1 x2 (nI n) (nI (2 ^ j)) = jX2_raised_L64 FU th mi di po be mm ee fa fb x1 x2 (nI n) (nI (2 ^ (bl n - 1) / 2)) := by
  have g1 := bl_ge h0
  have g2 := bl_lt n
  have g3 := bl_pos h0
  have hb := bl_le (N := n) (n := 11) (by omega)
  have hdv : nI n / 2 = nI (n / 2) := pk_div (d := 2) (by omega) (by decide) (by decide)
  have hpw : 2 ^ bl n = 2 * 2 ^ (bl n - 1) := zq_pw2 g3
  intro d
  induction d with
  | zero =>
    intro j k hj hk
    obtain ⟨k, rfl⟩ : ∃ z, k = z + 1 := ⟨k - 1, by omega⟩
    have : j = bl n - 1 := by omega
    subst this
    have hx5 : nI (2 ^ (bl n - 1)) / 2 = nI (2 ^ (bl n - 1) / 2) := pk_div (d := 2) (by omega) (by decide) (by decide)
    rw [jX2_raised_L41, hdv, if_pos (nI_lt (by omega) (by omega)), hx5]
  | succ d ih =>
    intro j k hj hk
    obtain ⟨k, rfl⟩ : ∃ z, k = z + 1 := ⟨k - 1, by omega⟩
    have hp1 : 2 ^ (j + 1) ≤ 2 ^ (bl n - 1) := Nat.pow_le_pow_right (by decide) (by omega)
    rw [Nat.pow_succ] at hp1
    rw [jX2_raised_L41, hdv, if_neg (nI_nlt (by omega) (by omega)), show (2 : Int32) = nI 2 from rfl, pk_mul, show 2 * 2 ^ j = 2 ^ (j + 1) by rw [Nat.pow_succ]; omega]
    exact ih (j + 1) k (by omega) (by omega)
theorem zq_one : (4607182418800017408 : Int64) = lZ (sg false (rk (2 ^ 52) (-52))) ∧ nB false (2 ^ 52) (-52) := ⟨by decide, by decide, by decide, by decide, Or.inl (by decide), fun q => absurd q (by decide)⟩
/-- raised, on both sides -/
theorem zq_raise {mi : NI} {di : NL} {po : NI} {t : Nat} (ht : t < 16) {v0 : Bool} {m0 : Nat} {e0 : Int} (hm0 : mi t = bI v0) (hd0 : di t = lN m0) (hp0 : po t = iZ e0) (n0 : nB v0 m0 e0) {z : Int} (hz : z.natAbs < 1025) (th be : Int32) (mm : Int64) (ee : Int32) (fa fb : NI) :
    (∃ (w : Bool) (b' : Int32) (mm' : Int64) (ee' : Int32) (fa' : NI), jX0_raise (lZ (sg v0 (rk m0 e0))) (nI z.natAbs) = some (lZ (sg w ((BEY : Nat) : Int))) ∧ jX2_raised th mi di po be mm ee fa fb (nI t) (iZ z) = some (-1, th, mi, di, po, b', mm', ee', fa', fb)) ∨
    (∃ (v' : Bool) (m' : Nat) (e' : Int) (fa' : NI), nB v' m' e' ∧ jX0_raise (lZ (sg v0 (rk m0 e0))) (nI z.natAbs) = some (lZ (sg v' (rk m' e'))) ∧ jX2_raised th mi di po be mm ee fa fb (nI t) (iZ z) = jX2_raised_B135 th mi di po (bI v') (lN m') (iZ e') fa' fb (iZ z)) := by
  have ea : (if 0 ≤ iZ z then iZ z else -iZ z : Int32) = nI z.natAbs := by
    by_cases q : 0 ≤ z
    · rw [if_pos ((i0le (by omega) (by omega)).mpr q), ← iZ_N]; congr 1; omega
    · rw [if_neg (fun w => q ((i0le (by omega) (by omega)).mp w)), ← iZ_N, iz_neg]; congr 1; omega
  unfold jX0_raise jX2_raised jX2_raised_B38
  rw [take_n ht hm0, bMv_s, hd0, hp0, ea]
  by_cases c : z = 0
  · subst c
    right
    refine ⟨false, 2 ^ 52, -52, fa, zq_one.2, ?_, ?_⟩
    · rw [if_pos (show nI (Int.natAbs 0) = 0 by decide), ← zq_one.1]
    · rw [if_pos (show iZ 0 = 0 by decide)]
      rw [show jX2_raised_L41 FU th mi di po 0 4503599627370496 (-52) fa fb (nI t) (iZ 0) (nI (Int.natAbs 0)) 1 = jX2_raised_L41 (4999 + 1) th mi di po 0 4503599627370496 (-52) fa fb (nI t) (iZ 0) (nI (Int.natAbs 0)) 1 from rfl, jX2_raised_L41, if_pos (show nI (Int.natAbs 0) / 2 < 1 by decide)]
      rw [show jX2_raised_L64 FU th mi di po 0 4503599627370496 (-52) fa fb (nI t) (iZ 0) (nI (Int.natAbs 0)) (1 / 2) = jX2_raised_L64 (4999 + 1) th mi di po 0 4503599627370496 (-52) fa fb (nI t) (iZ 0) (nI (Int.natAbs 0)) (1 / 2) from rfl, jX2_raised_L64, if_pos (show (1 / 2 : Int32) ≤ 0 by decide)]
      rfl
  · have hn0 : z.natAbs ≠ 0 := by omega
    have hb1 := bl_pos hn0
    have hb := bl_le (N := z.natAbs) (n := 11) (by omega)
    rw [if_neg (fun q => c ((ieq0 (by omega) (by omega)).mp q)), if_neg (show ¬ nI z.natAbs = 0 from nI_ne0 (by omega) (by omega)), nlz_32 (by omega) (by omega), show (31 : Int32) = iZ 31 from rfl, iz_sub, show (1 : Int32) = iZ 1 from rfl, iz_sub, show (31 : Int) - (32 - (bl z.natAbs : Int)) - 1 = ((bl z.natAbs - 1 : Nat) : Int) - 1 by omega]
    have h41 := zq_p41 (th := th) (mi := mi) (di := di) (po := po) (be := bI v0) (mm := lN m0) (ee := iZ e0) (fa := fa) (fb := fb) (x1 := nI t) (x2 := iZ z) hz hn0 (bl z.natAbs - 1) 0 FU (by omega) (by unfold FU; omega)
    rw [show iZ 1 = nI (2 ^ 0) from rfl, h41]
    exact zq_powL ht hm0 hd0 hp0 n0 (iZ z) hz th fb (bl z.natAbs - 1) FU FU v0 m0 e0 fa n0 (by unfold FU; omega) (by unfold FU; omega) (by omega)
theorem ok_power (g : NL) (th : Int32) (mi : NI) (di : NL) (po : NI) (be : Int32) (mm : Int64) (ee : Int32) (fa fb : NI) (x1 : Int32) (x2 : Int32) (x3 : Int32) (hR : Rel g mi di po) : OKn (jX0_power g x1 x2 x3) (jX2_power th mi di po be mm ee fa fb x1 x2 x3) ∨ OKt (tX0_power g x1 x2 x3) (jX2_power th mi di po be mm ee fa fb x1 x2 x3) g 1 1 := by
  have hbad : ∀ f : Int32, f = 1 → jX2_power_B36 f mi di po be mm ee fa fb x1 x2 x3 = some (0, 1, mi, di, po, be, mm, ee, fa, fb) := fun f hf => by
    unfold jX2_power_B36
    rw [hf, if_neg (by decide)]
  by_cases h1 : rok x1 = true
  · by_cases h2 : rok x2 = true
    · by_cases h3 : x3 < (-1024)
      · right
        refine ⟨0, mi, di, po, be, mm, ee, fa, fb, ?_, ?_, hR⟩
        · unfold tX0_power; rw [if_pos h1, if_pos h2, if_pos h3]
        · unfold jX2_power
          apply hbad
          rw [if_neg (fun z => (isr_0.mp z) h1), if_neg (fun z => (isr_0.mp z) h2), if_pos (wi_0.mpr (Or.inl h3))]
      · by_cases h4 : x3 ≤ 1024
        · left
          obtain ⟨t0, ht0, rfl, -⟩ := rok_of h1
          obtain ⟨t, ht, rfl, ho⟩ := rok_of h2
          obtain ⟨z, rfl, hz1, hz2⟩ : ∃ z : Int, x3 = iZ z ∧ -1024 ≤ z ∧ z ≤ 1024 := by
            refine ⟨x3.toInt, (iZ_of _).symm, ?_, ?_⟩
            · have := Int32.le_iff_toInt_le.mp (Int32.not_lt.mp h3)
              rw [show (-1024 : Int32).toInt = -1024 by decide] at this
              exact this
            · have := Int32.le_iff_toInt_le.mp h4
              rw [show (1024 : Int32).toInt = 1024 by decide] at this
              exact this
          obtain ⟨v0, m0, e0, q2, q3, q4, q5, q6⟩ := rel_get (hR t ht)
          have hw : ¬ jX2_within (iZ z) (-1024) 1024 = 0 := fun w => by
            rcases wi_0.mp w with q | q
            · exact h3 q
            · exact absurd h4 (Int32.not_le.mpr q)
          have hM : jX2_power th mi di po be mm ee fa fb (nI t0) (nI t) (iZ z) = bM (jX2_raised 0 mi di po be mm ee fa fb (nI t) (iZ z)) fun r_1 th_1 mi_1 di_1 po_1 be_1 mm_1 ee_1 fa_1 fb_1 => jX2_keep th_1 mi_1 di_1 po_1 be_1 mm_1 ee_1 fa_1 fb_1 (nI t0) r_1 := by
            unfold jX2_power jX2_power_B36
            rw [if_neg (fun z => (isr_0.mp z) h1), if_neg (fun z => (isr_0.mp z) h2), if_neg hw, if_pos (by decide)]
            simp only [bM_id]
          have hX : jX0_power g (nI t0) (nI t) (iZ z) = ((jX0_raise (lZ (sg v0 (rk m0 e0))) (nI z.natAbs)).bind fun r_1 => (if 0 ≤ iZ z then jX0_keep g (nI t0) r_1 else (if (jX0_isOver r_1) = 0 then (if r_1 = 0 then some ((-2), g) else ((jX0_quotient 4607182418800017408 r_1).bind fun r_3 => jX0_keep g (nI t0) r_3)) else jX0_keep g (nI t0) r_1))) := by
            unfold jX0_power
            rw [if_pos h1, if_pos h2, if_neg h3, if_pos h4, if_pos ho, nI_clamp (by omega), q5, jabs_z (by omega) (by omega)]
            simp only [b2_id]
          rw [hM]
          have hneg : (0 ≤ iZ z) ↔ 0 ≤ z := i0le (by omega) (by omega)
          have hlt : (iZ z < 0) ↔ z < 0 := ilt0 (by omega) (by omega)
          rcases zq_raise ht q2 q3 q4 q6 (z := z) (by omega) 0 be mm ee fa fb with ⟨w, b', mm', ee', fa', a1, a2⟩ | ⟨v, m, e, fa', a0, a1, a2⟩
          · refine zq_finK (c := -1) hR (by decide) ?_ a2
            rw [hX, a1, Option.bind_some]
            by_cases c : 0 ≤ z
            · rw [if_pos (hneg.mpr c)]; exact zq_over g t0 w
            · rw [if_neg (fun q => c (hneg.mp q)), if_neg (zq_ovB w)]; exact zq_over g t0 w
          · rw [a1, Option.bind_some] at hX
            by_cases c : 0 ≤ z
            · rw [if_pos (hneg.mpr c)] at hX
              refine zq_finR (fa := fa') (fb := fb) hR ht0 a0 hX ?_
              rw [a2]
              unfold jX2_raised_B135
              rw [if_neg (fun q => by have := hlt.mp q; omega)]
            · rw [if_neg (fun q => c (hneg.mp q)), if_pos (zq_ovN a0)] at hX
              have hm2 : (lN m = 0) ↔ m = 0 := ln0 (by have := a0.1; omega)
              by_cases d : m = 0
              · rw [if_pos ((sg_0 a0).mpr d)] at hX
                refine zq_finK (c := -2) (b' := bI v) (mm' := lN m) (ee' := iZ e) (fa := fa') (fb := fb) hR (by decide) hX ?_
                rw [a2]
                unfold jX2_raised_B135
                rw [if_pos (hlt.mpr (by omega)), if_pos (hm2.mpr d)]
              · rw [if_neg (fun q => d ((sg_0 a0).mp q)), zq_one.1, cs_quot zq_one.2 a0 d, Option.bind_some] at hX
                obtain ⟨m9, e9, fa9, k1, k2⟩ := ms_quot (mi := mi) (di := di) (po := po) (v := v) (x := 2 ^ 52) (y := m) (e1 := -52) (e2 := e) (by decide) a0.1 d (by decide) (by decide) a0.2.1 a0.2.2.1 0 (bI v) (lN m) (iZ e) fa' fb
                have hfv : (false != v) = v := by cases v <;> rfl
                rw [hfv] at hX
                refine zq_finC (v := v) (fa := fa9) (fb := fb) hR ht0 k2 hX ?_
                rw [a2]
                unfold jX2_raised_B135
                rw [if_pos (hlt.mpr (by omega)), if_neg (fun q => d (hm2.mp q)), bM_id]
                exact k1
        · right
          refine ⟨0, mi, di, po, be, mm, ee, fa, fb, ?_, ?_, hR⟩
          · unfold tX0_power; rw [if_pos h1, if_pos h2, if_neg h3, if_neg h4]
          · unfold jX2_power
            apply hbad
            rw [if_neg (fun z => (isr_0.mp z) h1), if_neg (fun z => (isr_0.mp z) h2), if_pos (wi_0.mpr (Or.inr (Int32.not_le.mp h4)))]
    · right
      refine ⟨0, mi, di, po, be, mm, ee, fa, fb, ?_, ?_, hR⟩
      · unfold tX0_power; rw [if_pos h1, if_neg h2]
      · unfold jX2_power
        apply hbad
        rw [if_neg (fun z => (isr_0.mp z) h1), if_pos (isr_0.mpr h2)]
  · right
    refine ⟨0, mi, di, po, be, mm, ee, fa, fb, ?_, ?_, hR⟩
    · unfold tX0_power; rw [if_neg h1]
    · unfold jX2_power
      apply hbad
      rw [if_pos (isr_0.mpr h1)]
