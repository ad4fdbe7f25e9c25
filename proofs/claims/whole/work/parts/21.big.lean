/-! Big as a number: Bg fa N -/
def dd (i : Nat) : Nat := 2 ^ (24 * i)
theorem dd_s (i : Nat) : dd (i + 1) = dd i * 16777216 := by
  unfold dd
  rw [show 24 * (i + 1) = 24 * i + 24 by omega, Nat.pow_add]
theorem dd_pos (i : Nat) : 0 < dd i := Nat.two_pow_pos _
theorem dd_0 : dd 0 = 1 := rfl
def lm (N i : Nat) : Nat := N / dd i % 16777216
theorem lm_lt (N i : Nat) : lm N i < 16777216 := Nat.mod_lt _ (by decide)
def Bg (fa : NI) (N : Nat) : Prop := N < 2 ^ 3360 ∧ ∀ i, i < 140 → fa i = nI (lm N i)
theorem dg_c (D A B b : Nat) (hD : 0 < D) : (A % (D * 16777216) + B % (D * 16777216) + b) / (D * 16777216) = (A / D % 16777216 + B / D % 16777216 + (A % D + B % D + b) / D) / 16777216 := by
  rw [Nat.mod_mul, Nat.mod_mul, ← Nat.div_div_eq_div_mul]
  congr 1
  rw [show A % D + D * (A / D % 16777216) + (B % D + D * (B / D % 16777216)) + b = (A % D + B % D + b) + D * (A / D % 16777216 + B / D % 16777216) by rw [Nat.mul_add]; omega, Nat.add_mul_div_left _ _ hD]
  omega
theorem dg_l (D A B b : Nat) (hD : 0 < D) : (A + B + b) / D % 16777216 = (A / D % 16777216 + B / D % 16777216 + (A % D + B % D + b) / D) % 16777216 := by
  have e : A + B + b = (A % D + B % D + b) + D * (A / D + B / D) := by
    have h1 := Nat.div_add_mod A D
    have h2 := Nat.div_add_mod B D
    rw [Nat.mul_add]; omega
  rw [e, Nat.add_mul_div_left _ _ hD]
  omega
def cy (A B b i : Nat) : Nat := (A % dd i + B % dd i + b) / dd i
theorem cy_0 (A B b : Nat) : cy A B b 0 = b := by
  unfold cy
  rw [dd_0, Nat.mod_one, Nat.mod_one, Nat.div_one]; omega
theorem cy_s (A B b i : Nat) : cy A B b (i + 1) = (lm A i + lm B i + cy A B b i) / 16777216 := by
  unfold cy lm
  rw [dd_s]
  exact dg_c _ _ _ _ (dd_pos i)
theorem lm_add (A B b i : Nat) : lm (A + B + b) i = (lm A i + lm B i + cy A B b i) % 16777216 := by
  unfold cy lm
  exact dg_l _ _ _ _ (dd_pos i)
theorem cy_le (A B : Nat) {b : Nat} (hb : b ≤ 1) : ∀ i, cy A B b i ≤ 1
  | 0 => by rw [cy_0]; exact hb
  | i + 1 => by
    have h := cy_le A B hb i
    rw [cy_s]
    have h1 := lm_lt A i
    have h2 := lm_lt B i
    omega
theorem ok_n {i n : Nat} (h : i < n) (hn : n < 2 ^ 31) : ok (nI i) n = true := by
  refine decide_eq_true ?_
  rw [nI_toInt (by omega)]; omega
theorem upd_s {f : NI} {k : Nat} {x : Int32} : upd f k x k = x := pk_us
theorem upd_o {f : NI} {k j : Nat} {x : Int32} (h : j ≠ k) : upd f k x j = f j := pk_un h
theorem am_n {n : Nat} (h : n < 2 ^ 32) : nI n &&& 16777215 = nI (n % 16777216) := pk_andN h 24 (by decide)
theorem sh_n {n : Nat} (h : n < 2 ^ 31) : nI n >>> ((24 : Int32) &&& 31) = nI (n / 16777216) := pk_shrN h _ 24 (by decide)
theorem ge140 {i : Nat} (h : i < 140) : ¬ (140 : Int32) ≤ nI i := nI_ge (a := i) (b := 140) h (by decide)
/-- add -/
theorem bg_add_L (A B : Nat) (fb : NI) (hb : ∀ i, i < 140 → fb i = nI (lm B i)) : ∀ (k i : Nat) (fa : NI), i ≤ 140 → 140 < i + k → (∀ j, j < i → fa j = nI (lm (A + B) j)) → (∀ j, i ≤ j → j < 140 → fa j = nI (lm A j)) →
    ∃ fa' : NI, jX1_add_L4 k fa fb (nI (cy A B 0 i)) (nI i) = some (fa', fb) ∧ ∀ j, j < 140 → fa' j = nI (lm (A + B) j) := by
  intro k
  induction k with
  | zero => intro i fa h1 h2; omega
  | succ k ih =>
    intro i fa h1 h2 h3 h4
    by_cases hi : i = 140
    · subst hi
      exact ⟨fa, if_pos (by decide), h3⟩
    · have hi2 : i < 140 := by omega
      have ho : ok (nI i) 140 = true := ok_n hi2 (by decide)
      have hc : cy A B 0 i ≤ 1 := cy_le A B (by omega) i
      have l1 := lm_lt A i
      have l2 := lm_lt B i
      have e : (fa (nI i).toNatClampNeg + fb (nI i).toNatClampNeg) + nI (cy A B 0 i) = nI (lm A i + lm B i + cy A B 0 i) := by
        rw [nI_clamp (by omega), h4 i (Nat.le_refl i) hi2, hb i hi2, nI_add, nI_add]
      obtain ⟨fa', hf, hv⟩ := ih (i + 1) (upd fa (nI i).toNatClampNeg (nI (lm (A + B) i))) (by omega) (by omega)
        (fun j hj => by
          rw [nI_clamp (by omega)]
          by_cases hji : j = i
          · subst hji; rw [upd_s]
          · rw [upd_o hji]; exact h3 j (by omega))
        (fun j hj1 hj2 => by
          rw [nI_clamp (by omega), upd_o (by omega)]; exact h4 j (by omega) hj2)
      refine ⟨fa', ?_, hv⟩
      show (if 140 ≤ nI i then _ else _) = _
      rw [if_neg (ge140 hi2), if_pos ho, if_pos ho, if_pos ho, e, am_n (by omega), sh_n (by omega), ← cy_s, nI_1, ← show lm (A + B) i = (lm A i + lm B i + cy A B 0 i) % 16777216 from lm_add A B 0 i]
      exact hf
theorem bg_add {fa fb : NI} {A B : Nat} (hA : Bg fa A) (hB : Bg fb B) (h : A + B < 2 ^ 3360) : ∃ fa' : NI, jX1_add fa fb = some (fa', fb) ∧ Bg fa' (A + B) := by
  obtain ⟨fa', hf, hv⟩ := bg_add_L A B fb hB.2 FU 0 fa (by omega) (by decide) (fun j hj => by omega) (fun j _ hj => hA.2 j hj)
  rw [cy_0] at hf
  exact ⟨fa', hf, h, hv⟩
/-- less -/
theorem bg_less_L (B C : Nat) (fb : NI) (hb : ∀ i, i < 140 → fb i = nI (lm B i)) : ∀ (k i : Nat) (fa : NI), i ≤ 140 → 140 < i + k → (∀ j, j < i → fa j = nI (lm C j)) → (∀ j, i ≤ j → j < 140 → fa j = nI (lm (B + C) j)) →
    ∃ fa' : NI, jX1_less_L4 k fa fb (nI (cy B C 0 i)) (nI i) = some (fa', fb) ∧ ∀ j, j < 140 → fa' j = nI (lm C j) := by
  intro k
  induction k with
  | zero => intro i fa h1 h2; omega
  | succ k ih =>
    intro i fa h1 h2 h3 h4
    by_cases hi : i = 140
    · subst hi
      exact ⟨fa, if_pos (by decide), h3⟩
    · have hi2 : i < 140 := by omega
      have ho : ok (nI i) 140 = true := ok_n hi2 (by decide)
      have hc : cy B C 0 i ≤ 1 := cy_le B C (by omega) i
      have l1 := lm_lt B i
      have l2 := lm_lt C i
      have la : lm (B + C) i = (lm B i + lm C i + cy B C 0 i) % 16777216 := lm_add B C 0 i
      have lc := cy_s B C 0 i
      have e : (fa (nI i).toNatClampNeg - fb (nI i).toNatClampNeg) - nI (cy B C 0 i) = iZ ((lm C i : Int) - 16777216 * (cy B C 0 (i + 1) : Int)) := by
        rw [nI_clamp (by omega), h4 i (Nat.le_refl i) hi2, hb i hi2, ← iZ_N, ← iZ_N, ← iZ_N, iz_sub, iz_sub]
        congr 1
        omega
      have hc1 : cy B C 0 (i + 1) ≤ 1 := cy_le B C (by omega) (i + 1)
      have e2 : iZ ((lm C i : Int) - 16777216 * (cy B C 0 (i + 1) : Int)) &&& 16777215 = nI (lm C i) := by
        rcases (show cy B C 0 (i + 1) = 0 ∨ cy B C 0 (i + 1) = 1 by omega) with h | h
        · rw [h, show (lm C i : Int) - 16777216 * ((0 : Nat) : Int) = ((lm C i : Nat) : Int) by omega, iZ_N, am_n (by omega), Nat.mod_eq_of_lt l2]
        · rw [h, show (lm C i : Int) - 16777216 * ((1 : Nat) : Int) = ((lm C i + 4278190080 : Nat) : Int) - 4294967296 by omega, ← iz_sub, iZ_N, show iZ 4294967296 = 0 from rfl, Int32.sub_zero, am_n (by omega), show (lm C i + 4278190080) % 16777216 = lm C i by omega]
      have e3 : (if (0 : Int32) ≤ iZ ((lm C i : Int) - 16777216 * (cy B C 0 (i + 1) : Int)) then (0 : Int32) else 1) = nI (cy B C 0 (i + 1)) := by
        rcases (show cy B C 0 (i + 1) = 0 ∨ cy B C 0 (i + 1) = 1 by omega) with h | h
        · rw [h, if_pos ((i0le (by omega) (by omega)).mpr (by omega))]; rfl
        · rw [h, if_neg (fun q => absurd ((i0le (by omega) (by omega)).mp q) (by omega))]; rfl
      obtain ⟨fa', hf, hv⟩ := ih (i + 1) (upd fa (nI i).toNatClampNeg (nI (lm C i))) (by omega) (by omega)
        (fun j hj => by
          rw [nI_clamp (by omega)]
          by_cases hji : j = i
          · subst hji; rw [upd_s]
          · rw [upd_o hji]; exact h3 j (by omega))
        (fun j hj1 hj2 => by
          rw [nI_clamp (by omega), upd_o (by omega)]; exact h4 j (by omega) hj2)
      refine ⟨fa', ?_, hv⟩
      show (if 140 ≤ nI i then _ else _) = _
      rw [if_neg (ge140 hi2), if_pos ho, if_pos ho, if_pos ho, e, e2, e3, nI_1]
      exact hf
theorem bg_less {fa fb : NI} {A B : Nat} (hA : Bg fa A) (hB : Bg fb B) (h : B ≤ A) : ∃ fa' : NI, jX1_less fa fb = some (fa', fb) ∧ Bg fa' (A - B) := by
  obtain ⟨C, rfl⟩ : ∃ C, A = B + C := ⟨A - B, by omega⟩
  obtain ⟨fa', hf, hv⟩ := bg_less_L B C fb hB.2 FU 0 fa (by omega) (by decide) (fun j hj => by omega) (fun j _ hj => hA.2 j hj)
  rw [cy_0] at hf
  refine ⟨fa', hf, ?_, ?_⟩
  · have := hA.1; omega
  · rw [Nat.add_sub_cancel_left]; exact hv
/-- twice -/
theorem bg_twice_L (A b : Nat) (hb : b ≤ 1) : ∀ (k i : Nat) (fa : NI), i ≤ 140 → 140 < i + k → (∀ j, j < i → fa j = nI (lm (A + A + b) j)) → (∀ j, i ≤ j → j < 140 → fa j = nI (lm A j)) →
    ∃ fa' : NI, jX1_twice_L12 k fa (nI (cy A A b i)) (nI i) = some fa' ∧ ∀ j, j < 140 → fa' j = nI (lm (A + A + b) j) := by
  intro k
  induction k with
  | zero => intro i fa h1 h2; omega
  | succ k ih =>
    intro i fa h1 h2 h3 h4
    by_cases hi : i = 140
    · subst hi
      exact ⟨fa, if_pos (by decide), h3⟩
    · have hi2 : i < 140 := by omega
      have ho : ok (nI i) 140 = true := ok_n hi2 (by decide)
      have hc : cy A A b i ≤ 1 := cy_le A A hb i
      have l1 := lm_lt A i
      have e : 2 * fa (nI i).toNatClampNeg + nI (cy A A b i) = nI (lm A i + lm A i + cy A A b i) := by
        rw [nI_clamp (by omega), h4 i (Nat.le_refl i) hi2, show (2 : Int32) = nI 2 from rfl, pk_mul, nI_add]
        congr 1; omega
      obtain ⟨fa', hf, hv⟩ := ih (i + 1) (upd fa (nI i).toNatClampNeg (nI (lm (A + A + b) i))) (by omega) (by omega)
        (fun j hj => by
          rw [nI_clamp (by omega)]
          by_cases hji : j = i
          · subst hji; rw [upd_s]
          · rw [upd_o hji]; exact h3 j (by omega))
        (fun j hj1 hj2 => by
          rw [nI_clamp (by omega), upd_o (by omega)]; exact h4 j (by omega) hj2)
      refine ⟨fa', ?_, hv⟩
      show (if 140 ≤ nI i then _ else _) = _
      rw [if_neg (ge140 hi2), if_pos ho, if_pos ho, e, am_n (by omega), sh_n (by omega), ← cy_s, nI_1, ← lm_add]
      exact hf
theorem bg_twice {fa : NI} {A : Nat} (hA : Bg fa A) (x : Int32) (h : A + A + (if x = 0 then 0 else 1) < 2 ^ 3360) : ∃ fa' : NI, jX1_twice fa x = some fa' ∧ Bg fa' (A + A + (if x = 0 then 0 else 1)) := by
  obtain ⟨fa', hf, hv⟩ := bg_twice_L A (if x = 0 then 0 else 1) (by split <;> omega) FU 0 fa (by omega) (by decide) (fun j hj => by omega) (fun j _ hj => hA.2 j hj)
  refine ⟨fa', ?_, h, hv⟩
  rw [cy_0] at hf
  unfold jX1_twice
  rw [← hf]
  by_cases hx : x = 0
  · rw [if_pos hx, if_pos hx]; rfl
  · rw [if_neg hx, if_neg hx]; rfl
/-- addLong -/
theorem cyL_le (A b : Nat) (hb : b < 2 ^ 62) : ∀ i, cy A 0 b i < 2 ^ 62
  | 0 => by rw [cy_0]; exact hb
  | i + 1 => by
    have h := cyL_le A b hb i
    rw [cy_s]
    have h1 := lm_lt A i
    have h2 := lm_lt 0 i
    omega
theorem lm_0 (i : Nat) : lm 0 i = 0 := by unfold lm; rw [Nat.zero_div]
theorem bg_addLong_L (A b : Nat) (hb : b < 2 ^ 62) : ∀ (k i : Nat) (fa : NI), i ≤ 140 → 140 < i + k → (∀ j, j < i → fa j = nI (lm (A + b) j)) → (∀ j, i ≤ j → j < 140 → fa j = nI (lm A j)) →
    ∃ fa' : NI, jX1_addLong_L5 k fa (lN (cy A 0 b i)) (nI i) = some fa' ∧ ∀ j, j < 140 → fa' j = nI (lm (A + b) j) := by
  intro k
  induction k with
  | zero => intro i fa h1 h2; omega
  | succ k ih =>
    intro i fa h1 h2 h3 h4
    by_cases hi : i = 140
    · subst hi
      exact ⟨fa, if_pos (by decide), h3⟩
    · have hi2 : i < 140 := by omega
      have ho : ok (nI i) 140 = true := ok_n hi2 (by decide)
      have hc := cyL_le A b hb i
      have l1 := lm_lt A i
      have ea : lm (A + b) i = (lm A i + cy A 0 b i) % 16777216 := by
        have := lm_add A 0 b i
        rw [lm_0, Nat.add_zero, Nat.add_zero] at this
        exact this
      have ec : cy A 0 b (i + 1) = (lm A i + cy A 0 b i) / 16777216 := by
        have := cy_s A 0 b i
        rw [lm_0, Nat.add_zero] at this
        exact this
      have e : lN (cy A 0 b i) + (fa (nI i).toNatClampNeg).toInt64 = lN (lm A i + cy A 0 b i) := by
        rw [nI_clamp (by omega), h4 i (Nat.le_refl i) hi2, nI_l (by omega), lN_add, Nat.add_comm]
      have e2 : (lN (lm A i + cy A 0 b i) &&& 16777215).toInt32 = nI (lm (A + b) i) := by
        rw [show (16777215 : Int64) = lN (2 ^ 24 - 1) from rfl, wb_mask (by omega) (by omega), lN_i, ea]
      have e3 : sr (lN (lm A i + cy A 0 b i)) 24 = lN (cy A 0 b (i + 1)) := by
        rw [show (24 : Int32) = nI 24 from rfl, sr_n (by omega) (by omega), ec]
      obtain ⟨fa', hf, hv⟩ := ih (i + 1) (upd fa (nI i).toNatClampNeg (nI (lm (A + b) i))) (by omega) (by omega)
        (fun j hj => by
          rw [nI_clamp (by omega)]
          by_cases hji : j = i
          · subst hji; rw [upd_s]
          · rw [upd_o hji]; exact h3 j (by omega))
        (fun j hj1 hj2 => by
          rw [nI_clamp (by omega), upd_o (by omega)]; exact h4 j (by omega) hj2)
      refine ⟨fa', ?_, hv⟩
      show (if 140 ≤ nI i then _ else _) = _
      rw [if_neg (ge140 hi2), if_pos ho, if_pos ho, e, e2, e3, nI_1]
      exact hf
theorem bg_addLong {fa : NI} {A b : Nat} (hA : Bg fa A) (hb : b < 2 ^ 62) (h : A + b < 2 ^ 3360) : ∃ fa' : NI, jX1_addLong fa (lN b) = some fa' ∧ Bg fa' (A + b) := by
  obtain ⟨fa', hf, hv⟩ := bg_addLong_L A b hb FU 0 fa (by omega) (by decide) (fun j hj => by omega) (fun j _ hj => hA.2 j hj)
  rw [cy_0] at hf
  exact ⟨fa', hf, h, hv⟩
/-- set -/
theorem bg_set_L (N : Nat) (hN : N < 2 ^ 63) : ∀ (k i : Nat) (fa : NI), i ≤ 140 → 140 < i + k → (∀ j, j < i → fa j = nI (lm N j)) → ∃ fa' : NI, jX1_set_L2 k fa (lN N) (nI i) = some fa' ∧ ∀ j, j < 140 → fa' j = nI (lm N j) := by
  intro k
  induction k with
  | zero => intro i fa h1 h2; omega
  | succ k ih =>
    intro i fa h1 h2 h3
    by_cases hi : i = 140
    · subst hi
      exact ⟨fa, if_pos (by decide), h3⟩
    · have hi2 : i < 140 := by omega
      have ho : ok (nI i) 140 = true := ok_n hi2 (by decide)
      have e : (if (3 : Int32) ≤ nI i then (0 : Int32) else ((sr (lN N) (24 * nI i)) &&& 16777215).toInt32) = nI (lm N i) := by
        by_cases h : 3 ≤ i
        · rw [if_pos (show (3 : Int32) ≤ nI i from nI_le (a := 3) h (by omega))]
          have : lm N i = 0 := by
            unfold lm
            rw [Nat.div_eq_of_lt]
            exact Nat.lt_of_lt_of_le hN (show 2 ^ 63 ≤ dd i from Nat.pow_le_pow_right (by decide) (by omega))
          rw [this]; rfl
        · rw [if_neg (show ¬ (3 : Int32) ≤ nI i from nI_ge (b := 3) (by omega) (by decide)), show (24 : Int32) = nI 24 from rfl, pk_mul, sr_n hN (by omega), show (16777215 : Int64) = lN (2 ^ 24 - 1) from rfl, wb_mask (Nat.lt_of_le_of_lt (Nat.div_le_self _ _) (by omega)) (by omega), lN_i]
          rfl
      obtain ⟨fa', hf, hv⟩ := ih (i + 1) (upd fa (nI i).toNatClampNeg (nI (lm N i))) (by omega) (by omega)
        (fun j hj => by
          rw [nI_clamp (by omega)]
          by_cases hji : j = i
          · subst hji; rw [upd_s]
          · rw [upd_o hji]; exact h3 j (by omega))
      refine ⟨fa', ?_, hv⟩
      show (if 140 ≤ nI i then _ else _) = _
      rw [if_neg (ge140 hi2), if_pos ho, e, nI_1]
      exact hf
theorem bg_set (fa : NI) {N : Nat} (hN : N < 2 ^ 63) : ∃ fa' : NI, jX1_set fa (lN N) = some fa' ∧ Bg fa' N := by
  obtain ⟨fa', hf, hv⟩ := bg_set_L N hN FU 0 fa (by omega) (by decide) (fun j hj => by omega)
  exact ⟨fa', hf, Nat.lt_of_lt_of_le hN (Nat.pow_le_pow_right (by decide) (by decide)), hv⟩
/-- compare -/
theorem lm_top (N i : Nat) : N / dd i = N / dd (i + 1) * 16777216 + lm N i := by
  unfold lm
  rw [dd_s, ← Nat.div_div_eq_div_mul]
  omega
theorem bg_compare_L (A B : Nat) (fa fb : NI) (ha : ∀ i, i < 140 → fa i = nI (lm A i)) (hb : ∀ i, i < 140 → fb i = nI (lm B i)) : ∀ (i k : Nat), i ≤ 140 → i < k → A / dd i = B / dd i → jX1_compare_L4 k fa fb (iZ ((i : Int) - 1)) = some (iZ (if A < B then -1 else if A = B then 0 else 1), fa, fb) := by
  intro i
  induction i with
  | zero =>
    intro k h1 h2 h3
    obtain ⟨k, rfl⟩ : ∃ q, k = q + 1 := ⟨k - 1, by omega⟩
    rw [dd_0, Nat.div_one, Nat.div_one] at h3
    rw [if_neg (by omega), if_pos h3]
    rfl
  | succ i ih =>
    intro k h1 h2 h3
    obtain ⟨k, rfl⟩ : ∃ q, k = q + 1 := ⟨k - 1, by omega⟩
    have ho : ok (nI i) 140 = true := ok_n (by omega) (by decide)
    have t1 := lm_top A i
    have t2 := lm_top B i
    have l1 := lm_lt A i
    have l2 := lm_lt B i
    rw [show ((i + 1 : Nat) : Int) - 1 = ((i : Nat) : Int) by omega, iZ_N]
    show (if nI i < 0 then _ else _) = _
    rw [if_neg (nI_pos (by omega)), if_pos ho, if_pos ho, nI_clamp (by omega), ha i (by omega), hb i (by omega)]
    by_cases he : lm A i = lm B i
    · rw [if_pos (by rw [he]), show nI i + (-1) = iZ ((i : Int) - 1) by rw [← iZ_N, show (-1 : Int32) = iZ (-1) from rfl, iz_add]; rfl]
      exact ih k (by omega) (by omega) (by rw [t1, t2, h3, he])
    · rw [if_neg (fun q => he ((nI_eq (by omega) (by omega)).mp q)), if_pos (nI_pos' (by omega)), if_pos ho, if_pos ho]
      by_cases hl : lm B i ≤ lm A i
      · rw [if_pos (nI_le hl (by omega))]
        have : ¬ A / dd i ≤ B / dd i := by omega
        have h5 : ¬ A ≤ B := fun q => this (Nat.div_le_div_right q)
        rw [if_neg (by omega), if_neg (by omega)]; rfl
      · rw [if_neg (nI_ge (by omega) (by omega))]
        have : ¬ B / dd i ≤ A / dd i := by omega
        have h5 : ¬ B ≤ A := fun q => this (Nat.div_le_div_right q)
        rw [if_pos (by omega)]; rfl
theorem bg_compare {fa fb : NI} {A B : Nat} (hA : Bg fa A) (hB : Bg fb B) : jX1_compare fa fb = some (iZ (if A < B then -1 else if A = B then 0 else 1), fa, fb) := by
  have h1 : A / dd 140 = 0 := Nat.div_eq_of_lt hA.1
  have h2 : B / dd 140 = 0 := Nat.div_eq_of_lt hB.1
  exact bg_compare_L A B fa fb hA.2 hB.2 140 FU (by omega) (by decide) (by rw [h1, h2])
