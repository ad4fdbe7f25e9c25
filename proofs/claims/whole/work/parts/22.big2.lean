/-! Big: its bits, its length, its places, products, shifts -/
theorem lm_bit (N q : Nat) {r : Nat} (hr : r < 24) : (lm N q).testBit r = N.testBit (24 * q + r) := by
  unfold lm dd
  rw [show (16777216 : Nat) = 2 ^ 24 from rfl, Nat.testBit_mod_two_pow, Nat.testBit_div_two_pow, Nat.add_comm r]
  simp [hr]
theorem smod32 : ∀ r, r < 32 → ((nI r).toBitVec.smod 32).toNat = r := by decide +kernel
theorem i31 : ∀ r, r < 32 → nI r &&& 31 = nI r := by decide +kernel
theorem b01 (n : Nat) (h : n < 2 ^ 31) : ((nI n &&& 1) = 1) ↔ n % 2 = 1 := by
  rw [pk_andN (by omega) (m := 1) 1 (by decide), show (1 : Int32) = nI 1 from rfl, nI_eq (by omega) (by omega)]
def bI (b : Bool) : Int32 := if b = true then 1 else 0
theorem bg_bit {fa : NI} {N : Nat} (hA : Bg fa N) (k : Int) (h1 : -2 ^ 31 ≤ k) (h2 : k < 2 ^ 31) : jX1_bit fa (iZ k) = some (bI (decide (0 ≤ k) && N.testBit k.toNat), fa) := by
  unfold jX1_bit bI
  by_cases c1 : k < 0
  · rw [if_pos ((ilt0 h1 h2).mpr c1)]
    simp [show ¬ 0 ≤ k by omega]
  · rw [if_neg (fun q => c1 ((ilt0 h1 h2).mp q))]
    obtain ⟨n, rfl⟩ : ∃ n : Nat, k = n := ⟨k.toNat, by omega⟩
    rw [iZ_N, Int.toNat_natCast]
    by_cases c2 : 3360 ≤ n
    · rw [if_pos (show (3360 : Int32) ≤ nI n from nI_le (a := 3360) c2 (by omega))]
      have : N.testBit n = false := Nat.testBit_lt_two_pow (Nat.lt_of_lt_of_le hA.1 (Nat.pow_le_pow_right (by decide) c2))
      simp [this]
    · rw [if_neg (show ¬ (3360 : Int32) ≤ nI n from nI_ge (b := 3360) (by omega) (by decide))]
      have hq : n / 24 < 140 := by omega
      rw [show (24 : Int32) = nI 24 from rfl, pk_rem (by omega) (by decide) (by decide), pk_div (by omega) (by decide) (by decide), if_pos (ok_n hq (by decide)), nI_clamp (by omega), hA.2 _ hq, i31 _ (by omega), pk_shrN (by have := lm_lt N (n / 24); omega) _ (n % 24) (smod32 _ (by omega))]
      congr 2
      have hb := lm_bit N (n / 24) (show n % 24 < 24 by omega)
      rw [Nat.div_add_mod, Nat.testBit_eq_decide_div_mod_eq] at hb
      have hl : lm N (n / 24) / 2 ^ (n % 24) < 2 ^ 31 := Nat.lt_of_le_of_lt (Nat.div_le_self _ _) (by have := lm_lt N (n / 24); omega)
      rw [← hb]
      by_cases c3 : lm N (n / 24) / 2 ^ (n % 24) % 2 = 1
      · rw [if_pos ((b01 _ hl).mpr c3)]; simp [c3]
      · rw [if_neg (fun q => c3 ((b01 _ hl).mp q))]; simp [c3]
theorem bg_bitn {fa : NI} {N : Nat} (hA : Bg fa N) {n : Nat} (h : n < 2 ^ 31) : jX1_bit fa (nI n) = some (bI (N.testBit n), fa) := by
  have := bg_bit hA (n : Int) (by omega) (by omega)
  rw [iZ_N, Int.toNat_natCast] at this
  rw [this]; simp
theorem bI_0 (b : Bool) : bI b = 0 ↔ b = false := by cases b <;> decide
/-- length -/
def bl (N : Nat) : Nat := if N = 0 then 0 else N.log2 + 1
theorem bl_0 : bl 0 = 0 := rfl
theorem bl_eq {N n : Nat} (h1 : 2 ^ n ≤ N) (h2 : N < 2 ^ (n + 1)) : bl N = n + 1 := by
  have h0 : N ≠ 0 := by have := Nat.two_pow_pos n; omega
  unfold bl
  rw [if_neg h0, (Nat.log2_eq_iff h0).mpr ⟨h1, h2⟩]
theorem bl_lt (N : Nat) : N < 2 ^ bl N := by
  unfold bl
  by_cases h : N = 0
  · rw [if_pos h, h]; decide
  · rw [if_neg h]; exact Nat.lt_log2_self
theorem bl_ge {N : Nat} (h : N ≠ 0) : 2 ^ (bl N - 1) ≤ N := by
  unfold bl
  rw [if_neg h]; exact Nat.log2_self_le h
theorem bl_pos {N : Nat} (h : N ≠ 0) : 1 ≤ bl N := by unfold bl; rw [if_neg h]; omega
theorem bl_le {N n : Nat} (h : N < 2 ^ n) : bl N ≤ n := by
  by_cases h0 : N = 0
  · rw [h0, bl_0]; omega
  · have h1 := bl_ge h0
    have h2 := bl_pos h0
    have h3 : 2 ^ (bl N - 1) < 2 ^ n := by omega
    have := (Nat.pow_lt_pow_iff_right (by decide : 1 < 2)).mp h3
    omega
theorem bl_gt {N n : Nat} (h : 2 ^ n ≤ N) : n < bl N := by
  have h2 : 2 ^ n < 2 ^ bl N := Nat.lt_of_le_of_lt h (bl_lt N)
  exact (Nat.pow_lt_pow_iff_right (by decide : 1 < 2)).mp h2
theorem bl_mul {N : Nat} (h : N ≠ 0) (k : Nat) : bl (N * 2 ^ k) = bl N + k := by
  have h1 := bl_ge h
  have h2 := bl_pos h
  have h3 := bl_lt N
  have e1 : 2 ^ (bl N - 1 + k) ≤ N * 2 ^ k := by rw [Nat.pow_add]; exact Nat.mul_le_mul_right _ h1
  have e2 : N * 2 ^ k < 2 ^ (bl N - 1 + k + 1) := by
    rw [show bl N - 1 + k + 1 = bl N + k by omega, Nat.pow_add]; exact Nat.mul_lt_mul_of_pos_right h3 (Nat.two_pow_pos k)
  rw [bl_eq e1 e2]; omega
theorem top_bit {N n : Nat} (h : N < 2 ^ (n + 1)) : N.testBit n = decide (2 ^ n ≤ N) := by
  rw [Nat.testBit_eq_decide_div_mod_eq]
  have hp := Nat.two_pow_pos n
  have h2 : N / 2 ^ n < 2 := (Nat.div_lt_iff_lt_mul hp).mpr (by rw [Nat.mul_comm, ← Nat.pow_succ]; exact h)
  by_cases c : 2 ^ n ≤ N
  · have h3 : 1 ≤ N / 2 ^ n := (Nat.le_div_iff_mul_le hp).mpr (by omega)
    simp [c, show N / 2 ^ n % 2 = 1 by omega]
  · rw [Nat.div_eq_of_lt (by omega)]; simp [c]
theorem bg_length_L {fa : NI} {N : Nat} (hA : Bg fa N) : ∀ (n k : Nat), n < k → n ≤ 3360 → N < 2 ^ n → jX1_length_L4 k fa (nI n) = some (nI (bl N), fa) := by
  intro n
  induction n with
  | zero =>
    intro k hk _ hN
    obtain ⟨k, rfl⟩ : ∃ q, k = q + 1 := ⟨k - 1, by omega⟩
    have h0 : N = 0 := by omega
    show (if nI 0 ≤ 0 then _ else _) = _
    rw [if_pos (by decide), h0]; rfl
  | succ n ih =>
    intro k hk h3 hN
    obtain ⟨k, rfl⟩ : ∃ q, k = q + 1 := ⟨k - 1, by omega⟩
    show (if nI (n + 1) ≤ 0 then _ else _) = _
    rw [if_neg (nI_nle (by omega) (by omega)), nI_pred, bg_bitn hA (by omega), top_bit hN]
    show (if bI (decide (2 ^ n ≤ N)) = 0 then jX1_length_L4 k fa (nI (n + 1) + (-1)) else some (nI (n + 1), fa)) = _
    by_cases c : 2 ^ n ≤ N
    · rw [if_neg (fun q => by rw [bI_0] at q; simp [c] at q), bl_eq c hN]
    · rw [if_pos (by rw [bI_0]; simp [c]), pk_m1]
      exact ih k (by omega) (by omega) (by omega)
theorem bg_length {fa : NI} {N : Nat} (hA : Bg fa N) : jX1_length fa = some (nI (bl N), fa) := bg_length_L hA 3360 FU (by decide) (by omega) hA.1
/-- places -/
theorem pl_s (N m j : Nat) : 2 * (N / 2 ^ (m + 1) % 2 ^ j) + N / 2 ^ m % 2 = N / 2 ^ m % 2 ^ (j + 1) := by
  rw [Nat.pow_succ, ← Nat.div_div_eq_div_mul, Nat.pow_succ, Nat.mul_comm (2 ^ j) 2, Nat.mod_mul]
  omega
theorem bg_places_L {fa : NI} {N : Nat} (hA : Bg fa N) (m : Nat) (hm : m < 2 ^ 30) : ∀ (t k : Nat), t ≤ 53 → t < k → jX1_places_L6 k fa (nI m) (lN (N / 2 ^ (m + t) % 2 ^ (53 - t))) (iZ ((t : Int) - 1)) = some (lN (N / 2 ^ m % 2 ^ 53), fa) := by
  intro t
  induction t with
  | zero =>
    intro k _ hk
    obtain ⟨k, rfl⟩ : ∃ q, k = q + 1 := ⟨k - 1, by omega⟩
    show (if iZ (((0 : Nat) : Int) - 1) < 0 then _ else _) = _
    rw [if_pos (by decide), Nat.add_zero]
  | succ t ih =>
    intro k ht hk
    obtain ⟨k, rfl⟩ : ∃ q, k = q + 1 := ⟨k - 1, by omega⟩
    rw [show ((t + 1 : Nat) : Int) - 1 = ((t : Nat) : Int) by omega, iZ_N]
    show (if nI t < 0 then _ else _) = _
    rw [if_neg (nI_pos (by omega)), nI_add, bg_bitn hA (by omega)]
    show jX1_places_L6 k fa (nI m) (2 * lN (N / 2 ^ (m + (t + 1)) % 2 ^ (53 - (t + 1))) + (if bI (N.testBit (m + t)) = 0 then 0 else 1)) (nI t + (-1)) = _
    have e : (2 * lN (N / 2 ^ (m + (t + 1)) % 2 ^ (53 - (t + 1))) + (if bI (N.testBit (m + t)) = 0 then 0 else 1) : Int64) = lN (N / 2 ^ (m + t) % 2 ^ (53 - t)) := by
      have e1 : (if bI (N.testBit (m + t)) = 0 then 0 else 1 : Int64) = lN (N / 2 ^ (m + t) % 2) := by
        rw [Nat.testBit_eq_decide_div_mod_eq]
        by_cases c : N / 2 ^ (m + t) % 2 = 1
        · rw [if_neg (fun q => by rw [bI_0] at q; simp [c] at q), c]; rfl
        · rw [if_pos (by rw [bI_0]; simp [c]), show N / 2 ^ (m + t) % 2 = 0 by omega]; rfl
      rw [e1, show (2 : Int64) = lN 2 from rfl, lN_mul, lN_add, ← Nat.add_assoc m t 1, pl_s, show 53 - (t + 1) + 1 = 53 - t by omega]
    rw [e, show nI t + (-1) = iZ ((t : Int) - 1) by rw [← iZ_N, show (-1 : Int32) = iZ (-1) from rfl, iz_add]; rfl]
    exact ih k (by omega) (by omega)
theorem bg_places {fa : NI} {N : Nat} (hA : Bg fa N) {m : Nat} (hm : m < 2 ^ 30) : jX1_places fa (nI m) = some (lN (N / 2 ^ m % 2 ^ 53), fa) := by
  have h := bg_places_L hA m hm 53 FU (by omega) (by decide)
  rw [Nat.sub_self, Nat.pow_zero, Nat.mod_one] at h
  exact h
/-- hasBelow -/
theorem md_s (N i : Nat) : N % 2 ^ (i + 1) = N % 2 ^ i + 2 ^ i * (N / 2 ^ i % 2) := by rw [Nat.pow_succ, Nat.mod_mul]
theorem bg_hasBelow_L {fa : NI} {N : Nat} (hA : Bg fa N) (m : Nat) (hm : m < 2 ^ 30) : ∀ (d i k : Nat), i + d = m → d + 1 < k → N % 2 ^ i = 0 → jX1_hasBelow_L4 k fa (nI m) 0 (nI i) = some (bI (decide (N % 2 ^ m ≠ 0)), fa) := by
  intro d
  induction d with
  | zero =>
    intro i k hi hk h0
    obtain ⟨k, rfl⟩ : ∃ q, k = q + 1 := ⟨k - 1, by omega⟩
    show (if nI m ≤ nI i then _ else _) = _
    rw [if_pos (nI_le (by omega) (by omega)), if_pos bz_0, show m = i by omega]
    simp [h0]; rfl
  | succ d ih =>
    intro i k hi hk h0
    obtain ⟨k, rfl⟩ : ∃ q, k = q + 1 := ⟨k - 1, by omega⟩
    show (if nI m ≤ nI i then _ else (if (0 : Int32) = 0 then (b2 (jX1_bit fa (nI i)) fun r_1 fa_1 => jX1_hasBelow_L4 k fa_1 (nI m) r_1 (nI i + 1)) else _)) = _
    rw [if_neg (nI_ge (by omega) (by omega)), if_pos rfl, bg_bitn hA (by omega)]
    show jX1_hasBelow_L4 k fa (nI m) (bI (N.testBit i)) (nI i + 1) = _
    rw [nI_1]
    have hs := md_s N i
    rw [h0, Nat.zero_add] at hs
    by_cases c : N / 2 ^ i % 2 = 1
    · have hb : N.testBit i = true := by rw [Nat.testBit_eq_decide_div_mod_eq]; simp [c]
      have hne : N % 2 ^ m ≠ 0 := by
        intro q
        have h5 : N % 2 ^ (i + 1) = 0 := by
          have : 2 ^ (i + 1) ∣ N := Nat.dvd_trans (Nat.pow_dvd_pow 2 (by omega : i + 1 ≤ m)) (Nat.dvd_of_mod_eq_zero q)
          exact Nat.mod_eq_zero_of_dvd this
        have := Nat.two_pow_pos i
        rw [hs, c] at h5; omega
      obtain ⟨k, rfl⟩ : ∃ q, k = q + 1 := ⟨k - 1, by omega⟩
      rw [hb]
      show (if nI m ≤ nI (i + 1) then (if bz (bI true) = true then some (bI true, fa) else none) else (if bI true = 0 then _ else (if bz (bI true) = true then some (bI true, fa) else none))) = _
      have e : bI (decide (N % 2 ^ m ≠ 0)) = bI true := by simp [hne]
      rw [e]
      by_cases c2 : nI m ≤ nI (i + 1)
      · rw [if_pos c2, if_pos (by decide)]
      · rw [if_neg c2, if_neg (by decide), if_pos (by decide)]
    · have hb : N.testBit i = false := by rw [Nat.testBit_eq_decide_div_mod_eq]; simp [c]
      rw [hb]
      exact ih (i + 1) k (by omega) (by omega) (by rw [hs, show N / 2 ^ i % 2 = 0 by omega]; omega)
theorem bg_hasBelow {fa : NI} {N : Nat} (hA : Bg fa N) {m : Nat} (hm : m < 4900) : jX1_hasBelow fa (nI m) = some (bI (decide (N % 2 ^ m ≠ 0)), fa) :=
  bg_hasBelow_L hA m (by omega) m 0 FU (by omega) (by unfold FU; omega) (by rw [Nat.pow_zero, Nat.mod_one])
/-- product -/
theorem bg_product_L {x y : Nat} (hx : x < 2 ^ 62) (hy : y < 2 ^ 62) : ∀ (t k : Nat) (fa : NI), t ≤ 61 → t < k → Bg fa (x * (y / 2 ^ t)) → ∃ fa' : NI, jX1_product_L9 k fa (lN x) (lN y) (iZ ((t : Int) - 1)) = some fa' ∧ Bg fa' (x * y) := by
  have big : ∀ z : Nat, z < 2 ^ 126 → z < 2 ^ 3360 := fun z h => Nat.lt_of_lt_of_le h (Nat.pow_le_pow_right (by decide) (by decide))
  have hxy : ∀ t, x * (y / 2 ^ t) < 2 ^ 124 := fun t => by
    have h1 : y / 2 ^ t ≤ y := Nat.div_le_self _ _
    have h2 : x * (y / 2 ^ t) ≤ 2 ^ 62 * (y / 2 ^ t) := Nat.mul_le_mul_right _ (by omega)
    omega
  intro t
  induction t with
  | zero =>
    intro k fa _ hk hB
    obtain ⟨k, rfl⟩ : ∃ q, k = q + 1 := ⟨k - 1, by omega⟩
    refine ⟨fa, ?_, by rw [Nat.pow_zero, Nat.div_one] at hB; exact hB⟩
    show (if iZ (((0 : Nat) : Int) - 1) < 0 then _ else _) = _
    rw [if_pos (by decide)]
  | succ t ih =>
    intro k fa ht hk hB
    obtain ⟨k, rfl⟩ : ∃ q, k = q + 1 := ⟨k - 1, by omega⟩
    have e0 : y / 2 ^ t = 2 * (y / 2 ^ (t + 1)) + y / 2 ^ t % 2 := by rw [Nat.pow_succ, ← Nat.div_div_eq_div_mul]; omega
    have hz := hxy (t + 1)
    obtain ⟨f2, h2, B2⟩ := bg_twice hB 0 (by rw [if_pos rfl]; exact big _ (by omega))
    rw [if_pos rfl, Nat.add_zero] at B2
    have em : nI t + (-1) = iZ ((t : Int) - 1) := by rw [← iZ_N, show (-1 : Int32) = iZ (-1) from rfl, iz_add]; rfl
    rw [show ((t + 1 : Nat) : Int) - 1 = ((t : Nat) : Int) by omega, iZ_N]
    have eb : sr (lN y) (nI t) &&& 1 = lN (y / 2 ^ t % 2) := by rw [sr_n (by omega) (by omega), wb_a1 (Nat.lt_of_le_of_lt (Nat.div_le_self _ _) (by omega))]
    have sh : jX1_product_L9 (k + 1) fa (lN x) (lN y) (nI t) = (if nI t < 0 then some fa else (Option.bind (jX1_twice fa 0) fun fa_2 => (if ((sr (lN y) (nI t)) &&& 1) = 1 then (Option.bind (jX1_addLong fa_2 (lN x)) fun fa_3 => jX1_product_L9 k fa_3 (lN x) (lN y) (nI t + (-1))) else jX1_product_L9 k fa_2 (lN x) (lN y) (nI t + (-1))))) := rfl
    rw [sh, if_neg (nI_pos (by omega)), h2, eb, em]
    show ∃ fa', (if lN (y / 2 ^ t % 2) = 1 then (Option.bind (jX1_addLong f2 (lN x)) fun fa_3 => jX1_product_L9 k fa_3 (lN x) (lN y) (iZ ((t : Int) - 1))) else jX1_product_L9 k f2 (lN x) (lN y) (iZ ((t : Int) - 1))) = some fa' ∧ _
    by_cases c : y / 2 ^ t % 2 = 1
    · rw [if_pos (by rw [c]; rfl)]
      obtain ⟨f3, h3, B3⟩ := bg_addLong (b := x) B2 hx (big _ (by omega))
      rw [h3]
      refine ih k f3 (by omega) (by omega) ?_
      rw [e0, c, Nat.mul_add, Nat.mul_one, show x * (2 * (y / 2 ^ (t + 1))) = x * (y / 2 ^ (t + 1)) + x * (y / 2 ^ (t + 1)) by rw [Nat.mul_left_comm]; omega]
      exact B3
    · rw [if_neg (fun q => c (by have := (ln_eq (b := 1) (by omega) (by omega)).mp q; exact this))]
      refine ih k f2 (by omega) (by omega) ?_
      rw [e0, show y / 2 ^ t % 2 = 0 by omega, Nat.add_zero, show x * (2 * (y / 2 ^ (t + 1))) = x * (y / 2 ^ (t + 1)) + x * (y / 2 ^ (t + 1)) by rw [Nat.mul_left_comm]; omega]
      exact B2
theorem bg_product (fa : NI) {x y : Nat} (hx : x < 2 ^ 62) (hy : y < 2 ^ 61) : ∃ fa' : NI, jX1_product fa (lN x) (lN y) = some fa' ∧ Bg fa' (x * y) := by
  obtain ⟨f1, h1, B1⟩ := bg_set fa (N := 0) (by decide)
  have h1 : jX1_set fa 0 = some f1 := h1
  unfold jX1_product
  rw [h1]
  have B1 : Bg f1 (x * (y / 2 ^ 61)) := by rw [Nat.div_eq_of_lt hy, Nat.mul_zero]; exact B1
  obtain ⟨f2, h2, B2⟩ := bg_product_L hx (show y < 2 ^ 62 by omega) 61 FU f1 (by omega) (by decide) B1
  refine ⟨f2, ?_, B2⟩
  rw [Option.bind_some, ← h2]
  rfl
/-- up -/
theorem or24 {l r w : Nat} (hw : w < 2 ^ r) : ((l * 2 ^ r % 2 ^ 32) ||| w) % 2 ^ 24 = (l * 2 ^ r + w) % 2 ^ 24 := by
  rw [← or_add hw]
  apply Nat.eq_of_testBit_eq
  intro i
  rw [Nat.testBit_mod_two_pow, Nat.testBit_mod_two_pow, Nat.testBit_or, Nat.testBit_or, Nat.testBit_mod_two_pow]
  by_cases h : i < 24
  · simp [h, show i < 32 by omega]
  · simp [h]
theorem up_limb {l r w : Nat} (hl : l < 16777216) (hr : r < 24) (hw : w < 2 ^ r) : ((nI l <<< (nI r &&& 31)) ||| nI w) &&& 16777215 = nI ((l * 2 ^ r + w) % 16777216) := by
  have hw2 : w < 2 ^ 24 := Nat.lt_of_lt_of_le hw (Nat.pow_le_pow_right (by decide) (by omega))
  rw [pk_and _ (m := 16777215) 24 (by decide), Int32.toBitVec_or, BitVec.toNat_or, i31 _ (by omega), pk_shl _ _ r (smod32 r (by omega)), pk_tn (by omega), pk_tn (by omega), or24 hw]
theorem up_val {N n i q r : Nat} (hn : n = 24 * q + r) (hr : r < 24) : lm (N * 2 ^ n) i = if i < q then 0 else if i = q then (lm N 0 * 2 ^ r) % 16777216 else (lm N (i - q) * 2 ^ r + lm N (i - q - 1) / 2 ^ (24 - r)) % 16777216 := by
  subst hn
  by_cases c1 : i < q
  · rw [if_pos c1]
    unfold lm dd
    have e : N * 2 ^ (24 * q + r) = N * 2 ^ (24 * (q - i - 1) + r) * 2 ^ 24 * 2 ^ (24 * i) := by
      rw [Nat.mul_assoc, Nat.mul_assoc, ← Nat.pow_add, ← Nat.pow_add]; congr 2; omega
    rw [e, Nat.mul_div_cancel _ (Nat.two_pow_pos _)]
    omega
  · rw [if_neg c1]
    by_cases c2 : i = q
    · rw [if_pos c2, c2]
      unfold lm dd
      rw [Nat.pow_add, ← Nat.mul_assoc, Nat.mul_right_comm, Nat.mul_div_cancel _ (Nat.two_pow_pos _), Nat.mul_zero, Nat.pow_zero, Nat.div_one]
      rw [Nat.mod_mul_mod]
    · rw [if_neg c2]
      obtain ⟨a, rfl⟩ : ∃ a, i = q + a + 1 := ⟨i - q - 1, by omega⟩
      rw [show q + a + 1 - q = a + 1 by omega, show a + 1 - 1 = a by omega]
      have e1 : N * 2 ^ (24 * q + r) / dd (q + a + 1) = N / dd a / 2 ^ (24 - r) := by
        unfold dd
        rw [Nat.div_div_eq_div_mul, ← Nat.pow_add, show 24 * (q + a + 1) = (24 * a + (24 - r)) + (24 * q + r) by omega, Nat.pow_add 2 (24 * a + (24 - r)), Nat.mul_div_mul_right _ _ (Nat.two_pow_pos _)]
      have e2 := lm_top N a
      have e3 : (16777216 : Nat) = 2 ^ r * 2 ^ (24 - r) := by rw [← Nat.pow_add, show r + (24 - r) = 24 by omega]
      have e4 : N / dd a / 2 ^ (24 - r) = N / dd (a + 1) * 2 ^ r + lm N a / 2 ^ (24 - r) := by
        rw [e2]
        generalize lm N a = z
        rw [e3, ← Nat.mul_assoc, Nat.add_comm, Nat.add_mul_div_right _ _ (Nat.two_pow_pos _), Nat.add_comm]
      rw [show lm (N * 2 ^ (24 * q + r)) (q + a + 1) = N * 2 ^ (24 * q + r) / dd (q + a + 1) % 16777216 from rfl, e1, e4]
      show _ = (N / dd (a + 1) % 16777216 * 2 ^ r + _) % 16777216
      rw [Nat.add_mod, Nat.mul_mod, ← Nat.mod_mod_of_dvd (N / dd (a + 1)) (Nat.dvd_refl 16777216), ← Nat.mul_mod, ← Nat.add_mod]
      simp
theorem bg_up_L (N n q r : Nat) (hn : n = 24 * q + r) (hr : r < 24) (hb : n < 2 ^ 20) : ∀ (t k : Nat) (fa : NI), t ≤ 140 → t < k → (∀ j, j < t → fa j = nI (lm N j)) → (∀ j, t ≤ j → j < 140 → fa j = nI (lm (N * 2 ^ n) j)) →
    ∃ fa' : NI, jX1_up_L4 k fa (nI n) (iZ ((t : Int) - 1)) = some fa' ∧ ∀ j, j < 140 → fa' j = nI (lm (N * 2 ^ n) j) := by
  intro t
  induction t with
  | zero =>
    intro k fa _ hk _ h4
    obtain ⟨k, rfl⟩ : ∃ z, k = z + 1 := ⟨k - 1, by omega⟩
    refine ⟨fa, ?_, fun j hj => h4 j (by omega) hj⟩
    show (if iZ (((0 : Nat) : Int) - 1) < 0 then _ else _) = _
    rw [if_pos (by decide)]
  | succ i ih =>
    intro k fa ht hk h3 h4
    obtain ⟨k, rfl⟩ : ∃ z, k = z + 1 := ⟨k - 1, by omega⟩
    have em : nI i + (-1) = iZ ((i : Int) - 1) := by rw [← iZ_N, show (-1 : Int32) = iZ (-1) from rfl, iz_add]; rfl
    obtain ⟨fa', hf, hv⟩ := ih k (upd fa (nI i).toNatClampNeg (nI (lm (N * 2 ^ n) i))) (by omega) (by omega)
      (fun j hj => by rw [nI_clamp (by omega), upd_o (by omega)]; exact h3 j (by omega))
      (fun j hj1 hj2 => by
        rw [nI_clamp (by omega)]
        by_cases hji : j = i
        · subst hji; rw [upd_s]
        · rw [upd_o hji]; exact h4 j (by omega) hj2)
    refine ⟨fa', ?_, hv⟩
    have hoi : ok (nI i) 140 = true := ok_n (by omega) (by decide)
    rw [show ((i + 1 : Nat) : Int) - 1 = ((i : Nat) : Int) by omega, iZ_N]
    have eq1 : nI n / 24 = nI q := by rw [show (24 : Int32) = nI 24 from rfl, pk_div (by omega) (by decide) (by decide)]; congr 1; omega
    have er1 : nI n - nI q * 24 = nI r := by rw [← eq1, show (24 : Int32) = nI 24 from rfl, pk_rem (by omega) (by decide) (by decide)]; congr 1; omega
    have eat : nI i - nI q = iZ ((i : Int) - q) := by rw [← iZ_N, ← iZ_N, iz_sub]
    have hval := up_val (N := N) (i := i) hn hr
    unfold jX1_up_L4
    rw [if_neg (nI_pos (by omega)), eq1, er1, eat, em]
    by_cases c1 : i < q
    · rw [if_pos ((ilt0 (by omega) (by omega)).mpr (by omega)), if_pos ((ile0 (by omega) (by omega)).mpr (by omega)), if_pos hoi]
      rw [if_pos c1] at hval
      rw [hval] at hf
      exact hf
    · rw [if_neg (fun z => absurd ((ilt0 (by omega) (by omega)).mp z) (by omega))]
      rw [if_neg c1] at hval
      have e5 : (i : Int) - q = ((i - q : Nat) : Int) := by omega
      rw [e5, iZ_N, if_pos (ok_n (by omega) (by decide))]
      by_cases c2 : i = q
      · rw [if_pos (show nI (i - q) ≤ 0 from nI_le (b := 0) (by omega) (by omega)), if_pos hoi]
        rw [if_pos c2] at hval
        have e6 : ((fa (nI (i - q)).toNatClampNeg <<< (nI r &&& 31)) ||| 0) &&& 16777215 = nI (lm (N * 2 ^ n) i) := by
          rw [nI_clamp (by omega), h3 (i - q) (by omega), show i - q = 0 by omega, show (0 : Int32) = nI 0 from rfl, up_limb (lm_lt _ _) hr (Nat.two_pow_pos r), Nat.add_zero, hval]
        rw [e6]
        exact hf
      · rw [if_neg (show ¬ nI (i - q) ≤ 0 from nI_nle (by omega) (by omega))]
        rw [if_neg c2] at hval
        have e7 : nI (i - q) - 1 = nI (i - q - 1) := by rw [show i - q = (i - q - 1) + 1 by omega, nI_pred]; rfl
        rw [e7, if_pos (ok_n (by omega) (by decide)), if_pos hoi]
        have e6 : ((fa (nI (i - q)).toNatClampNeg <<< (nI r &&& 31)) ||| (fa (nI (i - q - 1)).toNatClampNeg >>> ((24 - nI r) &&& 31))) &&& 16777215 = nI (lm (N * 2 ^ n) i) := by
          have hl := lm_lt N (i - q - 1)
          rw [nI_clamp (by omega), nI_clamp (by omega), h3 (i - q) (by omega), h3 (i - q - 1) (by omega), show (24 : Int32) - nI r = nI (24 - r) from pk_sub (a := 24) (by omega), i31 (24 - r) (by omega), pk_shrN (by omega) _ (24 - r) (smod32 _ (by omega)), up_limb (lm_lt _ _) hr, hval]
          rw [Nat.div_lt_iff_lt_mul (Nat.two_pow_pos _), ← Nat.pow_add, show r + (24 - r) = 24 by omega]
          exact hl
        rw [e6]
        exact hf
theorem bg_up {fa : NI} {N n : Nat} (hA : Bg fa N) (hn : n < 2 ^ 20) (h : N * 2 ^ n < 2 ^ 3360) : ∃ fa' : NI, jX1_up fa (nI n) = some fa' ∧ Bg fa' (N * 2 ^ n) := by
  obtain ⟨fa', hf, hv⟩ := bg_up_L N n (n / 24) (n % 24) (by omega) (by omega) hn 140 FU fa (by omega) (by decide) (fun j hj => hA.2 j hj) (fun j h1 h2 => by omega)
  refine ⟨fa', ?_, h, hv⟩
  unfold jX1_up
  rw [← hf]
  rfl
/-- swap -/
theorem bg_swap_L (th : Int32) (mi : NI) (di : NL) (po : NI) (be : Int32) (mm : Int64) (ee : Int32) (ga gb : NI) : ∀ (k i : Nat) (fa fb : NI), i ≤ 140 → 140 < i + k → (∀ j, j < i → fa j = gb j ∧ fb j = ga j) → (∀ j, i ≤ j → j < 140 → fa j = ga j ∧ fb j = gb j) →
    ∃ fa' fb' : NI, jX2_swap_L2 k th mi di po be mm ee fa fb (nI i) = some (th, mi, di, po, be, mm, ee, fa', fb') ∧ ∀ j, j < 140 → fa' j = gb j ∧ fb' j = ga j := by
  intro k
  induction k with
  | zero => intro i fa fb h1 h2; omega
  | succ k ih =>
    intro i fa fb h1 h2 h3 h4
    by_cases hi : i = 140
    · subst hi
      exact ⟨fa, fb, if_pos (by decide), h3⟩
    · have hi2 : i < 140 := by omega
      have ho : ok (nI i) 140 = true := ok_n hi2 (by decide)
      obtain ⟨fa', fb', hf, hv⟩ := ih (i + 1) (upd fa (nI i).toNatClampNeg (fb (nI i).toNatClampNeg)) (upd fb (nI i).toNatClampNeg (fa (nI i).toNatClampNeg)) (by omega) (by omega)
        (fun j hj => by
          rw [nI_clamp (by omega)]
          by_cases hji : j = i
          · subst hji; rw [upd_s, upd_s]; have := h4 j (Nat.le_refl j) hi2; exact ⟨this.2, this.1⟩
          · rw [upd_o hji, upd_o hji]; exact h3 j (by omega))
        (fun j hj1 hj2 => by
          rw [nI_clamp (by omega), upd_o (by omega), upd_o (by omega)]; exact h4 j (by omega) hj2)
      refine ⟨fa', fb', ?_, hv⟩
      show (if 140 ≤ nI i then _ else _) = _
      rw [if_neg (ge140 hi2), if_pos ho, if_pos ho, if_pos ho, if_pos ho, nI_1]
      exact hf
theorem bg_swap (th : Int32) (mi : NI) (di : NL) (po : NI) (be : Int32) (mm : Int64) (ee : Int32) {fa fb : NI} {A B : Nat} (hA : Bg fa A) (hB : Bg fb B) : ∃ fa' fb' : NI, jX2_swap th mi di po be mm ee fa fb = some (th, mi, di, po, be, mm, ee, fa', fb') ∧ Bg fa' B ∧ Bg fb' A := by
  obtain ⟨fa', fb', hf, hv⟩ := bg_swap_L th mi di po be mm ee fa fb FU 0 fa fb (by omega) (by decide) (fun j hj => by omega) (fun j _ hj => ⟨rfl, rfl⟩)
  exact ⟨fa', fb', hf, ⟨hB.1, fun j hj => by rw [(hv j hj).1]; exact hB.2 j hj⟩, ⟨hA.1, fun j hj => by rw [(hv j hj).2]; exact hA.2 j hj⟩⟩
