/-! longs and ints as numbers: lZ, iZ of Int; lN, nI of Nat -/
abbrev lZ (z : Int) : Int64 := Int64.ofInt z
abbrev iZ (z : Int) : Int32 := Int32.ofInt z
theorem lZ_N (n : Nat) : lZ (n : Int) = lN n := Int64.ofInt_eq_ofNat
theorem iZ_N (n : Nat) : iZ (n : Int) = nI n := Int32.ofInt_eq_ofNat
theorem lZ_t {z : Int} (h1 : -2 ^ 63 ≤ z) (h2 : z < 2 ^ 63) : (lZ z).toInt = z := Int64.toInt_ofInt_of_le h1 h2
theorem iZ_t {z : Int} (h1 : -2 ^ 31 ≤ z) (h2 : z < 2 ^ 31) : (iZ z).toInt = z := Int32.toInt_ofInt_of_le h1 h2
theorem lZ_of (x : Int64) : lZ x.toInt = x := Int64.ofInt_toInt x
theorem iZ_of (x : Int32) : iZ x.toInt = x := Int32.ofInt_toInt x
theorem lz_add (a b : Int) : lZ a + lZ b = lZ (a + b) := (Int64.ofInt_add a b).symm
theorem lz_sub (a b : Int) : lZ a - lZ b = lZ (a - b) := (Int64.ofInt_sub a b).symm
theorem lz_mul (a b : Int) : lZ a * lZ b = lZ (a * b) := (Int64.ofInt_mul a b).symm
theorem lz_neg (a : Int) : -lZ a = lZ (-a) := (Int64.ofInt_neg a).symm
theorem iz_add (a b : Int) : iZ a + iZ b = iZ (a + b) := (Int32.ofInt_add a b).symm
theorem iz_sub (a b : Int) : iZ a - iZ b = iZ (a - b) := (Int32.ofInt_sub a b).symm
theorem iz_mul (a b : Int) : iZ a * iZ b = iZ (a * b) := (Int32.ofInt_mul a b).symm
theorem iz_neg (a : Int) : -iZ a = iZ (-a) := (Int32.ofInt_neg a).symm
theorem lz_lt {a b : Int} (h1 : -2 ^ 63 ≤ a) (h2 : a < 2 ^ 63) (h3 : -2 ^ 63 ≤ b) (h4 : b < 2 ^ 63) : lZ a < lZ b ↔ a < b := by rw [Int64.lt_iff_toInt_lt, lZ_t h1 h2, lZ_t h3 h4]
theorem lz_le {a b : Int} (h1 : -2 ^ 63 ≤ a) (h2 : a < 2 ^ 63) (h3 : -2 ^ 63 ≤ b) (h4 : b < 2 ^ 63) : lZ a ≤ lZ b ↔ a ≤ b := by rw [Int64.le_iff_toInt_le, lZ_t h1 h2, lZ_t h3 h4]
theorem lz_eq {a b : Int} (h1 : -2 ^ 63 ≤ a) (h2 : a < 2 ^ 63) (h3 : -2 ^ 63 ≤ b) (h4 : b < 2 ^ 63) : lZ a = lZ b ↔ a = b := by rw [← Int64.toInt_inj, lZ_t h1 h2, lZ_t h3 h4]
theorem iz_lt {a b : Int} (h1 : -2 ^ 31 ≤ a) (h2 : a < 2 ^ 31) (h3 : -2 ^ 31 ≤ b) (h4 : b < 2 ^ 31) : iZ a < iZ b ↔ a < b := by rw [Int32.lt_iff_toInt_lt, iZ_t h1 h2, iZ_t h3 h4]
theorem iz_le {a b : Int} (h1 : -2 ^ 31 ≤ a) (h2 : a < 2 ^ 31) (h3 : -2 ^ 31 ≤ b) (h4 : b < 2 ^ 31) : iZ a ≤ iZ b ↔ a ≤ b := by rw [Int32.le_iff_toInt_le, iZ_t h1 h2, iZ_t h3 h4]
theorem iz_eq {a b : Int} (h1 : -2 ^ 31 ≤ a) (h2 : a < 2 ^ 31) (h3 : -2 ^ 31 ≤ b) (h4 : b < 2 ^ 31) : iZ a = iZ b ↔ a = b := by rw [← Int32.toInt_inj, iZ_t h1 h2, iZ_t h3 h4]
theorem ln_t {n : Nat} (h : n < 2 ^ 63) : (lN n).toInt = n := Int64.toInt_ofNat_of_lt h
theorem ln_lt {a b : Nat} (ha : a < 2 ^ 63) (hb : b < 2 ^ 63) : lN a < lN b ↔ a < b := Int64.ofNat_lt_iff_lt ha hb
theorem ln_le {a b : Nat} (ha : a < 2 ^ 63) (hb : b < 2 ^ 63) : lN a ≤ lN b ↔ a ≤ b := Int64.ofNat_le_iff_le ha hb
theorem ln_eq {a b : Nat} (ha : a < 2 ^ 63) (hb : b < 2 ^ 63) : lN a = lN b ↔ a = b := by
  rw [← Int64.toInt_inj, ln_t ha, ln_t hb]; omega
theorem ln_div {a b : Nat} (ha : a < 2 ^ 63) (hb : b < 2 ^ 63) : lN a / lN b = lN (a / b) := (Int64.ofNat_div ha hb).symm
theorem ln_rem {a b : Nat} (ha : a < 2 ^ 63) (hb : b < 2 ^ 63) : lN a - lN a / lN b * lN b = lN (a % b) := by
  rw [ln_div ha hb, lN_mul, lN_sub (Nat.div_mul_le_self a b), ← Nat.mod_eq_sub_div_mul]
theorem wb_tb (n : Nat) : (lN n).toBitVec = BitVec.ofNat 64 n := rfl
theorem wb_inj {a b : Int64} (h : a.toBitVec = b.toBitVec) : a = b := Int64.toBitVec_inj.mp h
theorem wb_tn {n : Nat} (h : n < 2 ^ 64) : (lN n).toBitVec.toNat = n := by rw [wb_tb, BitVec.toNat_ofNat, Nat.mod_eq_of_lt h]
theorem wb_of (x : Int64) : ∃ n, n < 2 ^ 64 ∧ x = lN n := ⟨x.toBitVec.toNat, x.toBitVec.isLt, wb_inj (by rw [wb_tb]; simp)⟩
theorem wb_of32 (x : Int32) : ∃ n, n < 2 ^ 32 ∧ x = nI n := ⟨x.toBitVec.toNat, x.toBitVec.isLt, Int32.toBitVec_inj.mp (by show _ = BitVec.ofNat 32 _; simp)⟩
theorem wb_c : ∀ k, k < 64 → ((nI k).toInt64 &&& 63) = lN k := by decide +kernel
theorem wb_cu : ∀ k, k < 64 → ((nI k).toInt64.toUInt64 &&& Int64.toUInt64 63) = UInt64.ofNat k := by decide +kernel
theorem wb_sm : ∀ k, k < 64 → (BitVec.ofNat 64 k).smod 64 = BitVec.ofNat 64 k := by decide +kernel
theorem wb_pw {a b : Nat} (h : a ≤ b) : 2 ^ b = 2 ^ a * 2 ^ (b - a) := by rw [← Nat.pow_add]; congr 1; omega
theorem wb_lt2 {a b : Nat} (h : a < b) : 2 ^ a < 2 ^ b := Nat.pow_lt_pow_right (by decide) h
theorem wb_mod (n : Nat) : lN n = lN (n % 2 ^ 64) := wb_inj (by rw [wb_tb, wb_tb]; apply BitVec.eq_of_toNat_eq; rw [BitVec.toNat_ofNat, BitVec.toNat_ofNat, Nat.mod_mod])
theorem wb_shr {n k : Nat} (hn : n < 2 ^ 64) (hk : k < 64) : ((lN n).toUInt64 >>> ((nI k).toInt64.toUInt64 &&& Int64.toUInt64 63)).toInt64 = lN (n / 2 ^ k) := by
  rw [wb_cu k hk]
  apply wb_inj
  apply BitVec.eq_of_toNat_eq
  show ((lN n).toUInt64 >>> UInt64.ofNat k).toNat = (BitVec.ofNat 64 _).toNat
  have h1 : (UInt64.ofNat k).toNat = k := by
    show (BitVec.ofNat 64 k).toNat = k
    rw [BitVec.toNat_ofNat, Nat.mod_eq_of_lt (by omega)]
  have h2 : (lN n).toUInt64.toNat = n := wb_tn hn
  rw [UInt64.toNat_shiftRight, h1, h2, Nat.mod_eq_of_lt hk, Nat.shiftRight_eq_div_pow, BitVec.toNat_ofNat, Nat.mod_eq_of_lt (Nat.lt_of_le_of_lt (Nat.div_le_self _ _) hn)]
theorem wb_shl (n : Nat) {k : Nat} (hk : k < 64) : lN n <<< ((nI k).toInt64 &&& 63) = lN (n * 2 ^ k) := by
  rw [wb_c k hk]
  apply wb_inj
  rw [Int64.toBitVec_shiftLeft, wb_tb, wb_tb, wb_tb, wb_sm k hk]
  apply BitVec.eq_of_toNat_eq
  rw [BitVec.shiftLeft_eq', BitVec.toNat_shiftLeft, BitVec.toNat_ofNat, BitVec.toNat_ofNat, BitVec.toNat_ofNat, Nat.mod_eq_of_lt (show k < 2 ^ 64 by omega), Nat.shiftLeft_eq, Nat.mul_mod, Nat.mod_mod, ← Nat.mul_mod]
theorem wb_and {a b : Nat} (ha : a < 2 ^ 64) (hb : b < 2 ^ 64) : lN a &&& lN b = lN (a &&& b) := by
  apply wb_inj
  rw [Int64.toBitVec_and, wb_tb, wb_tb, wb_tb]
  apply BitVec.eq_of_toNat_eq
  rw [BitVec.toNat_and, BitVec.toNat_ofNat, BitVec.toNat_ofNat, BitVec.toNat_ofNat, Nat.mod_eq_of_lt ha, Nat.mod_eq_of_lt hb, Nat.mod_eq_of_lt (Nat.and_lt_two_pow _ hb)]
theorem wb_or {a b : Nat} (ha : a < 2 ^ 64) (hb : b < 2 ^ 64) : lN a ||| lN b = lN (a ||| b) := by
  apply wb_inj
  rw [Int64.toBitVec_or, wb_tb, wb_tb, wb_tb]
  apply BitVec.eq_of_toNat_eq
  rw [BitVec.toNat_or, BitVec.toNat_ofNat, BitVec.toNat_ofNat, BitVec.toNat_ofNat, Nat.mod_eq_of_lt ha, Nat.mod_eq_of_lt hb, Nat.mod_eq_of_lt (Nat.or_lt_two_pow ha hb)]
theorem wb_mask {n k : Nat} (hn : n < 2 ^ 64) (hk : k < 64) : lN n &&& lN (2 ^ k - 1) = lN (n % 2 ^ k) := by
  rw [wb_and hn (by have := wb_lt2 hk; omega), Nat.and_two_pow_sub_one_eq_mod]
theorem wb_a1 {n : Nat} (hn : n < 2 ^ 64) : lN n &&& 1 = lN (n % 2) := wb_mask (k := 1) hn (by decide)
theorem sl_n (n : Nat) {k : Nat} (hk : k < 64) : sl (lN n) (nI k) = lN (n * 2 ^ k) := wb_shl n hk
theorem su_n {n k : Nat} (hn : n < 2 ^ 64) (hk : k < 64) : su (lN n) (nI k) = lN (n / 2 ^ k) := wb_shr hn hk
theorem sr_n {n k : Nat} (hn : n < 2 ^ 63) (hk : k < 64) : sr (lN n) (nI k) = lN (n / 2 ^ k) := by
  unfold sr
  rw [wb_c k hk]
  apply Int64.toInt_inj.mp
  have e : (lN n >>> lN k).toInt = (lN n).toInt >>> k := by
    show ((lN n >>> lN k).toBitVec).toInt = _
    rw [Int64.toBitVec_shiftRight, wb_tb k, wb_sm k hk]
    rw [BitVec.sshiftRight_eq', BitVec.toInt_sshiftRight, BitVec.toNat_ofNat, Nat.mod_eq_of_lt (by omega)]
    rfl
  rw [e, ln_t hn, ln_t (Nat.lt_of_le_of_lt (Nat.div_le_self _ _) hn), Int.shiftRight_eq_div_pow]
  rfl
theorem lp_n {n k : Nat} (hn : n < 2 ^ 64) (hk : k < 64) : jX0_lowPlaces (lN n) (nI k) = lN (n % 2 ^ k) := by
  unfold jX0_lowPlaces
  have e : sl 1 (nI k) - 1 = lN (2 ^ k - 1) := by
    have h := sl_n 1 hk
    rw [Nat.one_mul] at h
    rw [show (1 : Int64) = lN 1 from rfl, h, lN_sub Nat.one_le_two_pow]
  rw [e, wb_mask hn hk]
theorem or_add {a k b : Nat} (hb : b < 2 ^ k) : a * 2 ^ k ||| b = a * 2 ^ k + b := by
  rw [Nat.mul_comm, Nat.two_pow_add_eq_or_of_lt hb]
theorem or_one (a : Nat) : a ||| 1 = if a % 2 = 1 then a else a + 1 := by
  have h := or_add (a := a / 2) (k := 1) (b := 1) (by decide)
  by_cases c : a % 2 = 1
  · rw [if_pos c]
    apply Nat.eq_of_testBit_eq
    intro i
    rw [Nat.testBit_or]
    cases i with
    | zero => simp [c]
    | succ i => simp [Nat.testBit_succ]
  · rw [if_neg c, ← show a / 2 * 2 ^ 1 + 1 = a + 1 by omega, ← h, show a / 2 * 2 ^ 1 = a by omega]
theorem jmax_z {a b : Int} (h1 : -2 ^ 31 ≤ a) (h2 : a < 2 ^ 31) (h3 : -2 ^ 31 ≤ b) (h4 : b < 2 ^ 31) : jmax (iZ a) (iZ b) = iZ (max a b) := by
  unfold jmax
  by_cases h : a < b
  · rw [if_pos ((iz_lt h1 h2 h3 h4).mpr h), Int.max_eq_right (by omega)]
  · rw [if_neg (fun q => h ((iz_lt h1 h2 h3 h4).mp q)), Int.max_eq_left (by omega)]
theorem jmin_z {a b : Int} (h1 : -2 ^ 31 ≤ a) (h2 : a < 2 ^ 31) (h3 : -2 ^ 31 ≤ b) (h4 : b < 2 ^ 31) : jmin (iZ a) (iZ b) = iZ (min a b) := by
  unfold jmin
  by_cases h : b < a
  · rw [if_pos ((iz_lt h3 h4 h1 h2).mpr h), Int.min_eq_right (by omega)]
  · rw [if_neg (fun q => h ((iz_lt h3 h4 h1 h2).mp q)), Int.min_eq_left (by omega)]
theorem jabs_z {a : Int} (h1 : -2 ^ 31 < a) (h2 : a < 2 ^ 31) : jabs (iZ a) = nI a.natAbs := by
  show (if iZ 0 ≤ iZ a then iZ a else iZ 0 - iZ a) = _
  by_cases h : 0 ≤ a
  · rw [if_pos ((iz_le (by omega) (by omega) (by omega) h2).mpr h), ← iZ_N]; congr 1; omega
  · rw [if_neg (fun q => h ((iz_le (by omega) (by omega) (by omega) h2).mp q)), ← iZ_N, iz_sub]; congr 1; omega
theorem jabsl_z {a : Int} (h1 : -2 ^ 63 < a) (h2 : a < 2 ^ 63) : jabsl (lZ a) = lN a.natAbs := by
  show (if lZ 0 < lZ a then lZ a else -lZ a) = _
  by_cases h : 0 < a
  · rw [if_pos ((lz_lt (by omega) (by omega) (by omega) h2).mpr h), ← lZ_N]; congr 1; omega
  · rw [if_neg (fun q => h ((lz_lt (by omega) (by omega) (by omega) h2).mp q)), ← lZ_N, lz_neg]; congr 1; omega
theorem ws_z {a b : Int} (h1 : -2 ^ 63 ≤ b) (h2 : b < 2 ^ 63) : jX0_withSignOf (lZ a) (lZ b) = lZ (if b < 0 then -a else a) := by
  show (if lZ 0 ≤ lZ b then lZ a else -lZ a) = _
  by_cases h : 0 ≤ b
  · rw [if_pos ((lz_le (by omega) (by omega) h1 h2).mpr h), if_neg (by omega)]
  · rw [if_neg (fun q => h ((lz_le (by omega) (by omega) h1 h2).mp q)), if_pos (by omega), lz_neg]
theorem i0le {b : Int} (h3 : -2 ^ 31 ≤ b) (h4 : b < 2 ^ 31) : (0 : Int32) ≤ iZ b ↔ 0 ≤ b := iz_le (a := 0) (by omega) (by omega) h3 h4
theorem i0lt {b : Int} (h3 : -2 ^ 31 ≤ b) (h4 : b < 2 ^ 31) : (0 : Int32) < iZ b ↔ 0 < b := iz_lt (a := 0) (by omega) (by omega) h3 h4
theorem ile0 {b : Int} (h3 : -2 ^ 31 ≤ b) (h4 : b < 2 ^ 31) : iZ b ≤ (0 : Int32) ↔ b ≤ 0 := iz_le (b := 0) h3 h4 (by omega) (by omega)
theorem ilt0 {b : Int} (h3 : -2 ^ 31 ≤ b) (h4 : b < 2 ^ 31) : iZ b < (0 : Int32) ↔ b < 0 := iz_lt (b := 0) h3 h4 (by omega) (by omega)
theorem ieq0 {b : Int} (h3 : -2 ^ 31 ≤ b) (h4 : b < 2 ^ 31) : iZ b = (0 : Int32) ↔ b = 0 := iz_eq (b := 0) h3 h4 (by omega) (by omega)
theorem l0le {b : Int} (h3 : -2 ^ 63 ≤ b) (h4 : b < 2 ^ 63) : (0 : Int64) ≤ lZ b ↔ 0 ≤ b := lz_le (a := 0) (by omega) (by omega) h3 h4
theorem l0lt {b : Int} (h3 : -2 ^ 63 ≤ b) (h4 : b < 2 ^ 63) : (0 : Int64) < lZ b ↔ 0 < b := lz_lt (a := 0) (by omega) (by omega) h3 h4
theorem llt0 {b : Int} (h3 : -2 ^ 63 ≤ b) (h4 : b < 2 ^ 63) : lZ b < (0 : Int64) ↔ b < 0 := lz_lt (b := 0) h3 h4 (by omega) (by omega)
theorem leq0 {b : Int} (h3 : -2 ^ 63 ≤ b) (h4 : b < 2 ^ 63) : lZ b = (0 : Int64) ↔ b = 0 := lz_eq (b := 0) h3 h4 (by omega) (by omega)
theorem ln0 {b : Nat} (h4 : b < 2 ^ 63) : lN b = (0 : Int64) ↔ b = 0 := ln_eq (b := 0) h4 (by omega)
