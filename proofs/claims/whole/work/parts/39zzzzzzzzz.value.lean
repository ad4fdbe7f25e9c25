/-! value: doubles as whole numbers of units of 2^-1074 -/
def zq_DV (d : UInt64) (s : Bool) (U : Nat) : Prop := ∃ (c : Nat) (q : Int), FP.Core.val64 d = .fin s c q ∧ c * 2 ^ (q + 1074).toNat = U
def zq_Rep (U : Nat) : Prop := ∃ (c : Nat) (q : Int), FP.Core.fits FP.Core.b64 (.fin false c q) ∧ c * 2 ^ (q + 1074).toNat = U
theorem zq_rep {c : Nat} {q : Int} (hc : c < 2 ^ 53) (h1 : -1074 ≤ q) (h2 : q ≤ 971) : zq_Rep (c * 2 ^ (q + 1074).toNat) := by
  have hx : FP.Core.b64.qmax = 971 := by decide
  obtain ⟨c', q', e1, e2⟩ := FP.Core.round_exact FP.Core.good_b64 false (c := c) (q := q) hc (by rw [FP.Core.qmin_b64]; exact h1) (by rw [hx]; exact h2)
  refine ⟨c', q', ?_, ?_⟩
  · rw [← e1]; exact FP.Core.round_fits FP.Core.good_b64 _
  · unfold FP.Core.inUnits at e2
    rw [FP.Core.qmin_b64, show q' - -1074 = q' + 1074 by omega, show q - -1074 = q + 1074 by omega] at e2
    exact e2
theorem zq_fq {s : Bool} {c : Nat} {q : Int} (h : FP.Core.fits FP.Core.b64 (.fin s c q)) : -1074 ≤ q := by
  have h1 : FP.Core.b64.qmin ≤ q := h.2.1
  rw [FP.Core.qmin_b64] at h1
  exact h1
theorem zq_dq {d : UInt64} {s : Bool} {c : Nat} {q : Int} (h : FP.Core.val64 d = .fin s c q) : -1074 ≤ q := by
  have hf := FP.Core.val64_fits d
  rw [h] at hf
  exact zq_fq hf
theorem zq_dvnan {d : UInt64} {s : Bool} {U : Nat} (h : zq_DV d s U) : FP.Core.val64 d ≠ .nan := by
  obtain ⟨c, q, h1, h2⟩ := h
  rw [h1]
  exact fun w => FP.Core.Datum.noConfusion w
theorem zq_dvval {d : UInt64} {s : Bool} {U : Nat} (h : zq_DV d s U) : FP.Core.val64 d = FP.Core.roundRatio FP.Core.b64 s U 1 (-1074) := by
  obtain ⟨c, q, h1, h2⟩ := h
  have hf := FP.Core.val64_fits d
  rw [h1] at hf
  have hq := zq_fq hf
  rw [h1]
  refine (FP.Core.round_of_fits FP.Core.good_b64 hf).symm.trans ?_
  show FP.Core.roundRatio FP.Core.b64 s c 1 q = _
  refine FP.Core.roundRatio_congr (by decide) (by decide) ?_
  rw [Nat.mul_one, Nat.mul_one, show (-1074 - q).toNat = 0 by omega, Nat.pow_zero, Nat.mul_one, ← h2, show q - -1074 = q + 1074 by omega]
theorem zq_dvuq {d d' : UInt64} {s : Bool} {U : Nat} (h : zq_DV d s U) (h' : zq_DV d' s U) : d = d' :=
  FP.Core.val64_inj (zq_dvnan h) ((zq_dvval h).trans (zq_dvval h').symm)
theorem zq_can {A C k : Nat} {e q : Int} (he : -(k : Int) ≤ e) (hq : -(k : Int) ≤ q) (h : A * 2 ^ (e + k).toNat = C * 2 ^ (q + k).toNat) : A * 2 ^ (e - q).toNat = C * 1 * 2 ^ (q - e).toNat := by
  apply Nat.eq_of_mul_eq_mul_right (Nat.two_pow_pos (min (e + k).toNat (q + k).toNat))
  have e1 : (e - q).toNat + min (e + k).toNat (q + k).toNat = (e + k).toNat := by omega
  have e2 : (q - e).toNat + min (e + k).toNat (q + k).toNat = (q + k).toNat := by omega
  rw [Nat.mul_one, Nat.mul_assoc, Nat.mul_assoc, ← Nat.pow_add, ← Nat.pow_add, e1, e2, h]
theorem zq_dvmul {a b : UInt64} {s t : Bool} {U1 U2 U3 : Nat} (ha : zq_DV a s U1) (hb : zq_DV b t U2) (hU : U1 * U2 = U3 * 2 ^ 1074) (hr : zq_Rep U3) : zq_DV (FP.dmul a b) (s != t) U3 := by
  obtain ⟨c1, q1, a1, a2⟩ := ha
  obtain ⟨c2, q2, b1, b2⟩ := hb
  obtain ⟨c3, q3, r1, r2⟩ := hr
  have g1 := zq_dq a1
  have g2 := zq_dq b1
  have g3 := zq_fq r1
  refine ⟨c3, q3, ?_, r2⟩
  show FP.Core.val64 (FP.Core.dmul a b) = _
  rw [FP.Core.val64_dmul, a1, b1]
  show FP.Core.roundRatio FP.Core.b64 (s != t) (c1 * c2) 1 (q1 + q2) = _
  refine FP.Core.roundRatio_exact FP.Core.good_b64 (by decide) r1 ?_
  apply zq_can (k := 2148) (by omega) (by omega)
  rw [← a2, ← b2, ← r2, Nat.mul_mul_mul_comm, ← Nat.pow_add, Nat.mul_assoc c3, ← Nat.pow_add] at hU
  have e1 : (q1 + q2 + ((2148 : Nat) : Int)).toNat = (q1 + 1074).toNat + (q2 + 1074).toNat := by omega
  have e2 : (q3 + ((2148 : Nat) : Int)).toNat = (q3 + 1074).toNat + 1074 := by omega
  rw [e1, e2]
  exact hU
theorem zq_dvl {v : Bool} {m : Nat} (hm : m < 2 ^ 53) (hv : v = true → 0 < m) : zq_DV (FP.l2d (lZ (sg v (m : Int)))) v (m * 2 ^ 1074) := by
  obtain ⟨c, q, r1, r2⟩ := zq_rep (c := m) (q := 0) hm (by decide) (by decide)
  have g := zq_fq r1
  have hs : decide (sg v (m : Int) < 0) = v := by
    cases v with
    | true => have := hv rfl; exact decide_eq_true (by unfold sg; rw [if_pos rfl]; omega)
    | false => exact decide_eq_false (by unfold sg; rw [if_neg (by decide)]; omega)
  have ha : (sg v (m : Int)).natAbs = m := by unfold sg; split <;> omega
  have hb1 : -2 ^ 63 ≤ sg v (m : Int) := by unfold sg; split <;> omega
  have hb2 : sg v (m : Int) < 2 ^ 63 := by unfold sg; split <;> omega
  refine ⟨c, q, ?_, r2⟩
  show FP.Core.val64 (FP.Core.l2d (lZ (sg v (m : Int)))) = _
  rw [FP.Core.val64_l2d, lZ_t hb1 hb2]
  show FP.Core.roundRatio FP.Core.b64 (decide (sg v (m : Int) < 0)) (sg v (m : Int)).natAbs 1 0 = _
  rw [hs, ha]
  exact FP.Core.roundRatio_exact FP.Core.good_b64 (by decide) r1 (zq_can (k := 1074) (by omega) (by omega) r2.symm)
theorem zq_one64 : zq_DV FP.dconst1 false (2 ^ 1074) := ⟨2 ^ 52, -52, by decide +kernel, by rw [show ((-52 : Int) + 1074).toNat = 1022 by decide, ← Nat.pow_add]⟩
theorem zq_two64 : zq_DV 4611686018427387904 false (2 ^ 1075) := ⟨2 ^ 52, -51, by decide +kernel, by rw [show ((-51 : Int) + 1074).toNat = 1023 by decide, ← Nat.pow_add]⟩
theorem zq_half64 : zq_DV 4602678819172646912 false (2 ^ 1073) := ⟨2 ^ 52, -53, by decide +kernel, by rw [show ((-53 : Int) + 1074).toNat = 1021 by decide, ← Nat.pow_add]⟩
theorem zq_nn {d : UInt64} {s : Bool} {U : Nat} (h : zq_DV d s U) : nn d = true := by
  have h1 := (FP.Core.ne_nan d).mp (zq_dvnan h)
  refine decide_eq_true ?_
  rw [UInt64.le_iff_toNat_le, UInt64.toNat_and]
  show d.toNat &&& (2 ^ 63 - 1) ≤ 9218868437227405312
  rw [Nat.and_two_pow_sub_one_eq_mod]
  exact h1
theorem zq_neg64 {d : UInt64} {U : Nat} (h : zq_DV d false U) : zq_DV (FP.dneg d) true U := by
  have hn := (FP.Core.notNaN_iff d).mpr (zq_dvnan h)
  obtain ⟨c, q, h1, h2⟩ := h
  refine ⟨c, q, ?_, h2⟩
  rw [FP.dneg_core hn, FP.Core.val64_dneg, h1]
  rfl
/-- the class: the power of two -/
theorem zq_pw {n : Nat} {w : Nat → Nat} (hw : ∀ a b, a + b ≤ n → w a + w b = w (a + b) + 1074) (hb : ∀ a, a ≤ n → zq_Rep (2 ^ w a)) : ∀ (d k left a f : Nat) (x1 x3 : UInt64), left < 2 ^ d → d < k → d ≤ 30 → a + left * f = n → zq_DV x1 false (2 ^ w a) → zq_DV x3 false (2 ^ w f) →
    ∃ r : UInt64, jX0_powerOfTwo_L22 k x1 x3 (nI left) = some r ∧ zq_DV r false (2 ^ w n) := by
  have hend : ∀ (k a f : Nat) (x1 x3 : UInt64), 0 < k → a + 0 * f = n → zq_DV x1 false (2 ^ w a) → ∃ r : UInt64, jX0_powerOfTwo_L22 k x1 x3 (nI 0) = some r ∧ zq_DV r false (2 ^ w n) := by
    intro k a f x1 x3 hk hn h1
    obtain ⟨k, rfl⟩ : ∃ z, k = z + 1 := ⟨k - 1, by omega⟩
    have sh : jX0_powerOfTwo_L22 (k + 1) x1 x3 (nI 0) = (if nI 0 ≤ 0 then some x1 else _) := rfl
    refine ⟨x1, by rw [sh, if_pos (by decide)], ?_⟩
    have ha : a = n := by omega
    rw [← ha]; exact h1
  have hmul : ∀ (a b : Nat) (x y : UInt64), a + b ≤ n → zq_DV x false (2 ^ w a) → zq_DV y false (2 ^ w b) → zq_DV (FP.dmul x y) false (2 ^ w (a + b)) := fun a b x y h hx hy =>
    zq_dvmul (s := false) (t := false) hx hy (by rw [← Nat.pow_add, ← Nat.pow_add, hw a b h]) (hb (a + b) h)
  intro d
  induction d with
  | zero =>
    intro k left a f x1 x3 hl hk _ hn h1 h3
    have h0 : left = 0 := by omega
    subst h0
    exact hend k a f x1 x3 (by omega) hn h1
  | succ d ih =>
    intro k left a f x1 x3 hl hk hd hn h1 h3
    by_cases c0 : left = 0
    · subst c0
      exact hend k a f x1 x3 (by omega) hn h1
    · obtain ⟨k, rfl⟩ : ∃ z, k = z + 1 := ⟨k - 1, by omega⟩
      have hp : 2 ^ (d + 1) ≤ 2 ^ 30 := Nat.pow_le_pow_right (by decide) (by omega)
      have hp2 : 2 ^ (d + 1) = 2 ^ d * 2 := Nat.pow_succ 2 d
      have hl31 : left < 2 ^ 31 := by omega
      have sh : jX0_powerOfTwo_L22 (k + 1) x1 x3 (nI left) = (if nI left ≤ 0 then some x1 else (if (nI left &&& 1) = 1 then (if nn (FP.dmul x1 x3) = true then (if nI left ≤ 1 then jX0_powerOfTwo_L22 k (FP.dmul x1 x3) x3 (iu (nI left) 1) else (if nn (FP.dmul x3 x3) = true then jX0_powerOfTwo_L22 k (FP.dmul x1 x3) (FP.dmul x3 x3) (iu (nI left) 1) else none)) else none) else (if nI left ≤ 1 then jX0_powerOfTwo_L22 k x1 x3 (iu (nI left) 1) else (if nn (FP.dmul x3 x3) = true then jX0_powerOfTwo_L22 k x1 (FP.dmul x3 x3) (iu (nI left) 1) else none)))) := rfl
      have e1 : iu (nI left) 1 = nI (left / 2) := by
        have := iu_n (n := left) (s := 1) (by omega) (by omega)
        rw [Nat.pow_one] at this
        exact this
      have hle1 : (nI left ≤ 1) ↔ left ≤ 1 := by
        constructor
        · intro q
          apply Nat.le_of_not_lt
          intro w
          exact nI_ge (a := 1) w hl31 q
        · intro q
          have : left = 1 := by omega
          subst this; decide
      rw [sh, if_neg (show ¬ nI left ≤ 0 from nI_ge (a := 0) (by omega) hl31), e1]
      by_cases co : left % 2 = 1
      · obtain ⟨h, hh⟩ : ∃ h, left = 2 * h + 1 := ⟨left / 2, by omega⟩
        have q0 : (2 * h + 1) * f = h * (f + f) + f := by rw [Nat.add_mul, Nat.one_mul, Nat.mul_add, Nat.mul_assoc]; omega
        rw [hh, q0] at hn
        have m1 := hmul a f x1 x3 (by omega) h1 h3
        rw [if_pos ((b01 left hl31).mpr co), if_pos (zq_nn m1), show left / 2 = h by omega]
        by_cases c1 : left ≤ 1
        · have hz : h = 0 := by omega
          subst hz
          rw [if_pos (hle1.mpr c1)]
          exact hend k (a + f) f _ _ (by omega) (by omega) m1
        · have hff : f + f ≤ h * (f + f) := Nat.le_mul_of_pos_left _ (by omega)
          have m2 := hmul f f x3 x3 (by omega) h3 h3
          rw [if_neg (fun q => c1 (hle1.mp q)), if_pos (zq_nn m2)]
          exact ih k h (a + f) (f + f) _ _ (by omega) (by omega) (by omega) (by omega) m1 m2
      · obtain ⟨h, hh⟩ : ∃ h, left = 2 * h := ⟨left / 2, by omega⟩
        have q0 : (2 * h) * f = h * (f + f) := by rw [Nat.mul_add, Nat.mul_assoc]; omega
        rw [hh, q0] at hn
        have hff : f + f ≤ h * (f + f) := Nat.le_mul_of_pos_left _ (by omega)
        have m2 := hmul f f x3 x3 (by omega) h3 h3
        rw [if_neg (fun q => co ((b01 left hl31).mp q)), show left / 2 = h by omega, if_neg (fun q => by have := hle1.mp q; omega), if_pos (zq_nn m2)]
        exact ih k h a (f + f) _ _ (by omega) (by omega) (by omega) hn h1 m2
def zq_wu (a : Nat) : Nat := 1074 + a
def zq_wd (a : Nat) : Nat := 1074 - a
theorem zq_p2 {e : Int} (h1 : -1074 ≤ e) (h2 : e ≤ 971) : ∃ r : UInt64, jX0_powerOfTwo (iZ e) = some r ∧ zq_DV r false (2 ^ (e + 1074).toNat) := by
  unfold jX0_powerOfTwo
  rw [jabs_z (by omega) (by omega)]
  by_cases c : 0 ≤ e
  · rw [if_pos ((i0le (by omega) (by omega)).mpr c)]
    have hr : ∀ a, a ≤ e.natAbs → zq_Rep (2 ^ zq_wu a) := fun a ha => by
      have := zq_rep (c := 1) (q := (a : Int)) (by decide) (by omega) (by omega)
      rw [Nat.one_mul, show ((a : Int) + 1074).toNat = zq_wu a by unfold zq_wu; omega] at this
      exact this
    obtain ⟨r, k1, k2⟩ := zq_pw (n := e.natAbs) (w := zq_wu) (fun a b _ => by unfold zq_wu; omega) hr 11 FU e.natAbs 0 1 FP.dconst1 4611686018427387904 (by omega) (by decide) (by omega) (by omega) zq_one64 zq_two64
    refine ⟨r, k1, ?_⟩
    rw [show (e + 1074).toNat = zq_wu e.natAbs by unfold zq_wu; omega]
    exact k2
  · rw [if_neg (fun q => c ((i0le (by omega) (by omega)).mp q))]
    have hr : ∀ a, a ≤ e.natAbs → zq_Rep (2 ^ zq_wd a) := fun a ha => by
      have := zq_rep (c := 1) (q := -(a : Int)) (by decide) (by omega) (by omega)
      rw [Nat.one_mul, show (-(a : Int) + 1074).toNat = zq_wd a by unfold zq_wd; omega] at this
      exact this
    obtain ⟨r, k1, k2⟩ := zq_pw (n := e.natAbs) (w := zq_wd) (fun a b q => by unfold zq_wd; omega) hr 11 FU e.natAbs 0 1 FP.dconst1 4602678819172646912 (by omega) (by decide) (by omega) (by omega) zq_one64 zq_half64
    refine ⟨r, k1, ?_⟩
    rw [show (e + 1074).toNat = zq_wd e.natAbs by unfold zq_wd; omega]
    exact k2
/-- the model: doubled, or halved -/
theorem zq_vdn {mi : NI} {di : NL} {po : NI} {t : Nat} (ht : t < 16) {v : Bool} {m : Nat} {e : Int} (hm1 : mi t = bI v) (hp1 : po t = iZ e) (hm : m < 2 ^ 53) (g1 : -1074 ≤ e) (g2 : e ≤ 971) {th be : Int32} {mm : Int64} {ee : Int32} {fa fb : NI} : ∀ (d i k : Nat) (x2 : UInt64), i + d = (-e).toNat → d < k → zq_DV x2 false (m * 2 ^ (1074 + e.toNat - i)) →
    ∃ r : UInt64, jX2_value_L62 k th mi di po be mm ee fa fb (nI t) x2 (nI i) = (if bI v = 0 then some (r, th, mi, di, po, be, mm, ee, fa, fb) else some (FP.dneg r, th, mi, di, po, be, mm, ee, fa, fb)) ∧ zq_DV r false (m * 2 ^ (e + 1074).toNat) := by
  have ho : ok (nI t) 16 = true := ok_n ht (by decide)
  have hcl : (nI t).toNatClampNeg = t := nI_clamp (by omega)
  intro d
  induction d with
  | zero =>
    intro i k x2 hi hk hv
    obtain ⟨k, rfl⟩ : ∃ z, k = z + 1 := ⟨k - 1, by omega⟩
    have sh : jX2_value_L62 (k + 1) th mi di po be mm ee fa fb (nI t) x2 (nI i) = (if ok (nI t) 16 = true then (if (-(po (nI t).toNatClampNeg)) ≤ nI i then (if ok (nI t) 16 = true then (if (mi (nI t).toNatClampNeg) = 0 then some (x2, th, mi, di, po, be, mm, ee, fa, fb) else some (FP.dneg x2, th, mi, di, po, be, mm, ee, fa, fb)) else none) else _) else none) := rfl
    rw [sh, if_pos ho, if_pos ho, hcl, hp1, hm1, iz_neg, ← iZ_N, if_pos ((iz_le (by omega) (by omega) (by omega) (by omega)).mpr (by omega))]
    refine ⟨x2, rfl, ?_⟩
    rw [show (e + 1074).toNat = 1074 + e.toNat - i by omega]
    exact hv
  | succ d ih =>
    intro i k x2 hi hk hv
    obtain ⟨k, rfl⟩ : ∃ z, k = z + 1 := ⟨k - 1, by omega⟩
    have sh : jX2_value_L62 (k + 1) th mi di po be mm ee fa fb (nI t) x2 (nI i) = (if ok (nI t) 16 = true then (if (-(po (nI t).toNatClampNeg)) ≤ nI i then _ else (if nn (FP.dmul x2 (4602678819172646912 : UInt64)) = true then jX2_value_L62 k th mi di po be mm ee fa fb (nI t) (FP.dmul x2 (4602678819172646912 : UInt64)) (nI i + 1) else none)) else none) := rfl
    have hrep : zq_Rep (m * 2 ^ (1074 + e.toNat - (i + 1))) := by
      have := zq_rep (c := m) (q := -((i + 1 : Nat) : Int)) hm (by omega) (by omega)
      rw [show (-((i + 1 : Nat) : Int) + 1074).toNat = 1074 + e.toNat - (i + 1) by omega] at this
      exact this
    have hmul : zq_DV (FP.dmul x2 4602678819172646912) false (m * 2 ^ (1074 + e.toNat - (i + 1))) := zq_dvmul (s := false) (t := false) hv zq_half64 (by
      rw [Nat.mul_assoc, Nat.mul_assoc, ← Nat.pow_add, ← Nat.pow_add]
      exact congrArg (fun z => m * 2 ^ z) (by omega)) hrep
    rw [sh, if_pos ho, hcl, hp1, iz_neg, if_neg (by
      rw [← iZ_N]
      intro q
      have := (iz_le (by omega) (by omega) (by omega) (by omega)).mp q
      omega), if_pos (zq_nn hmul), nI_1]
    exact ih (i + 1) k _ (by omega) (by omega) hmul
theorem zq_vup {mi : NI} {di : NL} {po : NI} {t : Nat} (ht : t < 16) {m : Nat} {e : Int} (hp1 : po t = iZ e) (hm : m < 2 ^ 53) (g1 : -1074 ≤ e) (g2 : e ≤ 971) {th be : Int32} {mm : Int64} {ee : Int32} {fa fb : NI} : ∀ (d i k : Nat) (x2 : UInt64), i + d = e.toNat → d < k → zq_DV x2 false (m * 2 ^ (1074 + i)) →
    ∃ r : UInt64, jX2_value_L36 k th mi di po be mm ee fa fb (nI t) x2 (nI i) = jX2_value_L62 FU th mi di po be mm ee fa fb (nI t) r 0 ∧ zq_DV r false (m * 2 ^ (1074 + e.toNat)) := by
  have ho : ok (nI t) 16 = true := ok_n ht (by decide)
  have hcl : (nI t).toNatClampNeg = t := nI_clamp (by omega)
  intro d
  induction d with
  | zero =>
    intro i k x2 hi hk hv
    obtain ⟨k, rfl⟩ : ∃ z, k = z + 1 := ⟨k - 1, by omega⟩
    have sh : jX2_value_L36 (k + 1) th mi di po be mm ee fa fb (nI t) x2 (nI i) = (if ok (nI t) 16 = true then (if (po (nI t).toNatClampNeg) ≤ nI i then jX2_value_L62 FU th mi di po be mm ee fa fb (nI t) x2 0 else _) else none) := rfl
    rw [sh, if_pos ho, hcl, hp1, ← iZ_N, if_pos ((iz_le (by omega) (by omega) (by omega) (by omega)).mpr (by omega))]
    refine ⟨x2, rfl, ?_⟩
    rw [show e.toNat = i by omega]
    exact hv
  | succ d ih =>
    intro i k x2 hi hk hv
    obtain ⟨k, rfl⟩ : ∃ z, k = z + 1 := ⟨k - 1, by omega⟩
    have sh : jX2_value_L36 (k + 1) th mi di po be mm ee fa fb (nI t) x2 (nI i) = (if ok (nI t) 16 = true then (if (po (nI t).toNatClampNeg) ≤ nI i then _ else (if nn (FP.dmul x2 (4611686018427387904 : UInt64)) = true then jX2_value_L36 k th mi di po be mm ee fa fb (nI t) (FP.dmul x2 (4611686018427387904 : UInt64)) (nI i + 1) else none)) else none) := rfl
    have hrep : zq_Rep (m * 2 ^ (1074 + (i + 1))) := by
      have := zq_rep (c := m) (q := ((i + 1 : Nat) : Int)) hm (by omega) (by omega)
      rw [show (((i + 1 : Nat) : Int) + 1074).toNat = 1074 + (i + 1) by omega] at this
      exact this
    have hmul : zq_DV (FP.dmul x2 4611686018427387904) false (m * 2 ^ (1074 + (i + 1))) := zq_dvmul (s := false) (t := false) hv zq_two64 (by
      rw [Nat.mul_assoc, Nat.mul_assoc, ← Nat.pow_add, ← Nat.pow_add]
      exact congrArg (fun z => m * 2 ^ z) (by omega)) hrep
    rw [sh, if_pos ho, hcl, hp1, if_neg (by
      rw [← iZ_N]
      intro q
      have := (iz_le (by omega) (by omega) (by omega) (by omega)).mp q
      omega), if_pos (zq_nn hmul), nI_1]
    exact ih (i + 1) k _ (by omega) (by omega) hmul
theorem ok_value (g : NL) (th : Int32) (mi : NI) (di : NL) (po : NI) (be : Int32) (mm : Int64) (ee : Int32) (fa fb : NI) (x1 : Int32) (hR : Rel g mi di po) : OKv (jX0_value g x1) (jX2_value th mi di po be mm ee fa fb x1) ∨ OKt (tX0_value g x1) (jX2_value th mi di po be mm ee fa fb x1) g 1 1 := by
  by_cases h1 : rok x1 = true
  · left
    obtain ⟨t, ht, rfl, ho⟩ := rok_of h1
    obtain ⟨v, m, e, h2, h3, h4, h5, h6⟩ := rel_get (hR t ht)
    have hb := rk_b h6
    have hm := h6.1
    have g1 := h6.2.1
    have g2 := h6.2.2.1
    have hcl : (nI t).toNatClampNeg = t := nI_clamp (by omega)
    obtain ⟨o1, o2⟩ := mo_n h6
    -- the class
    obtain ⟨p, k1, k2⟩ := zq_p2 g1 g2
    have hsg : jX0_withSignOf (lN m) (lZ (sg v (rk m e))) = lZ (sg v (m : Int)) := by
      rw [← lZ_N, ws_z (by unfold sg; split <;> omega) (by unfold sg; split <;> omega)]
      congr 1
      cases v with
      | true => rw [if_pos ((sg_neg h6).mpr rfl)]; rfl
      | false => rw [if_neg (fun q => absurd ((sg_neg h6).mp q) (by decide))]; rfl
    have hrep : zq_Rep (m * 2 ^ (e + 1074).toNat) := zq_rep hm g1 g2
    have hvv : (v != false) = v := by cases v <;> rfl
    have hc := zq_dvmul (zq_dvl hm h6.2.2.2.2) k2 (U3 := m * 2 ^ (e + 1074).toNat) (by
      rw [Nat.mul_assoc, Nat.mul_assoc, Nat.mul_comm (2 ^ 1074)]) hrep
    rw [hvv] at hc
    have hX : jX0_value g (nI t) = some (FP.dmul (FP.l2d (lZ (sg v (m : Int)))) p, g) := by
      unfold jX0_value
      rw [if_pos h1, if_pos ho, if_pos ho, if_pos ho, hcl, h5, o1, o2, hsg, k1, Option.bind_some, if_pos (zq_nn hc)]
    -- the model
    have hl := zq_dvl (v := false) hm (fun q => absurd q (by decide))
    have hl2 : FP.l2d (lZ (sg false (m : Int))) = FP.l2d (lN m) := by rw [← lZ_N]; rfl
    rw [hl2] at hl
    obtain ⟨r1, z1, z2⟩ := zq_vup (mi := mi) (di := di) (th := 0) (be := be) (mm := mm) (ee := ee) (fa := fa) (fb := fb) ht h4 hm g1 g2 e.toNat 0 FU (FP.l2d (lN m)) (by omega) (by show e.toNat < 5000; omega) hl
    obtain ⟨r2, y1, y2⟩ := zq_vdn (mi := mi) (di := di) (th := 0) (be := be) (mm := mm) (ee := ee) (fa := fa) (fb := fb) ht h2 h4 hm g1 g2 (-e).toNat 0 FU r1 (by omega) (by show (-e).toNat < 5000; omega) z2
    have hM : jX2_value th mi di po be mm ee fa fb (nI t) = (if bI v = 0 then some (r2, 0, mi, di, po, be, mm, ee, fa, fb) else some (FP.dneg r2, 0, mi, di, po, be, mm, ee, fa, fb)) := by
      unfold jX2_value
      rw [if_neg (fun z => (isr_0.mp z) h1), if_pos (by decide), if_pos ho, hcl, h3]
      exact z1.trans y1
    have hF : jX2_value th mi di po be mm ee fa fb (nI t) = some (FP.dmul (FP.l2d (lZ (sg v (m : Int)))) p, 0, mi, di, po, be, mm, ee, fa, fb) := by
      rw [hM]
      cases v with
      | true =>
        rw [if_neg (show ¬ bI true = 0 by decide), zq_dvuq (zq_neg64 y2) hc]
      | false =>
        rw [if_pos (show bI false = 0 from rfl), zq_dvuq y2 hc]
    refine ⟨_, g, mi, di, po, be, mm, ee, fa, fb, hX, hF, hR, ?_⟩
    have hd : FP.dcmp (FP.dmul (FP.l2d (lZ (sg v (m : Int)))) p) (FP.dmul (FP.l2d (lZ (sg v (m : Int)))) p) = some .eq := FP.Core.dcmp_self (zq_dvnan hc)
    rw [hd]
    rfl
  · right
    refine ⟨FP.dconst0, mi, di, po, be, mm, ee, fa, fb, ?_, ?_, hR⟩
    · unfold tX0_value; rw [if_neg h1]
    · unfold jX2_value
      rw [if_pos (isr_0.mpr h1), if_neg (by decide)]
