/-! nearest, of the class and of the model -/
theorem iz_to {z : Int} (h1 : 0 ≤ z) (h2 : z < 2 ^ 31) : (iZ z).toInt64 = lN z.toNat := by
  obtain ⟨n, rfl⟩ : ∃ n : Nat, z = n := ⟨z.toNat, by omega⟩
  rw [iZ_N, nI_l (by omega), Int.toNat_natCast]
theorem near_n {N : Nat} {p : Int} (hN : N < 2 ^ 63) (hp1 : -5000 ≤ p) (hp2 : p ≤ 5000) : jX0_nearest (lN N) (iZ p) = lN (min (RN N p false) BEY) := by
  unfold jX0_nearest
  by_cases h0 : N = 0
  · subst h0
    rw [if_pos (show lN 0 = 0 from rfl)]
    unfold RN
    rw [if_pos rfl]
    rfl
  · rw [if_neg (fun q => h0 ((ln0 hN).mp q)), nlz_64 (by omega) hN]
    have hbl := bl_le hN
    have hb1 := bl_pos h0
    have hcut := cut_ge N p
    have e1 : jmax ((64 - iZ (64 - (bl N : Int))) - 53) ((-1074) - iZ p) = iZ (cutZ N p) := by
      rw [show (64 : Int32) = iZ 64 from rfl, iz_sub, show (53 : Int32) = iZ 53 from rfl, iz_sub, show (-1074 : Int32) = iZ (-1074) from rfl, iz_sub, jmax_z (by omega) (by omega) (by omega) (by omega)]
      unfold cutZ
      congr 1; omega
    rw [e1]
    unfold jX0_nearest_B30
    generalize hc : cutZ N p = c at *
    have hRN : RN N p false = (p + c + 1074).toNat * 2 ^ 52 + rr N p false := by unfold RN; rw [if_neg h0, hc]
    have hle := rr_le N p false
    by_cases c63 : c ≤ 63
    · rw [if_pos (show iZ c ≤ 63 from (iz_le (b := 63) (by omega) (by omega) (by omega) (by omega)).mpr c63)]
      unfold jX0_nearest_B45
      rw [iz_add]
      by_cases c971 : p + c ≤ 971
      · rw [if_pos (show iZ (p + c) ≤ 971 from (iz_le (b := 971) (by omega) (by omega) (by omega) (by omega)).mpr c971)]
        unfold jX0_nearest_B78
        have e2 : (if iZ c ≤ 0 then sl (lN N) (-iZ c) else jX0_nearestWhole (lN N) (iZ c) : Int64) = lN (rr N p false) := by
          unfold rr
          rw [hc]
          by_cases c0 : c ≤ 0
          · rw [if_pos ((ile0 (by omega) (by omega)).mpr c0), if_pos c0, iz_neg, show (-c : Int) = ((-c).toNat : Int) by omega, iZ_N, sl_n N (by omega)]
            congr 3
          · rw [if_neg (fun q => c0 ((ile0 (by omega) (by omega)).mp q)), if_neg c0]
            obtain ⟨d, rfl⟩ : ∃ d : Nat, c = d := ⟨c.toNat, by omega⟩
            rw [iZ_N, Int.toNat_natCast, nw_n hN (by omega) (by omega)]
        have e3 : sl ((iZ (p + c) - (-1074)).toInt64) 52 = lN ((p + c + 1074).toNat * 2 ^ 52) := by
          rw [show (-1074 : Int32) = iZ (-1074) from rfl, iz_sub, show p + c - -1074 = p + c + 1074 by omega, iz_to (by omega) (by omega), show (52 : Int32) = nI 52 from rfl, sl_n _ (by omega)]
        rw [e2, e3, lN_add, ← hRN, Nat.min_eq_left (by have hB : BEY = 9218868437227405312 := rfl; omega)]
      · rw [if_neg (show ¬ iZ (p + c) ≤ 971 from fun q => c971 ((iz_le (b := 971) (by omega) (by omega) (by omega) (by omega)).mp q))]
        have hge := rr_ge h0 p false (by omega)
        rw [Nat.min_eq_right (by have hB : BEY = 9218868437227405312 := rfl; omega)]
        rfl
    · rw [if_neg (show ¬ iZ c ≤ 63 from fun q => c63 ((iz_le (b := 63) (by omega) (by omega) (by omega) (by omega)).mp q))]
      have hr0 : rr N p false = 0 := by
        unfold rr
        rw [hc, if_neg (by omega)]
        exact rq_big false (Nat.lt_of_lt_of_le hN (Nat.pow_le_pow_right (by decide) (by omega)))
      rw [hRN, hr0, show (p + c + 1074).toNat = 0 by omega]
      rfl
/-- a normal pair: its rank -/
def nrm (m : Nat) (e : Int) (n : Nat) : Prop := m < 2 ^ 53 ∧ -1074 ≤ e ∧ (2 ^ 52 ≤ m ∨ e = -1074) ∧ (n : Int) = (e + 1074) * 2 ^ 52 + m
theorem nrm_over {m : Nat} {e : Int} {n : Nat} (h : nrm m e n) : e ≤ 971 ↔ n < BEY := by
  obtain ⟨h1, h2, h3, h4⟩ := h
  unfold BEY
  omega
theorem RN_0 (p : Int) (s : Bool) : RN 0 p s = 0 := by unfold RN; rw [if_pos rfl]
/-- the rank of what fits -/
theorem RN_fit {m : Nat} {e : Int} (hm : m ≤ 2 ^ 53) (he : -1074 ≤ e) (h : 2 ^ 52 ≤ m ∨ e = -1074) : (RN m e false : Int) = (e + 1074) * 2 ^ 52 + m := by
  by_cases h0 : m = 0
  · subst h0
    rw [RN_0]
    have : e = -1074 := by omega
    subst this
    rfl
  · have hcut := cut_ge m e
    have hb1 := bl_pos h0
    rcases (show m < 2 ^ 53 ∨ m = 2 ^ 53 by omega) with hm2 | hm2
    · have hb := bl_le hm2
      have hc : cutZ m e = 0 := by
        rcases h with h | h
        · have := bl_gt h; omega
        · omega
      unfold RN rr
      rw [if_neg h0, hc, if_pos (by omega)]
      simp
      omega
    · have hb : bl m = 54 := bl_eq (n := 53) (by omega) (by omega)
      have hc : cutZ m e = 1 := by omega
      unfold RN rr
      rw [if_neg h0, hc, if_neg (by omega), hm2]
      have : rq (2 ^ 53) (1 : Int).toNat false = 2 ^ 52 := by decide
      rw [this]
      omega
theorem RN_up {m : Nat} {e : Int} {s : Nat} (h0 : m ≠ 0) (hm : m * 2 ^ s < 2 ^ 53) (he : -1074 ≤ e - s) (h : 2 ^ 52 ≤ m * 2 ^ s ∨ e - s = -1074) : RN m e false = RN (m * 2 ^ s) (e - s) false := by
  have hbm := bl_mul h0 s
  have h00 : m * 2 ^ s ≠ 0 := by
    have := Nat.mul_pos (Nat.pos_of_ne_zero h0) (Nat.two_pow_pos s); omega
  have hb1 := bl_pos h0
  have hbl := bl_le hm
  have hc1 := cut_ge m e
  have hc2 := cut_ge (m * 2 ^ s) (e - s)
  rw [hbm] at hc2
  have e1 : cutZ m e = -(s : Int) := by
    rcases h with h | h
    · have := bl_gt h; omega
    · omega
  have e2 : cutZ (m * 2 ^ s) (e - s) = 0 := by omega
  unfold RN rr
  rw [if_neg h0, if_neg h00, e1, e2, if_pos (by omega), if_pos (by omega)]
  simp
  omega
section SE
variable (th : Int32) (mi : NI) (di : NL) (po : NI) (be : Int32) (fa fb : NI)
theorem settle57 : ∀ (s k m : Nat) (e : Int), s < k → (m ≠ 0 ∨ s = 0) → m * 2 ^ s < 2 ^ 53 → -1074 ≤ e - s → (2 ^ 52 ≤ m * 2 ^ s ∨ e - s = -1074) → e ≤ 8000 →
    jX2_settle_L57 k th mi di po be (lN m) (iZ e) fa fb = some (iZ (if e - s ≤ 971 then 0 else -1), th, mi, di, po, be, lN (m * 2 ^ s), iZ (e - s), fa, fb) := by
  intro s
  induction s with
  | zero =>
    intro k m e hk _ h1 h2 h3 h4
    obtain ⟨k, rfl⟩ : ∃ z, k = z + 1 := ⟨k - 1, by omega⟩
    rw [Nat.pow_zero, Nat.mul_one] at h1 h3 ⊢
    rw [show e - ((0 : Nat) : Int) = e by omega] at h2 h3 ⊢
    have er : (if iZ e ≤ 971 then 0 else (-1) : Int32) = iZ (if e ≤ 971 then 0 else -1) := by
      by_cases c : e ≤ 971
      · rw [if_pos (show iZ e ≤ 971 from (iz_le (b := 971) (by omega) (by omega) (by omega) (by omega)).mpr c), if_pos c]; rfl
      · rw [if_neg (show ¬ iZ e ≤ 971 from fun q => c ((iz_le (b := 971) (by omega) (by omega) (by omega) (by omega)).mp q)), if_neg c]; rfl
    show (if lN m ≤ 0 then some ((if iZ e ≤ 971 then 0 else (-1) : Int32), th, mi, di, po, be, lN m, iZ e, fa, fb) else (if 4503599627370496 ≤ lN m then some ((if iZ e ≤ 971 then 0 else (-1) : Int32), th, mi, di, po, be, lN m, iZ e, fa, fb) else (if iZ e ≤ (-1074) then some ((if iZ e ≤ 971 then 0 else (-1) : Int32), th, mi, di, po, be, lN m, iZ e, fa, fb) else _))) = _
    rw [er]
    by_cases c1 : lN m ≤ 0
    · rw [if_pos c1]
    · rw [if_neg c1]
      by_cases c2 : 2 ^ 52 ≤ m
      · rw [if_pos (show (4503599627370496 : Int64) ≤ lN m from (ln_le (a := 4503599627370496) (by omega) (by omega)).mpr c2)]
      · rw [if_neg (show ¬ (4503599627370496 : Int64) ≤ lN m from fun q => c2 ((ln_le (a := 4503599627370496) (by omega) (by omega)).mp q)), if_pos (show iZ e ≤ (-1074) from (iz_le (b := -1074) (by omega) (by omega) (by omega) (by omega)).mpr (by omega))]
  | succ s ih =>
    intro k m e hk h0 h1 h2 h3 h4
    obtain ⟨k, rfl⟩ : ∃ z, k = z + 1 := ⟨k - 1, by omega⟩
    have hm0 : m ≠ 0 := by omega
    have e0 : m * 2 ^ (s + 1) = 2 * m * 2 ^ s := by rw [Nat.pow_succ, Nat.mul_comm 2 m, Nat.mul_assoc, Nat.mul_comm (2 ^ s) 2]
    have hm1 : m < 2 ^ 52 := by
      have : m * 2 ≤ m * 2 ^ (s + 1) := Nat.mul_le_mul_left m (by rw [Nat.pow_succ]; have := Nat.two_pow_pos s; omega)
      omega
    show (if lN m ≤ 0 then _ else (if 4503599627370496 ≤ lN m then _ else (if iZ e ≤ (-1074) then _ else jX2_settle_L57 k th mi di po be (2 * lN m) (iZ e - 1) fa fb))) = _
    rw [if_neg (fun q => by have := (ln_le (b := 0) (by omega) (by omega)).mp q; omega), if_neg (fun q => by have := (ln_le (a := 4503599627370496) (by omega) (by omega)).mp q; omega), if_neg (fun q => by have := (iz_le (b := -1074) (by omega) (by omega) (by omega) (by omega)).mp q; omega)]
    rw [show (2 : Int64) = lN 2 from rfl, lN_mul, show (1 : Int32) = iZ 1 from rfl, iz_sub, ih k (2 * m) (e - 1) (by omega) (by omega) (by rw [← e0]; exact h1) (by omega) (by rw [← e0]; omega) (by omega), e0, show e - 1 - (s : Int) = e - ((s + 1 : Nat) : Int) by omega]
theorem L21_s (k : Nat) (mm : Int64) (ee : Int32) : jX2_settle_L21 (k + 1) th mi di po be mm ee fa fb = (if mm < 9007199254740992 then jX2_settle_L57 FU th mi di po be mm ee fa fb else jX2_settle_L21 k th mi di po be (mm / 2) (ee + 1) fa fb) := rfl
theorem settle_n (m : Nat) (e : Int) (hm : m ≤ 2 ^ 53) (he : -1074 ≤ e) (he2 : e ≤ 7000) : ∃ (m' : Nat) (e' : Int), jX2_settle th mi di po be (lN m) (iZ e) fa fb = some (iZ (if RN m e false < BEY then 0 else -1), th, mi, di, po, (if m = 0 then 0 else be), lN m', iZ e', fa, fb) ∧ nrm m' e' (RN m e false) := by
  unfold jX2_settle
  by_cases h0 : m = 0
  · subst h0
    rw [if_pos (show lN 0 = 0 from rfl), if_pos rfl, RN_0]
    refine ⟨0, -1074, ?_, by decide, by decide, by decide, by decide⟩
    have h := settle57 th mi di po 0 fa fb 0 FU 0 (-1074) (by decide) (by omega) (by decide) (by decide) (by decide) (by decide)
    rw [show FU = 4999 + 1 from rfl, L21_s, if_pos (show lN 0 < 9007199254740992 by decide), show (-1074 : Int32) = iZ (-1074) from rfl, h]
    rfl
  · rw [if_neg (fun q => h0 ((ln0 (by omega)).mp q)), if_neg h0]
    rcases (show m < 2 ^ 53 ∨ m = 2 ^ 53 by omega) with hm2 | hm2
    · have hb := bl_le hm2
      have hb1 := bl_pos h0
      -- s = min (53 - bl m) (e + 1074)
      obtain ⟨s, hs1, hs2, hs3⟩ : ∃ s : Nat, (s : Int) ≤ 53 - bl m ∧ (s : Int) ≤ e + 1074 ∧ ((s : Int) = 53 - bl m ∨ (s : Int) = e + 1074) := ⟨(min (53 - (bl m : Int)) (e + 1074)).toNat, by omega, by omega, by omega⟩
      have hbm := bl_mul h0 s
      have h1 : m * 2 ^ s < 2 ^ 53 := Nat.lt_of_lt_of_le (bl_lt _) (Nat.pow_le_pow_right (by decide) (by omega))
      have h00 : m * 2 ^ s ≠ 0 := by
        have := Nat.mul_pos (Nat.pos_of_ne_zero h0) (Nat.two_pow_pos s); omega
      have h3 : 2 ^ 52 ≤ m * 2 ^ s ∨ e - s = -1074 := by
        rcases hs3 with h | h
        · left
          have := bl_ge h00
          rw [hbm, show bl m + s - 1 = 52 by omega] at this
          exact this
        · right; omega
      have hn : nrm (m * 2 ^ s) (e - s) (RN m e false) := by
        refine ⟨h1, by omega, h3, ?_⟩
        rw [RN_up h0 h1 (by omega) h3]
        exact RN_fit (by omega) (by omega) h3
      refine ⟨m * 2 ^ s, e - s, ?_, hn⟩
      have hz : (RN m e false < BEY) ↔ e - s ≤ 971 := (nrm_over hn).symm
      have e1 : jX2_settle_L21 FU th mi di po be (lN m) (iZ e) fa fb = jX2_settle_L57 FU th mi di po be (lN m) (iZ e) fa fb :=
        by
          have hlt : lN m < 9007199254740992 := (ln_lt (b := 9007199254740992) (by omega) (by omega)).mpr (by omega)
          rw [show jX2_settle_L21 FU th mi di po be (lN m) (iZ e) fa fb = jX2_settle_L21 (4999 + 1) th mi di po be (lN m) (iZ e) fa fb from rfl, L21_s, if_pos hlt]
      rw [e1, settle57 th mi di po be fa fb s FU m e (by unfold FU; omega) (Or.inl h0) h1 (by omega) h3 (by omega)]
      by_cases c : e - s ≤ 971
      · rw [if_pos c, if_pos (hz.mpr c)]
      · rw [if_neg c, if_neg (fun q => c (hz.mp q))]
    · have hn : nrm (2 ^ 52) (e + 1) (RN m e false) := by
        refine ⟨by decide, by omega, Or.inl (Nat.le_refl _), ?_⟩
        rw [RN_fit hm he (by omega), hm2]
        omega
      refine ⟨2 ^ 52, e + 1, ?_, hn⟩
      have hz : (RN m e false < BEY) ↔ e + 1 ≤ 971 := (nrm_over hn).symm
      have e1 : jX2_settle_L21 FU th mi di po be (lN m) (iZ e) fa fb = jX2_settle_L57 FU th mi di po be (lN (2 ^ 52)) (iZ (e + 1)) fa fb := by
        rw [hm2]
        have hdiv : lN (2 ^ 53) / 2 = lN (2 ^ 52) := by decide
        rw [show jX2_settle_L21 FU th mi di po be (lN (2 ^ 53)) (iZ e) fa fb = jX2_settle_L21 (4998 + 1 + 1) th mi di po be (lN (2 ^ 53)) (iZ e) fa fb from rfl, L21_s, if_neg (show ¬ lN (2 ^ 53) < 9007199254740992 by decide), hdiv, show (1 : Int32) = iZ 1 from rfl, iz_add, L21_s, if_pos (show lN (2 ^ 52) < 9007199254740992 by decide)]
      have h := settle57 th mi di po be fa fb 0 FU (2 ^ 52) (e + 1) (by decide) (Or.inr rfl) (by decide) (by omega) (Or.inl (by decide)) (by omega)
      rw [e1, h, Nat.pow_zero, Nat.mul_one, show e + 1 - ((0 : Nat) : Int) = e + 1 by omega]
      by_cases c : e + 1 ≤ 971
      · rw [if_pos c, if_pos (hz.mpr c)]
      · rw [if_neg c, if_neg (fun q => c (hz.mp q))]
end SE
