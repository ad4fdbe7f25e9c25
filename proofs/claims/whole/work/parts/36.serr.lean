/-! errors: the class's and the model's -/
theorem zq_nrm_ex (n : Nat) : ∃ (m : Nat) (e : Int), nrm m e n := by
  by_cases c : n < 2 ^ 53
  · exact ⟨n, -1074, c, by omega, Or.inr rfl, by omega⟩
  · refine ⟨n % 2 ^ 52 + 2 ^ 52, (n / 2 ^ 52 : Nat) - 1 - 1074, by omega, by omega, Or.inl (by omega), ?_⟩
    have := Nat.div_add_mod n (2 ^ 52)
    omega
theorem zq_RA0 {N : Nat} : RN N (-1074) false = 0 ↔ N = 0 := by
  constructor
  · intro q
    by_cases h0 : N = 0
    · exact h0
    · exfalso
      have hc := cut_ge N (-1074)
      by_cases c : bl N ≤ 53
      · have hN : N < 2 ^ 53 := Nat.lt_of_lt_of_le (bl_lt N) (Nat.pow_le_pow_right (by decide) c)
        exact h0 ((RN_zero hN (by omega)).mp q)
      · have := rr_ge h0 (-1074) false (by omega)
        unfold RN at q
        rw [if_neg h0] at q
        omega
  · intro q; rw [q]; exact RN_0 _ _
theorem zq_Vz {v : Bool} {m : Nat} {e : Int} (h : nB v m e) : (V v m e).natAbs = m * 2 ^ (e + 1074).toNat ∧ (V v m e < 0 ↔ v = true) := by
  unfold V sg
  have hp : 0 < m → 0 < 2 ^ (e + 1074).toNat → 0 < m * 2 ^ (e + 1074).toNat := fun x y => Nat.mul_pos x y
  have h5 := h.2.2.2.2
  have h2 := Nat.two_pow_pos (e + 1074).toNat
  cases v with
  | true =>
    have := hp (h5 rfl) h2
    rw [if_pos rfl]
    generalize m * 2 ^ (e + 1074).toNat = x at *
    exact ⟨by omega, by constructor; exact fun _ => rfl; intro _; omega⟩
  | false =>
    rw [if_neg (by decide)]
    generalize m * 2 ^ (e + 1074).toNat = x at *
    exact ⟨by omega, by constructor; (intro q; omega); intro q; exact absurd q (by decide)⟩
theorem zq_Vot {v : Bool} {m : Nat} {e : Int} (h : nB v m e) : V (ot v true m) m e = -(V v m e) := by
  unfold V ot sg
  by_cases c : m = 0
  · subst c
    rw [Nat.zero_mul]
    cases v <;> simp
  · cases v
    · simp [show 0 < m by omega]
    · simp
theorem zq_Vlt {v : Bool} {m : Nat} {e : Int} (h : nB v m e) : m * 2 ^ (e + 1074).toNat < 2 ^ 53 * 2 ^ 2045 := by
  obtain ⟨h1, h2, h3, h4, h5⟩ := h
  have h6 : 2 ^ (e + 1074).toNat ≤ 2 ^ 2045 := Nat.pow_le_pow_right (by decide) (by omega)
  exact Nat.lt_of_lt_of_le (Nat.mul_lt_mul_of_pos_right h1 (Nat.two_pow_pos _)) (Nat.mul_le_mul_left _ h6)
/-- a number that is exact: its register -/
theorem zq_reg {z : Int} (hx : rnd z.natAbs = z.natAbs) (hb : z.natAbs < 2 ^ 53 * 2 ^ 2045) : ∃ (v : Bool) (m : Nat) (e : Int), nB v m e ∧ V v m e = z ∧ sg (decide (z < 0)) ((min (RA z) BEY : Nat) : Int) = sg v (rk m e) := by
  obtain ⟨m, e, hn⟩ := zq_nrm_ex (RA z)
  have hr := nrm_rnd (N := z.natAbs) hn
  rw [hx] at hr
  have he : e ≤ 971 := by
    rcases Int.lt_or_le 971 e with q | q
    · exfalso
      obtain ⟨h1, h2, h3, h4⟩ := hn
      have h5 : 2 ^ 52 ≤ m := by omega
      have h6 : 2 ^ 2046 ≤ 2 ^ (e + 1074).toNat := Nat.pow_le_pow_right (by decide) (by omega)
      have h7 := Nat.mul_le_mul h5 h6
      rw [hr] at h7
      have h8 : (2 : Nat) ^ 52 * 2 ^ 2046 = 2 ^ 53 * 2 ^ 2045 := by rw [← Nat.pow_add, ← Nat.pow_add]
      rw [h8] at h7
      exact absurd hb (Nat.not_lt.mpr h7)
    · exact q
  have hlt : RA z < BEY := (nrm_over hn).mp he
  obtain ⟨q1, q2⟩ := nrm_nB (decide (z < 0)) hn hlt
  refine ⟨decide (z < 0) && decide (RA z ≠ 0), m, e, q1, ?_, ?_⟩
  · unfold V
    rw [hr]
    by_cases c : z = 0
    · subst c; unfold sg; simp
    · have : RA z ≠ 0 := fun q => c (by have := (zq_RA0 (N := z.natAbs)).mp q; omega)
      by_cases d : z < 0
      · simp [this, d, sg]; omega
      · simp [this, d, sg]; omega
  · rw [Nat.min_eq_left (Nat.le_of_lt hlt), q2]
    by_cases c : RA z = 0
    · have : rk m e = 0 := by omega
      rw [this]; unfold sg; simp
    · simp [c]
def ER (z : Int) : Int := z - sg (decide (z < 0)) (rnd z.natAbs : Nat)
/-- the class's error, the greater one first -/
theorem zq_core {vg vs : Bool} {mg ms : Nat} {eg es : Int} (ng : nB vg mg eg) (ns : nB vs ms es) (h : rk ms es ≤ rk mg eg) (hlt : RA (V vg mg eg + V vs ms es) < BEY) :
    jX0_sum (lZ (sg vs (rk ms es))) (-(jX0_sum (jX0_sum (lZ (sg vg (rk mg eg))) (lZ (sg vs (rk ms es)))) (-(lZ (sg vg (rk mg eg)))))) = lZ (sg (decide (ER (V vg mg eg + V vs ms es) < 0)) ((min (RA (ER (V vg mg eg + V vs ms es))) BEY : Nat) : Int)) := by
  obtain ⟨z, hz⟩ : ∃ z : Int, z = V vg mg eg + V vs ms es := ⟨_, rfl⟩
  have hes : es ≤ eg := by
    have := ng.1; have := ns.1; have := ng.2.2.2.1; have := ns.2.2.2.1; have := ng.2.1; have := ns.2.1
    unfold rk at h; omega
  obtain ⟨-, hle0, -⟩ := cs_B14 ng ns h
  have g2 := ng.2.1
  have g3 := ns.2.1
  -- sizes in units
  have hle : ms * 2 ^ (es + 1074).toNat ≤ mg * 2 ^ (eg + 1074).toNat := by
    have h1 := Nat.mul_le_mul_right (2 ^ (es + 1074).toNat) hle0
    rw [Nat.mul_assoc, ← Nat.pow_add, show (eg - es).toNat + (es + 1074).toNat = (eg + 1074).toNat by omega] at h1
    exact h1
  have hzsm : z = sm vg vs (mg * 2 ^ (eg + 1074).toNat) (ms * 2 ^ (es + 1074).toNat) := hz
  have hN : z.natAbs = if (vg != vs) = true then mg * 2 ^ (eg + 1074).toNat - ms * 2 ^ (es + 1074).toNat else mg * 2 ^ (eg + 1074).toNat + ms * 2 ^ (es + 1074).toNat := by
    rw [hzsm, sm_abs hle]
    cases vg <;> cases vs <;> rfl
  have hsgn : z ≠ 0 → vg = decide (z < 0) := fun q => by rw [hzsm] at q ⊢; exact sm_sgn hle q
  -- the rounded sum
  obtain ⟨mr, er, hnr⟩ := zq_nrm_ex (RA z)
  rw [← hz] at hlt
  obtain ⟨nR, qR⟩ := nrm_nB (decide (z < 0)) hnr hlt
  have hrr := nrm_rnd (N := z.natAbs) hnr
  have hVR : V (decide (z < 0) && decide (RA z ≠ 0)) mr er = sg (decide (z < 0)) (rnd z.natAbs : Nat) := by
    unfold V
    rw [hrr]
    by_cases c : z = 0
    · subst c; unfold sg; simp
    · have : RA z ≠ 0 := fun q => c (by have := (zq_RA0 (N := z.natAbs)).mp q; omega)
      simp [this]
  have hsR : sg (decide (z < 0)) ((min (RA z) BEY : Nat) : Int) = sg (decide (z < 0) && decide (RA z ≠ 0)) (rk mr er) := by
    rw [Nat.min_eq_left (Nat.le_of_lt hlt), qR]
    by_cases c : RA z = 0
    · have : rk mr er = 0 := by omega
      rw [this]; unfold sg; simp
    · simp [c]
  rw [cs_sumV ng ns, ← hz, hsR, ot_t ng, cs_sumV nR (ot_n ng true), hVR, zq_Vot ng]
  -- the difference is a number
  obtain ⟨D, hD⟩ : ∃ D : Int, D = sg (decide (z < 0)) (rnd z.natAbs : Nat) + -(V vg mg eg) := ⟨_, rfl⟩
  rw [← hD]
  have hVg := zq_Vz ng
  have hDabs : D.natAbs = ((rnd z.natAbs : Int) - ((mg * 2 ^ (eg + 1074).toNat : Nat) : Int)).natAbs := by
    rw [hD]
    have hVe : V vg mg eg = sg vg ((mg * 2 ^ (eg + 1074).toNat : Nat) : Int) := rfl
    rw [hVe]
    by_cases c : z = 0
    · subst c
      rw [show rnd (Int.natAbs 0) = 0 by decide]
      generalize mg * 2 ^ (eg + 1074).toNat = x
      cases vg <;> simp [sg] <;> omega
    · rw [← hsgn c]
      generalize mg * 2 ^ (eg + 1074).toNat = x
      generalize rnd z.natAbs = y
      cases vg <;> simp [sg] <;> omega
  obtain ⟨k, d, hk, hkd⟩ := dekker (vg != vs) ng.1 ns.1 (show (es + 1074).toNat ≤ (eg + 1074).toNat by omega) hle z.natAbs hN
  have hDr : rnd D.natAbs = D.natAbs := rnd_rep (by rw [hDabs]; exact hkd) hk
  have hDb : D.natAbs < 2 ^ 53 * 2 ^ 2045 := by
    rw [hDabs]
    have b1 := zq_Vlt ng
    have b2 := zq_Vlt nR
    rw [hrr] at b2
    generalize mg * 2 ^ (eg + 1074).toNat = x at *
    generalize rnd z.natAbs = y at *
    generalize (2 : Nat) ^ 53 * 2 ^ 2045 = B at *
    omega
  obtain ⟨vd, md, ed, nd, hVd, hsd⟩ := zq_reg hDr hDb
  rw [hsd, ot_t nd, cs_sumV ns (ot_n nd true), zq_Vot nd, hVd]
  have hE : V vs ms es + -D = ER z := by unfold ER; rw [hD]; omega
  rw [hE]
theorem cs_serr {v1 v2 : Bool} {m1 m2 : Nat} {e1 e2 : Int} (n1 : nB v1 m1 e1) (n2 : nB v2 m2 e2) :
    jX0_sumError (lZ (sg v1 (rk m1 e1))) (lZ (sg v2 (rk m2 e2))) = if RA (V v1 m1 e1 + V v2 m2 e2) < BEY then lZ (sg (decide (ER (V v1 m1 e1 + V v2 m2 e2) < 0)) ((min (RA (ER (V v1 m1 e1 + V v2 m2 e2))) BEY : Nat) : Int)) else lZ (sg (decide (V v1 m1 e1 + V v2 m2 e2 < 0)) ((BEY : Nat) : Int)) := by
  have k1 := rk_b n1
  have k2 := rk_b n2
  have ha1 : jabsl (lZ (sg v1 (rk m1 e1))) = lN (rk m1 e1).toNat := by
    rw [jabsl_z (by unfold sg; split <;> omega) (by unfold sg; split <;> omega), sg_abs v1 k1.1]
  have ha2 : jabsl (lZ (sg v2 (rk m2 e2))) = lN (rk m2 e2).toNat := by
    rw [jabsl_z (by unfold sg; split <;> omega) (by unfold sg; split <;> omega), sg_abs v2 k2.1]
  have hB : ((BEY : Nat) : Int) = 9218868437227405312 := rfl
  have hov : ∀ (w : Bool) (n : Nat), (jX0_isOver (lZ (sg w ((min n BEY : Nat) : Int))) = 0) ↔ n < BEY := fun w n => by
    rw [over_0 (by unfold sg; split <;> omega) (by unfold sg; split <;> omega)]
    unfold sg
    cases w <;> simp <;> omega
  unfold jX0_sumError jX0_greatInSize jX0_smallInSize
  rw [ha1, ha2]
  have hc : (lN (rk m1 e1).toNat < lN (rk m2 e2).toNat) ↔ rk m1 e1 < rk m2 e2 := by rw [ln_lt (by omega) (by omega)]; omega
  by_cases c : rk m1 e1 < rk m2 e2
  · simp only [if_pos (hc.mpr c)]
    have hcm : V v2 m2 e2 + V v1 m1 e1 = V v1 m1 e1 + V v2 m2 e2 := by omega
    by_cases d : RA (V v1 m1 e1 + V v2 m2 e2) < BEY
    · rw [if_pos d, if_pos (by rw [cs_sumV n2 n1, hcm]; exact (hov _ _).mpr d)]
      have := zq_core n2 n1 (by omega) (by rw [hcm]; exact d)
      rw [hcm] at this
      exact this
    · rw [if_neg d, if_neg (by rw [cs_sumV n2 n1, hcm]; exact fun q => d ((hov _ _).mp q)), cs_sumV n2 n1, hcm, Nat.min_eq_right (by omega)]
  · simp only [if_neg (fun q => c (hc.mp q))]
    by_cases d : RA (V v1 m1 e1 + V v2 m2 e2) < BEY
    · rw [if_pos d, if_pos (by rw [cs_sumV n1 n2]; exact (hov _ _).mpr d)]
      exact zq_core n1 n2 (by omega) d
    · rw [if_neg d, if_neg (by rw [cs_sumV n1 n2]; exact fun q => d ((hov _ _).mp q)), cs_sumV n1 n2, Nat.min_eq_right (by omega)]
