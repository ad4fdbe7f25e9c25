/-! powers -/
theorem zq_mul {mi : NI} {di : NL} {po : NI} {v1 v2 : Bool} {m1 m2 : Nat} {e1 e2 : Int} (n1 : nB v1 m1 e1) (n2 : nB v2 m2 e2) (th : Int32) (fa fb : NI) :
    ∃ (m' : Nat) (e' : Int) (fa' : NI), jX2_multiply th mi di po (bI v1) (lN m1) (iZ e1) fa fb (bI v2) (lN m2) (iZ e2) = some (iZ (if RN (m1 * m2) (e1 + e2) false < BEY then 0 else -1), th, mi, di, po, bI ((v1 != v2) && decide (RN (m1 * m2) (e1 + e2) false ≠ 0)), lN m', iZ e', fa', fb) ∧ nrm m' e' (RN (m1 * m2) (e1 + e2) false) := by
  have q1 := n1.1
  have q2 := n2.1
  have g1 := n1.2.1
  have g2 := n1.2.2.1
  have g3 := n2.2.1
  have g4 := n2.2.2.1
  obtain ⟨f1, h1, B1⟩ := bg_product fa (x := m1) (y := m2) (by omega) (by omega)
  obtain ⟨m', e', k1, k2⟩ := near_m B1 (p := e1 + e2) (by omega) (by omega) (v1 != v2) false th mi di po (bI v1) (lN m1) (iZ e1) fb
  refine ⟨m', e', f1, ?_, k2⟩
  unfold jX2_multiply
  rw [h1, Option.bind_some, bM_id, ne_bI, iz_add]
  exact k1
/-- a product on both sides: over, or a register again -/
theorem zq_both {mi : NI} {di : NL} {po : NI} {v1 v2 : Bool} {m1 m2 : Nat} {e1 e2 : Int} (n1 : nB v1 m1 e1) (n2 : nB v2 m2 e2) (th : Int32) (fa fb : NI) :
    (∃ (w : Bool) (b' : Int32) (mm' : Int64) (ee' : Int32) (fa' : NI), jX0_product (lZ (sg v1 (rk m1 e1))) (lZ (sg v2 (rk m2 e2))) = lZ (sg w ((BEY : Nat) : Int)) ∧ jX2_multiply th mi di po (bI v1) (lN m1) (iZ e1) fa fb (bI v2) (lN m2) (iZ e2) = some (-1, th, mi, di, po, b', mm', ee', fa', fb)) ∨
    (∃ (v : Bool) (m : Nat) (e : Int) (fa' : NI), nB v m e ∧ jX0_product (lZ (sg v1 (rk m1 e1))) (lZ (sg v2 (rk m2 e2))) = lZ (sg v (rk m e)) ∧ jX2_multiply th mi di po (bI v1) (lN m1) (iZ e1) fa fb (bI v2) (lN m2) (iZ e2) = some (0, th, mi, di, po, bI v, lN m, iZ e, fa', fb)) := by
  obtain ⟨m', e', fa', k1, k2⟩ := zq_mul (mi := mi) (di := di) (po := po) n1 n2 th fa fb
  have hp := cs_prod n1 n2
  by_cases c : RN (m1 * m2) (e1 + e2) false < BEY
  · right
    obtain ⟨q1, q2⟩ := nrm_nB (v1 != v2) k2 c
    rw [if_pos c] at k1
    refine ⟨_, m', e', fa', q1, ?_, k1⟩
    rw [hp, Nat.min_eq_left (Nat.le_of_lt c), q2]
    by_cases d : RN (m1 * m2) (e1 + e2) false = 0
    · have : rk m' e' = 0 := by omega
      rw [this]; unfold sg; simp
    · simp [d]
  · left
    rw [if_neg c] at k1
    rw [Nat.min_eq_right (Nat.not_lt.mp c)] at hp
    exact ⟨_, _, _, _, _, hp, k1⟩
theorem zq_ovB (w : Bool) : ¬ jX0_isOver (lZ (sg w ((BEY : Nat) : Int))) = 0 := fun q => by
  have hB : ((BEY : Nat) : Int) = 9218868437227405312 := rfl
  have := (over_0 (by unfold sg; split <;> omega) (by unfold sg; split <;> omega)).mp q
  revert this
  unfold sg; split <;> omega
theorem zq_ovN {v : Bool} {m : Nat} {e : Int} (h : nB v m e) : jX0_isOver (lZ (sg v (rk m e))) = 0 := by
  have hb := rk_b h
  exact (over_0 (by unfold sg; split <;> omega) (by unfold sg; split <;> omega)).mpr (by unfold sg; split <;> omega)
theorem zq_andB : ∀ n, n < 1025 → ∀ i, i < 11 → (nI n &&& nI (2 ^ i) = 0 ↔ n / 2 ^ i % 2 = 0) := by decide +kernel
theorem zq_powL {mi : NI} {di : NL} {po : NI} {t : Nat} (ht : t < 16) {v0 : Bool} {m0 : Nat} {e0 : Int} (hm0 : mi t = bI v0) (hd0 : di t = lN m0) (hp0 : po t = iZ e0) (n0 : nB v0 m0 e0) (x2 : Int32) {n : Nat} (hn : n < 1025) (th : Int32) (fb : NI) : ∀ (p k1 k2 : Nat) (v : Bool) (m : Nat) (e : Int) (fa : NI), nB v m e → p + 1 < k1 → p + 1 < k2 → p ≤ 11 →
    (∃ (w : Bool) (b' : Int32) (mm' : Int64) (ee' : Int32) (fa' : NI), jX0_raise_L25 k1 (lZ (sg v0 (rk m0 e0))) (nI n) (lZ (sg v (rk m e))) (iZ ((p : Int) - 1)) = some (lZ (sg w ((BEY : Nat) : Int))) ∧ jX2_raised_L64 k2 th mi di po (bI v) (lN m) (iZ e) fa fb (nI t) x2 (nI n) (nI (2 ^ p / 2)) = some (-1, th, mi, di, po, b', mm', ee', fa', fb)) ∨
    (∃ (v' : Bool) (m' : Nat) (e' : Int) (fa' : NI), nB v' m' e' ∧ jX0_raise_L25 k1 (lZ (sg v0 (rk m0 e0))) (nI n) (lZ (sg v (rk m e))) (iZ ((p : Int) - 1)) = some (lZ (sg v' (rk m' e'))) ∧ jX2_raised_L64 k2 th mi di po (bI v) (lN m) (iZ e) fa fb (nI t) x2 (nI n) (nI (2 ^ p / 2)) = jX2_raised_B135 th mi di po (bI v') (lN m') (iZ e') fa' fb x2) := by
  have ho : ok (nI t) 16 = true := ok_n ht (by decide)
  intro p
  induction p with
  | zero =>
    intro k1 k2 v m e fa h hk1 hk2 _
    obtain ⟨k1, rfl⟩ : ∃ z, k1 = z + 1 := ⟨k1 - 1, by omega⟩
    obtain ⟨k2, rfl⟩ : ∃ z, k2 = z + 1 := ⟨k2 - 1, by omega⟩
    right
    refine ⟨v, m, e, fa, h, ?_, ?_⟩
    · rw [jX0_raise_L25, if_pos (show iZ (((0 : Nat) : Int) - 1) < 0 by decide)]
    · rw [jX2_raised_L64, if_pos (show nI (2 ^ 0 / 2) ≤ 0 by decide)]
  | succ i ih =>
    intro k1 k2 v m e fa h hk1 hk2 hi
    obtain ⟨k1, rfl⟩ : ∃ z, k1 = z + 1 := ⟨k1 - 1, by omega⟩
    obtain ⟨k2, rfl⟩ : ∃ z, k2 = z + 1 := ⟨k2 - 1, by omega⟩
    have hpw : 2 ^ (i + 1) / 2 = 2 ^ i := by rw [Nat.pow_succ, Nat.mul_div_cancel _ (by decide)]
    have hpb : 2 ^ i ≤ 2 ^ 10 := Nat.pow_le_pow_right (by decide) (by omega)
    have hpp := Nat.two_pow_pos i
    have hx5 : nI (2 ^ i) / 2 = nI (2 ^ i / 2) := pk_div (d := 2) (by omega) (by decide) (by decide)
    have hx6 : nI i + (-1) = iZ ((i : Int) - 1) := by rw [← iZ_N, show (-1 : Int32) = iZ (-1) from rfl, iz_add]; rfl
    have hbit : ((iu (nI n) (nI i)) &&& 1 = 1) ↔ n / 2 ^ i % 2 = 1 := by
      rw [iu_n (by omega) (by omega)]
      exact b01 _ (Nat.lt_of_le_of_lt (Nat.div_le_self _ _) (by omega))
    have hand := zq_andB n hn i (by omega)
    rw [hpw, show ((i + 1 : Nat) : Int) - 1 = ((i : Nat) : Int) by omega, iZ_N]
    rw [jX0_raise_L25, jX2_raised_L64]
    rw [if_neg (nI_pos (by omega)), if_pos (zq_ovN h), if_neg (nI_nle hpp (by omega)), hx5, hx6]
    have hstop : ∀ (w : Bool) (k : Nat) (x : Int32), jX0_raise_L25 (k + 1) (lZ (sg v0 (rk m0 e0))) (nI n) (lZ (sg w ((BEY : Nat) : Int))) x = some (lZ (sg w ((BEY : Nat) : Int))) := fun w k x => by
      rw [jX0_raise_L25]
      split
      · rfl
      · rw [if_neg (zq_ovB w)]
    obtain ⟨k1, rfl⟩ : ∃ z, k1 = z + 1 := ⟨k1 - 1, by omega⟩
    rcases zq_both (mi := mi) (di := di) (po := po) h h th fa fb with ⟨w, b', mm', ee', fa', a1, a2⟩ | ⟨v1, m1, e1, f1, a0, a1, a2⟩
    · left
      refine ⟨w, b', mm', ee', fa', ?_, ?_⟩
      · rw [a1, if_neg (zq_ovB w), hstop]
        split <;> rfl
      · rw [a2, bM_s, if_pos rfl]
    · rw [a1, if_pos (zq_ovN a0), a2, bM_s, if_neg (show ¬ (0 : Int32) = -1 by decide)]
      by_cases c : n / 2 ^ i % 2 = 1
      · rw [if_pos (hbit.mpr c), if_neg (fun q => by have := hand.mp q; omega)]
        simp only [ho, if_true]
        rw [nI_clamp (by omega), hm0, hd0, hp0]
        rcases zq_both (mi := mi) (di := di) (po := po) a0 n0 th f1 fb with ⟨w, b', mm', ee', fa', d1, d2⟩ | ⟨v3, m3, e3, f3, d0, d1, d2⟩
        · left
          refine ⟨w, b', mm', ee', fa', ?_, ?_⟩
          · rw [d1, hstop]
          · rw [d2, bM_s, if_pos rfl]
        · rw [d1, d2, bM_s, if_neg (show ¬ (0 : Int32) = -1 by decide)]
          exact ih (k1 + 1) k2 v3 m3 e3 f3 d0 (by omega) (by omega) (by omega)
      · rw [if_neg (fun q => c (hbit.mp q)), if_pos (hand.mpr (by omega))]
        exact ih (k1 + 1) k2 v1 m1 e1 f1 a0 (by omega) (by omega) (by omega)
