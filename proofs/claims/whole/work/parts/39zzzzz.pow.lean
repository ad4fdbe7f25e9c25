/-! powers -/
theorem zq_mul {mi : NI} {di : NL} {po : NI} {v1 v2 : Bool} {m1 m2 : Nat} {e1 e2 : Int} (n1 : nB v1 m1 e1) (n2 : nB v2 m2 e2) (th : Int32) (fa fb : NI) :
    ∃ (m' : Nat) (e' : Int) (fa' : NI), jX2_multiply th mi di po (bI v1) (lN m1) (iZ e1) fa fb (bI v2) (lN m2) (iZ e2) = some (iZ (if RN (m1 * m2) (e1 + e2) false < BEY then 0 else -1), th, mi, di, po, bI ((v1 != v2) && decide (RN (m1 * m2) (e1 + e2) false ≠ 0)), lN m', iZ e', fa', fb) ∧ nrm m' e' (RN (m1 * m2) (e1 + e2) false) := by
  have q1 := n1.1
  have q2 := n2.1
  have g1 := n1.2.1
  have g2 := n1.2.2.1
  have g3 := n2.2.1
  have g4 := n2.2.2.1
  obtain ⟨f1, h1, B1⟩ := bg_product fa (x := m1) (y := m2) (by omega) (by omega)
  obtain ⟨m', e', k1, k2⟩ := near_m B1 (p := e1 + e2) (by omega) (by omega) (v1 != v2) false th mi di po (bI v1) (lN m1) (iZ e1) fb
  refine ⟨m', e', f1, ?_, k2⟩
  unfold jX2_multiply
  rw [h1, Option.bind_some, bM_id, ne_bI, iz_add]
  exact k1
/-- a product on both sides: over, or a register again -/
theorem zq_both {mi : NI} {di : NL} {po : NI} {v1 v2 : Bool} {m1 m2 : Nat} {e1 e2 : Int} (n1 : nB v1 m1 e1) (n2 : nB v2 m2 e2) (th : Int32) (fa fb : NI) :
    (∃ (w : Bool) (b' : Int32) (mm' : Int64) (ee' : Int32) (fa' : NI), jX0_product (lZ (sg v1 (rk m1 e1))) (lZ (sg v2 (rk m2 e2))) = lZ (sg w ((BEY : Nat) : Int)) ∧ jX2_multiply th mi di po (bI v1) (lN m1) (iZ e1) fa fb (bI v2) (lN m2) (iZ e2) = some (-1, th, mi, di, po, b', mm', ee', fa', fb)) ∨
    (∃ (v : Bool) (m : Nat) (e : Int) (fa' : NI), nB v m e ∧ jX0_product (lZ (sg v1 (rk m1 e1))) (lZ (sg v2 (rk m2 e2))) = lZ (sg v (rk m e)) ∧ jX2_multiply th mi di po (bI v1) (lN m1) (iZ e1) fa fb (bI v2) (lN m2) (iZ e2) = some (0, th, mi, di, po, bI v, lN m, iZ e, fa', fb)) := by
  obtain ⟨m', e', fa', k1, k2⟩ := zq_mul (mi := mi) (di := di) (po := po) n1 n2 th fa fb
  have hp := cs_prod n1 n2
  by_cases c : RN (m1 * m2) (e1 + e2) false < BEY
  · right
    obtain ⟨q1, q2⟩ := nrm_nB (v1 != v2) k2 c
    rw [if_pos c] at k1
    refine ⟨_, m', e', fa', q1, ?_, k1⟩
    rw [hp, Nat.min_eq_left (Nat.le_of_lt c), q2]
    by_cases d : RN (m1 * m2) (e1 + e2) false = 0
    · have : rk m' e' = 0 := by omega
      rw [this]; unfold sg; simp
    · simp [d]
  · left
    rw [if_neg c] at k1
    rw [Nat.min_eq_right (Nat.not_lt.mp c)] at hp
    exact ⟨_, _, _, _, _, hp, k1⟩
theorem zq_ovB (w : Bool) : ¬ jX0_isOver (lZ (sg w ((BEY : Nat) : Int))) = 0 := fun q => by
  have hB : ((BEY : Nat) : Int) = 9218868437227405312 := rfl
  have := (over_0 (by unfold sg; split <;> omega) (by unfold sg; split <;> omega)).mp q
  revert this
  unfold sg; split <;> omega
theorem zq_ovN {v : Bool} {m : Nat} {e : Int} (h : nB v m e) : jX0_isOver (lZ (sg v (rk m e))) = 0 := by
  have hb := rk_b h
  exact (over_0 (by unfold sg; split <;> omega) (by unfold sg; split <;> omega)).mpr (by unfold sg; split <;> omega)
