/-! the model's error of a product; combine -/
theorem ms_perr {mi : NI} {di : NL} {po : NI} {t u : Nat} (ht : t < 16) (hu : u < 16) {v1 v2 : Bool} {m1 m2 : Nat} {e1 e2 : Int} (hm1 : mi t = bI v1) (hd1 : di t = lN m1) (hp1 : po t = iZ e1) (n1 : nB v1 m1 e1) (hm2 : mi u = bI v2) (hd2 : di u = lN m2) (hp2 : po u = iZ e2) (n2 : nB v2 m2 e2) (th be : Int32) (mm : Int64) (ee : Int32) (fa fb : NI) :
    (¬ RN (m1 * m2) (e1 + e2) false < BEY → ∃ (b' : Int32) (mm' : Int64) (ee' : Int32) (fa' fb' : NI), jX2_productError th mi di po be mm ee fa fb (nI t) (nI u) = some (-1, th, mi, di, po, b', mm', ee', fa', fb')) ∧
    (RN (m1 * m2) (e1 + e2) false < BEY → (m1 = 0 ∨ m2 = 0) → ∃ (m' : Nat) (e' : Int) (fa' : NI), jX2_productError th mi di po be mm ee fa fb (nI t) (nI u) = some (0, th, mi, di, po, bI false, lN m', iZ e', fa', fb) ∧ nrm m' e' 0) ∧
    (RN (m1 * m2) (e1 + e2) false < BEY → m1 ≠ 0 → m2 ≠ 0 → ¬ -960 ≤ (bl (m1 * m2) : Int) - 1 + (e1 + e2) → ∃ (b' : Int32) (mm' : Int64) (ee' : Int32) (fa' fb' : NI), jX2_productError th mi di po be mm ee fa fb (nI t) (nI u) = some (-4, th, mi, di, po, b', mm', ee', fa', fb')) ∧
    (RN (m1 * m2) (e1 + e2) false < BEY → m1 ≠ 0 → m2 ≠ 0 → -960 ≤ (bl (m1 * m2) : Int) - 1 + (e1 + e2) → ∃ (mr R : Nat) (er : Int) (m' : Nat) (e' : Int) (fa' fb' : NI), nrm mr er (RN (m1 * m2) (e1 + e2) false) ∧ mr * 2 ^ (er + 1074).toNat = R * 2 ^ (e1 + e2 + 1074).toNat ∧ rnd (m1 * m2 * 2 ^ (e1 + e2 + 1074).toNat) = R * 2 ^ (e1 + e2 + 1074).toNat ∧ -1074 ≤ e1 + e2 ∧ RN (m1 * m2) (e1 + e2) false ≠ 0 ∧
      jX2_productError th mi di po be mm ee fa fb (nI t) (nI u) = some (iZ (if RN (zq_D (m1 * m2) R) (e1 + e2) false < BEY then 0 else -1), th, mi, di, po, bI (((v1 != v2) != decide (m1 * m2 < R)) && decide (RN (zq_D (m1 * m2) R) (e1 + e2) false ≠ 0)), lN m', iZ e', fa', fb') ∧ nrm m' e' (RN (zq_D (m1 * m2) R) (e1 + e2) false)) := by
  have ho : ok (nI t) 16 = true := ok_n ht (by decide)
  have hou : ok (nI u) 16 = true := ok_n hu (by decide)
  obtain ⟨mr, er, f1, h1, h2, h3⟩ := ms_prod ht hu hm1 hd1 hp1 n1 hm2 hd2 hp2 n2 th be mm ee fa fb
  have g1 := n1.2.1
  have g2 := n1.2.2.1
  have g3 := n2.2.1
  have g4 := n2.2.2.1
  have z1 : (lN m1 = 0) ↔ m1 = 0 := ln0 (by have := n1.1; omega)
  have z2 : (lN m2 = 0) ↔ m2 = 0 := ln0 (by have := n2.1; omega)
  have hbl := bl_le h3.1
  have hcmp : ((-960 : Int32) ≤ ((nI (bl (m1 * m2)) - 1) + (iZ e1 + iZ e2))) ↔ -960 ≤ (bl (m1 * m2) : Int) - 1 + (e1 + e2) := by
    rw [← iZ_N, show (1 : Int32) = iZ 1 from rfl, iz_sub, iz_add, iz_add, show (-960 : Int32) = iZ (-960) from rfl, iz_le (by omega) (by omega) (by omega) (by omega)]
  have hE : jX2_productError th mi di po be mm ee fa fb (nI t) (nI u) = (if iZ (if RN (m1 * m2) (e1 + e2) false < BEY then 0 else -1) = (-1) then some ((-1), th, mi, di, po, bI ((v1 != v2) && decide (RN (m1 * m2) (e1 + e2) false ≠ 0)), lN mr, iZ er, f1, fb) else (if m1 = 0 then jX2_settle th mi di po (bI ((v1 != v2) && decide (RN (m1 * m2) (e1 + e2) false ≠ 0))) (lN mr) (iZ er) f1 fb else (if m2 = 0 then jX2_settle th mi di po (bI ((v1 != v2) && decide (RN (m1 * m2) (e1 + e2) false ≠ 0))) (lN mr) (iZ er) f1 fb else (if -960 ≤ (bl (m1 * m2) : Int) - 1 + (e1 + e2) then (bMv (jX2_lower th mi di po (bI ((v1 != v2) && decide (RN (m1 * m2) (e1 + e2) false ≠ 0))) (lN mr) (iZ er) f1 fb (iZ (e1 + e2))) fun th_4 mi_4 di_4 po_4 be_4 mm_4 ee_4 fa_4 fb_4 => jX2_errorOf th_4 mi_4 di_4 po_4 be_4 mm_4 ee_4 fa_4 fb_4 be_4 (iZ (e1 + e2))) else some ((-4), th, mi, di, po, bI ((v1 != v2) && decide (RN (m1 * m2) (e1 + e2) false ≠ 0)), lN mr, iZ er, f1, fb))))) := by
    unfold jX2_productError
    rw [h1, bM_s]
    simp only [ho, hou, if_true, bM_id]
    rw [nI_clamp (by omega), nI_clamp (by omega), hd1, hd2, hp1, hp2, bg_length h3, b2_s]
    simp only [z1, z2, hcmp]
    simp only [iz_add]
  rw [hE]
  refine ⟨fun q => ?_, fun q r => ?_, fun q r1 r2 r3 => ?_, fun q r1 r2 r3 => ?_⟩
  · rw [if_pos ((zq_r1 _).mpr q)]; exact ⟨_, _, _, _, _, rfl⟩
  · rw [if_neg (fun w => (zq_r1 _).mp w q)]
    have hN : m1 * m2 = 0 := by rcases r with r | r <;> simp [r]
    rw [hN, RN_0] at h2 ⊢
    obtain ⟨a1, a2, a3, a4⟩ := h2
    have hmr : mr = 0 := by omega
    have her : er = -1074 := by omega
    subst hmr; subst her
    obtain ⟨m', e', k1, k2⟩ := settle_n th mi di po (bI ((v1 != v2) && decide (0 ≠ 0))) f1 fb 0 (-1074) (by omega) (by omega) (by omega)
    rw [RN_0] at k1 k2
    refine ⟨m', e', f1, ?_, k2⟩
    have hk : jX2_settle th mi di po (bI ((v1 != v2) && decide ((0 : Nat) ≠ 0))) (lN 0) (iZ (-1074)) f1 fb = some (0, th, mi, di, po, bI false, lN m', iZ e', f1, fb) := k1
    rcases r with r | r
    · rw [if_pos r]; exact hk
    · by_cases c : m1 = 0
      · rw [if_pos c]; exact hk
      · rw [if_neg c, if_pos r]; exact hk
  · rw [if_neg (fun w => (zq_r1 _).mp w q), if_neg r1, if_neg r2, if_neg r3]; exact ⟨_, _, _, _, _, rfl⟩
  · rw [if_neg (fun w => (zq_r1 _).mp w q), if_neg r1, if_neg r2, if_pos r3]
    have b1 := bl_le (N := m1 * m2) (n := 106) (by
      have h5 : m1 * m2 < 2 ^ 53 * 2 ^ 53 := Nat.mul_lt_mul'' n1.1 n2.1
      omega)
    have hp : -1074 ≤ e1 + e2 := by omega
    obtain ⟨R, hR1, hR2⟩ := zq_punit hp h2
    have her := (nrm_over h2).mpr q
    obtain ⟨a1, a2, a3, a4⟩ := id h2
    have hm0 : m1 * m2 ≠ 0 := fun w => by rcases Nat.mul_eq_zero.mp w with h | h; exact r1 h; exact r2 h
    have hne : RN (m1 * m2) (e1 + e2) false ≠ 0 := fun w => by
      have hs : RN (m1 * m2) (e1 + e2) false = RN (m1 * m2 * 2 ^ (e1 + e2 + 1074).toNat) (-1074) false := by rw [RN_s]; congr 1; omega
      rw [hs] at w
      have := zq_RA0.mp w
      have := Nat.mul_pos (Nat.pos_of_ne_zero hm0) (Nat.two_pow_pos (e1 + e2 + 1074).toNat)
      omega
    have hv : ((v1 != v2) && decide (RN (m1 * m2) (e1 + e2) false ≠ 0)) = (v1 != v2) := by simp [hne]
    rw [zq_low (by omega) (by omega) a2 her a1, bMv_s, hv]
    have hlm : mr / 2 ^ (e1 + e2 - er).toNat < 2 ^ 53 := Nat.lt_of_le_of_lt (Nat.div_le_self _ _) a1
    obtain ⟨m9, e9, fa9, fb9, j1, j2⟩ := zq_err (th := th) (mi := mi) (di := di) (po := po) (be := bI (v1 != v2)) (fb := fb) h3 hlm (show e1 + e2 ≤ max er (e1 + e2) by omega) (by omega) (zq_low_R a2 hp hR1) (by omega) (by omega) (v1 != v2)
    exact ⟨mr, R, er, m9, e9, fa9, fb9, h2, hR1, hR2, hp, hne, j1, j2⟩
