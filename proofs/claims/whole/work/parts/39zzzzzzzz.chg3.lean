/-! change: the root (kind 2), and all kinds -/
theorem zq_h2 {g : NL} {mi : NI} {di : NL} {po : NI} (hR : Rel g mi di po) {t0 t : Nat} (h0 : t0 < 16) (ht : t < 16) (be : Int32) (mm : Int64) (ee : Int32) (fa fb : NI) :
    OKn (jX0_changeRank g (nI t0) (nI 2) (g t)) (bM (jX2_changed 0 mi di po be mm ee fa fb (nI 2) (nI t)) fun r_1 th_1 mi_1 di_1 po_1 be_1 mm_1 ee_1 fa_1 fb_1 => jX2_keep th_1 mi_1 di_1 po_1 be_1 mm_1 ee_1 fa_1 fb_1 (nI t0) r_1) := by
  have ho : ok (nI t) 16 = true := ok_n ht (by decide)
  obtain ⟨v, m, e, h2, h3, h4, h5, h6⟩ := rel_get (hR t ht)
  have hm := h6.1
  have hge := ge_sg h6
  have hX : jX0_changeRank g (nI t0) (nI 2) (g t) = (if 0 ≤ g t then ((jX0_root (g t)).bind fun r_3 => jX0_keep g (nI t0) r_3) else some ((-3), g)) := by
    unfold jX0_changeRank
    rw [if_neg (show ¬ nI 2 = 0 by decide), if_neg (show ¬ nI 2 = 1 by decide), if_pos (show nI 2 = 2 by decide)]
    simp only [b2_id]
  have hM : jX2_changed 0 mi di po be mm ee fa fb (nI 2) (nI t) = (if bI v = 0 then (if lN m = 0 then jX2_pick 0 mi di po be mm ee fa fb (nI t) else jX2_root 0 mi di po be mm ee fa fb (nI t)) else some ((-3), 0, mi, di, po, be, mm, ee, fa, fb)) := by
    unfold jX2_changed
    rw [if_neg (show ¬ nI 2 = 0 by decide), if_neg (show ¬ nI 2 = 1 by decide), if_pos (show nI 2 = 2 by decide), if_pos ho, nI_clamp (by omega), h2, h3]
    simp only [bM_id, ho, if_true]
  rw [h5] at hX
  cases v with
  | true =>
    rw [if_neg (fun q => by have := hge.mp q; exact absurd this (by decide))] at hX
    rw [if_neg (show ¬ bI true = 0 by decide)] at hM
    rw [h5]
    exact zq_finK hR (by decide) hX hM
  | false =>
    rw [if_pos (hge.mpr rfl)] at hX
    rw [if_pos (show bI false = 0 from rfl)] at hM
    have hz : (lN m = 0) ↔ m = 0 := ln0 (by omega)
    by_cases c : m = 0
    · rw [if_pos (hz.mpr c)] at hM
      have hr : jX0_root (lZ (sg false (rk m e))) = some (lZ (sg false (rk m e))) := by
        have hs := (sg_0 h6).mpr c
        rw [hs]; rfl
      rw [hr, Option.bind_some] at hX
      unfold jX2_pick at hM
      rw [take_n ht h2, bMv_s, h3, h4] at hM
      rw [h5]
      exact zq_finR hR h0 h6 hX hM
    · rw [if_neg (fun q => c (hz.mp q))] at hM
      obtain ⟨a, r, q, a1, a2, a3, a4, a5, a6⟩ := zq_csroot h6 c
      obtain ⟨b, r2, q2, m', e', fa', fb', b1, b2, b3, b4, b5, b6, b7⟩ := zq_msroot ht h3 h4 h6 c 0 be mm ee fa fb
      have hab : a < b := Nat.lt_of_not_le fun w => by
        have : m * 2 ^ b ≤ m * 2 ^ a := Nat.mul_le_mul_left _ (Nat.pow_le_pow_right (by decide) w)
        omega
      obtain ⟨j, hj⟩ : ∃ j : Nat, b = a + 2 * j := ⟨(b - a) / 2, by omega⟩
      have hN : m * 2 ^ b = m * 2 ^ a * 2 ^ (2 * j) := by rw [hj, Nat.pow_add, ← Nat.mul_assoc]
      have hr55 : 2 ^ 55 ≤ r := by
        have : 2 ^ 55 < r + 1 := zq_sqlt (Nat.lt_of_le_of_lt (by
          have : 2 ^ 55 * 2 ^ 55 = 2 ^ 110 := by decide
          omega) a5)
        omega
      rw [hN] at b4 b5 b6 b7
      have hE := zq_RNroot (p := q2) a4 a5 b4 b5 hr55
      rw [show q2 + (j : Int) = q by omega] at hE
      rw [a6, Option.bind_some, hE] at hX
      rw [b6] at hM
      rw [h5]
      refine zq_finC (v := false) hR h0 b7 ?_ hM
      rw [hX, ← lZ_N]
      rfl
theorem ok_change (g : NL) (th : Int32) (mi : NI) (di : NL) (po : NI) (be : Int32) (mm : Int64) (ee : Int32) (fa fb : NI) (x1 : Int32) (x2 : Int32) (x3 : Int32) (hR : Rel g mi di po) : OKn (jX0_change g x1 x2 x3) (jX2_change th mi di po be mm ee fa fb x1 x2 x3) ∨ OKt (tX0_change g x1 x2 x3) (jX2_change th mi di po be mm ee fa fb x1 x2 x3) g 1 1 := by
  have hbad : ∀ f : Int32, f = 1 → jX2_change_B33 f mi di po be mm ee fa fb x1 x2 x3 = some (0, 1, mi, di, po, be, mm, ee, fa, fb) := fun f hf => by
    unfold jX2_change_B33
    rw [hf, if_neg (by decide)]
  by_cases h1 : rok x1 = true
  · by_cases h3 : rok x3 = true
    · by_cases h2 : kok x2 = true
      · left
        obtain ⟨t0, ht0, rfl, -⟩ := rok_of h1
        obtain ⟨t, ht, rfl, ho⟩ := rok_of h3
        obtain ⟨q1, q2⟩ := of_decide_eq_true h2
        have hw : ¬ jX2_within x2 0 8 = 0 := fun w => by
          rcases wi_0.mp w with q | q
          · exact q1 q
          · exact absurd q2 (Int32.not_le.mpr q)
        obtain ⟨k, hk, rfl⟩ := nI_of2 (M := 8) (n := 8) rfl q1 q2
        have hX : jX0_change g (nI t0) (nI k) (nI t) = jX0_changeRank g (nI t0) (nI k) (g t) := by
          unfold jX0_change
          rw [if_pos h1, if_pos h3, if_pos h2, if_pos ho, b2_id, nI_clamp (by omega)]
        have hM : jX2_change th mi di po be mm ee fa fb (nI t0) (nI k) (nI t) = bM (jX2_changed 0 mi di po be mm ee fa fb (nI k) (nI t)) fun r_1 th_1 mi_1 di_1 po_1 be_1 mm_1 ee_1 fa_1 fb_1 => jX2_keep th_1 mi_1 di_1 po_1 be_1 mm_1 ee_1 fa_1 fb_1 (nI t0) r_1 := by
          unfold jX2_change jX2_change_B33
          rw [if_neg (fun z => (isr_0.mp z) h1), if_neg (fun z => (isr_0.mp z) h3), if_neg hw, if_pos (by decide)]
          simp only [bM_id]
        rw [hX, hM]
        rcases (show k = 0 ∨ k = 1 ∨ k = 2 ∨ k = 3 ∨ k = 4 ∨ k = 5 ∨ k = 6 ∨ k = 7 ∨ k = 8 by omega) with rfl | rfl | rfl | rfl | rfl | rfl | rfl | rfl | rfl
        · exact zq_h0 hR ht0 ht be mm ee fa fb
        · exact zq_h1 hR ht0 ht be mm ee fa fb
        · exact zq_h2 hR ht0 ht be mm ee fa fb
        · exact zq_h3 hR ht0 ht be mm ee fa fb
        · exact zq_h4 hR ht0 ht be mm ee fa fb
        · exact zq_h5 hR ht0 ht be mm ee fa fb
        · exact zq_h6 hR ht0 ht be mm ee fa fb
        · refine zq_hn hR ht0 ht be mm ee fa fb true ?_ ?_
          · unfold jX0_changeRank
            rw [if_neg (by decide), if_neg (by decide), if_neg (by decide), if_neg (by decide), if_neg (by decide), if_neg (by decide), if_neg (by decide), if_pos (by decide), b2_id, if_pos rfl]
          · unfold jX2_changed
            rw [if_neg (by decide), if_neg (by decide), if_neg (by decide), if_pos (by decide), bM_id]
            rfl
        · refine zq_hn hR ht0 ht be mm ee fa fb false ?_ ?_
          · unfold jX0_changeRank
            rw [if_neg (by decide), if_neg (by decide), if_neg (by decide), if_neg (by decide), if_neg (by decide), if_neg (by decide), if_neg (by decide), if_neg (by decide), b2_id, if_neg (by decide)]
          · unfold jX2_changed
            rw [if_neg (by decide), if_neg (by decide), if_neg (by decide), if_neg (by decide), if_pos (by decide), bM_id]
            rfl
      · right
        refine ⟨0, mi, di, po, be, mm, ee, fa, fb, ?_, ?_, hR⟩
        · unfold tX0_change; rw [if_pos h1, if_pos h3, if_neg h2]
        · unfold jX2_change
          apply hbad
          have hw : jX2_within x2 0 8 = 0 := wi_0.mpr (by
            by_cases q : x2 < 0
            · exact Or.inl q
            · right
              apply Int32.not_le.mp
              intro q2
              exact h2 (decide_eq_true ⟨q, q2⟩))
          rw [if_neg (fun z => (isr_0.mp z) h1), if_neg (fun z => (isr_0.mp z) h3), if_pos hw]
    · right
      refine ⟨0, mi, di, po, be, mm, ee, fa, fb, ?_, ?_, hR⟩
      · unfold tX0_change; rw [if_pos h1, if_neg h3]
      · unfold jX2_change
        apply hbad
        rw [if_neg (fun z => (isr_0.mp z) h1), if_pos (isr_0.mpr h3)]
  · right
    refine ⟨0, mi, di, po, be, mm, ee, fa, fb, ?_, ?_, hR⟩
    · unfold tX0_change; rw [if_neg h1]
    · unfold jX2_change
      apply hbad
      rw [if_pos (isr_0.mpr h1)]
