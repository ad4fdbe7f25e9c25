/-! set, order, digits, exponent -/
theorem wi_0 {x a b : Int32} : jX2_within x a b = 0 ↔ (x < a ∨ b < x) := by
  unfold jX2_within
  by_cases h1 : x < a
  · simp [h1]
  · by_cases h2 : b < x
    · simp [h1, h2]
    · simp [h1, h2]
theorem ok_set (g : NL) (th : Int32) (mi : NI) (di : NL) (po : NI) (be : Int32) (mm : Int64) (ee : Int32) (fa fb : NI) (x1 : Int32) (x2 : Int64) (x4 : Int32) (hR : Rel g mi di po) : OKn (jX0_set g x1 x2 x4) (jX2_set th mi di po be mm ee fa fb x1 x2 x4) ∨ OKt (tX0_set g x1 x2 x4) (jX2_set th mi di po be mm ee fa fb x1 x2 x4) g 1 1 := by
  have bad : (if (jX2_isRegister x1) = 0 then 0 else (if x2 < (-9007199254740992) then 0 else (if 9007199254740992 < x2 then 0 else (if (jX2_within x4 (-1200) 1100) = 0 then 0 else 1 : Int32) : Int32) : Int32) : Int32) = 0 → OKt (tX0_set g x1 x2 x4) (jX2_set th mi di po be mm ee fa fb x1 x2 x4) g 1 1 → OKn (jX0_set g x1 x2 x4) (jX2_set th mi di po be mm ee fa fb x1 x2 x4) ∨ OKt (tX0_set g x1 x2 x4) (jX2_set th mi di po be mm ee fa fb x1 x2 x4) g 1 1 := fun _ h => Or.inr h
  have hm : ∀ x5 : Int32, x5 = 0 → jX2_set_B44 th mi di po be mm ee fa fb x1 x2 x4 x5 = some (0, 1, mi, di, po, be, mm, ee, fa, fb) := fun x5 h => by
    unfold jX2_set_B44 jX2_set_B58
    rw [if_pos h, if_pos h]
  by_cases h1 : rok x1 = true
  · by_cases h2 : 9007199254740992 < x2
    · right
      refine ⟨0, mi, di, po, be, mm, ee, fa, fb, ?_, ?_, hR⟩
      · unfold tX0_set; rw [if_pos h1, if_pos h2]
      · unfold jX2_set
        apply hm
        by_cases q : x2 < (-9007199254740992)
        · rw [if_neg (fun z => (isr_0.mp z) h1), if_pos q]
        · rw [if_neg (fun z => (isr_0.mp z) h1), if_neg q, if_pos h2]
    · by_cases h3 : (-9007199254740992) ≤ x2
      · by_cases h4 : x4 < (-1200)
        · right
          refine ⟨0, mi, di, po, be, mm, ee, fa, fb, ?_, ?_, hR⟩
          · unfold tX0_set; rw [if_pos h1, if_neg h2, if_pos h3, if_pos h4]
          · unfold jX2_set
            apply hm
            rw [if_neg (fun z => (isr_0.mp z) h1), if_neg (Int64.not_lt.mpr h3), if_neg h2, if_pos (wi_0.mpr (Or.inl h4))]
        · by_cases h5 : x4 ≤ 1100
          · left
            have hs : jX0_set g x1 x2 x4 = jX0_keep g x1 (jX0_withSignOf (jX0_nearest (jabsl x2) x4) x2) := by
              unfold jX0_set
              rw [if_pos h1, if_neg h2, if_pos h3, if_neg h4, if_pos h5, b2_id]
            rw [hs]
            obtain ⟨t, ht, rfl, ho⟩ := rok_of h1
            obtain ⟨z, rfl, hz1, hz2⟩ : ∃ z : Int, x2 = lZ z ∧ -9007199254740992 ≤ z ∧ z ≤ 9007199254740992 := by
              refine ⟨x2.toInt, (lZ_of _).symm, ?_, ?_⟩
              · have := Int64.le_iff_toInt_le.mp h3
                rw [show (-9007199254740992 : Int64).toInt = -9007199254740992 by decide] at this
                exact this
              · have := Int64.le_iff_toInt_le.mp (Int64.not_lt.mp h2)
                rw [show (9007199254740992 : Int64).toInt = 9007199254740992 by decide] at this
                exact this
            obtain ⟨p, rfl, hp1, hp2⟩ : ∃ p : Int, x4 = iZ p ∧ -1200 ≤ p ∧ p ≤ 1100 := by
              refine ⟨x4.toInt, (iZ_of _).symm, ?_, ?_⟩
              · have := Int32.le_iff_toInt_le.mp (Int32.not_lt.mp h4)
                rw [show (-1200 : Int32).toInt = -1200 by decide] at this
                exact this
              · have := Int32.le_iff_toInt_le.mp h5
                rw [show (1100 : Int32).toInt = 1100 by decide] at this
                exact this
            have ea : (if 0 ≤ lZ z then lZ z else -lZ z : Int64) = lN z.natAbs := by
              by_cases q : 0 ≤ z
              · rw [if_pos ((l0le (by omega) (by omega)).mpr q), ← lZ_N]; congr 1; omega
              · rw [if_neg (fun w => q ((l0le (by omega) (by omega)).mp w)), ← lZ_N, lz_neg]; congr 1; omega
            have es : (if 0 ≤ lZ z then 0 else 1 : Int32) = bI (decide (z < 0)) := by
              by_cases q : 0 ≤ z
              · rw [if_pos ((l0le (by omega) (by omega)).mpr q)]; simp [show ¬ z < 0 by omega, bI]
              · rw [if_neg (fun w => q ((l0le (by omega) (by omega)).mp w))]; simp [show z < 0 by omega, bI]
            obtain ⟨f1, hf1, B1⟩ := bg_set fa (N := z.natAbs) (by omega)
            obtain ⟨m', e', hn1, hn2⟩ := near_m B1 (p := p) (by omega) (by omega) (decide (z < 0)) false 0 mi di po be mm ee fb
            have hset : jX2_set th mi di po be mm ee fa fb (nI t) (lZ z) (iZ p) = jX2_keep 0 mi di po (bI (decide (z < 0) && decide (RN z.natAbs p false ≠ 0))) (lN m') (iZ e') f1 fb (nI t) (iZ (if RN z.natAbs p false < BEY then 0 else -1)) := by
              unfold jX2_set jX2_set_B44 jX2_set_B58
              have hw : ¬ jX2_within (iZ p) (-1200) 1100 = 0 := fun w => by
                rcases wi_0.mp w with q | q
                · exact h4 q
                · exact absurd h5 (Int32.not_le.mpr q)
              have n1 : ¬ (1 : Int32) = 0 := by decide
              rw [if_neg (fun w => (isr_0.mp w) h1), if_neg (Int64.not_lt.mpr h3), if_neg h2, if_neg hw, if_neg n1, if_neg n1, ea, hf1, es, Option.bind_some, show (0 : Int32) = bI false from rfl]
              have hn1 : jX2_nearest (bI false) mi di po be mm ee f1 fb (bI (decide (z < 0))) (iZ p) (bI false) = _ := hn1
              rw [hn1, bM_s, bM_id]
              rfl
            rw [hset, jabsl_z (by omega) (by omega), near_n (by omega) (by omega) (by omega), ← lZ_N, ws_z (by omega) (by omega)]
            have hsg : (if z < 0 then -((min (RN z.natAbs p false) BEY : Nat) : Int) else ((min (RN z.natAbs p false) BEY : Nat) : Int)) = sg (decide (z < 0)) ((min (RN z.natAbs p false) BEY : Nat) : Int) := by
              unfold sg; by_cases q : z < 0 <;> simp [q]
            rw [hsg]
            exact fin_ok hR ht (decide (z < 0)) hn2 f1 fb
          · right
            refine ⟨0, mi, di, po, be, mm, ee, fa, fb, ?_, ?_, hR⟩
            · unfold tX0_set; rw [if_pos h1, if_neg h2, if_pos h3, if_neg h4, if_neg h5]
            · unfold jX2_set
              apply hm
              rw [if_neg (fun z => (isr_0.mp z) h1), if_neg (Int64.not_lt.mpr h3), if_neg h2, if_pos (wi_0.mpr (Or.inr (Int32.not_le.mp h5)))]
      · right
        refine ⟨0, mi, di, po, be, mm, ee, fa, fb, ?_, ?_, hR⟩
        · unfold tX0_set; rw [if_pos h1, if_neg h2, if_neg h3]
        · unfold jX2_set
          apply hm
          rw [if_neg (fun z => (isr_0.mp z) h1), if_pos (Int64.not_le.mp h3)]
  · right
    refine ⟨0, mi, di, po, be, mm, ee, fa, fb, ?_, ?_, hR⟩
    · unfold tX0_set; rw [if_neg h1]
    · unfold jX2_set
      apply hm
      rw [if_pos (isr_0.mpr h1)]
theorem ok_exponent (g : NL) (th : Int32) (mi : NI) (di : NL) (po : NI) (be : Int32) (mm : Int64) (ee : Int32) (fa fb : NI) (x1 : Int32) (hR : Rel g mi di po) : OKn (jX0_exponent g x1) (jX2_exponent th mi di po be mm ee fa fb x1) ∨ OKt (tX0_exponent g x1) (jX2_exponent th mi di po be mm ee fa fb x1) g 1 1 := by
  by_cases h1 : rok x1 = true
  · left
    obtain ⟨t, ht, rfl, ho⟩ := rok_of h1
    obtain ⟨v, m, e, h2, h3, h4, h5, h6⟩ := rel_get (hR t ht)
    refine ⟨iZ e, g, mi, di, po, be, mm, ee, fa, fb, ?_, ?_, hR⟩
    · unfold jX0_exponent
      rw [if_pos h1, if_pos ho, nI_clamp (by omega), h5, (mo_n h6).2]
    · unfold jX2_exponent
      rw [if_neg (fun z => (isr_0.mp z) h1), if_pos (by decide), if_pos ho, nI_clamp (by omega), h4]
  · right
    refine ⟨0, mi, di, po, be, mm, ee, fa, fb, ?_, ?_, hR⟩
    · unfold tX0_exponent; rw [if_neg h1]
    · unfold jX2_exponent
      rw [if_pos (isr_0.mpr h1), if_neg (by decide)]
theorem sg_neg {v : Bool} {m : Nat} {e : Int} (h : nB v m e) : sg v (rk m e) < 0 ↔ v = true := by
  have := rk_b h
  unfold sg
  cases v with
  | true => rw [if_pos rfl]; have := this.2.2 rfl; constructor
            · intro _; rfl
            · intro _; omega
  | false => rw [if_neg (by decide)]; constructor
             · intro q; omega
             · intro q; exact absurd q (by decide)
theorem ok_digits (g : NL) (th : Int32) (mi : NI) (di : NL) (po : NI) (be : Int32) (mm : Int64) (ee : Int32) (fa fb : NI) (x1 : Int32) (hR : Rel g mi di po) : OKn (jX0_digits g x1) (jX2_digits th mi di po be mm ee fa fb x1) ∨ OKt (tX0_digits g x1) (jX2_digits th mi di po be mm ee fa fb x1) g 1 1 := by
  by_cases h1 : rok x1 = true
  · left
    obtain ⟨t, ht, rfl, ho⟩ := rok_of h1
    obtain ⟨v, m, e, h2, h3, h4, h5, h6⟩ := rel_get (hR t ht)
    have hb := rk_b h6
    refine ⟨lZ (sg v m), g, mi, di, po, be, mm, ee, fa, fb, ?_, ?_, hR⟩
    · unfold jX0_digits
      rw [if_pos h1, if_pos ho, if_pos ho, nI_clamp (by omega), h5, (mo_n h6).1, ← lZ_N, ws_z (by unfold sg; split <;> omega) (by unfold sg; split <;> omega)]
      have : (if sg v (rk m e) < 0 then -(m : Int) else (m : Int)) = sg v m := by
        cases v with
        | true => rw [if_pos ((sg_neg h6).mpr rfl)]; rfl
        | false => rw [if_neg (fun q => absurd ((sg_neg h6).mp q) (by decide))]; rfl
      rw [this]
    · unfold jX2_digits
      rw [if_neg (fun z => (isr_0.mp z) h1), if_pos (by decide), if_pos ho, nI_clamp (by omega), h2, h3]
      cases v with
      | true => rw [if_neg (by decide), if_pos ho, ← lZ_N, lz_neg]; rfl
      | false => rw [if_pos (by decide), if_pos ho, ← lZ_N]; rfl
  · right
    refine ⟨0, mi, di, po, be, mm, ee, fa, fb, ?_, ?_, hR⟩
    · unfold tX0_digits; rw [if_neg h1]
    · unfold jX2_digits
      rw [if_pos (isr_0.mpr h1), if_neg (by decide)]
/-- the order of two ranks -/
def cmpZ (a b : Int) : Int := if a < b then -1 else if a = b then 0 else 1
theorem sizes_n {mi : NI} {di : NL} {po : NI} {t u : Nat} (ht : t < 16) (hu : u < 16) {m1 m2 : Nat} {e1 e2 : Int} {v1 v2 : Bool} (hd1 : di t = lN m1) (hp1 : po t = iZ e1) (hd2 : di u = lN m2) (hp2 : po u = iZ e2) (n1 : nB v1 m1 e1) (n2 : nB v2 m2 e2) (th be : Int32) (mm : Int64) (ee : Int32) (fa fb : NI) :
    jX2_sizes th mi di po be mm ee fa fb (nI t) (nI u) = some (iZ (cmpZ (rk m1 e1) (rk m2 e2)), th, mi, di, po, be, mm, ee, fa, fb) := by
  have ho : ok (nI t) 16 = true := ok_n ht (by decide)
  have hou : ok (nI u) 16 = true := ok_n hu (by decide)
  obtain ⟨a1, a2, a3, a4, a5⟩ := n1
  obtain ⟨b1, b2, b3, b4, b5⟩ := n2
  unfold jX2_sizes
  rw [nI_clamp (by omega), nI_clamp (by omega), hd1, hd2, hp1, hp2]
  have z1 : (lN m1 = 0) ↔ m1 = 0 := ln0 (by omega)
  have z2 : (lN m2 = 0) ↔ m2 = 0 := ln0 (by omega)
  have z3 : (lN m1 = lN m2) ↔ m1 = m2 := ln_eq (by omega) (by omega)
  have z4 : (lN m2 ≤ lN m1) ↔ m2 ≤ m1 := ln_le (by omega) (by omega)
  have z5 : (iZ e1 = iZ e2) ↔ e1 = e2 := iz_eq (by omega) (by omega) (by omega) (by omega)
  have z6 : (iZ e2 ≤ iZ e1) ↔ e2 ≤ e1 := iz_le (by omega) (by omega) (by omega) (by omega)
  simp only [ho, hou, if_true, z1, z2, z3, z4, z5, z6]
  unfold cmpZ rk
  by_cases c1 : m1 = 0
  · by_cases c2 : m1 = m2
    · rw [if_pos c1, if_pos c2, if_neg (by omega), if_pos (by omega)]; rfl
    · rw [if_pos c1, if_neg c2, if_pos c1, if_pos (by omega)]; rfl
  · by_cases c2 : m2 = 0
    · rw [if_neg c1, if_pos c2, if_neg (by omega), if_neg c1, if_neg (by omega), if_neg (by omega)]; rfl
    · rw [if_neg c1, if_neg c2]
      by_cases c3 : e1 = e2
      · rw [if_pos c3]
        by_cases c4 : m2 ≤ m1
        · rw [if_pos c4]
          by_cases c5 : m1 = m2
          · rw [if_pos c5, if_neg (by omega), if_pos (by omega)]; rfl
          · rw [if_neg c5, if_neg (by omega), if_neg (by omega)]; rfl
        · rw [if_neg c4, if_pos (by omega)]; rfl
      · rw [if_neg c3]
        by_cases c4 : e2 ≤ e1
        · rw [if_pos c4, if_neg (by omega), if_neg (by omega)]; rfl
        · rw [if_neg c4, if_pos (by omega)]; rfl
theorem compare_n {g : NL} {mi : NI} {di : NL} {po : NI} (hR : Rel g mi di po) {t u : Nat} (ht : t < 16) (hu : u < 16) (th be : Int32) (mm : Int64) (ee : Int32) (fa fb : NI) :
    jX2_compareNumbers th mi di po be mm ee fa fb (nI t) (nI u) = some (iZ (cmpZ (g t).toInt (g u).toInt), th, mi, di, po, be, mm, ee, fa, fb) := by
  have ho : ok (nI t) 16 = true := ok_n ht (by decide)
  have hou : ok (nI u) 16 = true := ok_n hu (by decide)
  obtain ⟨v1, m1, e1, h12, h13, h14, h15, h16⟩ := rel_get (hR t ht)
  obtain ⟨v2, m2, e2, h22, h23, h24, h25, h26⟩ := rel_get (hR u hu)
  have k1 := rk_b h16
  have k2 := rk_b h26
  unfold jX2_compareNumbers
  rw [sizes_n ht hu h13 h14 h23 h24 h16 h26, bM_s]
  simp only [ho, hou, if_true]
  rw [nI_clamp (by omega), nI_clamp (by omega), h12, h22, h15, h25, lZ_t (by unfold sg; split <;> omega) (by unfold sg; split <;> omega), lZ_t (by unfold sg; split <;> omega) (by unfold sg; split <;> omega)]
  cases v1 <;> cases v2
  · rw [if_pos rfl, if_pos (show bI false = 0 from rfl)]; rfl
  · have hk := k2.2.2 rfl
    have hc : cmpZ (rk m1 e1) (-(rk m2 e2)) = 1 := by unfold cmpZ; rw [if_neg (by omega), if_neg (by omega)]
    rw [if_neg (show ¬ bI false = bI true by decide), if_pos (show bI false = 0 from rfl), show sg false (rk m1 e1) = rk m1 e1 from rfl, show sg true (rk m2 e2) = -(rk m2 e2) from rfl, hc]; rfl
  · have hk := k1.2.2 rfl
    have hc : cmpZ (-(rk m1 e1)) (rk m2 e2) = -1 := by unfold cmpZ; rw [if_pos (by omega)]
    rw [if_neg (show ¬ bI true = bI false by decide), if_neg (show ¬ bI true = 0 by decide), show sg true (rk m1 e1) = -(rk m1 e1) from rfl, show sg false (rk m2 e2) = rk m2 e2 from rfl, hc]; rfl
  · have hc : cmpZ (-(rk m1 e1)) (-(rk m2 e2)) = -(cmpZ (rk m1 e1) (rk m2 e2)) := by
      unfold cmpZ
      by_cases c1 : rk m1 e1 < rk m2 e2
      · rw [if_pos c1, if_neg (by omega), if_neg (by omega)]; rfl
      · rw [if_neg c1]
        by_cases c2 : rk m1 e1 = rk m2 e2
        · rw [if_pos c2, if_neg (by omega), if_pos (by omega)]; rfl
        · rw [if_neg c2, if_pos (by omega)]
    rw [if_pos rfl, if_neg (show ¬ bI true = 0 by decide), show sg true (rk m1 e1) = -(rk m1 e1) from rfl, show sg true (rk m2 e2) = -(rk m2 e2) from rfl, hc, iz_neg]
theorem ok_order (g : NL) (th : Int32) (mi : NI) (di : NL) (po : NI) (be : Int32) (mm : Int64) (ee : Int32) (fa fb : NI) (x1 : Int32) (x2 : Int32) (hR : Rel g mi di po) : OKn (jX0_order g x1 x2) (jX2_order th mi di po be mm ee fa fb x1 x2) ∨ OKt (tX0_order g x1 x2) (jX2_order th mi di po be mm ee fa fb x1 x2) g 1 1 := by
  by_cases h1 : rok x1 = true
  · by_cases h2 : rok x2 = true
    · left
      obtain ⟨t, ht, rfl, ho⟩ := rok_of h1
      obtain ⟨u, hu, rfl, hou⟩ := rok_of h2
      refine ⟨iZ (cmpZ (g t).toInt (g u).toInt), g, mi, di, po, be, mm, ee, fa, fb, ?_, ?_, hR⟩
      · unfold jX0_order
        rw [if_pos h1, if_pos h2, if_pos ho, if_pos hou, if_pos ho, if_pos hou, nI_clamp (by omega), nI_clamp (by omega)]
        unfold cmpZ
        by_cases c1 : g t = g u
        · rw [if_pos c1, if_neg (by rw [c1]; omega), if_pos (by rw [c1])]; rfl
        · have c1' : ¬ (g t).toInt = (g u).toInt := fun q => c1 (Int64.toInt_inj.mp q)
          rw [if_neg c1]
          by_cases c2 : g u ≤ g t
          · have := Int64.le_iff_toInt_le.mp c2
            rw [if_pos c2, if_neg (by omega), if_neg c1']; rfl
          · have : ¬ (g u).toInt ≤ (g t).toInt := fun q => c2 (Int64.le_iff_toInt_le.mpr q)
            rw [if_neg c2, if_pos (by omega)]; rfl
      · unfold jX2_order jX2_order_B23
        rw [if_neg (fun z => (isr_0.mp z) h1), if_neg (fun z => (isr_0.mp z) h2), if_pos (by decide), bM_id]
        exact compare_n hR ht hu _ _ _ _ _ _
    · right
      refine ⟨0, mi, di, po, be, mm, ee, fa, fb, ?_, ?_, hR⟩
      · unfold tX0_order; rw [if_pos h1, if_neg h2]
      · unfold jX2_order jX2_order_B23
        rw [if_neg (fun z => (isr_0.mp z) h1), if_pos (isr_0.mpr h2), if_neg (by decide)]
  · right
    refine ⟨0, mi, di, po, be, mm, ee, fa, fb, ?_, ?_, hR⟩
    · unfold tX0_order; rw [if_neg h1]
    · unfold jX2_order jX2_order_B23
      rw [if_pos (isr_0.mpr h1), if_neg (by decide)]
