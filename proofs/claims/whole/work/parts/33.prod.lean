/-! products and quotients -/
theorem rk_0 {v : Bool} {m : Nat} {e : Int} (h : nB v m e) : rk m e = 0 ↔ m = 0 := by
  obtain ⟨h1, h2, h3, h4, h5⟩ := h
  unfold rk
  omega
theorem sg_0 {v : Bool} {m : Nat} {e : Int} (h : nB v m e) : (lZ (sg v (rk m e)) = 0) ↔ m = 0 := by
  have hb := rk_b h
  rw [leq0 (by unfold sg; split <;> omega) (by unfold sg; split <;> omega), ← rk_0 h]
  unfold sg; split <;> omega
/-- lifted -/
theorem lift_n {v : Bool} {m : Nat} {e : Int} (h : nB v m e) : jX0_liftedM (lZ (sg v (rk m e))) = lN (m * 2 ^ (53 - bl m)) ∧ jX0_liftedE (lZ (sg v (rk m e))) = iZ (e - (53 - bl m : Nat)) := by
  obtain ⟨o1, o2⟩ := mo_n h
  obtain ⟨h1, h2, h3, h4, h5⟩ := h
  have hb := bl_le h1
  have hl : jX0_lift (lZ (sg v (rk m e))) = nI (53 - bl m) := by
    unfold jX0_lift
    rw [o1]
    by_cases c : m = 0
    · subst c
      rw [bl_0]
      decide
    · rw [nlz_64 (by omega) (by omega), show (11 : Int32) = iZ 11 from rfl, iz_sub, show (0 : Int32) = iZ 0 from rfl, jmax_z (by omega) (by omega) (by omega) (by omega), ← iZ_N]
      congr 1
      omega
  unfold jX0_liftedM jX0_liftedE
  rw [hl, o1, o2, sl_n m (by omega)]
  refine ⟨rfl, ?_⟩
  rw [← iZ_N, iz_sub]
theorem lift_b {m : Nat} (h : m < 2 ^ 53) (h0 : m ≠ 0) : 2 ^ 52 ≤ m * 2 ^ (53 - bl m) ∧ m * 2 ^ (53 - bl m) < 2 ^ 53 := by
  have hb := bl_le h
  have hm := bl_mul h0 (53 - bl m)
  have h00 : m * 2 ^ (53 - bl m) ≠ 0 := by have := Nat.mul_pos (Nat.pos_of_ne_zero h0) (Nat.two_pow_pos (53 - bl m)); omega
  have g1 := bl_ge h00
  have g2 := bl_lt (m * 2 ^ (53 - bl m))
  rw [hm, show bl m + (53 - bl m) = 53 by omega] at g1 g2
  exact ⟨g1, g2⟩
/-- the sign of an exclusive or -/
theorem xor_sg (x y : Int64) : (0 ≤ x ^^^ y) ↔ ((0 ≤ x) ↔ (0 ≤ y)) := by
  have key : ∀ z : Int64, (0 ≤ z) ↔ z.toBitVec.msb = false := by
    intro z
    rw [Int64.le_iff_toInt_le, BitVec.msb_eq_toInt]
    show (0 : Int) ≤ z.toBitVec.toInt ↔ _
    simp
  rw [key, key, key, Int64.toBitVec_xor, BitVec.msb_xor]
  cases x.toBitVec.msb <;> cases y.toBitVec.msb <;> decide
theorem ge_sg {v : Bool} {m : Nat} {e : Int} (h : nB v m e) : ((0 : Int64) ≤ lZ (sg v (rk m e))) ↔ v = false := by
  have s1 := sg_neg h
  have k1 := rk_b h
  rw [l0le (by unfold sg; split <;> omega) (by unfold sg; split <;> omega)]
  cases v with
  | true => constructor
            · intro q; have := s1.mpr rfl; omega
            · intro q; exact absurd q (by decide)
  | false => constructor
             · intro _; rfl
             · intro _; unfold sg; rw [if_neg (by decide)]; omega
theorem ws_x {v1 v2 : Bool} {m1 m2 : Nat} {e1 e2 : Int} (n1 : nB v1 m1 e1) (n2 : nB v2 m2 e2) (n : Int) : jX0_withSignOf (lZ n) (lZ (sg v1 (rk m1 e1)) ^^^ lZ (sg v2 (rk m2 e2))) = lZ (sg (v1 != v2) n) := by
  unfold jX0_withSignOf
  have hx := xor_sg (lZ (sg v1 (rk m1 e1))) (lZ (sg v2 (rk m2 e2)))
  rw [ge_sg n1, ge_sg n2] at hx
  cases v1 <;> cases v2
  · rw [if_pos (hx.mpr (by decide))]; rfl
  · rw [if_neg (fun q => absurd (hx.mp q) (by decide)), lz_neg]; rfl
  · rw [if_neg (fun q => absurd (hx.mp q) (by decide)), lz_neg]; rfl
  · rw [if_pos (hx.mpr (by decide))]; rfl
theorem top_n {X Y : Nat} (hX : X < 2 ^ 53) (hY : Y < 2 ^ 53) : jX0_topOfProduct (lN X) (lN Y) = lN (jam (X * Y) 45 false) := by
  unfold jX0_topOfProduct jX0_topOfProduct_B28 jX0_topOfProduct_B41 jX0_topOfProduct_B59 jX0_topOfProduct_B78
  rw [show (27 : Int32) = nI 27 from rfl, show (54 : Int32) = nI 54 from rfl, show (45 : Int32) = nI 45 from rfl, show (9 : Int32) = nI 9 from rfl]
  rw [su_n (by omega) (by omega), su_n (by omega) (by omega), lp_n (by omega) (by omega), lp_n (by omega) (by omega)]
  have hxh : X / 2 ^ 27 < 2 ^ 26 := by omega
  have hyh : Y / 2 ^ 27 < 2 ^ 26 := by omega
  have hxl : X % 2 ^ 27 < 2 ^ 27 := by omega
  have hyl : Y % 2 ^ 27 < 2 ^ 27 := by omega
  have eX : X = 2 ^ 27 * (X / 2 ^ 27) + X % 2 ^ 27 := (Nat.div_add_mod X (2 ^ 27)).symm
  have eY : Y = 2 ^ 27 * (Y / 2 ^ 27) + Y % 2 ^ 27 := (Nat.div_add_mod Y (2 ^ 27)).symm
  generalize X / 2 ^ 27 = xh at *
  generalize X % 2 ^ 27 = xl at *
  generalize Y / 2 ^ 27 = yh at *
  generalize Y % 2 ^ 27 = yl at *
  rw [lN_mul xh yh, lN_mul xh yl, lN_mul xl yh, lN_mul xl yl, lN_add (xh * yl) (xl * yh)]
  have b1 : xh * yl ≤ 2 ^ 26 * 2 ^ 27 := Nat.mul_le_mul (by omega) (by omega)
  have b2 : xl * yh ≤ 2 ^ 27 * 2 ^ 26 := Nat.mul_le_mul (by omega) (by omega)
  have b3 : xl * yl ≤ 2 ^ 27 * 2 ^ 27 := Nat.mul_le_mul (by omega) (by omega)
  have b4 : xh * yh ≤ 2 ^ 26 * 2 ^ 26 := Nat.mul_le_mul (by omega) (by omega)
  have eXY : X * Y = xh * yh * 2 ^ 54 + (xh * yl + xl * yh) * 2 ^ 27 + xl * yl := by
    rw [eX, eY]; grind
  rw [eXY]
  have hmid : xh * yl + xl * yh ≤ 2 ^ 54 := by omega
  generalize xh * yl + xl * yh = mid at *
  generalize xl * yl = ll at *
  generalize xh * yh = hh at *
  rw [lp_n (by omega) (by omega), sl_n _ (by omega), lN_add, su_n (by omega) (by omega), lN_add]
  have hlow : ll + mid % 2 ^ 27 * 2 ^ 27 < 2 ^ 63 := by omega
  rw [su_n (by omega) (by omega), lN_add, lp_n (by omega) (by omega), low_n (by omega) (by omega), sl_n _ (by omega)]
  generalize hlo : ll + mid % 2 ^ 27 * 2 ^ 27 = low at *
  have e2 : hh * 2 ^ 54 + mid * 2 ^ 27 + ll = (hh + mid / 2 ^ 27 + low / 2 ^ 54) * 2 ^ 9 * 2 ^ 45 + low % 2 ^ 54 := by omega
  rw [e2, ← jam_add (by omega)]
  generalize hhi : hh + mid / 2 ^ 27 + low / 2 ^ 54 = hi at *
  have hhib : hi < 2 ^ 54 := by omega
  have hj : jam (low % 2 ^ 54) 45 false < 2 ^ 9 := by
    unfold jam
    exact Nat.or_lt_two_pow (by omega) (by split <;> omega)
  rw [wb_or (by omega) (by omega), or_add hj]
theorem cs_prod {v1 v2 : Bool} {m1 m2 : Nat} {e1 e2 : Int} (n1 : nB v1 m1 e1) (n2 : nB v2 m2 e2) :
    jX0_product (lZ (sg v1 (rk m1 e1))) (lZ (sg v2 (rk m2 e2))) = lZ (sg (v1 != v2) ((min (RN (m1 * m2) (e1 + e2) false) BEY : Nat) : Int)) := by
  have hz : ∀ w : Bool, (0 : Int64) = lZ (sg w ((min 0 BEY : Nat) : Int)) := by intro w; cases w <;> rfl
  unfold jX0_product
  by_cases c1 : m1 = 0
  · rw [if_pos ((sg_0 n1).mpr c1), c1, Nat.zero_mul, RN_0]; exact hz _
  · by_cases c2 : m2 = 0
    · rw [if_neg (fun q => c1 ((sg_0 n1).mp q)), if_pos ((sg_0 n2).mpr c2), c2, Nat.mul_zero, RN_0]; exact hz _
    · rw [if_neg (fun q => c1 ((sg_0 n1).mp q)), if_neg (fun q => c2 ((sg_0 n2).mp q)), (lift_n n1).1, (lift_n n1).2, (lift_n n2).1, (lift_n n2).2]
      obtain ⟨l1, u1⟩ := lift_b n1.1 c1
      obtain ⟨l2, u2⟩ := lift_b n2.1 c2
      have hb1 := bl_le n1.1
      have hb2 := bl_le n2.1
      have g1 := n1.2.1
      have g2 := n1.2.2.1
      have g3 := n2.2.1
      have g4 := n2.2.2.1
      rw [top_n u1 u2, iz_add, show (45 : Int32) = iZ 45 from rfl, iz_add]
      have hjl : jam (m1 * 2 ^ (53 - bl m1) * (m2 * 2 ^ (53 - bl m2))) 45 false < 2 ^ 63 := by
        have hm : m1 * 2 ^ (53 - bl m1) * (m2 * 2 ^ (53 - bl m2)) < 2 ^ 53 * 2 ^ 53 := Nat.mul_lt_mul'' u1 u2
        unfold jam
        exact Nat.or_lt_two_pow (by omega) (by split <;> omega)
      have hge : 2 ^ 52 * 2 ^ 52 ≤ m1 * 2 ^ (53 - bl m1) * (m2 * 2 ^ (53 - bl m2)) := Nat.mul_le_mul l1 l2
      have hp45 : e1 - (53 - bl m1 : Nat) + (e2 - (53 - bl m2 : Nat)) + 45 = (e1 - (53 - bl m1 : Nat) + (e2 - (53 - bl m2 : Nat))) + ((45 : Nat) : Int) := by omega
      rw [near_n hjl (by omega) (by omega), hp45, RN_jam (by omega)]
      have hsc : m1 * 2 ^ (53 - bl m1) * (m2 * 2 ^ (53 - bl m2)) = m1 * m2 * 2 ^ ((53 - bl m1) + (53 - bl m2)) := by rw [Nat.pow_add]; grind
      rw [hsc, RN_s, show e1 - (53 - bl m1 : Nat) + (e2 - (53 - bl m2 : Nat)) + ((53 - bl m1 + (53 - bl m2) : Nat) : Int) = e1 + e2 by omega, ← lZ_N, ws_x n1 n2]
theorem ne_bI (v1 v2 : Bool) : (if bI v1 = bI v2 then 0 else 1 : Int32) = bI (v1 != v2) := by cases v1 <;> cases v2 <;> decide
theorem ms_prod {mi : NI} {di : NL} {po : NI} {t u : Nat} (ht : t < 16) (hu : u < 16) {v1 v2 : Bool} {m1 m2 : Nat} {e1 e2 : Int} (hm1 : mi t = bI v1) (hd1 : di t = lN m1) (hp1 : po t = iZ e1) (n1 : nB v1 m1 e1) (hm2 : mi u = bI v2) (hd2 : di u = lN m2) (hp2 : po u = iZ e2) (n2 : nB v2 m2 e2) (th be : Int32) (mm : Int64) (ee : Int32) (fa fb : NI) :
    ∃ (m' : Nat) (e' : Int) (fa' : NI), jX2_product th mi di po be mm ee fa fb (nI t) (nI u) = some (iZ (if RN (m1 * m2) (e1 + e2) false < BEY then 0 else -1), th, mi, di, po, bI ((v1 != v2) && decide (RN (m1 * m2) (e1 + e2) false ≠ 0)), lN m', iZ e', fa', fb) ∧ nrm m' e' (RN (m1 * m2) (e1 + e2) false) ∧ Bg fa' (m1 * m2) := by
  have ho : ok (nI t) 16 = true := ok_n ht (by decide)
  have hou : ok (nI u) 16 = true := ok_n hu (by decide)
  have q1 := n1.1
  have q2 := n2.1
  have g1 := n1.2.1
  have g2 := n1.2.2.1
  have g3 := n2.2.1
  have g4 := n2.2.2.1
  obtain ⟨f1, h1, B1⟩ := bg_product fa (x := m1) (y := m2) (by omega) (by omega)
  obtain ⟨m', e', k1, k2⟩ := near_m B1 (p := e1 + e2) (by omega) (by omega) (v1 != v2) false th mi di po be mm ee fb
  refine ⟨m', e', f1, ?_, k2, B1⟩
  unfold jX2_product
  simp only [ho, hou, if_true]
  rw [nI_clamp (by omega), nI_clamp (by omega), hm1, hm2, hd1, hd2, hp1, hp2, h1, Option.bind_some, bM_id, ne_bI, iz_add]
  exact k1
theorem or10 {a b : Nat} (h1 : b < 2 ^ 10) (h2 : a * 2 ^ 10 + b < 2 ^ 62) : lN (a * 2 ^ 10) ||| lN b = lN (a * 2 ^ 10 + b) := by
  have q1 : a * 2 ^ 10 < 2 ^ 64 := Nat.lt_of_le_of_lt (Nat.le_add_right _ b) (Nat.lt_of_lt_of_le h2 (by decide))
  have q2 : b < 2 ^ 64 := Nat.lt_of_lt_of_le h1 (by decide)
  have h := wb_or q1 q2
  have h3 : a * 2 ^ 10 ||| b = a * 2 ^ 10 + b := or_add h1
  exact h.trans (congrArg lN h3)
/-- quotients: the two long divisions -/
theorem cq_L {x0 x2 : Int64} {X Y : Nat} (hY : Y < 2 ^ 53) (hY0 : 2 ^ 52 ≤ Y) (hX : X < 2 ^ 53) : ∀ (d i k : Nat), i + d = 6 → d < k → jX0_quotient_L38 k x0 x2 (lN Y) (lN (X * 2 ^ (10 * i) / Y)) (lN (X * 2 ^ (10 * i) % Y)) (nI i) = jX0_quotient_B96 x0 x2 (lN (X * 2 ^ 60 / Y ||| (if X * 2 ^ 60 % Y = 0 then 0 else 1))) := by
  have hqb : ∀ i, i ≤ 6 → X * 2 ^ (10 * i) / Y < 2 ^ 62 := fun i hi => by
    have h1 : X * 2 ^ (10 * i) < 2 ^ 53 * 2 ^ (10 * i) := Nat.mul_lt_mul_of_pos_right hX (Nat.two_pow_pos _)
    have h2 : 2 ^ (10 * i) ≤ 2 ^ 60 := Nat.pow_le_pow_right (by decide) (by omega)
    refine (Nat.div_lt_iff_lt_mul (by omega)).mpr ?_
    have h3 : 2 ^ 53 * 2 ^ (10 * i) ≤ 2 ^ 53 * 2 ^ 60 := Nat.mul_le_mul_left _ h2
    have h4 : 2 ^ 62 * 2 ^ 52 ≤ 2 ^ 62 * Y := Nat.mul_le_mul_left _ hY0
    omega
  intro d
  induction d with
  | zero =>
    intro i k hi hk
    obtain ⟨k, rfl⟩ : ∃ z, k = z + 1 := ⟨k - 1, by omega⟩
    have : i = 6 := by omega
    subst this
    have hq := hqb 6 (by omega)
    have hl : X * 2 ^ (10 * 6) % Y < Y := Nat.mod_lt _ (by omega)
    rw [show 10 * 6 = 60 from rfl] at hq hl ⊢
    show (if 6 ≤ nI 6 then jX0_quotient_B96 x0 x2 (if lN (X * 2 ^ 60 % Y) = 0 then lN (X * 2 ^ 60 / Y) else lN (X * 2 ^ 60 / Y) ||| 1) else _) = _
    rw [if_pos (by decide)]
    congr 1
    generalize X * 2 ^ 60 / Y = q at *
    generalize X * 2 ^ 60 % Y = r at *
    by_cases c : r = 0
    · rw [if_pos ((ln0 (by omega)).mpr c), if_pos c, Nat.or_zero]
    · rw [if_neg (fun w => c ((ln0 (by omega)).mp w)), if_neg c, show (1 : Int64) = lN 1 from rfl, wb_or (by omega) (by omega)]
  | succ d ih =>
    intro i k hi hk
    obtain ⟨k, rfl⟩ : ∃ z, k = z + 1 := ⟨k - 1, by omega⟩
    have hq := hqb i (by omega)
    have hq' := hqb (i + 1) (by omega)
    have hl : X * 2 ^ (10 * i) % Y < Y := Nat.mod_lt _ (by omega)
    have hY1 : ¬ lN Y = 0 := fun q => by have := (ln0 (by omega)).mp q; omega
    show (if 6 ≤ nI i then _ else (if lN Y = 0 then none else (if lN Y = 0 then none else jX0_quotient_L38 k x0 x2 (lN Y) ((sl (lN (X * 2 ^ (10 * i) / Y)) 10) ||| ((sl (lN (X * 2 ^ (10 * i) % Y)) 10) / lN Y)) ((sl (lN (X * 2 ^ (10 * i) % Y)) 10) - (sl (lN (X * 2 ^ (10 * i) % Y)) 10) / lN Y * lN Y) (nI i + 1)))) = _
    rw [if_neg (show ¬ (6 : Int32) ≤ nI i from nI_ge (b := 6) (by omega) (by decide)), if_neg hY1, if_neg hY1, show (10 : Int32) = nI 10 from rfl, sl_n _ (by omega), sl_n _ (by omega)]
    have e0 : X * 2 ^ (10 * (i + 1)) = X * 2 ^ (10 * i) * 2 ^ 10 := by rw [show 10 * (i + 1) = 10 * i + 10 by omega, Nat.pow_add, Nat.mul_assoc]
    have hdm := Nat.div_add_mod (X * 2 ^ (10 * i)) Y
    generalize X * 2 ^ (10 * i) = N at *
    have e1 : N * 2 ^ 10 = N % Y * 2 ^ 10 + Y * (N / Y * 2 ^ 10) := by
      rw [← Nat.mul_assoc, ← Nat.add_mul, Nat.add_comm, hdm]
    have e2 : N * 2 ^ 10 / Y = N / Y * 2 ^ 10 + N % Y * 2 ^ 10 / Y := by rw [e1, Nat.add_mul_div_left _ _ (by omega)]; omega
    have e3 : N * 2 ^ 10 % Y = N % Y * 2 ^ 10 % Y := by rw [e1, Nat.add_mul_mod_self_left]
    have hlq : N % Y * 2 ^ 10 / Y < 2 ^ 10 := (Nat.div_lt_iff_lt_mul (by omega)).mpr (by omega)
    rw [ln_rem (by omega) (by omega), ln_div (by omega) (by omega)]
    rw [e0, e2] at hq'
    have hres : lN (N / Y * 2 ^ 10) ||| lN (N % Y * 2 ^ 10 / Y) = lN (N * 2 ^ 10 / Y) := by
      rw [e2]
      exact or10 hlq hq'
    rw [hres, ← e3, nI_1]
    have := ih (i + 1) k (by omega) (by omega)
    rw [e0] at this
    exact this
theorem mq_L {th : Int32} {mi : NI} {di : NL} {po : NI} {be : Int32} {mm : Int64} {ee : Int32} {fb : NI} {x1 x4 x7 : Int32} {x y : Nat} (hx : x < 2 ^ 53) (hy : y < 2 ^ 53) (hy0 : 0 < y) : ∀ (d i k : Nat) (fa : NI), i + d = 120 → d < k → Bg fa (x * 2 ^ i / y) →
    ∃ fa' : NI, jX2_quotient_L20 k th mi di po be mm ee fa fb x1 x4 (lN y) x7 (lN (x * 2 ^ i % y)) (nI i) = jX2_nearest th mi di po be mm ee fa' fb x1 ((x4 - x7) - 120) (bI (decide (x * 2 ^ 120 % y ≠ 0))) ∧ Bg fa' (x * 2 ^ 120 / y) := by
  intro d
  induction d with
  | zero =>
    intro i k fa hi hk hB
    obtain ⟨k, rfl⟩ : ∃ z, k = z + 1 := ⟨k - 1, by omega⟩
    have : i = 120 := by omega
    subst this
    have hl : x * 2 ^ 120 % y < y := Nat.mod_lt _ hy0
    refine ⟨fa, ?_, hB⟩
    have sh : jX2_quotient_L20 (k + 1) th mi di po be mm ee fa fb x1 x4 (lN y) x7 (lN (x * 2 ^ 120 % y)) (nI 120) = (if 120 ≤ nI 120 then (bM (jX2_nearest th mi di po be mm ee fa fb x1 ((x4 - x7) - 120) (if lN (x * 2 ^ 120 % y) ≤ 0 then 0 else 1 : Int32)) fun r_2 th_2 mi_2 di_2 po_2 be_2 mm_2 ee_2 fa_2 fb_2 => some (r_2, th_2, mi_2, di_2, po_2, be_2, mm_2, ee_2, fa_2, fb_2)) else _) := rfl
    rw [sh, if_pos (by decide), bM_id]
    by_cases c : x * 2 ^ 120 % y = 0
    · rw [c, if_pos (by decide)]; simp; rfl
    · rw [if_neg (fun q => c (by have := (ln_le (b := 0) (by omega) (by omega)).mp q; omega))]; simp [c]; rfl
  | succ d ih =>
    intro i k fa hi hk hB
    obtain ⟨k, rfl⟩ : ∃ z, k = z + 1 := ⟨k - 1, by omega⟩
    have hl : x * 2 ^ i % y < y := Nat.mod_lt _ hy0
    have e0 : x * 2 ^ (i + 1) = x * 2 ^ i * 2 := by rw [Nat.pow_succ, Nat.mul_assoc]
    have hbig : x * 2 ^ i < 2 ^ 200 := by
      have h1 : x * 2 ^ i < 2 ^ 53 * 2 ^ i := Nat.mul_lt_mul_of_pos_right hx (Nat.two_pow_pos _)
      rw [← Nat.pow_add] at h1
      exact Nat.lt_of_lt_of_le h1 (Nat.pow_le_pow_right (by decide) (by omega))
    have hdm := Nat.div_add_mod (x * 2 ^ i) y
    have hN : x * 2 ^ i / y < 2 ^ 200 := Nat.lt_of_le_of_lt (Nat.div_le_self _ _) hbig
    have sh : jX2_quotient_L20 (k + 1) th mi di po be mm ee fa fb x1 x4 (lN y) x7 (lN (x * 2 ^ i % y)) (nI i) = (if 120 ≤ nI i then _ else (Option.bind (jX1_twice fa (if (2 * lN (x * 2 ^ i % y)) < lN y then 0 else 1 : Int32)) fun fa_3 => jX2_quotient_L20 k th mi di po be mm ee fa_3 fb x1 x4 (lN y) x7 (if (2 * lN (x * 2 ^ i % y)) < lN y then 2 * lN (x * 2 ^ i % y) else (2 * lN (x * 2 ^ i % y)) - lN y : Int64) (nI i + 1))) := rfl
    rw [sh, if_neg (show ¬ (120 : Int32) ≤ nI i from nI_ge (b := 120) (by omega) (by decide)), show (2 : Int64) = lN 2 from rfl, lN_mul, nI_1]
    have hlt : (lN (2 * (x * 2 ^ i % y)) < lN y) ↔ 2 * (x * 2 ^ i % y) < y := ln_lt (by omega) (by omega)
    have hsm : ∀ z : Nat, z < 2 ^ 202 → z < 2 ^ 3360 := fun z h => Nat.lt_of_lt_of_le h (Nat.pow_le_pow_right (by decide) (by decide))
    have e1 : x * 2 ^ (i + 1) = 2 * (x * 2 ^ i % y) + y * (2 * (x * 2 ^ i / y)) := by rw [e0, Nat.mul_left_comm]; omega
    by_cases c : 2 * (x * 2 ^ i % y) < y
    · rw [if_pos (hlt.mpr c), if_pos (hlt.mpr c)]
      obtain ⟨f2, h2, B2⟩ := bg_twice hB 0 (by rw [if_pos rfl]; exact hsm _ (by omega))
      rw [if_pos rfl] at B2
      have e2 : x * 2 ^ (i + 1) / y = x * 2 ^ i / y + x * 2 ^ i / y + 0 := by rw [e1, Nat.add_mul_div_left _ _ hy0, Nat.div_eq_of_lt c]; omega
      have e3 : x * 2 ^ (i + 1) % y = 2 * (x * 2 ^ i % y) := by rw [e1, Nat.add_mul_mod_self_left, Nat.mod_eq_of_lt c]
      rw [h2, Option.bind_some, ← e3]
      exact ih (i + 1) k f2 (by omega) (by omega) (by rw [e2]; exact B2)
    · rw [if_neg (fun q => c (hlt.mp q)), if_neg (fun q => c (hlt.mp q)), lN_sub (by omega)]
      obtain ⟨f2, h2, B2⟩ := bg_twice hB 1 (by rw [if_neg (by decide)]; exact hsm _ (by omega))
      rw [if_neg (by decide)] at B2
      have e2' : x * 2 ^ (i + 1) = (2 * (x * 2 ^ i % y) - y) + y * (2 * (x * 2 ^ i / y) + 1) := by rw [Nat.mul_add, Nat.mul_one]; omega
      have e2 : x * 2 ^ (i + 1) / y = x * 2 ^ i / y + x * 2 ^ i / y + 1 := by rw [e2', Nat.add_mul_div_left _ _ hy0, Nat.div_eq_of_lt (by omega)]; omega
      have e3 : x * 2 ^ (i + 1) % y = 2 * (x * 2 ^ i % y) - y := by rw [e2', Nat.add_mul_mod_self_left, Nat.mod_eq_of_lt (by omega)]
      rw [h2, Option.bind_some, ← e3]
      exact ih (i + 1) k f2 (by omega) (by omega) (by rw [e2]; exact B2)
theorem RN_quot {x y : Nat} (hx : x < 2 ^ 53) (hy : y < 2 ^ 53) (hx0 : x ≠ 0) (hy0 : y ≠ 0) (p : Int) :
    RN ((x * 2 ^ (53 - bl x)) * 2 ^ 60 / (y * 2 ^ (53 - bl y)) ||| (if (x * 2 ^ (53 - bl x)) * 2 ^ 60 % (y * 2 ^ (53 - bl y)) = 0 then 0 else 1)) (p - (53 - bl x : Nat) + (53 - bl y : Nat) - 60) false = RN (x * 2 ^ 120 / y) (p - 120) (decide (x * 2 ^ 120 % y ≠ 0)) := by
  obtain ⟨l1, u1⟩ := lift_b hx hx0
  obtain ⟨l2, u2⟩ := lift_b hy hy0
  have b1 := bl_pos hx0
  have b2 := bl_pos hy0
  have b3 := bl_le hx
  have b4 := bl_le hy
  generalize hs1 : 53 - bl x = s1 at *
  generalize hs2 : 53 - bl y = s2 at *
  have hyp : 0 < y := Nat.pos_of_ne_zero hy0
  obtain ⟨t, ht⟩ : ∃ t : Nat, t + s2 = s1 + 60 := ⟨s1 + 60 - s2, by omega⟩
  obtain ⟨k, hk⟩ : ∃ k : Nat, t + k = 120 := ⟨120 - t, by omega⟩
  have e1 : x * 2 ^ s1 * 2 ^ 60 = x * 2 ^ t * 2 ^ s2 := by rw [Nat.mul_assoc, ← Nat.pow_add, Nat.mul_assoc, ← Nat.pow_add, ht]
  have e2 : x * 2 ^ s1 * 2 ^ 60 / (y * 2 ^ s2) = x * 2 ^ t / y := by rw [e1, Nat.mul_div_mul_right _ _ (Nat.two_pow_pos s2)]
  have e3 : x * 2 ^ s1 * 2 ^ 60 % (y * 2 ^ s2) = x * 2 ^ t % y * 2 ^ s2 := by rw [e1, Nat.mul_mod_mul_right]
  have e4 : x * 2 ^ 120 = x * 2 ^ t * 2 ^ k := by rw [Nat.mul_assoc, ← Nat.pow_add, hk]
  have e5 : x * 2 ^ 120 / y / 2 ^ k = x * 2 ^ t / y := by rw [Nat.div_div_eq_div_mul, e4, Nat.mul_div_mul_right _ _ (Nat.two_pow_pos k)]
  have hlost : (x * 2 ^ t % y * 2 ^ s2 = 0) ↔ (x * 2 ^ 120 / y % 2 ^ k = 0 ∧ decide (x * 2 ^ 120 % y ≠ 0) = false) := by
    have hA : (x * 2 ^ t % y * 2 ^ s2 = 0) ↔ x * 2 ^ t % y = 0 := by
      constructor
      · intro q
        rcases Nat.mul_eq_zero.mp q with h | h
        · exact h
        · have := Nat.two_pow_pos s2; omega
      · intro q; rw [q, Nat.zero_mul]
    rw [hA]
    have d1 := Nat.div_add_mod (x * 2 ^ t) y
    have d2 := Nat.div_add_mod (x * 2 ^ 120) y
    have d3 := Nat.div_add_mod (x * 2 ^ 120 / y) (2 ^ k)
    rw [e5] at d3
    constructor
    · intro q
      rw [q, Nat.add_zero] at d1
      have h1 : x * 2 ^ 120 = y * ((x * 2 ^ t / y) * 2 ^ k) := by rw [e4, ← Nat.mul_assoc, d1]
      have h2 : x * 2 ^ 120 / y = (x * 2 ^ t / y) * 2 ^ k := by rw [h1, Nat.mul_div_cancel_left _ hyp]
      have h3 : x * 2 ^ 120 % y = 0 := by rw [h1, Nat.mul_mod_right]
      refine ⟨by rw [h2, Nat.mul_mod_left], by simp [h3]⟩
    · intro q
      have q2 : x * 2 ^ 120 % y = 0 := by
        have := q.2
        simp at this
        exact this
      rw [q.1, Nat.add_zero] at d3
      rw [q2, Nat.add_zero, ← d3, e4] at d2
      have h4 : y * (x * 2 ^ t / y) * 2 ^ k = x * 2 ^ t * 2 ^ k := by rw [← d2]; grind
      have h5 := Nat.eq_of_mul_eq_mul_right (Nat.two_pow_pos k) h4
      omega
  have hJ : (x * 2 ^ s1 * 2 ^ 60 / (y * 2 ^ s2) ||| (if x * 2 ^ s1 * 2 ^ 60 % (y * 2 ^ s2) = 0 then 0 else 1)) = jam (x * 2 ^ 120 / y) k (decide (x * 2 ^ 120 % y ≠ 0)) := by
    unfold jam
    rw [e2, e3, e5]
    by_cases c : x * 2 ^ t % y * 2 ^ s2 = 0
    · rw [if_pos c, if_pos (hlost.mp c)]
    · rw [if_neg c, if_neg (fun q => c (hlost.mpr q))]
  rw [hJ, show p - (s1 : Int) + (s2 : Int) - 60 = (p - 120) + (k : Int) by omega]
  refine RN_jam ?_
  rw [e5, ← e2]
  refine (Nat.le_div_iff_mul_le (by omega)).mpr ?_
  have h1 : 2 ^ 52 * 2 ^ 60 ≤ x * 2 ^ s1 * 2 ^ 60 := Nat.mul_le_mul_right _ l1
  have h2 : 2 ^ 55 * (y * 2 ^ s2) ≤ 2 ^ 55 * 2 ^ 53 := Nat.mul_le_mul_left _ (Nat.le_of_lt u2)
  exact Nat.le_trans h2 (Nat.le_trans (by decide) h1)
theorem cs_quot {v1 v2 : Bool} {m1 m2 : Nat} {e1 e2 : Int} (n1 : nB v1 m1 e1) (n2 : nB v2 m2 e2) (h2 : m2 ≠ 0) :
    jX0_quotient (lZ (sg v1 (rk m1 e1))) (lZ (sg v2 (rk m2 e2))) = some (lZ (sg (v1 != v2) ((min (RN (m1 * 2 ^ 120 / m2) (e1 - e2 - 120) (decide (m1 * 2 ^ 120 % m2 ≠ 0))) BEY : Nat) : Int))) := by
  obtain ⟨l2, u2⟩ := lift_b n2.1 h2
  have hb1 := bl_le n1.1
  have hb2 := bl_le n2.1
  have g1 := n1.2.1
  have g2 := n1.2.2.1
  have g3 := n2.2.1
  have g4 := n2.2.2.1
  have u1 : m1 * 2 ^ (53 - bl m1) < 2 ^ 53 := by
    by_cases c : m1 = 0
    · rw [c, Nat.zero_mul]; decide
    · exact (lift_b n1.1 c).2
  have hY1 : ¬ lN (m2 * 2 ^ (53 - bl m2)) = 0 := fun q => by have := (ln0 (by omega)).mp q; omega
  unfold jX0_quotient
  rw [(lift_n n1).1, (lift_n n2).1, if_neg hY1, if_neg hY1, if_neg hY1, ln_rem (by omega) (by omega), ln_div (by omega) (by omega)]
  have hL := cq_L (x0 := lZ (sg v1 (rk m1 e1))) (x2 := lZ (sg v2 (rk m2 e2))) u2 l2 u1 6 0 FU (by omega) (by decide)
  rw [Nat.mul_zero, Nat.pow_zero, Nat.mul_one, show nI 0 = 0 from rfl] at hL
  rw [hL]
  unfold jX0_quotient_B96
  rw [(lift_n n1).2, (lift_n n2).2, iz_sub, show (60 : Int32) = iZ 60 from rfl, iz_sub]
  have hq : m1 * 2 ^ (53 - bl m1) * 2 ^ 60 / (m2 * 2 ^ (53 - bl m2)) < 2 ^ 62 := by
    refine (Nat.div_lt_iff_lt_mul (by omega)).mpr ?_
    have h3 : m1 * 2 ^ (53 - bl m1) * 2 ^ 60 ≤ 2 ^ 53 * 2 ^ 60 := Nat.mul_le_mul_right _ (by omega)
    have h4 : 2 ^ 62 * 2 ^ 52 ≤ 2 ^ 62 * (m2 * 2 ^ (53 - bl m2)) := Nat.mul_le_mul_left _ l2
    omega
  have hJ : (m1 * 2 ^ (53 - bl m1) * 2 ^ 60 / (m2 * 2 ^ (53 - bl m2)) ||| (if m1 * 2 ^ (53 - bl m1) * 2 ^ 60 % (m2 * 2 ^ (53 - bl m2)) = 0 then 0 else 1)) < 2 ^ 63 := Nat.or_lt_two_pow (by omega) (by split <;> omega)
  rw [near_n hJ (by omega) (by omega), ← lZ_N, ws_x n1 n2]
  congr 5
  by_cases c : m1 = 0
  · subst c
    simp [RN_0]
  · have := RN_quot n1.1 n2.1 c h2 (e1 - e2)
    rw [← this]
    congr 1
    omega
theorem ms_quot {mi : NI} {di : NL} {po : NI} {v : Bool} {x y : Nat} {e1 e2 : Int} (hx : x < 2 ^ 53) (hy : y < 2 ^ 53) (hy0 : y ≠ 0) (g1 : -1074 ≤ e1) (g2 : e1 ≤ 971) (g3 : -1074 ≤ e2) (g4 : e2 ≤ 971) (th be : Int32) (mm : Int64) (ee : Int32) (fa fb : NI) :
    ∃ (m' : Nat) (e' : Int) (fa' : NI), jX2_quotient th mi di po be mm ee fa fb (bI v) (lN x) (iZ e1) (lN y) (iZ e2) = some (iZ (if RN (x * 2 ^ 120 / y) (e1 - e2 - 120) (decide (x * 2 ^ 120 % y ≠ 0)) < BEY then 0 else -1), th, mi, di, po, bI (v && decide (RN (x * 2 ^ 120 / y) (e1 - e2 - 120) (decide (x * 2 ^ 120 % y ≠ 0)) ≠ 0)), lN m', iZ e', fa', fb) ∧ nrm m' e' (RN (x * 2 ^ 120 / y) (e1 - e2 - 120) (decide (x * 2 ^ 120 % y ≠ 0))) := by
  have hyp : 0 < y := Nat.pos_of_ne_zero hy0
  have hxy : x / y < 2 ^ 63 := Nat.lt_of_le_of_lt (Nat.div_le_self _ _) (by omega)
  obtain ⟨f1, h1, B1⟩ := bg_set fa (N := x / y) hxy
  have hy1 : ¬ lN y = 0 := fun q => hy0 ((ln0 (by omega)).mp q)
  obtain ⟨f2, h2, B2⟩ := mq_L (th := th) (mi := mi) (di := di) (po := po) (be := be) (mm := mm) (ee := ee) (fb := fb) (x1 := bI v) (x4 := iZ e1) (x7 := iZ e2) hx hy hyp 120 0 FU f1 (by omega) (by decide) (by rw [Nat.pow_zero, Nat.mul_one]; exact B1)
  rw [Nat.pow_zero, Nat.mul_one, show nI 0 = 0 from rfl] at h2
  obtain ⟨m', e', k1, k2⟩ := near_m B2 (p := e1 - e2 - 120) (by omega) (by omega) v (decide (x * 2 ^ 120 % y ≠ 0)) th mi di po be mm ee fb
  refine ⟨m', e', f2, ?_, k2⟩
  unfold jX2_quotient
  rw [if_neg hy1, ln_rem (by omega) (by omega), ln_div (by omega) (by omega), h1, Option.bind_some, if_neg hy1, h2, iz_sub, show (120 : Int32) = iZ 120 from rfl, iz_sub]
  exact k1
