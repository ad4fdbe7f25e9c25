/-! errors of products -/
theorem zq_blj {N k : Nat} (h : 2 ^ 55 ≤ N / 2 ^ k) : bl (jam N k false) + k = bl N := by
  have hN : 2 ^ k ≤ N := by
    rcases Nat.lt_or_ge N (2 ^ k) with q | q
    · rw [Nat.div_eq_of_lt q] at h; omega
    · exact q
  have hbd := bl_div hN
  have hM0 : N / 2 ^ k ≠ 0 := by omega
  unfold jam
  generalize hb : (if N % 2 ^ k = 0 ∧ false = false then 0 else 1 : Nat) = b
  have hb1 : b ≤ 1 := by rw [← hb]; split <;> omega
  generalize N / 2 ^ k = M at *
  have g1 := bl_ge hM0
  have g2 := bl_lt M
  have g3 := bl_gt h
  have hJ1 : M ≤ M ||| b := Nat.left_le_or
  have hJ2 : M ||| b < 2 ^ bl M := Nat.or_lt_two_pow g2 (by
    have : 2 ^ 1 ≤ 2 ^ bl M := Nat.pow_le_pow_right (by decide) (by omega)
    omega)
  have hblJ : bl (M ||| b) = bl M := by
    have := bl_eq (N := M ||| b) (n := bl M - 1) (by omega) (by rw [show bl M - 1 + 1 = bl M by omega]; exact hJ2)
    omega
  omega
theorem zq_XY {m1 m2 : Nat} (h1 : m1 < 2 ^ 53) (h2 : m2 < 2 ^ 53) (c1 : m1 ≠ 0) (c2 : m2 ≠ 0) : m1 * 2 ^ (53 - bl m1) * (m2 * 2 ^ (53 - bl m2)) = m1 * m2 * 2 ^ ((53 - bl m1) + (53 - bl m2)) ∧ 2 ^ 52 * 2 ^ 52 ≤ m1 * 2 ^ (53 - bl m1) * (m2 * 2 ^ (53 - bl m2)) ∧ m1 * 2 ^ (53 - bl m1) * (m2 * 2 ^ (53 - bl m2)) < 2 ^ 53 * 2 ^ 53 := by
  obtain ⟨l1, u1⟩ := lift_b h1 c1
  obtain ⟨l2, u2⟩ := lift_b h2 c2
  exact ⟨by rw [Nat.pow_add]; grind, Nat.mul_le_mul l1 l2, Nat.mul_lt_mul'' u1 u2⟩
theorem cs_small {v1 v2 : Bool} {m1 m2 : Nat} {e1 e2 : Int} (n1 : nB v1 m1 e1) (n2 : nB v2 m2 e2) :
    jX0_isSmallProduct (lZ (sg v1 (rk m1 e1))) (lZ (sg v2 (rk m2 e2))) = 0 ↔ (m1 = 0 ∨ m2 = 0 ∨ -960 ≤ (bl (m1 * m2) : Int) - 1 + (e1 + e2)) := by
  unfold jX0_isSmallProduct
  by_cases c1 : m1 = 0
  · rw [if_pos ((sg_0 n1).mpr c1)]; simp [c1]
  · by_cases c2 : m2 = 0
    · rw [if_neg (fun q => c1 ((sg_0 n1).mp q)), if_pos ((sg_0 n2).mpr c2)]; simp [c2]
    · rw [if_neg (fun q => c1 ((sg_0 n1).mp q)), if_neg (fun q => c2 ((sg_0 n2).mp q)), (lift_n n1).1, (lift_n n2).1]
      obtain ⟨hx, hl, hu⟩ := zq_XY n1.1 n2.1 c1 c2
      obtain ⟨l1, u1⟩ := lift_b n1.1 c1
      obtain ⟨l2, u2⟩ := lift_b n2.1 c2
      unfold jX0_isSmallProduct_B27
      rw [top_n u1 u2, (lift_n n1).2, (lift_n n2).2]
      have hj := zq_blj (N := m1 * 2 ^ (53 - bl m1) * (m2 * 2 ^ (53 - bl m2))) (k := 45) (by omega)
      have hm0 : m1 * m2 ≠ 0 := fun q => by rcases Nat.mul_eq_zero.mp q with h | h; exact c1 h; exact c2 h
      have hbm := bl_mul hm0 ((53 - bl m1) + (53 - bl m2))
      rw [← hx] at hbm
      have hj0 : 0 < jam (m1 * 2 ^ (53 - bl m1) * (m2 * 2 ^ (53 - bl m2))) 45 false := by
        rcases Nat.eq_zero_or_pos (jam (m1 * 2 ^ (53 - bl m1) * (m2 * 2 ^ (53 - bl m2))) 45 false) with q | q
        · rw [q, bl_0] at hj
          have := bl_gt (N := m1 * 2 ^ (53 - bl m1) * (m2 * 2 ^ (53 - bl m2))) (n := 104) (by omega)
          omega
        · exact q
      have hjb : jam (m1 * 2 ^ (53 - bl m1) * (m2 * 2 ^ (53 - bl m2))) 45 false < 2 ^ 63 := by
        unfold jam
        exact Nat.or_lt_two_pow (by omega) (by split <;> omega)
      have b1 := bl_le n1.1
      have b2 := bl_le n2.1
      have b3 := bl_le hjb
      have g1 := n1.2.1
      have g2 := n1.2.2.1
      have g3 := n2.2.1
      have g4 := n2.2.2.1
      rw [nlz_64 hj0 hjb, show (63 : Int32) = iZ 63 from rfl, iz_sub, show (45 : Int32) = iZ 45 from rfl, iz_add, iz_add, iz_add]
      generalize bl (jam (m1 * 2 ^ (53 - bl m1) * (m2 * 2 ^ (53 - bl m2))) 45 false) = bj at *
      generalize bl (m1 * 2 ^ (53 - bl m1) * (m2 * 2 ^ (53 - bl m2))) = bx at *
      have hcmp : ((-960 : Int32) ≤ iZ (63 - (64 - (bj : Int)) + 45 + (e1 - (53 - bl m1 : Nat)) + (e2 - (53 - bl m2 : Nat)))) ↔ -960 ≤ (bl (m1 * m2) : Int) - 1 + (e1 + e2) := by
        rw [show (-960 : Int32) = iZ (-960) from rfl, iz_le (by omega) (by omega) (by omega) (by omega)]
        omega
      by_cases d : -960 ≤ (bl (m1 * m2) : Int) - 1 + (e1 + e2)
      · rw [if_pos (hcmp.mpr d)]; simp [d]
      · rw [if_neg (fun q => d (hcmp.mp q))]; simp [c1, c2, d]
/-- the units of a product that is not small -/
theorem zq_punit {N : Nat} {p : Int} {m : Nat} {e : Int} (hp : -1074 ≤ p) (hn : nrm m e (RN N p false)) : ∃ R : Nat, m * 2 ^ (e + 1074).toNat = R * 2 ^ (p + 1074).toNat ∧ rnd (N * 2 ^ (p + 1074).toNat) = R * 2 ^ (p + 1074).toNat := by
  have hs : RN N p false = RN (N * 2 ^ (p + 1074).toNat) (-1074) false := by rw [RN_s]; congr 1; omega
  rw [hs] at hn
  have h1 := nrm_rnd hn
  obtain ⟨R, hR⟩ := zq_unit (N := N) (q := (p + 1074).toNat)
  exact ⟨R, by rw [h1, hR], hR⟩
theorem zq_low_R {m R : Nat} {e p : Int} (he : -1074 ≤ e) (hp : -1074 ≤ p) (h : m * 2 ^ (e + 1074).toNat = R * 2 ^ (p + 1074).toNat) : (m / 2 ^ (p - e).toNat) * 2 ^ (max e p - p).toNat = R := by
  by_cases c : p ≤ e
  · rw [show (p - e).toNat = 0 by omega, Nat.pow_zero, Nat.div_one, show max e p = e by omega]
    have h5 : m * 2 ^ (e - p).toNat * 2 ^ (p + 1074).toNat = R * 2 ^ (p + 1074).toNat := by
      rw [Nat.mul_assoc, ← Nat.pow_add, show (e - p).toNat + (p + 1074).toNat = (e + 1074).toNat by omega]; exact h
    exact Nat.eq_of_mul_eq_mul_right (Nat.two_pow_pos _) h5
  · rw [show (max e p - p).toNat = 0 by omega, Nat.pow_zero, Nat.mul_one]
    have h5 : m * 2 ^ (e + 1074).toNat = R * 2 ^ (p - e).toNat * 2 ^ (e + 1074).toNat := by
      rw [Nat.mul_assoc, ← Nat.pow_add, show (p - e).toNat + (e + 1074).toNat = (p + 1074).toNat by omega]; exact h
    have h6 := Nat.eq_of_mul_eq_mul_right (Nat.two_pow_pos _) h5
    rw [h6, Nat.mul_div_cancel _ (Nat.two_pow_pos _)]
theorem zq_base {m R : Nat} {e p E : Int} (he : -1074 ≤ e) (hp : -1074 ≤ p) (h1 : E ≤ e) (h2 : E ≤ p) (h : m * 2 ^ (e + 1074).toNat = R * 2 ^ (p + 1074).toNat) : m * 2 ^ (e - E).toNat = R * 2 ^ (p - E).toNat := by
  by_cases c : -1074 ≤ E
  · refine Nat.eq_of_mul_eq_mul_right (Nat.two_pow_pos (E + 1074).toNat) ?_
    rw [Nat.mul_assoc, ← Nat.pow_add, Nat.mul_assoc, ← Nat.pow_add, show (e - E).toNat + (E + 1074).toNat = (e + 1074).toNat by omega, show (p - E).toNat + (E + 1074).toNat = (p + 1074).toNat by omega]
    exact h
  · rw [show (e - E).toNat = (e + 1074).toNat + (-1074 - E).toNat by omega, show (p - E).toNat = (p + 1074).toNat + (-1074 - E).toNat by omega, Nat.pow_add, Nat.pow_add, ← Nat.mul_assoc, ← Nat.mul_assoc, h]
/-- the class's error of a product: R is the rounded one in units of 2^(e1 + e2) -/
theorem cs_perr {v1 v2 : Bool} {m1 m2 : Nat} {e1 e2 : Int} (n1 : nB v1 m1 e1) (n2 : nB v2 m2 e2) (c1 : m1 ≠ 0) (c2 : m2 ≠ 0) (hns : -960 ≤ (bl (m1 * m2) : Int) - 1 + (e1 + e2)) {mr R : Nat} {er : Int} (hn : nrm mr er (RN (m1 * m2) (e1 + e2) false)) (hlt : RN (m1 * m2) (e1 + e2) false < BEY)
    (hR : mr * 2 ^ (er + 1074).toNat = R * 2 ^ (e1 + e2 + 1074).toNat) (hrnd : rnd (m1 * m2 * 2 ^ (e1 + e2 + 1074).toNat) = R * 2 ^ (e1 + e2 + 1074).toNat) (hp : -1074 ≤ e1 + e2) (hne : RN (m1 * m2) (e1 + e2) false ≠ 0) :
    jX0_productError (lZ (sg v1 (rk m1 e1))) (lZ (sg v2 (rk m2 e2))) = lZ (sg ((v1 != v2) != decide (m1 * m2 < R)) ((min (RN (zq_D (m1 * m2) R) (e1 + e2) false) BEY : Nat) : Int)) := by
  obtain ⟨q1, q2⟩ := nrm_nB (v1 != v2) hn hlt
  have hb := rk_b q1
  have hv : ((v1 != v2) && decide (RN (m1 * m2) (e1 + e2) false ≠ 0)) = (v1 != v2) := by simp [hne]
  rw [hv] at q1
  have hB : BEY = 9218868437227405312 := rfl
  have hprod : jX0_product (lZ (sg v1 (rk m1 e1))) (lZ (sg v2 (rk m2 e2))) = lZ (sg (v1 != v2) (rk mr er)) := by
    rw [cs_prod n1 n2, Nat.min_eq_left (Nat.le_of_lt hlt), q2]
  have hmr : mr ≠ 0 := fun q => by
    have := (rk_0 q1).mpr q
    omega
  unfold jX0_productError
  rw [hprod, if_neg (fun q => hmr ((sg_0 q1).mp q)), if_pos ((over_0 (by unfold sg; split <;> omega) (by unfold sg; split <;> omega)).mpr (by unfold sg; split <;> omega))]
  unfold jX0_productError_B47
  obtain ⟨hx, hl, hu⟩ := zq_XY n1.1 n2.1 c1 c2
  rw [(lift_n n1).1, (lift_n n1).2, (lift_n n2).1, (lift_n n2).2, (mo_n q1).1, (mo_n q1).2, iz_add, iz_sub, lN_mul, hx]
  have hm0 : m1 * m2 ≠ 0 := fun q => by rcases Nat.mul_eq_zero.mp q with h | h; exact c1 h; exact c2 h
  have hbm := bl_mul hm0 ((53 - bl m1) + (53 - bl m2))
  rw [hx] at hl hu
  have g1 := n1.2.1
  have g2 := n1.2.2.1
  have g3 := n2.2.1
  have g4 := n2.2.2.1
  have b1 := bl_le n1.1
  have b2 := bl_le n2.1
  have b3 := bl_gt (N := m1 * m2 * 2 ^ ((53 - bl m1) + (53 - bl m2))) (n := 104 - 1) (by omega)
  have b3' := bl_gt (N := m1 * m2 * 2 ^ ((53 - bl m1) + (53 - bl m2))) (n := 104) (by omega)
  have b4 := bl_le (N := m1 * m2 * 2 ^ ((53 - bl m1) + (53 - bl m2))) (n := 106) (by omega)
  generalize hs : (53 - bl m1) + (53 - bl m2) = s at *
  have hE : e1 - (53 - bl m1 : Nat) + (e2 - (53 - bl m2 : Nat)) = e1 + e2 - s := by omega
  rw [hE]
  -- er - E is 52 .. 54
  have hXrn : RN (m1 * m2) (e1 + e2) false = RN (m1 * m2 * 2 ^ s) (e1 + e2 - s) false := by rw [RN_s]; congr 1; omega
  have hX0 : m1 * m2 * 2 ^ s ≠ 0 := by omega
  have hcut := cut_ge (m1 * m2 * 2 ^ s) (e1 + e2 - s)
  have hcc : cutZ (m1 * m2 * 2 ^ s) (e1 + e2 - s) = (bl (m1 * m2 * 2 ^ s) : Int) - 53 := by omega
  have hrle := rr_le (m1 * m2 * 2 ^ s) (e1 + e2 - s) false
  have hrge := rr_ge hX0 (e1 + e2 - s) false hcc
  have hRNv : RN (m1 * m2 * 2 ^ s) (e1 + e2 - s) false = (e1 + e2 - s + ((bl (m1 * m2 * 2 ^ s) : Int) - 53) + 1074).toNat * 2 ^ 52 + rr (m1 * m2 * 2 ^ s) (e1 + e2 - s) false := by
    unfold RN
    rw [if_neg hX0, hcc]
  rw [hXrn, hRNv] at hn
  obtain ⟨a1, a2, a3, a4⟩ := hn
  have her : 52 ≤ er - (e1 + e2 - s) ∧ er - (e1 + e2 - s) ≤ 54 := by omega
  obtain ⟨z, hz⟩ : ∃ z : Nat, er - (e1 + e2 - s) = z := ⟨(er - (e1 + e2 - s)).toNat, by omega⟩
  have hbase := zq_base (E := e1 + e2 - s) a2 hp (by omega) (by omega) hR
  rw [hz, Int.toNat_natCast, show (e1 + e2 - (e1 + e2 - (s : Int))).toNat = s by omega] at hbase
  rw [hz, iZ_N, sl_n mr (by omega), hbase]
  -- how near
  have hnear : m1 * m2 * 2 ^ s ≤ R * 2 ^ s + 2 ^ 53 ∧ R * 2 ^ s ≤ m1 * m2 * 2 ^ s + 2 ^ 53 := by
    have hrq : rr (m1 * m2 * 2 ^ s) (e1 + e2 - s) false = rq (m1 * m2 * 2 ^ s) (bl (m1 * m2 * 2 ^ s) - 53) false := by
      unfold rr
      rw [hcc, if_neg (by omega)]
      congr 1
      omega
    have h1 := rq_near (N := m1 * m2 * 2 ^ s) (c := bl (m1 * m2 * 2 ^ s) - 53) (by omega)
    have h2 : 2 ^ (bl (m1 * m2 * 2 ^ s) - 53 - 1) ≤ 2 ^ 52 := Nat.pow_le_pow_right (by decide) (by omega)
    have h3 : R * 2 ^ s = rq (m1 * m2 * 2 ^ s) (bl (m1 * m2 * 2 ^ s) - 53) false * 2 ^ (bl (m1 * m2 * 2 ^ s) - 53) := by
      rw [← hbase, ← hrq]
      generalize hrv : rr (m1 * m2 * 2 ^ s) (e1 + e2 - s) false = q at *
      generalize hbv : bl (m1 * m2 * 2 ^ s) = bx at *
      rcases (show q < 2 ^ 53 ∨ q = 2 ^ 53 by omega) with w | w
      · have hm : mr = q := by omega
        have hzz : z = bx - 53 := by omega
        rw [hm, hzz]
      · have hm : mr = 2 ^ 52 := by omega
        have hzz : z = 1 + (bx - 53) := by omega
        rw [hm, w, hzz, Nat.pow_add, ← Nat.mul_assoc]
    rw [h3]
    generalize rq (m1 * m2 * 2 ^ s) (bl (m1 * m2 * 2 ^ s) - 53) false * 2 ^ (bl (m1 * m2 * 2 ^ s) - 53) = y at *
    generalize 2 ^ (bl (m1 * m2 * 2 ^ s) - 53 - 1) = y2 at *
    omega
  have hdiff : lN (m1 * m2 * 2 ^ s) - lN (R * 2 ^ s) = lZ (((m1 * m2 * 2 ^ s : Nat) : Int) - ((R * 2 ^ s : Nat) : Int)) := by rw [← lZ_N, ← lZ_N, lz_sub]
  rw [hdiff]
  have hDs : (((m1 * m2 * 2 ^ s : Nat) : Int) - ((R * 2 ^ s : Nat) : Int)).natAbs = zq_D (m1 * m2) R * 2 ^ s := by
    unfold zq_D
    have hmono : m1 * m2 < R → m1 * m2 * 2 ^ s ≤ R * 2 ^ s := fun q => Nat.mul_le_mul_right _ (Nat.le_of_lt q)
    have hmono2 : ¬ m1 * m2 < R → R * 2 ^ s ≤ m1 * m2 * 2 ^ s := fun q => Nat.mul_le_mul_right _ (Nat.not_lt.mp q)
    by_cases c : m1 * m2 < R
    · rw [if_pos c, Nat.sub_mul]
      have := hmono c
      omega
    · rw [if_neg c, Nat.sub_mul]
      have := hmono2 c
      omega
  have hsd : (((m1 * m2 * 2 ^ s : Nat) : Int) - ((R * 2 ^ s : Nat) : Int) < 0) ↔ m1 * m2 < R := by
    have : (m1 * m2 * 2 ^ s < R * 2 ^ s) ↔ m1 * m2 < R := Nat.mul_lt_mul_right (Nat.two_pow_pos s)
    omega
  have hdb1 : -9007199254740992 ≤ ((m1 * m2 * 2 ^ s : Nat) : Int) - ((R * 2 ^ s : Nat) : Int) ∧ ((m1 * m2 * 2 ^ s : Nat) : Int) - ((R * 2 ^ s : Nat) : Int) ≤ 9007199254740992 := by
    have h1 := hnear.1
    have h2 := hnear.2
    generalize m1 * m2 * 2 ^ s = x at *
    generalize R * 2 ^ s = y at *
    omega
  generalize ((m1 * m2 * 2 ^ s : Nat) : Int) - ((R * 2 ^ s : Nat) : Int) = d at *
  have hdb2 : zq_D (m1 * m2) R * 2 ^ s ≤ 9007199254740992 := by rw [← hDs]; omega
  rw [jabsl_z (by omega) (by omega), hDs, near_n (by omega) (by omega) (by omega), RN_s, show e1 + e2 - (s : Int) + (s : Int) = e1 + e2 by omega, ← lZ_N]
  unfold jX0_withSignOf
  have hxs := xor_sg (lZ d) (lZ (sg (v1 != v2) (rk mr er)))
  rw [ge_sg q1, l0le (by omega) (by omega)] at hxs
  have hd0 : (0 ≤ d) ↔ ¬ m1 * m2 < R := by rw [← hsd]; omega
  rw [hd0] at hxs
  by_cases c : m1 * m2 < R
  · rw [decide_eq_true c]
    cases hvv : (v1 != v2)
    · rw [hvv] at hxs; rw [if_neg (fun q => (hxs.mp q).mpr rfl c), lz_neg]; rfl
    · rw [hvv] at hxs; rw [if_pos (hxs.mpr ⟨fun q => absurd c q, fun q => absurd q (by decide)⟩)]; rfl
  · rw [decide_eq_false c]
    cases hvv : (v1 != v2)
    · rw [hvv] at hxs; rw [if_pos (hxs.mpr ⟨fun _ => rfl, fun _ => c⟩)]; rfl
    · rw [hvv] at hxs; rw [if_neg (fun q => absurd ((hxs.mp q).mp c) (by decide)), lz_neg]; rfl
