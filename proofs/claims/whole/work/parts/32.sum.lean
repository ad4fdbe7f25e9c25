/-! sums -/
theorem b3_s {α β γ δ : Type} (a : α) (b : β) (c : γ) (f : α → β → γ → Option δ) : b3 (some (a, b, c)) f = f a b c := rfl
theorem bMv_s {γ : Type} (th : Int32) (mi : NI) (di : NL) (po : NI) (be : Int32) (mm : Int64) (ee : Int32) (fa fb : NI) (f : Int32 → NI → NL → NI → Int32 → Int64 → Int32 → NI → NI → Option γ) : bMv (some (th, mi, di, po, be, mm, ee, fa, fb)) f = f th mi di po be mm ee fa fb := rfl
theorem jam_0 {m : Nat} : jam m 0 false = m := by
  unfold jam
  rw [Nat.pow_zero, Nat.div_one, Nat.mod_one, if_pos ⟨rfl, rfl⟩, Nat.or_zero]
theorem jam_le (m k : Nat) : jam m k false ≤ m + 1 := by
  unfold jam
  have h := or_one (m / 2 ^ k)
  have := Nat.div_le_self m (2 ^ k)
  split
  · rw [Nat.or_zero]; omega
  · rw [h]; split <;> omega
theorem jam_add {A m k : Nat} (hA : A % 2 = 0) : A + jam m k false = jam (A * 2 ^ k + m) k false := by
  have hp := Nat.two_pow_pos k
  have e1 : (A * 2 ^ k + m) / 2 ^ k = A + m / 2 ^ k := by rw [Nat.add_comm, Nat.add_mul_div_right _ _ hp, Nat.add_comm]
  have e2 : (A * 2 ^ k + m) % 2 ^ k = m % 2 ^ k := by rw [Nat.add_comm, Nat.add_mul_mod_self_right]
  unfold jam
  rw [e1, e2]
  split
  · rw [Nat.or_zero, Nat.or_zero]
  · rw [or_one, or_one]
    by_cases c : m / 2 ^ k % 2 = 1
    · rw [if_pos c, if_pos (by omega)]
    · rw [if_neg c, if_neg (by omega)]; omega
theorem jam_sub {A m k : Nat} (hA : A % 2 = 0) (h : m / 2 ^ k + 1 ≤ A) : A - jam m k false = jam (A * 2 ^ k - m) k false := by
  have hp := Nat.two_pow_pos k
  have hm := Nat.div_add_mod m (2 ^ k)
  have hr := Nat.mod_lt m hp
  generalize hq : m / 2 ^ k = q at *
  generalize hr' : m % 2 ^ k = r at *
  obtain ⟨B, rfl⟩ : ∃ B, A = q + 1 + B := ⟨A - (q + 1), by omega⟩
  have ex : (q + 1 + B) * 2 ^ k = 2 ^ k * q + 2 ^ k + B * 2 ^ k := by rw [Nat.add_mul, Nat.add_mul, Nat.one_mul, Nat.mul_comm q]
  by_cases c : r = 0
  · have e1 : (q + 1 + B) * 2 ^ k - m = (1 + B) * 2 ^ k := by rw [ex, Nat.add_mul, Nat.one_mul]; omega
    rw [e1]
    unfold jam
    rw [hq, hr', if_pos ⟨c, rfl⟩, Nat.mul_div_cancel _ hp, Nat.mul_mod_left, if_pos ⟨rfl, rfl⟩, Nat.or_zero, Nat.or_zero]
    omega
  · have e1 : (q + 1 + B) * 2 ^ k - m = (2 ^ k - r) + B * 2 ^ k := by omega
    rw [e1]
    unfold jam
    rw [hq, hr', if_neg (fun z => c z.1), Nat.add_mul_div_right _ _ hp, Nat.add_mul_mod_self_right, Nat.div_eq_of_lt (by omega), Nat.mod_eq_of_lt (show 2 ^ k - r < 2 ^ k by omega), if_neg (by omega), or_one, or_one]
    by_cases d : q % 2 = 1
    · rw [if_pos d, if_neg (by omega)]; omega
    · rw [if_neg d, if_pos (by omega)]; omega
def sm (v1 v2 : Bool) (a b : Nat) : Int := sg v1 a + sg v2 b
theorem sm_ff (a b : Nat) : sm false false a b = (a : Int) + b := rfl
theorem sm_ft (a b : Nat) : sm false true a b = (a : Int) + -(b : Int) := rfl
theorem sm_tf (a b : Nat) : sm true false a b = -(a : Int) + b := rfl
theorem sm_tt (a b : Nat) : sm true true a b = -(a : Int) + -(b : Int) := rfl
theorem sm_abs {v1 v2 : Bool} {a b : Nat} (h : b ≤ a) : (sm v1 v2 a b).natAbs = if v1 ≠ v2 then a - b else a + b := by
  cases v1 <;> cases v2
  · rw [sm_ff, if_neg (by decide)]; omega
  · rw [sm_ft, if_pos (by decide)]; omega
  · rw [sm_tf, if_pos (by decide)]; omega
  · rw [sm_tt, if_neg (by decide)]; omega
theorem sm_sgn {v1 v2 : Bool} {a b : Nat} (h : b ≤ a) (hz : sm v1 v2 a b ≠ 0) : v1 = decide (sm v1 v2 a b < 0) := by
  cases v1 <;> cases v2
  · rw [sm_ff] at *; rw [decide_eq_false (by omega)]
  · rw [sm_ft] at *; rw [decide_eq_false (by omega)]
  · rw [sm_tf] at *; rw [decide_eq_true (by omega)]
  · rw [sm_tt] at *; rw [decide_eq_true (by omega)]
theorem sm_same {v : Bool} {a b : Nat} : (sm v v a b).natAbs = a + b ∧ (sm v v a b ≠ 0 → v = decide (sm v v a b < 0)) := by
  cases v
  · rw [sm_ff]; exact ⟨by omega, fun _ => by rw [decide_eq_false (by omega)]⟩
  · rw [sm_tt]; exact ⟨by omega, fun z => by rw [decide_eq_true (by omega)]⟩
theorem sm_less {v1 v2 : Bool} (hv : ¬ v1 = v2) {a b : Nat} (h : a < b) : (sm v1 v2 a b).natAbs = b - a ∧ v2 = decide (sm v1 v2 a b < 0) := by
  cases v1 <;> cases v2
  · exact absurd rfl hv
  · rw [sm_ft]; exact ⟨by omega, by rw [decide_eq_true (by omega)]⟩
  · rw [sm_tf]; exact ⟨by omega, by rw [decide_eq_false (by omega)]⟩
  · exact absurd rfl hv
theorem pow_ge2 {d : Nat} (h : 1 ≤ d) (m : Nat) : 2 * m ≤ m * 2 ^ d := by
  have : 2 ^ 1 ≤ 2 ^ d := Nat.pow_le_pow_right (by decide) h
  have := Nat.mul_le_mul_left m this
  omega
/-- the class's sum of a greater and a smaller one -/
theorem cs_B14 {v1 v2 : Bool} {m1 m2 : Nat} {e1 e2 : Int} (n1 : nB v1 m1 e1) (n2 : nB v2 m2 e2) (h : rk m2 e2 ≤ rk m1 e1) :
    e2 ≤ e1 ∧ m2 ≤ m1 * 2 ^ (e1 - e2).toNat ∧ jX0_sum_B14 (lZ (sg v1 (rk m1 e1))) (lZ (sg v2 (rk m2 e2))) = lZ (sg (decide (sm v1 v2 (m1 * 2 ^ (e1 - e2).toNat) m2 < 0)) ((min (RN (sm v1 v2 (m1 * 2 ^ (e1 - e2).toNat) m2).natAbs e2 false) BEY : Nat) : Int)) := by
  obtain ⟨o1, o2⟩ := mo_n n1
  obtain ⟨o3, o4⟩ := mo_n n2
  have s1 := sg_neg n1
  have s2 := sg_neg n2
  have k1 := rk_b n1
  have k2 := rk_b n2
  have n1' := n1
  have n2' := n2
  obtain ⟨a1, a2, a3, a4, a5⟩ := n1
  obtain ⟨b1, b2, b3, b4, b5⟩ := n2
  have he : e2 ≤ e1 := by
    unfold rk at h; omega
  obtain ⟨d, hd⟩ : ∃ d : Nat, e1 - e2 = d := ⟨(e1 - e2).toNat, by omega⟩
  rw [hd, Int.toNat_natCast]
  have hle : m2 ≤ m1 * 2 ^ d := by
    by_cases c : d = 0
    · subst c; rw [Nat.pow_zero, Nat.mul_one]; unfold rk at h; omega
    · have := pow_ge2 (show 1 ≤ d by omega) m1; omega
  refine ⟨he, hle, ?_⟩
  -- the sign
  have hsz : ∀ X : Nat, (sm v1 v2 (m1 * 2 ^ d) m2 = 0 → X = 0) → sg v1 (X : Int) = sg (decide (sm v1 v2 (m1 * 2 ^ d) m2 < 0)) X := by
    intro X hX
    by_cases z : sm v1 v2 (m1 * 2 ^ d) m2 = 0
    · rw [hX z]; unfold sg; split <;> split <;> rfl
    · rw [← sm_sgn hle z]
  unfold jX0_sum_B14 jX0_sum_B36 jX0_sum_B61 jX0_sum_B115
  rw [o1, o2, o3, o4, iz_sub, hd, show (9 : Int32) = iZ 9 from rfl, jmin_z (by omega) (by omega) (by omega) (by omega)]
  obtain ⟨up, k, hup, hk, huk⟩ : ∃ up k : Nat, min (d : Int) 9 = up ∧ d = up + k ∧ (k = 0 ∨ up = 9) := ⟨min d 9, d - min d 9, by omega, by omega, by omega⟩
  rw [hup, iz_sub, show (d : Int) - up = (k : Int) by omega, iZ_N, iZ_N, sl_n m1 (by omega), low_n (by omega) (by omega)]
  have cv1 : ((0 : Int64) ≤ lZ (sg v1 (rk m1 e1))) ↔ v1 = false := by
    rw [l0le (by unfold sg; split <;> omega) (by unfold sg; split <;> omega)]
    cases v1 with
    | true => constructor
              · intro q; have := s1.mpr rfl; omega
              · intro q; exact absurd q (by decide)
    | false => constructor
               · intro _; rfl
               · intro _; unfold sg; rw [if_neg (by decide)]; omega
  have cv2 : ((0 : Int64) ≤ lZ (sg v2 (rk m2 e2))) ↔ v2 = false := by
    rw [l0le (by unfold sg; split <;> omega) (by unfold sg; split <;> omega)]
    cases v2 with
    | true => constructor
              · intro q; have := s2.mpr rfl; omega
              · intro q; exact absurd q (by decide)
    | false => constructor
               · intro _; rfl
               · intro _; unfold sg; rw [if_neg (by decide)]; omega
  have hsame : ((if (if 0 ≤ lZ (sg v1 (rk m1 e1)) then 0 else 1 : Int32) = (if 0 ≤ lZ (sg v2 (rk m2 e2)) then 0 else 1 : Int32) then 1 else 0 : Int32) = 0) ↔ v1 ≠ v2 := by
    simp only [cv1, cv2]
    cases v1 <;> cases v2 <;> decide
  simp only [hsame]
  have hpu : 2 ^ up ≤ 2 ^ 9 := Nat.pow_le_pow_right (by decide) (by omega)
  have hG : m1 * 2 ^ up ≤ 2 ^ 53 * 2 ^ 9 := Nat.mul_le_mul (by omega) hpu
  have hjl := jam_le m2 k
  have ed : m1 * 2 ^ d = m1 * 2 ^ up * 2 ^ k := by rw [hk, Nat.pow_add, Nat.mul_assoc]
  have hGk : k ≠ 0 → 2 ^ 61 ≤ m1 * 2 ^ up ∧ (m1 * 2 ^ up) % 2 = 0 := fun q => by
    have h9 : up = 9 := by omega
    subst h9
    have : 2 ^ 52 ≤ m1 := by omega
    constructor <;> omega
  have hmd : m2 / 2 ^ k ≤ m2 := Nat.div_le_self _ _
  have hjk : jam m2 k false ≤ m1 * 2 ^ up := by
    by_cases c : k = 0
    · subst c; rw [jam_0]; rw [ed, Nat.pow_zero, Nat.mul_one] at hle; exact hle
    · have := (hGk c).1; omega
  -- the exact sum
  have hN : (sm v1 v2 (m1 * 2 ^ d) m2).natAbs = if v1 ≠ v2 then m1 * 2 ^ d - m2 else m1 * 2 ^ d + m2 := by
    exact sm_abs hle
  have hRN : ∀ (Z : Nat), Z = (if v1 ≠ v2 then m1 * 2 ^ up - jam m2 k false else m1 * 2 ^ up + jam m2 k false) → RN Z (e2 + k) false = RN (sm v1 v2 (m1 * 2 ^ d) m2).natAbs e2 false := by
    intro Z hZ
    rw [hN, hZ]
    by_cases c : k = 0
    · subst c
      rw [jam_0, ed, Nat.pow_zero, Nat.mul_one]
      congr 1; omega
    · obtain ⟨g1, g2⟩ := hGk c
      by_cases w : v1 ≠ v2
      · rw [if_pos w, if_pos w, jam_sub g2 (by omega), ed]
        refine RN_jam ?_
        have hq : (2 ^ 61 - 2 ^ 53) * 2 ^ k ≤ m1 * 2 ^ up * 2 ^ k - m2 := by
          have h1 : (m2 + 2 ^ 53 * 2 ^ k) ≤ 2 ^ 53 * 2 ^ k + 2 ^ 53 * 2 ^ k := by
            have := Nat.mul_le_mul_left (2 ^ 53) (Nat.one_le_two_pow (n := k)); omega
          have h2 : 2 ^ 61 * 2 ^ k ≤ m1 * 2 ^ up * 2 ^ k := Nat.mul_le_mul_right _ g1
          have h3 := Nat.mul_le_mul_left (2 ^ 53) (Nat.one_le_two_pow (n := k))
          rw [Nat.sub_mul]; omega
        have := Nat.div_le_div_right (c := 2 ^ k) hq
        rw [Nat.mul_div_cancel _ (Nat.two_pow_pos k)] at this
        omega
      · rw [if_neg w, if_neg w, jam_add g2, ed]
        refine RN_jam ?_
        have h2 : 2 ^ 61 * 2 ^ k ≤ m1 * 2 ^ up * 2 ^ k + m2 := Nat.le_trans (Nat.mul_le_mul_right _ g1) (Nat.le_add_right _ _)
        have := Nat.div_le_div_right (c := 2 ^ k) h2
        rw [Nat.mul_div_cancel _ (Nat.two_pow_pos k)] at this
        omega
  have hsub : lN (m1 * 2 ^ up) - lN (jam m2 k false) = lN (m1 * 2 ^ up - jam m2 k false) := lN_sub hjk
  rw [hsub, lN_add]
  have hif : (if v1 ≠ v2 then lN (m1 * 2 ^ up - jam m2 k false) else lN (m1 * 2 ^ up + jam m2 k false)) = lN (if v1 ≠ v2 then m1 * 2 ^ up - jam m2 k false else m1 * 2 ^ up + jam m2 k false) := by split <;> rfl
  rw [hif]
  generalize hZ : (if v1 ≠ v2 then m1 * 2 ^ up - jam m2 k false else m1 * 2 ^ up + jam m2 k false) = Z
  have hZb : Z < 2 ^ 63 := by rw [← hZ]; split <;> omega
  have hfin : iZ e1 - nI up = iZ (e2 + k) := by rw [← iZ_N, iz_sub]; congr 1; omega
  rw [hfin, near_n hZb (by omega) (by omega), hRN Z hZ.symm, ← lZ_N, ws_z (by unfold sg; split <;> omega) (by unfold sg; split <;> omega)]
  have hw : ∀ X : Int, (if sg v1 (rk m1 e1) < 0 then -X else X) = sg v1 X := by
    intro X
    cases v1 with
    | true => rw [if_pos (s1.mpr rfl)]; rfl
    | false => rw [if_neg (fun q => absurd (s1.mp q) (by decide))]; rfl
  rw [hw, hsz _ (fun z => by rw [z, Int.natAbs_zero, RN_0]; rfl)]
/-- the exact sum of two registers, by their least power -/
def S2 (v1 v2 : Bool) (m1 m2 : Nat) (e1 e2 : Int) : Int := sm v1 v2 (m1 * 2 ^ (e1 - min e1 e2).toNat) (m2 * 2 ^ (e2 - min e1 e2).toNat)
theorem cs_sum {v1 v2 : Bool} {m1 m2 : Nat} {e1 e2 : Int} (n1 : nB v1 m1 e1) (n2 : nB v2 m2 e2) :
    jX0_sum (lZ (sg v1 (rk m1 e1))) (lZ (sg v2 (rk m2 e2))) = lZ (sg (decide (S2 v1 v2 m1 m2 e1 e2 < 0)) ((min (RN (S2 v1 v2 m1 m2 e1 e2).natAbs (min e1 e2) false) BEY : Nat) : Int)) := by
  have k1 := rk_b n1
  have k2 := rk_b n2
  have ha1 : jabsl (lZ (sg v1 (rk m1 e1))) = lN (rk m1 e1).toNat := by
    rw [jabsl_z (by unfold sg; split <;> omega) (by unfold sg; split <;> omega), sg_abs v1 k1.1]
  have ha2 : jabsl (lZ (sg v2 (rk m2 e2))) = lN (rk m2 e2).toNat := by
    rw [jabsl_z (by unfold sg; split <;> omega) (by unfold sg; split <;> omega), sg_abs v2 k2.1]
  unfold jX0_sum jX0_greatInSize jX0_smallInSize
  rw [ha1, ha2]
  have hc : (lN (rk m1 e1).toNat < lN (rk m2 e2).toNat) ↔ rk m1 e1 < rk m2 e2 := by rw [ln_lt (by omega) (by omega)]; omega
  by_cases c : rk m1 e1 < rk m2 e2
  · rw [if_pos (hc.mpr c), if_pos (hc.mpr c)]
    obtain ⟨h1, h2, h3⟩ := cs_B14 n2 n1 (by omega)
    rw [h3]
    have e : sm v2 v1 (m2 * 2 ^ (e2 - e1).toNat) m1 = S2 v1 v2 m1 m2 e1 e2 := by
      unfold S2
      rw [show min e1 e2 = e1 by omega, show (e1 - e1).toNat = 0 by omega, Nat.pow_zero, Nat.mul_one]
      unfold sm; omega
    rw [e, show min e1 e2 = e1 by omega]
  · rw [if_neg (fun q => c (hc.mp q)), if_neg (fun q => c (hc.mp q))]
    obtain ⟨h1, h2, h3⟩ := cs_B14 n1 n2 (by omega)
    rw [h3]
    have e : sm v1 v2 (m1 * 2 ^ (e1 - e2).toNat) m2 = S2 v1 v2 m1 m2 e1 e2 := by
      unfold S2
      rw [show min e1 e2 = e2 by omega, show (e2 - e2).toNat = 0 by omega, Nat.pow_zero, Nat.mul_one]
    rw [e, show min e1 e2 = e2 by omega]
/-- the other sign -/
def ot (v : Bool) (o : Bool) (m : Nat) : Bool := (v != o) && decide (0 < m)
theorem ot_n {v : Bool} {m : Nat} {e : Int} (h : nB v m e) (o : Bool) : nB (ot v o m) m e := by
  obtain ⟨h1, h2, h3, h4, h5⟩ := h
  refine ⟨h1, h2, h3, h4, fun q => ?_⟩
  unfold ot at q
  simp at q
  exact q.2
theorem ot_f {v : Bool} {m : Nat} {e : Int} (h : nB v m e) : ot v false m = v := by
  have := h.2.2.2.2
  unfold ot
  cases v with
  | true => simp [this rfl]
  | false => rfl
theorem ot_t {v : Bool} {m : Nat} {e : Int} (h : nB v m e) : -lZ (sg v (rk m e)) = lZ (sg (ot v true m) (rk m e)) := by
  have h0 := h
  obtain ⟨h1, h2, h3, h4, h5⟩ := h
  rw [lz_neg]
  congr 1
  unfold ot sg
  cases v with
  | true => simp
  | false =>
    by_cases c : 0 < m
    · simp [c]
    · have : m = 0 := by omega
      subst this
      have he : e = -1074 := by omega
      subst he
      simp [rk]
theorem up_small {m : Nat} {d : Nat} (hm : m < 2 ^ 53) (hd : d ≤ 2100) : m * 2 ^ d < 2 ^ 3000 := by
  have h1 : m * 2 ^ d < 2 ^ 53 * 2 ^ d := Nat.mul_lt_mul_of_pos_right hm (Nat.two_pow_pos d)
  rw [← Nat.pow_add] at h1
  exact Nat.lt_of_lt_of_le h1 (Nat.pow_le_pow_right (by decide) (by omega))
theorem big_add {a b : Nat} (ha : a < 2 ^ 3000) (hb : b < 2 ^ 3000) : a + b < 2 ^ 3360 := by
  have h : (2 : Nat) ^ 3001 ≤ 2 ^ 3360 := Nat.pow_le_pow_right (by decide) (by decide)
  rw [Nat.pow_succ] at h
  omega
theorem ex_sum {g : NL} {mi : NI} {di : NL} {po : NI} {t u : Nat} (ht : t < 16) (hu : u < 16) {v1 v2 : Bool} {m1 m2 : Nat} {e1 e2 : Int} (hm1 : mi t = bI v1) (hd1 : di t = lN m1) (hp1 : po t = iZ e1) (n1 : nB v1 m1 e1) (hm2 : mi u = bI v2) (hd2 : di u = lN m2) (hp2 : po u = iZ e2) (n2 : nB v2 m2 e2) (o : Bool) (th be : Int32) (mm : Int64) (ee : Int32) (fa fb : NI) :
    ∃ (w : Bool) (fa' fb' : NI), jX2_exactSum th mi di po be mm ee fa fb (nI t) (nI u) (bI o) = some (bI w, th, mi, di, po, be, mm, ee, fa', fb') ∧ Bg fa' (S2 v1 (ot v2 o m2) m1 m2 e1 e2).natAbs ∧ (S2 v1 (ot v2 o m2) m1 m2 e1 e2 ≠ 0 → w = decide (S2 v1 (ot v2 o m2) m1 m2 e1 e2 < 0)) := by
  have ho : ok (nI t) 16 = true := ok_n ht (by decide)
  have hou : ok (nI u) 16 = true := ok_n hu (by decide)
  have n2o := ot_n n2 o
  obtain ⟨a1, a2, a3, a4, a5⟩ := n1
  obtain ⟨b1, b2, b3, b4, b5⟩ := n2
  have hz6 : (iZ e2 ≤ iZ e1) ↔ e2 ≤ e1 := iz_le (by omega) (by omega) (by omega) (by omega)
  have hE : jX2_exactSum th mi di po be mm ee fa fb (nI t) (nI u) (bI o) = jX2_exactSum_B60 th mi di po be mm ee fa fb (nI t) (nI u) (iZ (min e1 e2)) (bI (ot v2 o m2)) := by
    unfold jX2_exactSum
    simp only [ho, hou, if_true]
    rw [nI_clamp (by omega), nI_clamp (by omega), hp1, hp2]
    have hB : ∀ x4 : Int32, jX2_exactSum_B32 th mi di po be mm ee fa fb (nI t) (nI u) (bI o) x4 = jX2_exactSum_B60 th mi di po be mm ee fa fb (nI t) (nI u) x4 (bI (ot v2 o m2)) := by
      intro x4
      unfold jX2_exactSum_B32
      simp only [hou, if_true]
      rw [nI_clamp (by omega), hm2, hd2]
      by_cases c : v2 = o
      · rw [if_pos (bI_inj.mpr c)]
        subst c
        have : ot v2 v2 m2 = false := by unfold ot; cases v2 <;> rfl
        rw [this]; rfl
      · rw [if_neg (fun q => c (bI_inj.mp q))]
        by_cases d : m2 = 0
        · subst d
          rw [if_pos (show lN 0 ≤ 0 by decide)]
          have : ot v2 o 0 = false := by unfold ot; simp
          rw [this]; rfl
        · rw [if_neg (fun q => d (by have := (ln_le (b := 0) (by omega) (by omega)).mp q; omega))]
          have : ot v2 o m2 = true := by unfold ot; cases v2 <;> cases o <;> simp_all <;> omega
          rw [this]; rfl
    rw [hB, hB]
    by_cases c : e2 ≤ e1
    · rw [if_pos (hz6.mpr c), show min e1 e2 = e2 by omega]
    · rw [if_neg (fun q => c (hz6.mp q)), show min e1 e2 = e1 by omega]
  rw [hE]
  generalize hv : ot v2 o m2 = v at *
  generalize hp : min e1 e2 = p at *
  obtain ⟨d1, hq1⟩ : ∃ d1 : Nat, e1 - p = d1 := ⟨(e1 - p).toNat, by omega⟩
  obtain ⟨d2, hq2⟩ : ∃ d2 : Nat, e2 - p = d2 := ⟨(e2 - p).toNat, by omega⟩
  have hS : S2 v1 v m1 m2 e1 e2 = sm v1 v (m1 * 2 ^ d1) (m2 * 2 ^ d2) := by unfold S2; rw [hp, hq1, hq2, Int.toNat_natCast, Int.toNat_natCast]
  rw [hS]
  have u1 := up_small (d := d1) a1 (by omega)
  have u2 := up_small (d := d2) b1 (by omega)
  have big := fun {z : Nat} (h : z < 2 ^ 3000) => (Nat.lt_of_lt_of_le h (Nat.pow_le_pow_right (by decide) (by decide : 3000 ≤ 3360)) : z < 2 ^ 3360)
  obtain ⟨f1, g1, B1⟩ := bg_set fa (N := m1) (by omega)
  obtain ⟨f2, g2, B2⟩ := bg_up (n := d1) B1 (by omega) (big u1)
  obtain ⟨f3, g3, B3⟩ := bg_set fb (N := m2) (by omega)
  obtain ⟨f4, g4, B4⟩ := bg_up (n := d2) B3 (by omega) (big u2)
  unfold jX2_exactSum_B60
  simp only [ho, hou, if_true]
  rw [nI_clamp (by omega), nI_clamp (by omega), hm1, hd1, hp1, hd2, hp2, iz_sub, iz_sub, hq1, hq2, iZ_N, iZ_N, g1, Option.bind_some, g2, Option.bind_some, g3, Option.bind_some, g4, Option.bind_some]
  have hbz1 : bz (bI v1) = true := by cases v1 <;> decide
  have hbz2 : bz (bI v) = true := by cases v <;> decide
  by_cases c : v1 = v
  · rw [if_pos (bI_inj.mpr c)]
    obtain ⟨f5, g5, B5⟩ := bg_add B2 B4 (big_add u1 u2)
    rw [g5, b2_s, if_pos hbz1]
    refine ⟨v1, f5, f4, rfl, ?_, ?_⟩
    · rw [← c, sm_same.1]; exact B5
    · rw [← c]; exact sm_same.2
  · rw [if_neg (fun q => c (bI_inj.mp q)), bg_compare B2 B4, b3_s]
    by_cases d : m1 * 2 ^ d1 < m2 * 2 ^ d2
    · rw [if_pos d, if_pos (show iZ (-1) < 0 by decide)]
      obtain ⟨f5, f6, g5, B5, B6⟩ := bg_swap th mi di po be mm ee B2 B4
      obtain ⟨f7, g7, B7⟩ := bg_less B5 B6 (by omega)
      rw [g5, bMv_s, g7, b2_s, if_pos hbz2]
      refine ⟨v, f7, f6, rfl, ?_, ?_⟩
      · rw [(sm_less c d).1]; exact B7
      · exact fun _ => (sm_less c d).2
    · have hneg : ¬ iZ (if m1 * 2 ^ d1 < m2 * 2 ^ d2 then -1 else if m1 * 2 ^ d1 = m2 * 2 ^ d2 then 0 else 1) < 0 := by
        rw [if_neg d]; split <;> decide
      rw [if_neg hneg]
      obtain ⟨f7, g7, B7⟩ := bg_less B2 B4 (by omega)
      rw [g7, b2_s, if_pos hbz1]
      refine ⟨v1, f7, f4, rfl, ?_, ?_⟩
      · rw [sm_abs (by omega), if_pos c]; exact B7
      · exact fun q => sm_sgn (by omega) q
/-- the model's sum -/
theorem ms_sum {mi : NI} {di : NL} {po : NI} {t u : Nat} (ht : t < 16) (hu : u < 16) {v1 v2 : Bool} {m1 m2 : Nat} {e1 e2 : Int} (hm1 : mi t = bI v1) (hd1 : di t = lN m1) (hp1 : po t = iZ e1) (n1 : nB v1 m1 e1) (hm2 : mi u = bI v2) (hd2 : di u = lN m2) (hp2 : po u = iZ e2) (n2 : nB v2 m2 e2) (o : Bool) (th be : Int32) (mm : Int64) (ee : Int32) (fa fb : NI) :
    ∃ (m' : Nat) (e' : Int) (fa' fb' : NI), jX2_sum th mi di po be mm ee fa fb (nI t) (nI u) (bI o) = some (iZ (if RN (S2 v1 (ot v2 o m2) m1 m2 e1 e2).natAbs (min e1 e2) false < BEY then 0 else -1), th, mi, di, po, bI (decide (S2 v1 (ot v2 o m2) m1 m2 e1 e2 < 0) && decide (RN (S2 v1 (ot v2 o m2) m1 m2 e1 e2).natAbs (min e1 e2) false ≠ 0)), lN m', iZ e', fa', fb') ∧ nrm m' e' (RN (S2 v1 (ot v2 o m2) m1 m2 e1 e2).natAbs (min e1 e2) false) := by
  have ho : ok (nI t) 16 = true := ok_n ht (by decide)
  have hou : ok (nI u) 16 = true := ok_n hu (by decide)
  obtain ⟨w, fa', fb', h1, h2, h3⟩ := ex_sum (g := fun _ => 0) ht hu hm1 hd1 hp1 n1 hm2 hd2 hp2 n2 o th be mm ee fa fb
  obtain ⟨a1, a2, a3, a4, a5⟩ := n1
  obtain ⟨b1, b2, b3, b4, b5⟩ := n2
  have hz6 : (iZ e2 ≤ iZ e1) ↔ e2 ≤ e1 := iz_le (by omega) (by omega) (by omega) (by omega)
  obtain ⟨m', e', k1, k2⟩ := near_m h2 (p := min e1 e2) (by omega) (by omega) w false th mi di po be mm ee fb'
  refine ⟨m', e', fa', fb', ?_, k2⟩
  unfold jX2_sum
  rw [h1, bM_s]
  simp only [ho, hou, if_true]
  rw [nI_clamp (by omega), nI_clamp (by omega), hp1, hp2]
  have hsame : (if iZ e2 ≤ iZ e1 then jX2_nearest th mi di po be mm ee fa' fb' (bI w) (iZ e2) 0 else jX2_nearest th mi di po be mm ee fa' fb' (bI w) (iZ e1) 0) = jX2_nearest th mi di po be mm ee fa' fb' (bI w) (iZ (min e1 e2)) (bI false) := by
    by_cases c : e2 ≤ e1
    · rw [if_pos (hz6.mpr c), show min e1 e2 = e2 by omega]; rfl
    · rw [if_neg (fun q => c (hz6.mp q)), show min e1 e2 = e1 by omega]; rfl
  rw [bM_id, bM_id, hsame, k1]
  have hb : (w && decide (RN (S2 v1 (ot v2 o m2) m1 m2 e1 e2).natAbs (min e1 e2) false ≠ 0)) = (decide (S2 v1 (ot v2 o m2) m1 m2 e1 e2 < 0) && decide (RN (S2 v1 (ot v2 o m2) m1 m2 e1 e2).natAbs (min e1 e2) false ≠ 0)) := by
    by_cases z : S2 v1 (ot v2 o m2) m1 m2 e1 e2 = 0
    · rw [z, Int.natAbs_zero, RN_0]; simp
    · rw [h3 z]
  rw [hb]
