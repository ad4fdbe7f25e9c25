/-! the root: class and model take the whole root of m * 2^a, with a mark of what is left -/
theorem zq_sqlt {a b : Nat} (h : a * a < b * b) : a < b := Nat.lt_of_not_le fun q => Nat.lt_irrefl _ (Nat.lt_of_lt_of_le h (Nat.mul_le_mul q q))
theorem zq_ru {a b N : Nat} (h1 : a * a ≤ N) (h2 : N < (a + 1) * (a + 1)) (h3 : b * b ≤ N) (h4 : N < (b + 1) * (b + 1)) : a = b := by
  have q1 : a < b + 1 := zq_sqlt (Nat.lt_of_le_of_lt h1 h4)
  have q2 : b < a + 1 := zq_sqlt (Nat.lt_of_le_of_lt h3 h2)
  omega
theorem zq_rd {T r r2 P : Nat} (hP : 0 < P) (h1 : r * r ≤ T) (h2 : T < (r + 1) * (r + 1)) (h3 : r2 * r2 ≤ T * (P * P)) (h4 : T * (P * P) < (r2 + 1) * (r2 + 1)) :
    r2 / P = r ∧ ((r2 % P = 0 ∧ r2 * r2 = T * (P * P)) ↔ r * r = T) := by
  have a1 : r * P < r2 + 1 := zq_sqlt (Nat.lt_of_le_of_lt (by
    rw [Nat.mul_mul_mul_comm]; exact Nat.mul_le_mul_right _ h1) h4)
  have a2 : r2 < (r + 1) * P := zq_sqlt (Nat.lt_of_le_of_lt h3 (by
    rw [Nat.mul_mul_mul_comm]; exact Nat.mul_lt_mul_of_pos_right h2 (Nat.mul_pos hP hP)))
  have hd : r2 / P = r := by
    apply Nat.le_antisymm
    · exact Nat.le_of_lt_succ ((Nat.div_lt_iff_lt_mul hP).mpr a2)
    · exact (Nat.le_div_iff_mul_le hP).mpr (Nat.le_of_lt_succ a1)
  refine ⟨hd, ?_⟩
  have hdm := Nat.div_add_mod r2 P
  rw [hd] at hdm
  constructor
  · intro ⟨q1, q2⟩
    have hr2 : r2 = r * P := by
      rw [q1, Nat.add_zero] at hdm
      rw [← hdm, Nat.mul_comm]
    rw [hr2, Nat.mul_mul_mul_comm] at q2
    exact Nat.eq_of_mul_eq_mul_right (Nat.mul_pos hP hP) q2
  · intro q
    have hr2 : r2 = r * P := by
      refine zq_ru h3 h4 ?_ ?_
      · rw [Nat.mul_mul_mul_comm, q]; exact Nat.le_refl _
      · rw [← q, ← Nat.mul_mul_mul_comm]; exact Nat.mul_lt_mul'' (Nat.lt_succ_self _) (Nat.lt_succ_self _)
    rw [hr2]
    exact ⟨Nat.mul_mod_left r P, by rw [Nat.mul_mul_mul_comm, q]⟩
theorem zq_RNroot {T r r2 j : Nat} {p : Int} (h1 : r * r ≤ T) (h2 : T < (r + 1) * (r + 1)) (h3 : r2 * r2 ≤ T * 2 ^ (2 * j)) (h4 : T * 2 ^ (2 * j) < (r2 + 1) * (r2 + 1)) (hr : 2 ^ 55 ≤ r) :
    RN (r ||| (if r * r = T then 0 else 1)) (p + j) false = RN r2 p (decide (r2 * r2 ≠ T * 2 ^ (2 * j))) := by
  have e0 : 2 ^ (2 * j) = 2 ^ j * 2 ^ j := by rw [← Nat.pow_add]; congr 1; omega
  rw [e0] at h3 h4 ⊢
  obtain ⟨d1, d2⟩ := zq_rd (Nat.two_pow_pos j) h1 h2 h3 h4
  have hJ := RN_jam (N := r2) (k := j) (p := p) (s := decide (r2 * r2 ≠ T * (2 ^ j * 2 ^ j))) (by rw [d1]; exact hr)
  rw [← hJ]
  have hb : (if r2 % 2 ^ j = 0 ∧ decide (r2 * r2 ≠ T * (2 ^ j * 2 ^ j)) = false then 0 else 1 : Nat) = (if r * r = T then 0 else 1) := by
    by_cases c : r * r = T
    · have q := d2.mpr c
      rw [if_pos c, if_pos ⟨q.1, by simp [q.2]⟩]
    · rw [if_neg c, if_neg]
      intro q
      exact c (d2.mp ⟨q.1, by simpa using q.2⟩)
  unfold jam
  rw [d1, hb]
/-- halves of ints -/
theorem zq_t2 (a : Int) : a.tdiv 2 = if 0 ≤ a then a / 2 else -((-a) / 2) := by
  by_cases c : 0 ≤ a
  · rw [if_pos c, Int.tdiv_eq_ediv_of_nonneg c]
  · rw [if_neg c, ← Int.tdiv_eq_ediv_of_nonneg (show 0 ≤ -a by omega), Int.neg_tdiv, Int.neg_neg]
theorem zq_half {a : Int} (h1 : -2 ^ 30 ≤ a) (h2 : a < 2 ^ 30) : iZ a / 2 = iZ (if 0 ≤ a then a / 2 else -((-a) / 2)) := by
  rw [← zq_t2]
  exact (Int32.ofInt_tdiv (a := a) (b := 2) (by show (-2147483648 : Int) ≤ a; omega) (by show a ≤ (2147483647 : Int); omega) (by decide) (by decide)).symm
theorem zq_half2 {h : Int} (h1 : -2 ^ 29 ≤ h) (h2 : h < 2 ^ 29) : iZ (2 * h) / 2 = iZ h := by
  rw [zq_half (by omega) (by omega)]
  congr 1
  split <;> omega
theorem zq_even {a : Int} (h1 : -2 ^ 30 ≤ a) (h2 : a < 2 ^ 30) : (iZ a - iZ a / 2 * 2 = 0) ↔ a % 2 = 0 := by
  rw [zq_half h1 h2, show (2 : Int32) = iZ 2 from rfl, iz_mul, iz_sub]
  split
  · rw [ieq0 (by omega) (by omega)]; omega
  · rw [ieq0 (by omega) (by omega)]; omega
theorem zq_and1 {E : Int} (h1 : -2 ^ 30 ≤ E) (h2 : E < 2 ^ 30) : iZ E &&& 1 = nI (E % 2).toNat := by
  by_cases c : 0 ≤ E
  · obtain ⟨n, rfl⟩ : ∃ n : Nat, E = n := ⟨E.toNat, by omega⟩
    rw [iZ_N, pk_andN (n := n) (by omega) (m := 1) 1 (by decide)]
    congr 1
  · obtain ⟨n, hn⟩ : ∃ n : Nat, E = (n : Int) - 4294967296 := ⟨(E + 4294967296).toNat, by omega⟩
    have e : iZ E = nI n := by rw [hn, ← iz_sub, iZ_N, show iZ 4294967296 = 0 from rfl, Int32.sub_zero]
    rw [e, pk_andN (n := n) (by omega) (m := 1) 1 (by decide)]
    congr 1
    omega
/-- the class: two places at a time -/
theorem zq_cr {T m : Nat} (hT : T = m * 2 ^ 58) (hm : m < 2 ^ 54) {x5 : Int32} : ∀ (d i k r l : Nat), i + d = 56 → d < k → r * r + l = T / 2 ^ (2 * d) → l ≤ 2 * r → r < 2 ^ i →
    ∃ r' l' : Nat, jX0_root_L39 k (lN m) x5 (lN r) (lN l) (nI (i + 1)) = jX0_root_B140 x5 (lN (r' ||| (if l' = 0 then 0 else 1))) ∧ r' * r' + l' = T ∧ l' ≤ 2 * r' ∧ r' < 2 ^ 56 := by
  intro d
  induction d with
  | zero =>
    intro i k r l hi hk h1 h2 h3
    obtain ⟨k, rfl⟩ : ∃ z, k = z + 1 := ⟨k - 1, by omega⟩
    have hi56 : i = 56 := by omega
    subst hi56
    refine ⟨r, l, ?_, by rw [h1, Nat.mul_zero, Nat.pow_zero, Nat.div_one], h2, h3⟩
    have sh : jX0_root_L39 (k + 1) (lN m) x5 (lN r) (lN l) (nI (56 + 1)) = (if 56 < nI (56 + 1) then jX0_root_B140 x5 (if lN l = 0 then lN r else lN r ||| 1 : Int64) else _) := rfl
    rw [sh, if_pos (by decide)]
    congr 1
    by_cases c : l = 0
    · rw [if_pos ((ln0 (by omega)).mpr c), if_pos c, Nat.or_zero]
    · rw [if_neg (fun w => c ((ln0 (by omega)).mp w)), if_neg c, show (1 : Int64) = lN 1 from rfl, wb_or (by omega) (by omega)]
  | succ d ih =>
    intro i k r l hi hk h1 h2 h3
    obtain ⟨k, rfl⟩ : ∃ z, k = z + 1 := ⟨k - 1, by omega⟩
    have hi2 : 2 ^ i ≤ 2 ^ 55 := Nat.pow_le_pow_right (by decide) (by omega)
    have hn : (if 27 < nI (i + 1) then 0 else jX0_lowPlaces (su (lN m) (2 * (27 - nI (i + 1)))) 2 : Int64) = lN (T / 2 ^ (2 * d) % 4) := by
      by_cases c : 27 < i + 1
      · rw [if_pos (show (27 : Int32) < nI (i + 1) from nI_lt (a := 27) c (by omega))]
        have e : T / 2 ^ (2 * d) = m * 2 ^ (56 - 2 * d) * 4 := by
          have e2 : m * 2 ^ 58 = m * 2 ^ (56 - 2 * d) * 4 * 2 ^ (2 * d) := by
            rw [Nat.mul_assoc, Nat.mul_assoc, show (4 : Nat) = 2 ^ 2 from rfl, ← Nat.pow_add, ← Nat.pow_add]
            congr 2
            omega
          rw [hT, e2, Nat.mul_div_cancel _ (Nat.two_pow_pos _)]
        rw [e, Nat.mul_mod_left]; rfl
      · rw [if_neg (show ¬ (27 : Int32) < nI (i + 1) from nI_nlt (b := i + 1) (a := 27) (by omega) (by omega))]
        have e1 : (2 * (27 - nI (i + 1)) : Int32) = nI (52 - 2 * i) := by
          rw [← iZ_N, show (27 : Int32) = iZ 27 from rfl, iz_sub, show (2 : Int32) = iZ 2 from rfl, iz_mul, ← iZ_N]
          congr 1
          omega
        have e : T / 2 ^ (2 * d) = m / 2 ^ (52 - 2 * i) := by
          rw [hT, show 2 * d = (52 - 2 * i) + 58 by omega, Nat.pow_add, Nat.mul_div_mul_right _ _ (Nat.two_pow_pos 58)]
        rw [e1, su_n (by omega) (by omega), show (2 : Int32) = nI 2 from rfl, lp_n (Nat.lt_of_le_of_lt (Nat.div_le_self _ _) (by omega)) (by omega), e]
    have hP : T / 2 ^ (2 * (d + 1)) = T / 2 ^ (2 * d) / 4 := by
      rw [show 2 * (d + 1) = 2 * d + 2 by omega, Nat.pow_add, Nat.div_div_eq_div_mul]
    rw [hP] at h1
    have sh : jX0_root_L39 (k + 1) (lN m) x5 (lN r) (lN l) (nI (i + 1)) = (if 56 < nI (i + 1) then _ else (if ((sl (lN l) 2) ||| (if 27 < nI (i + 1) then 0 else jX0_lowPlaces (su (lN m) (2 * (27 - nI (i + 1)))) 2 : Int64)) < ((sl (lN r) 2) ||| 1) then jX0_root_L39 k (lN m) x5 (sl (lN r) 1) ((sl (lN l) 2) ||| (if 27 < nI (i + 1) then 0 else jX0_lowPlaces (su (lN m) (2 * (27 - nI (i + 1)))) 2 : Int64)) (nI (i + 1) + 1) else jX0_root_L39 k (lN m) x5 ((sl (lN r) 1) ||| 1) (((sl (lN l) 2) ||| (if 27 < nI (i + 1) then 0 else jX0_lowPlaces (su (lN m) (2 * (27 - nI (i + 1)))) 2 : Int64)) - ((sl (lN r) 2) ||| 1)) (nI (i + 1) + 1))) := rfl
    rw [sh, if_neg (show ¬ (56 : Int32) < nI (i + 1) from nI_nlt (b := i + 1) (a := 56) (by omega) (by omega)), hn, nI_1]
    have ih' := ih (i + 1) k
    generalize T / 2 ^ (2 * d) = P at *
    have hn4 : P % 4 < 4 := Nat.mod_lt _ (by decide)
    have hPP : P = 4 * (r * r + l) + P % 4 := by omega
    generalize P % 4 = n at *
    have hA : sl (lN l) 2 ||| lN n = lN (4 * l + n) := by
      rw [show (2 : Int32) = nI 2 from rfl, sl_n l (by omega), wb_or (by omega) (by omega), or_add (by omega)]
      congr 1; omega
    have hB : sl (lN r) 2 ||| 1 = lN (4 * r + 1) := by
      rw [show (2 : Int32) = nI 2 from rfl, sl_n r (by omega), show (1 : Int64) = lN 1 from rfl, wb_or (by omega) (by omega), or_add (by omega)]
      congr 1; omega
    have hC : sl (lN r) 1 = lN (2 * r) := by
      rw [show (1 : Int32) = nI 1 from rfl, sl_n r (by omega)]
      congr 1; omega
    have hD : lN (2 * r) ||| 1 = lN (2 * r + 1) := by
      rw [show (1 : Int64) = lN 1 from rfl, wb_or (by omega) (by omega), show 2 * r = r * 2 ^ 1 by omega, or_add (by omega)]
    have q0 : 2 * r * (2 * r) = 4 * (r * r) := Nat.mul_mul_mul_comm 2 r 2 r
    have q1 : (2 * r + 1) * (2 * r + 1) = 2 * r * (2 * r) + 4 * r + 1 := by
      rw [Nat.mul_add, Nat.add_mul]; omega
    have hpw : 2 ^ (i + 1) = 2 ^ i * 2 := Nat.pow_succ 2 i
    rw [hA, hB, hC, hD]
    by_cases c : 4 * l + n < 4 * r + 1
    · rw [if_pos ((ln_lt (by omega) (by omega)).mpr c)]
      exact ih' (2 * r) (4 * l + n) (by omega) (by omega) (by omega) (by omega) (by omega)
    · rw [if_neg (fun w => c ((ln_lt (by omega) (by omega)).mp w)), lN_sub (by omega)]
      exact ih' (2 * r + 1) (4 * l + n - (4 * r + 1)) (by omega) (by omega) (by omega) (by omega) (by omega)
theorem zq_csroot {m : Nat} {e : Int} (n1 : nB false m e) (h0 : m ≠ 0) :
    ∃ (a r : Nat) (q : Int), 2 * q = e - a ∧ 2 ^ 110 ≤ m * 2 ^ a ∧ m * 2 ^ a < 2 ^ 112 ∧ r * r ≤ m * 2 ^ a ∧ m * 2 ^ a < (r + 1) * (r + 1) ∧
      jX0_root (lZ (sg false (rk m e))) = some (lN (min (RN (r ||| (if r * r = m * 2 ^ a then 0 else 1)) q false) BEY)) := by
  obtain ⟨l1, u1⟩ := lift_b n1.1 h0
  obtain ⟨o1, o2⟩ := lift_n n1
  have hbl := bl_le n1.1
  have g1 := n1.2.1
  have g2 := n1.2.2.1
  obtain ⟨s, hs⟩ : ∃ s : Nat, s = 53 - bl m := ⟨_, rfl⟩
  rw [← hs] at l1 u1 o1 o2
  obtain ⟨o, ho⟩ : ∃ o : Nat, o = ((e - (s : Nat)) % 2).toNat := ⟨_, rfl⟩
  obtain ⟨h, hh⟩ : ∃ h : Int, e - (s : Nat) - (o : Nat) = 2 * h := ⟨(e - (s : Nat)) / 2, by omega⟩
  have ho1 : o = 0 ∨ o = 1 := by omega
  have hand : iZ (e - (s : Nat)) &&& 1 = nI o := by rw [ho]; exact zq_and1 (by omega) (by omega)
  have hpo : 1 ≤ 2 ^ o ∧ 2 ^ o ≤ 2 := by rcases ho1 with q | q <;> rw [q] <;> decide
  have hM1 : m * 2 ^ s * 2 ^ o < 2 ^ 54 := by
    have : m * 2 ^ s * 2 ^ o ≤ m * 2 ^ s * 2 := Nat.mul_le_mul_left _ hpo.2
    omega
  have hM2 : 2 ^ 52 ≤ m * 2 ^ s * 2 ^ o := by
    have : m * 2 ^ s * 1 ≤ m * 2 ^ s * 2 ^ o := Nat.mul_le_mul_left _ hpo.1
    omega
  have hTa : m * 2 ^ (s + o + 58) = m * 2 ^ s * 2 ^ o * 2 ^ 58 := by rw [Nat.pow_add, Nat.pow_add, ← Nat.mul_assoc, ← Nat.mul_assoc]
  obtain ⟨r, l, k1, k2, k3, k4⟩ := zq_cr (T := m * 2 ^ (s + o + 58)) (m := m * 2 ^ s * 2 ^ o) hTa hM1 (x5 := iZ (2 * h)) 56 0 FU 0 0 (by omega) (by decide) (by
    rw [hTa, Nat.div_eq_of_lt (by omega)]) (by omega) (by decide)
  have hrr : (r + 1) * (r + 1) = r * r + 2 * r + 1 := by rw [Nat.mul_add, Nat.add_mul]; omega
  refine ⟨s + o + 58, r, h - 29, by omega, by omega, by omega, by omega, by omega, ?_⟩
  unfold jX0_root
  have hne : ¬ lZ (sg false (rk m e)) = 0 := fun q => h0 ((sg_0 n1).mp q)
  rw [if_neg hne, o1, o2, hand, sl_n _ (by omega), ← iZ_N, iz_sub, hh]
  rw [show nI (0 + 1) = 1 from rfl, show lN 0 = 0 from rfl] at k1
  rw [k1]
  unfold jX0_root_B140
  have hl : (if l = 0 then 0 else 1 : Nat) = (if r * r = m * 2 ^ (s + o + 58) then 0 else 1) := by
    by_cases c : l = 0
    · rw [if_pos c, if_pos (by omega)]
    · rw [if_neg c, if_neg (by omega)]
  have hor : (r ||| (if r * r = m * 2 ^ (s + o + 58) then 0 else 1)) < 2 ^ 63 := Nat.or_lt_two_pow (by omega) (by split <;> decide)
  rw [hl, zq_half2 (by omega) (by omega), show (29 : Int32) = iZ 29 from rfl, iz_sub, near_n hor (by omega) (by omega)]
/-- the model: bit by bit -/
theorem zq_mr {N : Nat} (hN : N < 2 ^ 119) {fb : NI} (hB : Bg fb N) {th : Int32} {mi : NI} {di : NL} {po : NI} {be : Int32} {mm : Int64} {ee : Int32} {x4 x5 : Int32} : ∀ (j k x : Nat) (fa : NI), j ≤ 61 → j < k → x * x ≤ N → N < (x + 2 ^ j) * (x + 2 ^ j) → x < 2 ^ 60 →
    ∃ (r : Nat) (fa' : NI), jX2_root_L85 k th mi di po be mm ee fa fb x4 x5 (lN x) (iZ ((j : Int) - 1)) = jX2_root_B180 th mi di po be mm ee fa' fb x4 x5 (lN r) (bI (decide (r * r ≠ N))) ∧ r * r ≤ N ∧ N < (r + 1) * (r + 1) ∧ r < 2 ^ 60 := by
  intro j
  induction j with
  | zero =>
    intro k x fa hj hk h1 h2 h3
    obtain ⟨k, rfl⟩ : ∃ z, k = z + 1 := ⟨k - 1, by omega⟩
    obtain ⟨f1, p1, B1⟩ := bg_product fa (x := x) (y := x) (by omega) (by omega)
    refine ⟨x, f1, ?_, h1, h2, h3⟩
    have sh : jX2_root_L85 (k + 1) th mi di po be mm ee fa fb x4 x5 (lN x) (iZ (((0 : Nat) : Int) - 1)) = (if iZ (((0 : Nat) : Int) - 1) < 0 then (Option.bind (jX1_product fa (lN x) (lN x)) fun fa_4 => (b3 (jX1_compare fa_4 fb) fun r_5 fa_5 fb_5 => jX2_root_B180 th mi di po be mm ee fa_5 fb_5 x4 x5 (lN x) (if 0 ≤ r_5 then 0 else 1 : Int32))) else _) := rfl
    have hX : (if (0 : Int32) ≤ iZ (if x * x < N then -1 else if x * x = N then 0 else 1) then 0 else 1 : Int32) = bI (decide (x * x ≠ N)) := by
      by_cases c : x * x < N
      · rw [if_pos c, if_neg (by decide)]
        simp [show x * x ≠ N by omega, bI]
      · rw [if_neg c, if_pos (show x * x = N by omega), if_pos (by decide)]
        simp [show x * x = N by omega, bI]
    rw [sh, if_pos (by decide), p1, Option.bind_some, bg_compare B1 hB, b3_s, hX]
  | succ j ih =>
    intro k x fa hj hk h1 h2 h3
    obtain ⟨k, rfl⟩ : ∃ z, k = z + 1 := ⟨k - 1, by omega⟩
    have hpj : 2 ^ j ≤ 2 ^ 60 := Nat.pow_le_pow_right (by decide) (by omega)
    have e1 : iZ (((j + 1 : Nat) : Int) - 1) = nI j := by rw [← iZ_N]; congr 1; omega
    have e2 : nI j + (-1) = iZ ((j : Int) - 1) := by rw [← iZ_N, show (-1 : Int32) = iZ (-1) from rfl, iz_add]; rfl
    have e3 : lN x + sl 1 (nI j) = lN (x + 2 ^ j) := by rw [show (1 : Int64) = lN 1 from rfl, sl_n 1 (by omega), Nat.one_mul, lN_add]
    have hs1 : (x + 2 ^ (j + 1)) = x + 2 ^ j + 2 ^ j := by rw [Nat.pow_succ]; omega
    have sh : jX2_root_L85 (k + 1) th mi di po be mm ee fa fb x4 x5 (lN x) (nI j) = (if nI j < 0 then _ else (if 1152921504606846976 ≤ (lN x + (sl 1 (nI j))) then jX2_root_L85 k th mi di po be mm ee fa fb x4 x5 (lN x) (nI j + (-1)) else (Option.bind (jX1_product fa (lN x + (sl 1 (nI j))) (lN x + (sl 1 (nI j)))) fun fa_8 => (b3 (jX1_compare fa_8 fb) fun r_9 fa_9 fb_9 => jX2_root_L85 k th mi di po be mm ee fa_9 fb_9 x4 x5 (if 0 < r_9 then lN x else lN x + (sl 1 (nI j)) : Int64) (nI j + (-1)))))) := rfl
    rw [e1, sh, if_neg (show ¬ nI j < 0 from nI_nlt (b := 0) (by omega) (by omega)), e2, e3]
    have hc : ((1152921504606846976 : Int64) ≤ lN (x + 2 ^ j)) ↔ 2 ^ 60 ≤ x + 2 ^ j := ln_le (a := 1152921504606846976) (by omega) (by omega)
    by_cases c : 2 ^ 60 ≤ x + 2 ^ j
    · rw [if_pos (hc.mpr c)]
      refine ih k x fa (by omega) (by omega) h1 ?_ h3
      have : 2 ^ 60 * 2 ^ 60 ≤ (x + 2 ^ j) * (x + 2 ^ j) := Nat.mul_le_mul c c
      omega
    · rw [if_neg (fun q => c (hc.mp q))]
      obtain ⟨f1, p1, B1⟩ := bg_product fa (x := x + 2 ^ j) (y := x + 2 ^ j) (by omega) (by omega)
      rw [p1, Option.bind_some, bg_compare B1 hB, b3_s]
      by_cases d : (x + 2 ^ j) * (x + 2 ^ j) ≤ N
      · have hr : ¬ (0 : Int32) < iZ (if (x + 2 ^ j) * (x + 2 ^ j) < N then -1 else if (x + 2 ^ j) * (x + 2 ^ j) = N then 0 else 1) := by
          by_cases c1 : (x + 2 ^ j) * (x + 2 ^ j) < N
          · rw [if_pos c1]; decide
          · rw [if_neg c1, if_pos (by omega)]; decide
        rw [if_neg hr]
        exact ih k (x + 2 ^ j) f1 (by omega) (by omega) d (by rw [← hs1]; exact h2) (by omega)
      · have hr : (0 : Int32) < iZ (if (x + 2 ^ j) * (x + 2 ^ j) < N then -1 else if (x + 2 ^ j) * (x + 2 ^ j) = N then 0 else 1) := by
          rw [if_neg (by omega), if_neg (by omega)]; decide
        rw [if_pos hr]
        exact ih k x f1 (by omega) (by omega) h1 (by omega) h3
theorem zq_msroot {mi : NI} {di : NL} {po : NI} {t : Nat} (ht : t < 16) {m : Nat} {e : Int} (hd1 : di t = lN m) (hp1 : po t = iZ e) (n1 : nB false m e) (h0 : m ≠ 0) (th be : Int32) (mm : Int64) (ee : Int32) (fa fb : NI) :
    ∃ (b r : Nat) (q : Int) (m' : Nat) (e' : Int) (fa' fb' : NI), 2 * q = e - b ∧ 2 ^ 117 ≤ m * 2 ^ b ∧ m * 2 ^ b < 2 ^ 119 ∧ r * r ≤ m * 2 ^ b ∧ m * 2 ^ b < (r + 1) * (r + 1) ∧
      jX2_root th mi di po be mm ee fa fb (nI t) = some (iZ (if RN r q (decide (r * r ≠ m * 2 ^ b)) < BEY then 0 else -1), th, mi, di, po, bI (false && decide (RN r q (decide (r * r ≠ m * 2 ^ b)) ≠ 0)), lN m', iZ e', fa', fb') ∧ nrm m' e' (RN r q (decide (r * r ≠ m * 2 ^ b))) := by
  have hok : ok (nI t) 16 = true := ok_n ht (by decide)
  have hm := n1.1
  have g1 := n1.2.1
  have g2 := n1.2.2.1
  obtain ⟨o, ho⟩ : ∃ o : Nat, o = (e % 2).toNat := ⟨_, rfl⟩
  have ho1 : o = 0 ∨ o = 1 := by omega
  -- first the even exponent
  have hE : jX2_root th mi di po be mm ee fa fb (nI t) = jX2_root_B31 th mi di po be mm ee fa fb (lN (m * 2 ^ o)) (iZ (e - (o : Nat))) := by
    unfold jX2_root
    rw [if_pos hok, if_pos hok, nI_clamp (by omega), hp1, hd1]
    by_cases c : e % 2 = 0
    · rw [if_pos ((zq_even (by omega) (by omega)).mpr c)]
      have : o = 0 := by omega
      subst this
      rw [Nat.pow_zero, Nat.mul_one]
      congr 1
      congr 1
      omega
    · rw [if_neg (fun q => c ((zq_even (by omega) (by omega)).mp q))]
      have : o = 1 := by omega
      subst this
      rw [show (2 : Int64) = lN 2 from rfl, lN_mul, Nat.pow_one, Nat.mul_comm 2 m, show (-1 : Int32) = iZ (-1) from rfl, iz_add]
      congr 1
  have hmo0 : m * 2 ^ o ≠ 0 := fun q => by
    rcases Nat.mul_eq_zero.mp q with q | q
    · exact h0 q
    · have := Nat.two_pow_pos o; omega
  have hmo : m * 2 ^ o < 2 ^ 54 := by rcases ho1 with q | q <;> rw [q] <;> omega
  have hbl := bl_le hmo
  have hbp := bl_pos hmo0
  obtain ⟨f1, p1, B1⟩ := bg_set fb (N := m * 2 ^ o) (by omega)
  obtain ⟨w, hw⟩ : ∃ w : Nat, w = 118 - bl (m * 2 ^ o) + bl (m * 2 ^ o) % 2 := ⟨_, rfl⟩
  have hw2 : (if (iZ ((118 - bl (m * 2 ^ o) : Nat) : Int) - iZ ((118 - bl (m * 2 ^ o) : Nat) : Int) / 2 * 2) = 0 then iZ ((118 - bl (m * 2 ^ o) : Nat) : Int) else iZ ((118 - bl (m * 2 ^ o) : Nat) : Int) + 1 : Int32) = nI w := by
    by_cases c : ((118 - bl (m * 2 ^ o) : Nat) : Int) % 2 = 0
    · rw [if_pos ((zq_even (by omega) (by omega)).mpr c), iZ_N]; exact congrArg nI (by omega)
    · rw [if_neg (fun q => c ((zq_even (by omega) (by omega)).mp q)), iZ_N, nI_1]; exact congrArg nI (by omega)
  have hblN := bl_mul hmo0 w
  have hN0 : m * 2 ^ o * 2 ^ w ≠ 0 := fun q => by
    rcases Nat.mul_eq_zero.mp q with q | q
    · exact hmo0 q
    · have := Nat.two_pow_pos w; omega
  have hNl := bl_ge hN0
  have hNu := bl_lt (m * 2 ^ o * 2 ^ w)
  have hN1 : 2 ^ 117 ≤ m * 2 ^ o * 2 ^ w := Nat.le_trans (Nat.pow_le_pow_right (by decide) (by omega)) hNl
  have hN2 : m * 2 ^ o * 2 ^ w < 2 ^ 119 := Nat.lt_of_lt_of_le hNu (Nat.pow_le_pow_right (by decide) (by omega))
  obtain ⟨f2, p2, B2⟩ := bg_up (n := w) B1 (by omega) (Nat.lt_of_lt_of_le hN2 (Nat.pow_le_pow_right (by decide) (by decide)))
  have hNe : m * 2 ^ (o + w) = m * 2 ^ o * 2 ^ w := by rw [Nat.pow_add, ← Nat.mul_assoc]
  obtain ⟨r, f3, k1, k2, k3, k4⟩ := zq_mr hN2 B2 (th := th) (mi := mi) (di := di) (po := po) (be := be) (mm := mm) (ee := ee) (x4 := iZ (e - (o : Nat))) (x5 := nI w) 61 FU 0 fa (by omega) (by decide) (by omega) (by
    rw [Nat.zero_add]
    have : 2 ^ 61 * 2 ^ 61 = 2 ^ 122 := by decide
    omega) (by decide)
  obtain ⟨q, hq⟩ : ∃ q : Int, e - (o : Nat) - (w : Nat) = 2 * q := ⟨(e - (o : Nat) - (w : Nat)) / 2, by omega⟩
  obtain ⟨f4, p4, B4⟩ := bg_set f3 (N := r) (by omega)
  obtain ⟨m', e', z1, z2⟩ := near_m B4 (p := q) (by omega) (by omega) false (decide (r * r ≠ m * 2 ^ o * 2 ^ w)) th mi di po be mm ee f2
  refine ⟨o + w, r, q, m', e', f4, f2, by omega, by rw [hNe]; exact hN1, by rw [hNe]; exact hN2, by rw [hNe]; exact k2, by rw [hNe]; exact k3, ?_, by rw [hNe]; exact z2⟩
  rw [hNe, hE]
  unfold jX2_root_B31
  rw [p1, Option.bind_some, bg_length B1, b2_s]
  unfold jX2_root_B51 jX2_root_B69
  have hsub : (118 : Int32) - nI (bl (m * 2 ^ o)) = iZ ((118 - bl (m * 2 ^ o) : Nat) : Int) := by
    rw [← iZ_N, show (118 : Int32) = iZ 118 from rfl, iz_sub]; exact congrArg iZ (by omega)
  rw [hsub, hw2, p2, Option.bind_some]
  rw [show lN 0 = 0 from rfl, show iZ (((61 : Nat) : Int) - 1) = 60 from rfl] at k1
  rw [k1]
  unfold jX2_root_B180
  rw [p4, Option.bind_some, bM_id, ← iZ_N, iz_sub, hq, zq_half2 (by omega) (by omega)]
  exact z1
