/-! the rest -/
theorem RN_zero {m : Nat} {e : Int} (hm : m < 2 ^ 53) (he : -1074 ≤ e) : RN m e false = 0 ↔ m = 0 := by
  constructor
  · intro q
    by_cases h0 : m = 0
    · exact h0
    · exfalso
      have hc := cut_ge m e
      have hb := bl_le hm
      unfold RN rr at q
      rw [if_neg h0, if_pos (by omega)] at q
      have := Nat.mul_pos (Nat.pos_of_ne_zero h0) (Nat.two_pow_pos (-(cutZ m e)).toNat)
      omega
  · intro q; rw [q]; exact RN_0 _ _
theorem be_z {m : Nat} {e : Int} (hm : m < 2 ^ 53) (he : -1074 ≤ e) (v : Bool) : (if m = 0 then 0 else bI v) = bI (v && decide (RN m e false ≠ 0)) := by
  have hz := RN_zero hm he
  by_cases h0 : m = 0
  · rw [if_pos h0]; simp [hz.mpr h0]; rfl
  · rw [if_neg h0]; simp [show RN m e false ≠ 0 from fun q => h0 (hz.mp q)]
theorem mod_step (r a b y : Nat) : (r * 2 ^ a % y) * 2 ^ b % y = r * 2 ^ (a + b) % y := by
  rw [Nat.mod_mul_mod, Nat.mul_assoc, ← Nat.pow_add]
theorem cr_L {x0 x2 : Int64} {y : Nat} (hy : y < 2 ^ 53) (hy0 : y ≠ 0) : ∀ (k left : Nat) (T : Int), left < y → T.toNat < k → T ≤ 5000 → -100 ≤ T → jX0_rest_L47 k x0 x2 (lN y) (lN left) (iZ T) = some (jX0_withSignOf (jX0_nearest (lN (left * 2 ^ T.toNat % y)) (jX0_eOf x2)) x0) := by
  intro k
  induction k with
  | zero => intro left T _ h; omega
  | succ k ih =>
    intro left T hl hT h5 h6
    have hy1 : ¬ lN y = 0 := fun q => hy0 ((ln0 (by omega)).mp q)
    show (if iZ T ≤ 0 then some (jX0_withSignOf (jX0_nearest (lN left) (jX0_eOf x2)) x0) else (if lN y = 0 then none else jX0_rest_L47 k x0 x2 (lN y) ((sl (lN left) (jmin (iZ T) 10)) - (sl (lN left) (jmin (iZ T) 10)) / lN y * lN y) (iZ T + (-10)))) = _
    by_cases c : T ≤ 0
    · rw [if_pos ((ile0 (by omega) (by omega)).mpr c), show T.toNat = 0 by omega, Nat.pow_zero, Nat.mul_one, Nat.mod_eq_of_lt hl]
    · rw [if_neg (fun q => c ((ile0 (by omega) (by omega)).mp q)), if_neg hy1, show (10 : Int32) = iZ 10 from rfl, jmin_z (by omega) (by omega) (by omega) (by omega)]
      obtain ⟨s, hs⟩ : ∃ s : Nat, min T 10 = s := ⟨(min T 10).toNat, by omega⟩
      have hps : 2 ^ s ≤ 2 ^ 10 := Nat.pow_le_pow_right (by decide) (by omega)
      have hb : left * 2 ^ s ≤ 2 ^ 53 * 2 ^ 10 - 2 ^ 10 := by
        have : left * 2 ^ s ≤ (2 ^ 53 - 1) * 2 ^ 10 := Nat.mul_le_mul (by omega) hps
        omega
      rw [hs, iZ_N, sl_n _ (by omega), ln_rem (by omega) (by omega), show (-iZ 10 : Int32) = iZ (-10) from rfl, iz_add]
      rw [ih _ (T + -10) (Nat.mod_lt _ (Nat.pos_of_ne_zero hy0)) (by omega) (by omega) (by omega), mod_step, show s + (T + -10).toNat = T.toNat by omega]
def restN (m1 m2 : Nat) (e1 e2 : Int) : Nat := if rk m2 e2 ≤ rk m1 e1 then m1 * 2 ^ (e1 - e2).toNat % m2 else m1
def restP (m1 m2 : Nat) (e1 e2 : Int) : Int := if rk m2 e2 ≤ rk m1 e1 then e2 else e1
theorem rest_b {v1 v2 : Bool} {m1 m2 : Nat} {e1 e2 : Int} (n1 : nB v1 m1 e1) (n2 : nB v2 m2 e2) (h2 : m2 ≠ 0) : restN m1 m2 e1 e2 < 2 ^ 53 ∧ -1074 ≤ restP m1 m2 e1 e2 ∧ restP m1 m2 e1 e2 ≤ 971 := by
  obtain ⟨a1, a2, a3, a4, a5⟩ := n1
  obtain ⟨b1, b2, b3, b4, b5⟩ := n2
  unfold restN restP
  have := Nat.mod_lt (m1 * 2 ^ (e1 - e2).toNat) (Nat.pos_of_ne_zero h2)
  split
  · exact ⟨by omega, by omega, by omega⟩
  · exact ⟨by omega, by omega, by omega⟩
theorem cs_rest {v1 v2 : Bool} {m1 m2 : Nat} {e1 e2 : Int} (n1 : nB v1 m1 e1) (n2 : nB v2 m2 e2) (h2 : m2 ≠ 0) :
    jX0_rest (lZ (sg v1 (rk m1 e1))) (lZ (sg v2 (rk m2 e2))) = some (lZ (sg v1 ((min (RN (restN m1 m2 e1 e2) (restP m1 m2 e1 e2) false) BEY : Nat) : Int))) := by
  have k1 := rk_b n1
  have k2 := rk_b n2
  have s1 := sg_neg n1
  have q1 := n1.1
  have q2 := n2.1
  have g1 := n1.2.1
  have g2 := n1.2.2.1
  have g3 := n2.2.1
  have g4 := n2.2.2.1
  have g5 := n2.2.2.2.1
  have ha1 : jabsl (lZ (sg v1 (rk m1 e1))) = lN (rk m1 e1).toNat := by
    rw [jabsl_z (by unfold sg; split <;> omega) (by unfold sg; split <;> omega), sg_abs v1 k1.1]
  have ha2 : jabsl (lZ (sg v2 (rk m2 e2))) = lN (rk m2 e2).toNat := by
    rw [jabsl_z (by unfold sg; split <;> omega) (by unfold sg; split <;> omega), sg_abs v2 k2.1]
  have hy1 : ¬ lN m2 = 0 := fun q => h2 ((ln0 (by omega)).mp q)
  have hw : ∀ X : Int, (if sg v1 (rk m1 e1) < 0 then -X else X) = sg v1 X := by
    intro X
    cases v1 with
    | true => rw [if_pos (s1.mpr rfl)]; rfl
    | false => rw [if_neg (fun q => absurd (s1.mp q) (by decide))]; rfl
  unfold jX0_rest
  rw [(mo_n n1).1, (mo_n n1).2, (mo_n n2).1, (mo_n n2).2, if_neg hy1, ha1, ha2]
  have hc : (lN (rk m2 e2).toNat ≤ lN (rk m1 e1).toNat) ↔ rk m2 e2 ≤ rk m1 e1 := by rw [ln_le (by omega) (by omega)]; omega
  unfold restN restP
  by_cases c : rk m2 e2 ≤ rk m1 e1
  · have he : e2 ≤ e1 := by unfold rk at c; omega
    rw [if_pos (hc.mpr c), if_neg hy1, ln_rem (by omega) (by omega), iz_sub, cr_L q2 h2 FU _ (e1 - e2) (Nat.mod_lt _ (Nat.pos_of_ne_zero h2)) (by unfold FU; omega) (by omega) (by omega), (mo_n n2).2, if_pos c, if_pos c]
    have hm : m1 % m2 * 2 ^ (e1 - e2).toNat % m2 = m1 * 2 ^ (e1 - e2).toNat % m2 := by rw [Nat.mod_mul_mod]
    have hlt := Nat.mod_lt (m1 * 2 ^ (e1 - e2).toNat) (Nat.pos_of_ne_zero h2)
    rw [hm, near_n (by omega) (by omega) (by omega), ← lZ_N, ws_z (by unfold sg; split <;> omega) (by unfold sg; split <;> omega), hw]
  · rw [if_neg (fun q => c (hc.mp q)), if_neg c, if_neg c]
    have hf := RN_fit (m := m1) (e := e1) (by omega) (by omega) n1.2.2.2.1
    have hB : BEY = 9218868437227405312 := rfl
    have hk : rk m1 e1 = (RN m1 e1 false : Int) := by rw [hf]; rfl
    rw [Nat.min_eq_left (by omega), ← hk]
theorem take_n {mi : NI} {di : NL} {po : NI} {t : Nat} (ht : t < 16) {v1 : Bool} (hm1 : mi t = bI v1) (th be : Int32) (mm : Int64) (ee : Int32) (fa fb : NI) :
    jX2_take th mi di po be mm ee fa fb (nI t) = some (th, mi, di, po, bI v1, di t, po t, fa, fb) := by
  have ho : ok (nI t) 16 = true := ok_n ht (by decide)
  unfold jX2_take
  simp only [ho, if_true]
  rw [nI_clamp (by omega), hm1, if_pos (by cases v1 <;> decide)]
theorem mr_L {th : Int32} {mi : NI} {di : NL} {po : NI} {be : Int32} {mm : Int64} {ee : Int32} {fa fb : NI} {u : Nat} (hu : u < 16) {y : Nat} (hd : di u = lN y) (hy : y < 2 ^ 53) (hy0 : y ≠ 0) (far : Nat) (hfar : far < 4000) : ∀ (d i k r : Nat), i + d = far → d < k → r < y →
    jX2_rest_L41 k th mi di po be mm ee fa fb (nI u) (nI far) (lN r) (nI i) = jX2_settle th mi di po be (lN (r * 2 ^ d % y)) (po u) fa fb := by
  have hou : ok (nI u) 16 = true := ok_n hu (by decide)
  intro d
  induction d with
  | zero =>
    intro i k r hi hk hr
    obtain ⟨k, rfl⟩ : ∃ z, k = z + 1 := ⟨k - 1, by omega⟩
    unfold jX2_rest_L41
    rw [if_pos (nI_le (by omega) (by omega)), if_pos hou, bM_id, nI_clamp (by omega), Nat.pow_zero, Nat.mul_one, Nat.mod_eq_of_lt hr]
  | succ d ih =>
    intro i k r hi hk hr
    obtain ⟨k, rfl⟩ : ∃ z, k = z + 1 := ⟨k - 1, by omega⟩
    unfold jX2_rest_L41
    rw [if_neg (nI_ge (by omega) (by omega)), if_pos hou, nI_clamp (by omega), hd, if_neg (fun q => hy0 ((ln0 (by omega)).mp q)), show (2 : Int64) = lN 2 from rfl, lN_mul, ln_rem (by omega) (by omega), nI_1, ih (i + 1) k (2 * r % y) (by omega) (by omega) (Nat.mod_lt _ (Nat.pos_of_ne_zero hy0))]
    have := mod_step r 1 d y
    rw [Nat.pow_one, Nat.mul_comm r 2, Nat.add_comm 1 d] at this
    rw [this]
theorem ms_rest {mi : NI} {di : NL} {po : NI} {t u : Nat} (ht : t < 16) (hu : u < 16) {v1 v2 : Bool} {m1 m2 : Nat} {e1 e2 : Int} (hm1 : mi t = bI v1) (hd1 : di t = lN m1) (hp1 : po t = iZ e1) (n1 : nB v1 m1 e1) (hd2 : di u = lN m2) (hp2 : po u = iZ e2) (n2 : nB v2 m2 e2) (h2 : m2 ≠ 0) (th be : Int32) (mm : Int64) (ee : Int32) (fa fb : NI) :
    ∃ (m' : Nat) (e' : Int), jX2_rest th mi di po be mm ee fa fb (nI t) (nI u) = some (iZ (if RN (restN m1 m2 e1 e2) (restP m1 m2 e1 e2) false < BEY then 0 else -1), th, mi, di, po, bI (v1 && decide (RN (restN m1 m2 e1 e2) (restP m1 m2 e1 e2) false ≠ 0)), lN m', iZ e', fa, fb) ∧ nrm m' e' (RN (restN m1 m2 e1 e2) (restP m1 m2 e1 e2) false) := by
  have ho : ok (nI t) 16 = true := ok_n ht (by decide)
  have hou : ok (nI u) 16 = true := ok_n hu (by decide)
  obtain ⟨r1, r2, r3⟩ := rest_b n1 n2 h2
  obtain ⟨a1, a2, a3, a4, a5⟩ := n1
  obtain ⟨b1, b2, b3, b4, b5⟩ := n2
  obtain ⟨m', e', k1, k2⟩ := settle_n th mi di po (bI v1) fa fb (restN m1 m2 e1 e2) (restP m1 m2 e1 e2) (by omega) r2 (by omega)
  rw [be_z r1 r2] at k1
  refine ⟨m', e', ?_, k2⟩
  rw [← k1]
  unfold jX2_rest
  rw [take_n ht hm1, bMv_s]
  simp only [ho, hou, if_true]
  rw [nI_clamp (by omega), nI_clamp (by omega), hp1, hp2, iz_sub, hd1, hd2]
  by_cases c : e1 - e2 < 0
  · rw [if_pos ((ilt0 (by omega) (by omega)).mpr c), bM_id, bM_id, iz_neg]
    have hr : ¬ rk m2 e2 ≤ rk m1 e1 := by unfold rk; omega
    have hN : restN m1 m2 e1 e2 = m1 := if_neg hr
    have hP : restP m1 m2 e1 e2 = e1 := if_neg hr
    rw [hN, hP]
    by_cases d : (60 : Int32) ≤ iZ (-(e1 - e2))
    · rw [if_pos d]
    · rw [if_neg d]
      have d' : -(e1 - e2) < 60 := by
        have q0 : ¬ (60 ≤ -(e1 - e2)) := fun q => d ((iz_le (a := 60) (by omega) (by omega) (by omega) (by omega)).mpr q)
        omega
      obtain ⟨z, hz⟩ : ∃ z : Nat, -(e1 - e2) = z := ⟨(-(e1 - e2)).toNat, by omega⟩
      rw [hz, iZ_N, sr_n (by omega) (by omega)]
      have hlt : m1 / 2 ^ z < m2 := by
        have h3 : m1 / 2 ^ z ≤ m1 / 2 ^ 1 := Nat.div_le_div_left (Nat.pow_le_pow_right (by decide) (by omega)) (by decide)
        have : 2 ^ 52 ≤ m2 := by omega
        omega
      rw [if_pos ((ln_lt (by omega) (by omega)).mpr hlt)]
  · rw [if_neg (fun q => c ((ilt0 (by omega) (by omega)).mp q)), if_neg (fun q => h2 ((ln0 (by omega)).mp q)), ln_rem (by omega) (by omega)]
    obtain ⟨far, hf⟩ : ∃ far : Nat, e1 - e2 = far := ⟨(e1 - e2).toNat, by omega⟩
    rw [hf, iZ_N, show (0 : Int32) = nI 0 from rfl, mr_L hu hd2 b1 h2 far (by omega) far 0 FU _ (by omega) (by unfold FU; omega) (Nat.mod_lt _ (Nat.pos_of_ne_zero h2)), hp2]
    have hm : m1 % m2 * 2 ^ far % m2 = m1 * 2 ^ far % m2 := by rw [Nat.mod_mul_mod]
    rw [hm]
    unfold restN restP
    by_cases w : rk m2 e2 ≤ rk m1 e1
    · rw [if_pos w, if_pos w, hf, Int.toNat_natCast]
    · rw [if_neg w, if_neg w]
      have he : e1 = e2 := by unfold rk at w; omega
      have hlt : m1 < m2 := by unfold rk at w; omega
      have : far = 0 := by omega
      rw [this, Nat.pow_zero, Nat.mul_one, Nat.mod_eq_of_lt hlt, he]
