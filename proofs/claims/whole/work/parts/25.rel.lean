/-! what the law's loop asks of the mathematics: from a desk and a model that stand for the same numbers, each call gives the same on both sides -/
def Rel1 (g : Int64) (mi : Int32) (di : Int64) (po : Int32) : Prop :=
  (mi = 0 ∨ mi = 1) ∧ 0 ≤ di.toInt ∧ di.toInt < 2 ^ 53 ∧ -1074 ≤ po.toInt ∧ po.toInt ≤ 971 ∧ (2 ^ 52 ≤ di.toInt ∨ po.toInt = -1074) ∧ (mi = 1 → 0 < di.toInt) ∧
    g.toInt = (if mi = 1 then -1 else 1) * ((po.toInt + 1074) * 2 ^ 52 + di.toInt)
def Rel (g : NL) (mi : NI) (di : NL) (po : NI) : Prop := ∀ r : Nat, r < 16 → Rel1 (g r) (mi r) (di r) (po r)
def OKn {α : Type} (jx : Option (α × NL)) (jm : Option (α × MS)) : Prop :=
  ∃ (r : α) (g' : NL) (mi' : NI) (di' : NL) (po' : NI) (be' : Int32) (mm' : Int64) (ee' : Int32) (fa' fb' : NI), jx = some (r, g') ∧ jm = some (r, 0, mi', di', po', be', mm', ee', fa', fb') ∧ Rel g' mi' di' po'
def OKv (jx : Option (UInt64 × NL)) (jm : Option (UInt64 × MS)) : Prop :=
  ∃ (r : UInt64) (g' : NL) (mi' : NI) (di' : NL) (po' : NI) (be' : Int32) (mm' : Int64) (ee' : Int32) (fa' fb' : NI), jx = some (r, g') ∧ jm = some (r, 0, mi', di', po', be', mm', ee', fa', fb') ∧ Rel g' mi' di' po' ∧ Op.cmpValue (FP.dcmp r r) .l = 0
def OKt {α : Type} (tx : Option Nat) (jm : Option (α × MS)) (g : NL) (k : Nat) (kk : Int32) : Prop :=
  ∃ (r : α) (mi' : NI) (di' : NL) (po' : NI) (be' : Int32) (mm' : Int64) (ee' : Int32) (fa' fb' : NI), tx = some k ∧ jm = some (r, kk, mi', di', po', be', mm', ee', fa', fb') ∧ Rel g mi' di' po'
/-! the registers: their numbers -/
def sg (v : Bool) (n : Int) : Int := if v = true then -n else n
def rk (m : Nat) (e : Int) : Int := (e + 1074) * 2 ^ 52 + m
def nB (v : Bool) (m : Nat) (e : Int) : Prop := m < 2 ^ 53 ∧ -1074 ≤ e ∧ e ≤ 971 ∧ (2 ^ 52 ≤ m ∨ e = -1074) ∧ (v = true → 0 < m)
theorem bI_1 (b : Bool) : bI b = 1 ↔ b = true := by cases b <;> decide
theorem bI_inj {a b : Bool} : bI a = bI b ↔ a = b := by cases a <;> cases b <;> decide
theorem rk_b {v : Bool} {m : Nat} {e : Int} (h : nB v m e) : 0 ≤ rk m e ∧ rk m e < 9218868437227405312 ∧ (v = true → 0 < rk m e) := by
  obtain ⟨h1, h2, h3, h4, h5⟩ := h
  unfold rk
  refine ⟨by omega, by omega, fun q => by have := h5 q; omega⟩
theorem rel_get {g : Int64} {mi : Int32} {di : Int64} {po : Int32} (h : Rel1 g mi di po) : ∃ (v : Bool) (m : Nat) (e : Int), mi = bI v ∧ di = lN m ∧ po = iZ e ∧ g = lZ (sg v (rk m e)) ∧ nB v m e := by
  obtain ⟨h1, h2, h3, h4, h5, h6, h7, h8⟩ := h
  refine ⟨decide (mi = 1), di.toInt.toNat, po.toInt, ?_, ?_, (iZ_of po).symm, ?_, by omega, h4, h5, by omega, fun q => by have := h7 (of_decide_eq_true q); omega⟩
  · rcases h1 with h | h <;> rw [h] <;> decide
  · rw [← lZ_N, show ((di.toInt.toNat : Nat) : Int) = di.toInt by omega, lZ_of]
  · rw [← lZ_of g, h8]
    congr 1
    unfold sg rk
    by_cases hm : mi = 1
    · rw [if_pos hm, if_pos (decide_eq_true hm)]; omega
    · rw [if_neg hm, if_neg (by simp [hm])]; omega
theorem rel_put {v : Bool} {m : Nat} {e : Int} (h : nB v m e) : Rel1 (lZ (sg v (rk m e))) (bI v) (lN m) (iZ e) := by
  have hb := rk_b h
  obtain ⟨h1, h2, h3, h4, h5⟩ := h
  refine ⟨by cases v <;> decide, ?_, ?_, ?_, ?_, ?_, ?_, ?_⟩
  · rw [ln_t (by omega)]; omega
  · rw [ln_t (by omega)]; omega
  · rw [iZ_t (by omega) (by omega)]; omega
  · rw [iZ_t (by omega) (by omega)]; omega
  · rw [ln_t (by omega), iZ_t (by omega) (by omega)]; omega
  · intro q; rw [ln_t (by omega)]; have := h5 ((bI_1 v).mp q); omega
  · rw [iZ_t (by omega) (by omega), ln_t (by omega)]
    cases v with
    | true => rw [if_pos (show bI true = 1 from rfl)]; unfold sg; rw [if_pos rfl, lZ_t (by omega) (by omega)]; unfold rk; omega
    | false => rw [if_neg (show ¬ bI false = 1 by decide)]; unfold sg; rw [if_neg (by decide), lZ_t (by omega) (by omega)]; unfold rk; omega
theorem nrm_nB {m : Nat} {e : Int} {n : Nat} (v : Bool) (h : nrm m e n) (hn : n < BEY) : nB (v && decide (n ≠ 0)) m e ∧ (n : Int) = rk m e := by
  have ho := (nrm_over h).mpr hn
  obtain ⟨h1, h2, h3, h4⟩ := h
  refine ⟨⟨h1, h2, ho, h3, fun q => ?_⟩, h4⟩
  have : n ≠ 0 := by simp at q; exact q.2
  omega
/-- m and e of a rank -/
theorem sg_abs (v : Bool) {n : Int} (h : 0 ≤ n) : (sg v n).natAbs = n.toNat := by
  unfold sg; split <;> omega
theorem or_full {x : Nat} (h1 : 2 ^ 52 ≤ x) (h2 : x < 2 ^ 53) (y : Nat) : (y * 2 ^ 52 + x) % 2 ^ 52 ||| 4503599627370496 = x := by
  have e : (y * 2 ^ 52 + x) % 2 ^ 52 = x - 2 ^ 52 := by omega
  rw [e, Nat.or_comm]
  have := or_add (a := 1) (k := 52) (b := x - 2 ^ 52) (by omega)
  rw [Nat.one_mul] at this
  rw [show (4503599627370496 : Nat) = 2 ^ 52 from rfl, this]; omega
theorem mo_n {v : Bool} {m : Nat} {e : Int} (h : nB v m e) : jX0_mOf (lZ (sg v (rk m e))) = lN m ∧ jX0_eOf (lZ (sg v (rk m e))) = iZ e := by
  have hb := rk_b h
  obtain ⟨h1, h2, h3, h4, h5⟩ := h
  have ha : jabsl (lZ (sg v (rk m e))) = lN (rk m e).toNat := by
    rw [jabsl_z (by unfold sg; split <;> omega) (by unfold sg; split <;> omega), sg_abs v hb.1]
  unfold jX0_mOf jX0_eOf
  rw [ha]
  by_cases c : 9007199254740992 ≤ (rk m e).toNat
  · have he : e ≠ -1074 := fun q => by subst q; unfold rk at c; omega
    have hm : 2 ^ 52 ≤ m := by omega
    have e1 : (rk m e).toNat = (e + 1074).toNat * 2 ^ 52 + m := by unfold rk; omega
    have hc : (9007199254740992 : Int64) ≤ lN (rk m e).toNat := (ln_le (a := 9007199254740992) (by omega) (by omega)).mpr c
    rw [if_pos hc, if_pos hc, show (52 : Int32) = nI 52 from rfl, lp_n (by omega) (by omega), su_n (by omega) (by omega), lN_i, show (4503599627370496 : Int64) = lN 4503599627370496 from rfl, wb_or (by omega) (by omega), e1, or_full hm h1]
    refine ⟨rfl, ?_⟩
    rw [← iZ_N, show (1 : Int32) = iZ 1 from rfl, iz_sub, show (-1074 : Int32) = iZ (-1074) from rfl, iz_add]
    congr 1
    omega
  · have he : e = -1074 := by
      unfold rk at c; omega
    have hc : ¬ (9007199254740992 : Int64) ≤ lN (rk m e).toNat := fun q => c ((ln_le (a := 9007199254740992) (by omega) (by omega)).mp q)
    rw [if_neg hc, if_neg hc, he]
    refine ⟨?_, rfl⟩
    congr 1
    unfold rk; omega
/-- keep, on both sides -/
theorem rok_of {x : Int32} (h : rok x = true) : ∃ t : Nat, t < 16 ∧ x = nI t ∧ ok x 16 = true := by
  obtain ⟨h1, h2⟩ := of_decide_eq_true h
  obtain ⟨j, hj, rfl⟩ := nI_of h1
  have : j < 16 := (nI_ltI (b := 16) hj (by decide)).mp h2
  exact ⟨j, this, rfl, ok_n this (by decide)⟩
theorem isr_0 {x : Int32} : jX2_isRegister x = 0 ↔ ¬ rok x = true := by
  unfold jX2_isRegister rok
  by_cases h1 : x < 0
  · simp [h1]
  · by_cases h2 : 16 ≤ x
    · have h3 : ¬ x < 16 := Int32.not_lt.mpr h2
      simp [h1, h2, h3]
    · have h3 : x < 16 := Int32.not_le.mp h2
      simp [h1, h2, h3]
theorem over_0 {z : Int} (h1 : -9223372036854775808 ≤ z) (h2 : z < 9223372036854775808) : jX0_isOver (lZ z) = 0 ↔ (-9218868437227405312 < z ∧ z < 9218868437227405312) := by
  unfold jX0_isOver
  have c1 : (9218868437227405312 : Int64) ≤ lZ z ↔ 9218868437227405312 ≤ z := lz_le (a := 9218868437227405312) (by omega) (by omega) (by omega) (by omega)
  have hl : (-9218868437227405312 : Int64) = lZ (-9218868437227405312) := by decide
  have c2 : (-9218868437227405312 : Int64) < lZ z ↔ -9218868437227405312 < z := by rw [hl]; exact lz_lt (by omega) (by omega) (by omega) (by omega)
  by_cases d1 : (9218868437227405312 : Int64) ≤ lZ z
  · rw [if_pos d1]
    have := c1.mp d1
    constructor
    · intro q; exact absurd q (by decide)
    · intro q; omega
  · rw [if_neg d1]
    have n1 : ¬ 9218868437227405312 ≤ z := fun q => d1 (c1.mpr q)
    by_cases d2 : (-9218868437227405312 : Int64) < lZ z
    · rw [if_pos d2]; have := c2.mp d2; constructor
      · intro _; omega
      · intro _; rfl
    · rw [if_neg d2]
      have n2 : ¬ -9218868437227405312 < z := fun q => d2 (c2.mpr q)
      constructor
      · intro q; exact absurd q (by decide)
      · intro q; omega
theorem nar_b (v : Bool) : vp_nar .boolean (bI v) = bI v := bz_v (by cases v <;> decide)
theorem keep_ok {g : NL} {mi : NI} {di : NL} {po : NI} (hR : Rel g mi di po) {t : Nat} (ht : t < 16) {v : Bool} {m : Nat} {e : Int} (h : nB v m e) (th : Int32) (fa fb : NI) :
    jX0_keep g (nI t) (lZ (sg v (rk m e))) = some (0, vp_updL g t (lZ (sg v (rk m e)))) ∧ jX2_keep th mi di po (bI v) (lN m) (iZ e) fa fb (nI t) 0 = some (0, th, upd mi t (bI v), vp_updL di t (lN m), upd po t (iZ e), bI v, lN m, iZ e, fa, fb) ∧
      Rel (vp_updL g t (lZ (sg v (rk m e)))) (upd mi t (bI v)) (vp_updL di t (lN m)) (upd po t (iZ e)) := by
  have hb := rk_b h
  have ho : ok (nI t) 16 = true := ok_n ht (by decide)
  refine ⟨?_, ?_, ?_⟩
  · unfold jX0_keep
    rw [if_pos ((over_0 (by unfold sg; split <;> omega) (by unfold sg; split <;> omega)).mpr (by unfold sg; split <;> omega)), if_pos ho, nI_clamp (by omega)]
  · unfold jX2_keep
    rw [if_pos rfl, if_pos ho, if_pos ho, if_pos ho, nI_clamp (by omega), nar_b]
  · intro r hr
    by_cases hrt : r = t
    · subst hrt
      rw [pk_uLs, pk_uLs, upd_s, upd_s]
      exact rel_put h
    · rw [pk_uLn hrt, pk_uLn hrt, upd_o hrt, upd_o hrt]
      exact hR r hr
/-- the end of every call that rounds: the class's rank n (cut at BEY), the model's pair -/
theorem fin_ok {g : NL} {mi : NI} {di : NL} {po : NI} (hR : Rel g mi di po) {t : Nat} (ht : t < 16) {n m : Nat} {e : Int} (v : Bool) (hn : nrm m e n) (fa fb : NI) :
    OKn (jX0_keep g (nI t) (lZ (sg v ((min n BEY : Nat) : Int)))) (jX2_keep 0 mi di po (bI (v && decide (n ≠ 0))) (lN m) (iZ e) fa fb (nI t) (iZ (if n < BEY then 0 else -1))) := by
  by_cases h : n < BEY
  · obtain ⟨h1, h2⟩ := nrm_nB v hn h
    have hs : sg v ((min n BEY : Nat) : Int) = sg (v && decide (n ≠ 0)) (rk m e) := by
      rw [Nat.min_eq_left (by omega), h2]
      by_cases h0 : n = 0
      · have : rk m e = 0 := by omega
        rw [this]; unfold sg; simp
      · simp [h0]
    obtain ⟨k1, k2, k3⟩ := keep_ok hR ht h1 0 fa fb
    rw [if_pos h]
    refine ⟨0, _, _, _, _, _, _, _, _, _, ?_, k2, k3⟩
    rw [hs]; exact k1
  · rw [if_neg h, Nat.min_eq_right (by omega)]
    have hB : ((BEY : Nat) : Int) = 9218868437227405312 := rfl
    refine ⟨-1, g, mi, di, po, bI (v && decide (n ≠ 0)), lN m, iZ e, fa, fb, ?_, ?_, hR⟩
    · unfold jX0_keep
      rw [if_neg]
      intro q
      have := (over_0 (by unfold sg; split <;> omega) (by unfold sg; split <;> omega)).mp q
      revert this
      unfold sg; split <;> omega
    · exact if_neg (by decide)
theorem b2_s {α β γ : Type} (a : α) (b : β) (f : α → β → Option γ) : b2 (some (a, b)) f = f a b := rfl
theorem bM_s {α γ : Type} (a : α) (th : Int32) (mi : NI) (di : NL) (po : NI) (be : Int32) (mm : Int64) (ee : Int32) (fa fb : NI) (f : α → Int32 → NI → NL → NI → Int32 → Int64 → Int32 → NI → NI → Option γ) : bM (some (a, th, mi, di, po, be, mm, ee, fa, fb)) f = f a th mi di po be mm ee fa fb := rfl
theorem b2_id {α β : Type} (o : Option (α × β)) : (b2 o fun a b => some (a, b)) = o := by cases o <;> rfl
theorem bM_id {α : Type} (o : Option (α × MS)) : (bM o fun r th mi di po be mm ee fa fb => some (r, th, mi, di, po, be, mm, ee, fa, fb)) = o := by cases o <;> rfl
/-- nearest of the model -/
theorem near_m {fa : NI} {N : Nat} (hA : Bg fa N) {p : Int} (hp1 : -3000 ≤ p) (hp2 : p ≤ 3000) (v s : Bool) (th : Int32) (mi : NI) (di : NL) (po : NI) (be : Int32) (mm : Int64) (ee : Int32) (fb : NI) :
    ∃ (m' : Nat) (e' : Int), jX2_nearest th mi di po be mm ee fa fb (bI v) (iZ p) (bI s) = some (iZ (if RN N p s < BEY then 0 else -1), th, mi, di, po, bI (v && decide (RN N p s ≠ 0)), lN m', iZ e', fa, fb) ∧ nrm m' e' (RN N p s) := by
  have hbl := bl_le hA.1
  have hcut := cut_ge N p
  have hbz : bz (bI v) = true := by cases v <;> decide
  unfold jX2_nearest
  rw [bg_length hA, b2_s]
  have e1 : (if (nI (bl N) - 53) ≤ ((-1074) - iZ p) then (-1074) - iZ p else nI (bl N) - 53 : Int32) = iZ (cutZ N p) := by
    rw [← iZ_N, show (53 : Int32) = iZ 53 from rfl, iz_sub, show (-1074 : Int32) = iZ (-1074) from rfl, iz_sub]
    unfold cutZ
    by_cases c : (bl N : Int) - 53 ≤ -1074 - p
    · rw [if_pos ((iz_le (by omega) (by omega) (by omega) (by omega)).mpr c), Int.max_eq_right c]
    · rw [if_neg (fun q => c ((iz_le (by omega) (by omega) (by omega) (by omega)).mp q)), Int.max_eq_left (by omega)]
  rw [e1]
  unfold jX2_nearest_B37
  rw [if_pos hbz]
  by_cases c0 : cutZ N p ≤ 0
  · rw [if_neg (fun q => by have := (i0lt (by omega) (by omega)).mp q; omega), show (0 : Int32) = nI 0 from rfl, bg_places hA (by omega), b2_s]
    have hN : N < 2 ^ 53 := Nat.lt_of_lt_of_le (bl_lt N) (Nat.pow_le_pow_right (by decide) (by omega))
    rw [Nat.pow_zero, Nat.div_one, Nat.mod_eq_of_lt hN]
    unfold jX2_nearest_B162
    rw [bM_id]
    obtain ⟨m', e', h1, h2⟩ := settle_n th mi di po (bI v) fa fb N p (by omega) (by omega) (by omega)
    have hs : RN N p s = RN N p false := by unfold RN rr; rw [if_pos c0, if_pos c0]
    rw [hs]
    refine ⟨m', e', ?_, h2⟩
    rw [h1]
    have hz : RN N p false = 0 ↔ N = 0 := by
      constructor
      · intro q
        by_cases h0 : N = 0
        · exact h0
        · exfalso
          unfold RN rr at q
          rw [if_neg h0, if_pos c0] at q
          have := Nat.mul_pos (Nat.pos_of_ne_zero h0) (Nat.two_pow_pos (-(cutZ N p)).toNat)
          omega
      · intro q; rw [q]; exact RN_0 _ _
    have hbe : (if N = 0 then 0 else bI v) = bI (v && decide (RN N p false ≠ 0)) := by
      by_cases h0 : N = 0
      · rw [if_pos h0]; simp [hz.mpr h0]; rfl
      · rw [if_neg h0]; simp [show RN N p false ≠ 0 from fun q => h0 (hz.mp q)]
    rw [hbe]
  · obtain ⟨c, hc⟩ : ∃ c : Nat, cutZ N p = c := ⟨(cutZ N p).toNat, by omega⟩
    rw [hc] at hcut c0 ⊢
    have hc1 : iZ (c : Int) - 1 = nI (c - 1) := by rw [show (1 : Int32) = iZ 1 from rfl, iz_sub, show (c : Int) - 1 = ((c - 1 : Nat) : Int) by omega, iZ_N]
    rw [if_pos ((i0lt (by omega) (by omega)).mpr (by omega)), hc1, iZ_N, bg_places hA (by omega), b2_s, bg_hasBelow hA (by omega)]
    have hq : N / 2 ^ c < 2 ^ 53 := (Nat.div_lt_iff_lt_mul (Nat.two_pow_pos c)).mpr (by rw [← Nat.pow_add]; exact Nat.lt_of_lt_of_le (bl_lt N) (Nat.pow_le_pow_right (by decide) (by omega)))
    rw [Nat.mod_eq_of_lt hq, b2_s]
    -- both roads into B113, with the mark x6
    have hB : (if bI s = 0 then jX2_nearest_B113 th mi di po (bI v) (lN (N / 2 ^ c)) (iZ p + nI c) fa fb (nI c) (if bI (decide (N % 2 ^ (c - 1) ≠ 0)) = 0 then 0 else 1) else jX2_nearest_B113 th mi di po (bI v) (lN (N / 2 ^ c)) (iZ p + nI c) fa fb (nI c) 1) = jX2_nearest_B113 th mi di po (bI v) (lN (N / 2 ^ c)) (iZ p + nI c) fa fb (nI c) (bI (s || decide (N % 2 ^ (c - 1) ≠ 0))) := by
      cases s with
      | true => rw [if_neg (by decide)]; rfl
      | false =>
        have hx : (if bI (decide (N % 2 ^ (c - 1) ≠ 0)) = 0 then 0 else 1 : Int32) = bI (false || decide (N % 2 ^ (c - 1) ≠ 0)) := by
          by_cases d : N % 2 ^ (c - 1) = 0
          · simp [d, bI]
          · simp [d, bI]
        rw [if_pos (by decide), hx]
    rw [hB]
    unfold jX2_nearest_B113
    have hc2 : nI c - 1 = nI (c - 1) := by rw [show c = (c - 1) + 1 by omega, nI_pred]; rfl
    have e2 : iZ p + nI c = iZ (p + c) := by rw [← iZ_N, iz_add]
    rw [hc2, bg_bitn hA (by omega), b2_s, Nat.testBit_eq_decide_div_mod_eq, e2]
    have hrem : lN (N / 2 ^ c) - lN (N / 2 ^ c) / 2 * 2 = lN (N / 2 ^ c % 2) := ln_rem (b := 2) (by omega) (by omega)
    have hodd : (lN (N / 2 ^ c % 2) = 1) ↔ N / 2 ^ c % 2 = 1 := ln_eq (b := 1) (by omega) (by omega)
    -- all roads: settle of rq
    have hall : (if bI (decide (N / 2 ^ (c - 1) % 2 = 1)) = 0 then jX2_nearest_B162 th mi di po (bI v) (lN (N / 2 ^ c)) (iZ (p + c)) fa fb else (if bI (s || decide (N % 2 ^ (c - 1) ≠ 0)) = 0 then jX2_nearest_B162 th mi di po (bI v) (if (lN (N / 2 ^ c) - lN (N / 2 ^ c) / 2 * 2) = 1 then lN (N / 2 ^ c) + 1 else lN (N / 2 ^ c) : Int64) (iZ (p + c)) fa fb else jX2_nearest_B162 th mi di po (bI v) (lN (N / 2 ^ c) + 1) (iZ (p + c)) fa fb)) = jX2_settle th mi di po (bI v) (lN (rq N c s)) (iZ (p + c)) fa fb := by
      unfold jX2_nearest_B162
      rw [bM_id, bM_id, bM_id, hrem, lN_1]
      unfold rq
      by_cases d1 : N / 2 ^ (c - 1) % 2 = 1
      · rw [if_neg (fun q => by rw [bI_0] at q; simp [d1] at q)]
        by_cases d2 : s = true ∨ N % 2 ^ (c - 1) ≠ 0
        · rw [if_neg (fun q => by rw [bI_0] at q; simp at q; rcases d2 with h | h <;> simp_all), if_pos ⟨d1, by rcases d2 with h | h; exact Or.inr (Or.inl h); exact Or.inl h⟩]
        · have d3 : s = false ∧ N % 2 ^ (c - 1) = 0 := by
            constructor
            · cases s <;> simp_all
            · apply Classical.byContradiction; intro q; exact d2 (Or.inr q)
          rw [if_pos (by rw [bI_0]; simp [d3.1, d3.2])]
          by_cases d4 : N / 2 ^ c % 2 = 1
          · rw [if_pos (hodd.mpr d4), if_pos ⟨d1, Or.inr (Or.inr d4)⟩]
          · rw [if_neg (fun q => d4 (hodd.mp q)), if_neg (by simp [d3.1, d3.2, d4])]
      · rw [if_pos (by rw [bI_0]; simp [d1]), if_neg (fun q => d1 q.1)]
    rw [hall]
    have hle : rq N c s ≤ 2 ^ 53 := rq_le s (Nat.lt_of_lt_of_le (bl_lt N) (Nat.pow_le_pow_right (by decide) (by omega)))
    obtain ⟨m', e', h1, h2⟩ := settle_n th mi di po (bI v) fa fb (rq N c s) (p + c) hle (by omega) (by omega)
    have hz0 : N = 0 → rq N c s = 0 := fun q => by rw [q]; unfold rq; simp
    have hnz : N ≠ 0 → (2 ^ 52 ≤ rq N c s ∨ p + c = -1074) := fun q => by
      rcases hcut.2.2 with h | h
      · left
        have := rr_ge q p s (by rw [hc]; exact h)
        unfold rr at this
        rw [hc, if_neg c0, Int.toNat_natCast] at this
        exact this
      · right; omega
    have hRN : RN N p s = RN (rq N c s) (p + c) false := by
      by_cases h0 : N = 0
      · rw [hz0 h0, h0, RN_0, RN_0]
      · have hf := RN_fit hle (show -1074 ≤ p + c by omega) (hnz h0)
        have : RN N p s = (p + c + 1074).toNat * 2 ^ 52 + rq N c s := by unfold RN rr; rw [if_neg h0, hc, if_neg c0, Int.toNat_natCast]
        omega
    rw [hRN]
    refine ⟨m', e', ?_, h2⟩
    rw [h1]
    have hz : RN (rq N c s) (p + c) false = 0 ↔ rq N c s = 0 := by
      constructor
      · intro q
        by_cases h0 : N = 0
        · exact hz0 h0
        · have hf := RN_fit hle (show -1074 ≤ p + c by omega) (hnz h0)
          rw [q] at hf
          omega
      · intro q; rw [q]; exact RN_0 _ _
    have hbe : (if rq N c s = 0 then 0 else bI v) = bI (v && decide (RN (rq N c s) (p + c) false ≠ 0)) := by
      by_cases h0 : rq N c s = 0
      · rw [if_pos h0]; simp [hz.mpr h0]; rfl
      · rw [if_neg h0]; simp [show RN (rq N c s) (p + c) false ≠ 0 from fun q => h0 (hz.mp q)]
    rw [hbe]
