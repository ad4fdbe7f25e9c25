/-! RealDeskModel$Big.set(J)V -/
def jX1_set_L2 : Nat → NI → Int64 → Int32 → Option (NI)
  | 0, _, _, _ => none
  | k + 1, fa, x1, x3 => (if 140 ≤ x3 then some (fa) else (if ok x3 140 = true then jX1_set_L2 k (upd fa x3.toNatClampNeg (if 3 ≤ x3 then 0 else ((sr x1 (24 * x3)) &&& 16777215).toInt32 : Int32)) x1 (x3 + 1) else none))
set_option maxHeartbeats 4000000 in
set_option maxRecDepth 100000 in
theorem wX1_set_L2 {p : Program} {l : Launch} {e : Env} {s : State} {m : MethodId} {args : Array Value} {below : List Frame} {meth : Method} {c : Code} {D : va_G} {A : Nat → Prop} {ck : Nat → ClassId} {ad : Nat → Nat} (C : CX p s m args meth c RX1 cX1_set 4 none) (hA : ∀ q, s.heap.size ≤ q → A q) (hK : va_K D vwCl (tyB ck) s) (hX : XT s) : ∀ (k : Nat) (fa : NI) (x1 : Int64) (x3 : Int32) (ls : Array Slot) (H : Heap) (locs : List Loc) (u : NI), va_P D vwCl (wB ck ad fa) H → va_D A (wB ck ad fa) → va_S A s.heap H locs → lv_has ls 4 [(0, .ref (ad 0)), (1, .long x1), (3, .int x3)] → jX1_set_L2 k fa x1 x3 = some u → W p l e (rmz 0 0) s m args below meth c H locs 0 0 (MQ below (HQ D A (wB ck ad u) none) args s 0 0 A) (F0 m 2 ls []) := by
  obtain ⟨hx, hb, hml, hown, hg, hr, hlocks⟩ := id C
  intro k
  induction k with
  | zero => intro fa x1 x3 ls H locs u hP hD hS hl h; cases h
  | succ k ih =>
    intro fa x1 x3 ls H locs u hP hD hS hl h
    unfold jX1_set_L2 at h
    refine lv_iload_n hx hb dX1_set_2 rfl (lv_at hl 2 rfl) ?_
    refine lv_sipush (v := 140) hx hb dX1_set_3 (by decide) ?_
    refine lv_icmp_ge (tgt := 41) hx hb dX1_set_6 (by decide) (fun c_1 => ?_) (fun c_1 => ?_)
    · rw [if_pos c_1] at h
      cases h
      exact W.vret hx hb hr (fun t ht _ => ⟨rfl, by rw [ht]; exact hP, hD, hS.F ht⟩) hS.2.2 dX1_set_41
    · rw [if_neg c_1] at h
      refine lv_aload_n hx hb dX1_set_9 rfl (lv_at hl 0 rfl) ?_
      refine va_get hx hb hg inX1 hown hK hP 0 rfl rfl 0 (by decide) (hg _ tw_319) (fun _ h9 => h9) rfl dX1_set_10 ?_
      refine lv_iload_n hx hb dX1_set_13 rfl (lv_at hl 2 rfl) ?_
      refine lv_iload_n hx hb dX1_set_14 rfl (lv_at hl 2 rfl) ?_
      refine lv_iconst (v := 3) hx hb dX1_set_15 (by decide) ?_
      refine rg_i (pj := 34) (v := (if 3 ≤ x3 then 0 else ((sr x1 (24 * x3)) &&& 16777215).toInt32 : Int32)) (ls := ls) (rest := [.int x3, .ref (ad 1)]) (fun kJ => ?_) ?_
      · refine lv_icmp_ge (tgt := 33) hx hb dX1_set_16 (by decide) (fun c_2 => ?_) (fun c_2 => ?_)
        · refine lv_iconst (v := 0) hx hb dX1_set_33 (by decide) ?_
          exact kJ _ (by rw [if_pos c_2])
        · refine lv_lload_n hx hb dX1_set_19 rfl (lv_at hl 1 rfl) ?_
          refine lv_bipush (v := 24) hx hb dX1_set_20 (by decide) ?_
          refine lv_iload_n hx hb dX1_set_22 rfl (lv_at hl 2 rfl) ?_
          refine lv_imul hx hb dX1_set_23 ?_
          refine lv_lshr (v := sr x1 (24 * x3)) hx hb dX1_set_24 rfl ?_
          refine lv_ldc2 hx hb hown (hg _ tw_374) dX1_set_25 ?_
          refine lv_land hx hb dX1_set_28 ?_
          refine lv_l2i hx hb dX1_set_29 rfl ?_
          refine lv_goto (tgt := 34) hx hb dX1_set_30 (by decide) ?_
          exact kJ _ (by rw [if_neg c_2])
      obtain ⟨z_34, h⟩ := of_ite h
      refine va_iast hx hb hK hP hD hS 1 0 rfl rfl (ok_in z_34) dX1_set_34 (fun H locs hP hD hS => ?_)
      have hP : va_P D vwCl (wB ck ad (upd fa x3.toNatClampNeg (if 3 ≤ x3 then 0 else ((sr x1 (24 * x3)) &&& 16777215).toInt32 : Int32))) H := hP
      have hD : va_D A (wB ck ad (upd fa x3.toNatClampNeg (if 3 ≤ x3 then 0 else ((sr x1 (24 * x3)) &&& 16777215).toInt32 : Int32))) := hD
      refine lv_iinc (v := x3 + 1) (lv' := [(3, .int (x3 + 1)), (0, .ref (ad 0)), (1, .long x1)]) hx hb dX1_set_35 hl (k := 2) rfl rfl (by decide) rfl (fun ls hl => ?_)
      refine lv_goto (tgt := 2) hx hb dX1_set_38 (by decide) ?_
      exact ih _ _ _ _ _ _ _ hP hD hS (lv_sub hl [1, 2, 0] rfl) h
def jX1_set (fa : NI) (x1 : Int64) : Option (NI) := jX1_set_L2 FU fa x1 0
set_option maxHeartbeats 4000000 in
set_option maxRecDepth 100000 in
theorem wX1_set_0 {p : Program} {l : Launch} {e : Env} {s : State} {m : MethodId} {args : Array Value} {below : List Frame} {meth : Method} {c : Code} {D : va_G} {A : Nat → Prop} {ck : Nat → ClassId} {ad : Nat → Nat} (C : CX p s m args meth c RX1 cX1_set 4 none) (hA : ∀ q, s.heap.size ≤ q → A q) (hK : va_K D vwCl (tyB ck) s) (hX : XT s) (fa : NI) (x1 : Int64) (ls : Array Slot) (H : Heap) (locs : List Loc) (u : NI) (hP : va_P D vwCl (wB ck ad fa) H) (hD : va_D A (wB ck ad fa)) (hS : va_S A s.heap H locs) (hl : lv_has ls 4 [(0, .ref (ad 0)), (1, .long x1)]) (h : jX1_set fa x1 = some u) : W p l e (rmz 0 0) s m args below meth c H locs 0 0 (MQ below (HQ D A (wB ck ad u) none) args s 0 0 A) (F0 m 0 ls []) := by
  obtain ⟨hx, hb, hml, hown, hg, hr, hlocks⟩ := id C
  unfold jX1_set at h
  refine lv_iconst (v := 0) hx hb dX1_set_0 (by decide) ?_
  refine lv_istore_n (lv' := [(3, .int 0), (0, .ref (ad 0)), (1, .long x1)]) hx hb dX1_set_1 rfl hl (by decide) rfl (fun ls hl => ?_)
  exact wX1_set_L2 C hA hK hX FU _ _ _ _ _ _ _ hP hD hS (lv_sub hl [1, 2, 0] rfl) h
theorem vc_X1_set : VC RX1 yX1_set cX1_set 4 none 1 := ⟨tw_371, tw_372, tw_3, tw_373, by decide +kernel⟩
theorem cX1_set_met (l : Launch) (ck : Nat → ClassId) (ad : Nat → Nat) (fa : NI) (x1 : Int64) (u : NI) (h : jX1_set fa x1 = some u) : HM l yX1_set cX1_set 4 none (rmz 0 0) [.ref (ad 0), .long x1] (tyB ck) (wB ck ad fa) none (wB ck ad u) :=
  hm_of (own := RX1) (by decide +kernel) rfl (Nat.le_of_ble_eq_true rfl) (fun D A p e s m below meth c ls C hA hK hX hP hD hS hl => wX1_set_0 C hA hK hX fa x1 ls _ _ u hP hD hS hl h)

/-! RealDeskModel$Big.bit(I)Z -/
def jX1_bit (fa : NI) (x1 : Int32) : Option (Int32 × NI) := (if x1 < 0 then some (0, fa) else (if 3360 ≤ x1 then some (0, fa) else (if ok (x1 / 24) 140 = true then some ((if (((fa (x1 / 24).toNatClampNeg) >>> ((x1 - x1 / 24 * 24) &&& 31)) &&& 1) = 1 then 1 else 0 : Int32), fa) else none)))
set_option maxHeartbeats 4000000 in
set_option maxRecDepth 100000 in
theorem wX1_bit_0 {p : Program} {l : Launch} {e : Env} {s : State} {m : MethodId} {args : Array Value} {below : List Frame} {meth : Method} {c : Code} {D : va_G} {A : Nat → Prop} {ck : Nat → ClassId} {ad : Nat → Nat} (C : CX p s m args meth c RX1 cX1_bit 2 (some .boolean)) (hA : ∀ q, s.heap.size ≤ q → A q) (hK : va_K D vwCl (tyB ck) s) (hX : XT s) (fa : NI) (x1 : Int32) (ls : Array Slot) (H : Heap) (locs : List Loc) (u : Int32 × NI) (hP : va_P D vwCl (wB ck ad fa) H) (hD : va_D A (wB ck ad fa)) (hS : va_S A s.heap H locs) (hl : lv_has ls 2 [(0, .ref (ad 0)), (1, .int x1)]) (h : jX1_bit fa x1 = some u) : W p l e (rmz 0 0) s m args below meth c H locs 0 0 (MQ below (HQ D A (wB ck ad u.2) (some (.int u.1))) args s 0 0 A) (F0 m 0 ls []) := by
  obtain ⟨hx, hb, hml, hown, hg, hr, hlocks⟩ := id C
  unfold jX1_bit at h
  refine lv_iload_n hx hb dX1_bit_0 rfl (lv_at hl 1 rfl) ?_
  refine lv_if_lt (tgt := 35) hx hb dX1_bit_1 (by decide) (fun c_1 => ?_) (fun c_1 => ?_)
  · rw [if_pos c_1] at h
    refine lv_iconst (v := 0) hx hb dX1_bit_35 (by decide) ?_
    cases h
    exact W.zret hx hb hr (bz_n bz_0) (fun t ht _ => ⟨rfl, by rw [ht]; exact hP, hD, hS.F ht⟩) hS.2.2 dX1_bit_36
  · rw [if_neg c_1] at h
    refine lv_iload_n hx hb dX1_bit_4 rfl (lv_at hl 1 rfl) ?_
    refine lv_sipush (v := 3360) hx hb dX1_bit_5 (by decide) ?_
    refine lv_icmp_ge (tgt := 35) hx hb dX1_bit_8 (by decide) (fun c_2 => ?_) (fun c_2 => ?_)
    · rw [if_pos c_2] at h
      refine lv_iconst (v := 0) hx hb dX1_bit_35 (by decide) ?_
      cases h
      exact W.zret hx hb hr (bz_n bz_0) (fun t ht _ => ⟨rfl, by rw [ht]; exact hP, hD, hS.F ht⟩) hS.2.2 dX1_bit_36
    · rw [if_neg c_2] at h
      refine lv_aload_n hx hb dX1_bit_11 rfl (lv_at hl 0 rfl) ?_
      refine va_get hx hb hg inX1 hown hK hP 0 rfl rfl 0 (by decide) (hg _ tw_319) (fun _ h9 => h9) rfl dX1_bit_12 ?_
      refine lv_iload_n hx hb dX1_bit_15 rfl (lv_at hl 1 rfl) ?_
      refine lv_bipush (v := 24) hx hb dX1_bit_16 (by decide) ?_
      refine lv_idiv hx hb dX1_bit_18 (by decide) ?_
      obtain ⟨z_19, h⟩ := of_ite h
      refine va_iald hx hb hK hP 1 0 rfl rfl (ok_in z_19) dX1_bit_19 ?_
      refine lv_iload_n hx hb dX1_bit_20 rfl (lv_at hl 1 rfl) ?_
      refine lv_bipush (v := 24) hx hb dX1_bit_21 (by decide) ?_
      refine lv_irem hx hb dX1_bit_23 (by decide) ?_
      refine lv_ishr hx hb dX1_bit_24 ?_
      refine lv_iconst (v := 1) hx hb dX1_bit_25 (by decide) ?_
      refine lv_iand hx hb dX1_bit_26 ?_
      refine lv_iconst (v := 1) hx hb dX1_bit_27 (by decide) ?_
      refine rg_i (pj := 36) (v := (if (((fa (x1 / 24).toNatClampNeg) >>> ((x1 - x1 / 24 * 24) &&& 31)) &&& 1) = 1 then 1 else 0 : Int32)) (ls := ls) (rest := []) (fun kJ => ?_) ?_
      · refine lv_icmp_ne (tgt := 35) hx hb dX1_bit_28 (by decide) (fun c_3 => ?_) (fun c_3 => ?_)
        · refine lv_iconst (v := 0) hx hb dX1_bit_35 (by decide) ?_
          exact kJ _ (by rw [if_neg c_3])
        · refine lv_iconst (v := 1) hx hb dX1_bit_31 (by decide) ?_
          refine lv_goto (tgt := 36) hx hb dX1_bit_32 (by decide) ?_
          exact kJ _ (by rw [if_pos c_3])
      cases h
      exact W.zret hx hb hr (bz_n (bz_ite bz_1 bz_0)) (fun t ht _ => ⟨rfl, by rw [ht]; exact hP, hD, hS.F ht⟩) hS.2.2 dX1_bit_36
theorem vc_X1_bit : VC RX1 yX1_bit cX1_bit 2 (some .boolean) 1 := ⟨tw_384, tw_385, tw_3, tw_386, by decide +kernel⟩
theorem cX1_bit_met (l : Launch) (ck : Nat → ClassId) (ad : Nat → Nat) (fa : NI) (x1 : Int32) (u : Int32 × NI) (h : jX1_bit fa x1 = some u) : HM l yX1_bit cX1_bit 2 (some .boolean) (rmz 0 0) [.ref (ad 0), .int x1] (tyB ck) (wB ck ad fa) (some (.int u.1)) (wB ck ad u.2) :=
  hm_of (own := RX1) (by decide +kernel) rfl (Nat.le_of_ble_eq_true rfl) (fun D A p e s m below meth c ls C hA hK hX hP hD hS hl => wX1_bit_0 C hA hK hX fa x1 ls _ _ u hP hD hS hl h)

/-! RealDeskModel$Big.length()I -/
def jX1_length_L4 : Nat → NI → Int32 → Option (Int32 × NI)
  | 0, _, _ => none
  | k + 1, fa, x1 => (if x1 ≤ 0 then some (x1, fa) else (b2 (jX1_bit fa (x1 - 1)) fun r_1 fa_1 => (if r_1 = 0 then jX1_length_L4 k fa_1 (x1 + (-1)) else some (x1, fa_1))))
set_option maxHeartbeats 4000000 in
set_option maxRecDepth 100000 in
theorem wX1_length_L4 {p : Program} {l : Launch} {e : Env} {s : State} {m : MethodId} {args : Array Value} {below : List Frame} {meth : Method} {c : Code} {D : va_G} {A : Nat → Prop} {ck : Nat → ClassId} {ad : Nat → Nat} (C : CX p s m args meth c RX1 cX1_length 2 (some .int)) (hA : ∀ q, s.heap.size ≤ q → A q) (hK : va_K D vwCl (tyB ck) s) (hX : XT s) : ∀ (k : Nat) (fa : NI) (x1 : Int32) (ls : Array Slot) (H : Heap) (locs : List Loc) (u : Int32 × NI), va_P D vwCl (wB ck ad fa) H → va_D A (wB ck ad fa) → va_S A s.heap H locs → lv_has ls 2 [(0, .ref (ad 0)), (1, .int x1)] → jX1_length_L4 k fa x1 = some u → W p l e (rmz 1 21) s m args below meth c H locs 0 0 (MQ below (HQ D A (wB ck ad u.2) (some (.int u.1))) args s 0 0 A) (F0 m 4 ls []) := by
  obtain ⟨hx, hb, hml, hown, hg, hr, hlocks⟩ := id C
  intro k
  induction k with
  | zero => intro fa x1 ls H locs u hP hD hS hl h; cases h
  | succ k ih =>
    intro fa x1 ls H locs u hP hD hS hl h
    unfold jX1_length_L4 at h
    refine lv_iload_n hx hb dX1_length_4 rfl (lv_at hl 1 rfl) ?_
    refine lv_if_le (tgt := 24) hx hb dX1_length_5 (by decide) (fun c_1 => ?_) (fun c_1 => ?_)
    · rw [if_pos c_1] at h
      refine lv_iload_n hx hb dX1_length_24 rfl (lv_at hl 1 rfl) ?_
      cases h
      exact W.iret hx hb hr (fun t ht _ => ⟨rfl, by rw [ht]; exact hP, hD, hS.F ht⟩) hS.2.2 dX1_length_25
    · rw [if_neg c_1] at h
      refine lv_aload_n hx hb dX1_length_8 rfl (lv_at hl 0 rfl) ?_
      refine lv_iload_n hx hb dX1_length_9 rfl (lv_at hl 1 rfl) ?_
      refine lv_iconst (v := 1) hx hb dX1_length_10 (by decide) ?_
      refine lv_isub hx hb dX1_length_11 ?_
      obtain ⟨r_1, fa_1, h_r_1, h⟩ := of_b2 h
      refine callB C hK hX hP hD hS hA (cX1_bit_met l ck ad _ _ _ h_r_1) vc_X1_bit tw_383 (by decide) rfl hl.1 (rest := []) rfl (Nat.le_of_ble_eq_true rfl) (by decide) dX1_length_12 (fun H locs hP hD hS => ?_)
      have hP : va_P D vwCl (wB ck ad fa_1) H := hP
      have hD : va_D A (wB ck ad fa_1) := hD
      refine W.eq (g2 := F0 m 15 ls [.int r_1]) rfl ?_
      refine lv_if_ne (tgt := 24) hx hb dX1_length_15 (by decide) (fun c_2 => ?_) (fun c_2 => ?_)
      · rw [if_neg c_2] at h
        refine lv_iload_n hx hb dX1_length_24 rfl (lv_at hl 1 rfl) ?_
        cases h
        exact W.iret hx hb hr (fun t ht _ => ⟨rfl, by rw [ht]; exact hP, hD, hS.F ht⟩) hS.2.2 dX1_length_25
      · rw [if_pos c_2] at h
        refine lv_iinc (v := x1 + (-1)) (lv' := [(1, .int (x1 + (-1))), (0, .ref (ad 0))]) hx hb dX1_length_18 hl (k := 1) rfl rfl (by decide) rfl (fun ls hl => ?_)
        refine lv_goto (tgt := 4) hx hb dX1_length_21 (by decide) ?_
        exact ih _ _ _ _ _ _ hP hD hS (lv_sub hl [1, 0] rfl) h
def jX1_length (fa : NI) : Option (Int32 × NI) := jX1_length_L4 FU fa 3360
set_option maxHeartbeats 4000000 in
set_option maxRecDepth 100000 in
theorem wX1_length_0 {p : Program} {l : Launch} {e : Env} {s : State} {m : MethodId} {args : Array Value} {below : List Frame} {meth : Method} {c : Code} {D : va_G} {A : Nat → Prop} {ck : Nat → ClassId} {ad : Nat → Nat} (C : CX p s m args meth c RX1 cX1_length 2 (some .int)) (hA : ∀ q, s.heap.size ≤ q → A q) (hK : va_K D vwCl (tyB ck) s) (hX : XT s) (fa : NI) (ls : Array Slot) (H : Heap) (locs : List Loc) (u : Int32 × NI) (hP : va_P D vwCl (wB ck ad fa) H) (hD : va_D A (wB ck ad fa)) (hS : va_S A s.heap H locs) (hl : lv_has ls 2 [(0, .ref (ad 0))]) (h : jX1_length fa = some u) : W p l e (rmz 1 21) s m args below meth c H locs 0 0 (MQ below (HQ D A (wB ck ad u.2) (some (.int u.1))) args s 0 0 A) (F0 m 0 ls []) := by
  obtain ⟨hx, hb, hml, hown, hg, hr, hlocks⟩ := id C
  unfold jX1_length at h
  refine lv_sipush (v := 3360) hx hb dX1_length_0 (by decide) ?_
  refine lv_istore_n (lv' := [(1, .int 3360), (0, .ref (ad 0))]) hx hb dX1_length_3 rfl hl (by decide) rfl (fun ls hl => ?_)
  exact wX1_length_L4 C hA hK hX FU _ _ _ _ _ _ hP hD hS (lv_sub hl [1, 0] rfl) h
theorem vc_X1_length : VC RX1 yX1_length cX1_length 2 (some .int) 0 := ⟨tw_380, tw_381, tw_3, tw_382, by decide +kernel⟩
theorem cX1_length_met (l : Launch) (ck : Nat → ClassId) (ad : Nat → Nat) (fa : NI) (u : Int32 × NI) (h : jX1_length fa = some u) : HM l yX1_length cX1_length 2 (some .int) (rmz 1 21) [.ref (ad 0)] (tyB ck) (wB ck ad fa) (some (.int u.1)) (wB ck ad u.2) :=
  hm_of (own := RX1) (by decide +kernel) rfl (Nat.le_of_ble_eq_true rfl) (fun D A p e s m below meth c ls C hA hK hX hP hD hS hl => wX1_length_0 C hA hK hX fa ls _ _ u hP hD hS hl h)

/-! RealDeskModel$Big.twice(Z)V -/
def jX1_twice_L12 : Nat → NI → Int32 → Int32 → Option (NI)
  | 0, _, _, _ => none
  | k + 1, fa, x2, x3 => (if 140 ≤ x3 then some (fa) else (if ok x3 140 = true then (if ok x3 140 = true then jX1_twice_L12 k (upd fa x3.toNatClampNeg (((2 * (fa x3.toNatClampNeg)) + x2) &&& 16777215)) (((2 * (fa x3.toNatClampNeg)) + x2) >>> (24 &&& 31)) (x3 + 1) else none) else none))
set_option maxHeartbeats 4000000 in
set_option maxRecDepth 100000 in
theorem wX1_twice_L12 {p : Program} {l : Launch} {e : Env} {s : State} {m : MethodId} {args : Array Value} {below : List Frame} {meth : Method} {c : Code} {D : va_G} {A : Nat → Prop} {ck : Nat → ClassId} {ad : Nat → Nat} (C : CX p s m args meth c RX1 cX1_twice 5 none) (hA : ∀ q, s.heap.size ≤ q → A q) (hK : va_K D vwCl (tyB ck) s) (hX : XT s) : ∀ (k : Nat) (fa : NI) (x2 : Int32) (x3 : Int32) (ls : Array Slot) (H : Heap) (locs : List Loc) (u : NI), va_P D vwCl (wB ck ad fa) H → va_D A (wB ck ad fa) → va_S A s.heap H locs → lv_has ls 5 [(0, .ref (ad 0)), (2, .int x2), (3, .int x3)] → jX1_twice_L12 k fa x2 x3 = some u → W p l e (rmz 0 0) s m args below meth c H locs 0 0 (MQ below (HQ D A (wB ck ad u) none) args s 0 0 A) (F0 m 12 ls []) := by
  obtain ⟨hx, hb, hml, hown, hg, hr, hlocks⟩ := id C
  intro k
  induction k with
  | zero => intro fa x2 x3 ls H locs u hP hD hS hl h; cases h
  | succ k ih =>
    intro fa x2 x3 ls H locs u hP hD hS hl h
    unfold jX1_twice_L12 at h
    refine lv_iload_n hx hb dX1_twice_12 rfl (lv_at hl 2 rfl) ?_
    refine lv_sipush (v := 140) hx hb dX1_twice_13 (by decide) ?_
    refine lv_icmp_ge (tgt := 54) hx hb dX1_twice_16 (by decide) (fun c_1 => ?_) (fun c_1 => ?_)
    · rw [if_pos c_1] at h
      cases h
      exact W.vret hx hb hr (fun t ht _ => ⟨rfl, by rw [ht]; exact hP, hD, hS.F ht⟩) hS.2.2 dX1_twice_54
    · rw [if_neg c_1] at h
      refine lv_iconst (v := 2) hx hb dX1_twice_19 (by decide) ?_
      refine lv_aload_n hx hb dX1_twice_20 rfl (lv_at hl 0 rfl) ?_
      refine va_get hx hb hg inX1 hown hK hP 0 rfl rfl 0 (by decide) (hg _ tw_319) (fun _ h9 => h9) rfl dX1_twice_21 ?_
      refine lv_iload_n hx hb dX1_twice_24 rfl (lv_at hl 2 rfl) ?_
      obtain ⟨z_25, h⟩ := of_ite h
      refine va_iald hx hb hK hP 1 0 rfl rfl (ok_in z_25) dX1_twice_25 ?_
      refine lv_imul hx hb dX1_twice_26 ?_
      refine lv_iload_n hx hb dX1_twice_27 rfl (lv_at hl 1 rfl) ?_
      refine lv_iadd hx hb dX1_twice_28 ?_
      refine lv_istore (lv' := [(4, .int ((2 * (fa x3.toNatClampNeg)) + x2)), (0, .ref (ad 0)), (2, .int x2), (3, .int x3)]) hx hb dX1_twice_29 hl (by decide) rfl (fun ls hl => ?_)
      refine lv_aload_n hx hb dX1_twice_31 rfl (lv_at hl 1 rfl) ?_
      refine va_get hx hb hg inX1 hown hK hP 0 rfl rfl 0 (by decide) (hg _ tw_319) (fun _ h9 => h9) rfl dX1_twice_32 ?_
      refine lv_iload_n hx hb dX1_twice_35 rfl (lv_at hl 3 rfl) ?_
      refine lv_iload hx hb dX1_twice_36 (lv_at hl 0 rfl) ?_
      refine lv_ldc hx hb hown (hg _ tw_427) dX1_twice_38 ?_
      refine lv_iand hx hb dX1_twice_40 ?_
      obtain ⟨z_41, h⟩ := of_ite h
      refine va_iast hx hb hK hP hD hS 1 0 rfl rfl (ok_in z_41) dX1_twice_41 (fun H locs hP hD hS => ?_)
      have hP : va_P D vwCl (wB ck ad (upd fa x3.toNatClampNeg (((2 * (fa x3.toNatClampNeg)) + x2) &&& 16777215))) H := hP
      have hD : va_D A (wB ck ad (upd fa x3.toNatClampNeg (((2 * (fa x3.toNatClampNeg)) + x2) &&& 16777215))) := hD
      refine lv_iload hx hb dX1_twice_42 (lv_at hl 0 rfl) ?_
      refine lv_bipush (v := 24) hx hb dX1_twice_44 (by decide) ?_
      refine lv_ishr hx hb dX1_twice_46 ?_
      refine lv_istore_n (lv' := [(2, .int (((2 * (fa x3.toNatClampNeg)) + x2) >>> (24 &&& 31))), (4, .int ((2 * (fa x3.toNatClampNeg)) + x2)), (0, .ref (ad 0)), (3, .int x3)]) hx hb dX1_twice_47 rfl hl (by decide) rfl (fun ls hl => ?_)
      refine lv_iinc (v := x3 + 1) (lv' := [(3, .int (x3 + 1)), (2, .int (((2 * (fa x3.toNatClampNeg)) + x2) >>> (24 &&& 31))), (4, .int ((2 * (fa x3.toNatClampNeg)) + x2)), (0, .ref (ad 0))]) hx hb dX1_twice_48 hl (k := 3) rfl rfl (by decide) rfl (fun ls hl => ?_)
      refine lv_goto (tgt := 12) hx hb dX1_twice_51 (by decide) ?_
      exact ih _ _ _ _ _ _ _ hP hD hS (lv_sub hl [3, 1, 0] rfl) h
def jX1_twice (fa : NI) (x1 : Int32) : Option (NI) := jX1_twice_L12 FU fa (if x1 = 0 then 0 else 1 : Int32) 0
set_option maxHeartbeats 4000000 in
set_option maxRecDepth 100000 in
theorem wX1_twice_0 {p : Program} {l : Launch} {e : Env} {s : State} {m : MethodId} {args : Array Value} {below : List Frame} {meth : Method} {c : Code} {D : va_G} {A : Nat → Prop} {ck : Nat → ClassId} {ad : Nat → Nat} (C : CX p s m args meth c RX1 cX1_twice 5 none) (hA : ∀ q, s.heap.size ≤ q → A q) (hK : va_K D vwCl (tyB ck) s) (hX : XT s) (fa : NI) (x1 : Int32) (ls : Array Slot) (H : Heap) (locs : List Loc) (u : NI) (hP : va_P D vwCl (wB ck ad fa) H) (hD : va_D A (wB ck ad fa)) (hS : va_S A s.heap H locs) (hl : lv_has ls 5 [(0, .ref (ad 0)), (1, .int x1)]) (h : jX1_twice fa x1 = some u) : W p l e (rmz 0 0) s m args below meth c H locs 0 0 (MQ below (HQ D A (wB ck ad u) none) args s 0 0 A) (F0 m 0 ls []) := by
  obtain ⟨hx, hb, hml, hown, hg, hr, hlocks⟩ := id C
  unfold jX1_twice at h
  refine lv_iload_n hx hb dX1_twice_0 rfl (lv_at hl 1 rfl) ?_
  refine rg_i (pj := 9) (v := (if x1 = 0 then 0 else 1 : Int32)) (ls := ls) (rest := []) (fun kJ => ?_) ?_
  · refine lv_if_eq (tgt := 8) hx hb dX1_twice_1 (by decide) (fun c_1 => ?_) (fun c_1 => ?_)
    · refine lv_iconst (v := 0) hx hb dX1_twice_8 (by decide) ?_
      exact kJ _ (by rw [if_pos c_1])
    · refine lv_iconst (v := 1) hx hb dX1_twice_4 (by decide) ?_
      refine lv_goto (tgt := 9) hx hb dX1_twice_5 (by decide) ?_
      exact kJ _ (by rw [if_neg c_1])
  refine lv_istore_n (lv' := [(2, .int (if x1 = 0 then 0 else 1 : Int32)), (0, .ref (ad 0)), (1, .int x1)]) hx hb dX1_twice_9 rfl hl (by decide) rfl (fun ls hl => ?_)
  refine lv_iconst (v := 0) hx hb dX1_twice_10 (by decide) ?_
  refine lv_istore_n (lv' := [(3, .int 0), (2, .int (if x1 = 0 then 0 else 1 : Int32)), (0, .ref (ad 0)), (1, .int x1)]) hx hb dX1_twice_11 rfl hl (by decide) rfl (fun ls hl => ?_)
  exact wX1_twice_L12 C hA hK hX FU _ _ _ _ _ _ _ hP hD hS (lv_sub hl [2, 1, 0] rfl) h
theorem vc_X1_twice : VC RX1 yX1_twice cX1_twice 5 none 1 := ⟨tw_454, tw_455, tw_3, tw_456, by decide +kernel⟩
theorem cX1_twice_met (l : Launch) (ck : Nat → ClassId) (ad : Nat → Nat) (fa : NI) (x1 : Int32) (u : NI) (h : jX1_twice fa x1 = some u) : HM l yX1_twice cX1_twice 5 none (rmz 0 0) [.ref (ad 0), .int x1] (tyB ck) (wB ck ad fa) none (wB ck ad u) :=
  hm_of (own := RX1) (by decide +kernel) rfl (Nat.le_of_ble_eq_true rfl) (fun D A p e s m below meth c ls C hA hK hX hP hD hS hl => wX1_twice_0 C hA hK hX fa x1 ls _ _ u hP hD hS hl h)

/-! RealDeskModel$Big.up(I)V -/
def jX1_up_L4 : Nat → NI → Int32 → Int32 → Option (NI)
  | 0, _, _, _ => none
  | k + 1, fa, x1, x2 => (if x2 < 0 then some (fa) else (if (x2 - (x1 / 24)) < 0 then (if (x2 - (x1 / 24)) ≤ 0 then (if ok x2 140 = true then jX1_up_L4 k (upd fa x2.toNatClampNeg ((0 ||| 0) &&& 16777215)) x1 (x2 + (-1)) else none) else (if ok ((x2 - (x1 / 24)) - 1) 140 = true then (if ok x2 140 = true then jX1_up_L4 k (upd fa x2.toNatClampNeg ((0 ||| ((fa ((x2 - (x1 / 24)) - 1).toNatClampNeg) >>> ((24 - (x1 - x1 / 24 * 24)) &&& 31))) &&& 16777215)) x1 (x2 + (-1)) else none) else none)) else (if ok (x2 - (x1 / 24)) 140 = true then (if (x2 - (x1 / 24)) ≤ 0 then (if ok x2 140 = true then jX1_up_L4 k (upd fa x2.toNatClampNeg ((((fa (x2 - (x1 / 24)).toNatClampNeg) <<< ((x1 - x1 / 24 * 24) &&& 31)) ||| 0) &&& 16777215)) x1 (x2 + (-1)) else none) else (if ok ((x2 - (x1 / 24)) - 1) 140 = true then (if ok x2 140 = true then jX1_up_L4 k (upd fa x2.toNatClampNeg ((((fa (x2 - (x1 / 24)).toNatClampNeg) <<< ((x1 - x1 / 24 * 24) &&& 31)) ||| ((fa ((x2 - (x1 / 24)) - 1).toNatClampNeg) >>> ((24 - (x1 - x1 / 24 * 24)) &&& 31))) &&& 16777215)) x1 (x2 + (-1)) else none) else none)) else none)))
set_option maxHeartbeats 4000000 in
set_option maxRecDepth 100000 in
theorem wX1_up_L4 {p : Program} {l : Launch} {e : Env} {s : State} {m : MethodId} {args : Array Value} {below : List Frame} {meth : Method} {c : Code} {D : va_G} {A : Nat → Prop} {ck : Nat → ClassId} {ad : Nat → Nat} (C : CX p s m args meth c RX1 cX1_up 6 none) (hA : ∀ q, s.heap.size ≤ q → A q) (hK : va_K D vwCl (tyB ck) s) (hX : XT s) : ∀ (k : Nat) (fa : NI) (x1 : Int32) (x2 : Int32) (ls : Array Slot) (H : Heap) (locs : List Loc) (u : NI), va_P D vwCl (wB ck ad fa) H → va_D A (wB ck ad fa) → va_S A s.heap H locs → lv_has ls 6 [(0, .ref (ad 0)), (1, .int x1), (2, .int x2)] → jX1_up_L4 k fa x1 x2 = some u → W p l e (rmz 0 0) s m args below meth c H locs 0 0 (MQ below (HQ D A (wB ck ad u) none) args s 0 0 A) (F0 m 4 ls []) := by
  obtain ⟨hx, hb, hml, hown, hg, hr, hlocks⟩ := id C
  intro k
  induction k with
  | zero => intro fa x1 x2 ls H locs u hP hD hS hl h; cases h
  | succ k ih =>
    intro fa x1 x2 ls H locs u hP hD hS hl h
    unfold jX1_up_L4 at h
    refine lv_iload_n hx hb dX1_up_4 rfl (lv_at hl 2 rfl) ?_
    refine lv_if_lt (tgt := 82) hx hb dX1_up_5 (by decide) (fun c_1 => ?_) (fun c_1 => ?_)
    · rw [if_pos c_1] at h
      cases h
      exact W.vret hx hb hr (fun t ht _ => ⟨rfl, by rw [ht]; exact hP, hD, hS.F ht⟩) hS.2.2 dX1_up_82
    · rw [if_neg c_1] at h
      refine lv_iload_n hx hb dX1_up_8 rfl (lv_at hl 2 rfl) ?_
      refine lv_iload_n hx hb dX1_up_9 rfl (lv_at hl 1 rfl) ?_
      refine lv_bipush (v := 24) hx hb dX1_up_10 (by decide) ?_
      refine lv_idiv hx hb dX1_up_12 (by decide) ?_
      refine lv_isub hx hb dX1_up_13 ?_
      refine lv_istore_n (lv' := [(3, .int (x2 - (x1 / 24))), (0, .ref (ad 0)), (1, .int x1), (2, .int x2)]) hx hb dX1_up_14 rfl hl (by decide) rfl (fun ls hl => ?_)
      refine lv_iload_n hx hb dX1_up_15 rfl (lv_at hl 0 rfl) ?_
      refine lv_if_lt (tgt := 33) hx hb dX1_up_16 (by decide) (fun c_2 => ?_) (fun c_2 => ?_)
      · rw [if_pos c_2] at h
        refine lv_iconst (v := 0) hx hb dX1_up_33 (by decide) ?_
        refine lv_istore (lv' := [(4, .int 0), (3, .int (x2 - (x1 / 24))), (0, .ref (ad 0)), (1, .int x1), (2, .int x2)]) hx hb dX1_up_34 hl (by decide) rfl (fun ls hl => ?_)
        refine lv_iload_n hx hb dX1_up_36 rfl (lv_at hl 1 rfl) ?_
        refine lv_if_le (tgt := 59) hx hb dX1_up_37 (by decide) (fun c_3 => ?_) (fun c_3 => ?_)
        · rw [if_pos c_3] at h
          refine lv_iconst (v := 0) hx hb dX1_up_59 (by decide) ?_
          refine lv_istore (lv' := [(5, .int 0), (4, .int 0), (3, .int (x2 - (x1 / 24))), (0, .ref (ad 0)), (1, .int x1), (2, .int x2)]) hx hb dX1_up_60 hl (by decide) rfl (fun ls hl => ?_)
          refine lv_aload_n hx hb dX1_up_62 rfl (lv_at hl 3 rfl) ?_
          refine va_get hx hb hg inX1 hown hK hP 0 rfl rfl 0 (by decide) (hg _ tw_319) (fun _ h9 => h9) rfl dX1_up_63 ?_
          refine lv_iload_n hx hb dX1_up_66 rfl (lv_at hl 5 rfl) ?_
          refine lv_iload hx hb dX1_up_67 (lv_at hl 1 rfl) ?_
          refine lv_iload hx hb dX1_up_69 (lv_at hl 0 rfl) ?_
          refine lv_ior hx hb dX1_up_71 ?_
          refine lv_ldc hx hb hown (hg _ tw_427) dX1_up_72 ?_
          refine lv_iand hx hb dX1_up_74 ?_
          obtain ⟨z_75, h⟩ := of_ite h
          refine va_iast hx hb hK hP hD hS 1 0 rfl rfl (ok_in z_75) dX1_up_75 (fun H locs hP hD hS => ?_)
          have hP : va_P D vwCl (wB ck ad (upd fa x2.toNatClampNeg ((0 ||| 0) &&& 16777215))) H := hP
          have hD : va_D A (wB ck ad (upd fa x2.toNatClampNeg ((0 ||| 0) &&& 16777215))) := hD
          refine lv_iinc (v := x2 + (-1)) (lv' := [(2, .int (x2 + (-1))), (5, .int 0), (4, .int 0), (3, .int (x2 - (x1 / 24))), (0, .ref (ad 0)), (1, .int x1)]) hx hb dX1_up_76 hl (k := 5) rfl rfl (by decide) rfl (fun ls hl => ?_)
          refine lv_goto (tgt := 4) hx hb dX1_up_79 (by decide) ?_
          exact ih _ _ _ _ _ _ _ hP hD hS (lv_sub hl [4, 5, 0] rfl) h
        · rw [if_neg c_3] at h
          refine lv_aload_n hx hb dX1_up_40 rfl (lv_at hl 2 rfl) ?_
          refine va_get hx hb hg inX1 hown hK hP 0 rfl rfl 0 (by decide) (hg _ tw_319) (fun _ h9 => h9) rfl dX1_up_41 ?_
          refine lv_iload_n hx hb dX1_up_44 rfl (lv_at hl 1 rfl) ?_
          refine lv_iconst (v := 1) hx hb dX1_up_45 (by decide) ?_
          refine lv_isub hx hb dX1_up_46 ?_
          obtain ⟨z_47, h⟩ := of_ite h
          refine va_iald hx hb hK hP 1 0 rfl rfl (ok_in z_47) dX1_up_47 ?_
          refine lv_bipush (v := 24) hx hb dX1_up_48 (by decide) ?_
          refine lv_iload_n hx hb dX1_up_50 rfl (lv_at hl 3 rfl) ?_
          refine lv_bipush (v := 24) hx hb dX1_up_51 (by decide) ?_
          refine lv_irem hx hb dX1_up_53 (by decide) ?_
          refine lv_isub hx hb dX1_up_54 ?_
          refine lv_ishr hx hb dX1_up_55 ?_
          refine lv_goto (tgt := 60) hx hb dX1_up_56 (by decide) ?_
          refine lv_istore (lv' := [(5, .int ((fa ((x2 - (x1 / 24)) - 1).toNatClampNeg) >>> ((24 - (x1 - x1 / 24 * 24)) &&& 31))), (4, .int 0), (3, .int (x2 - (x1 / 24))), (0, .ref (ad 0)), (1, .int x1), (2, .int x2)]) hx hb dX1_up_60 hl (by decide) rfl (fun ls hl => ?_)
          refine lv_aload_n hx hb dX1_up_62 rfl (lv_at hl 3 rfl) ?_
          refine va_get hx hb hg inX1 hown hK hP 0 rfl rfl 0 (by decide) (hg _ tw_319) (fun _ h9 => h9) rfl dX1_up_63 ?_
          refine lv_iload_n hx hb dX1_up_66 rfl (lv_at hl 5 rfl) ?_
          refine lv_iload hx hb dX1_up_67 (lv_at hl 1 rfl) ?_
          refine lv_iload hx hb dX1_up_69 (lv_at hl 0 rfl) ?_
          refine lv_ior hx hb dX1_up_71 ?_
          refine lv_ldc hx hb hown (hg _ tw_427) dX1_up_72 ?_
          refine lv_iand hx hb dX1_up_74 ?_
          obtain ⟨z_75, h⟩ := of_ite h
          refine va_iast hx hb hK hP hD hS 1 0 rfl rfl (ok_in z_75) dX1_up_75 (fun H locs hP hD hS => ?_)
          have hP : va_P D vwCl (wB ck ad (upd fa x2.toNatClampNeg ((0 ||| ((fa ((x2 - (x1 / 24)) - 1).toNatClampNeg) >>> ((24 - (x1 - x1 / 24 * 24)) &&& 31))) &&& 16777215))) H := hP
          have hD : va_D A (wB ck ad (upd fa x2.toNatClampNeg ((0 ||| ((fa ((x2 - (x1 / 24)) - 1).toNatClampNeg) >>> ((24 - (x1 - x1 / 24 * 24)) &&& 31))) &&& 16777215))) := hD
          refine lv_iinc (v := x2 + (-1)) (lv' := [(2, .int (x2 + (-1))), (5, .int ((fa ((x2 - (x1 / 24)) - 1).toNatClampNeg) >>> ((24 - (x1 - x1 / 24 * 24)) &&& 31))), (4, .int 0), (3, .int (x2 - (x1 / 24))), (0, .ref (ad 0)), (1, .int x1)]) hx hb dX1_up_76 hl (k := 5) rfl rfl (by decide) rfl (fun ls hl => ?_)
          refine lv_goto (tgt := 4) hx hb dX1_up_79 (by decide) ?_
          exact ih _ _ _ _ _ _ _ hP hD hS (lv_sub hl [4, 5, 0] rfl) h
      · rw [if_neg c_2] at h
        refine lv_aload_n hx hb dX1_up_19 rfl (lv_at hl 1 rfl) ?_
        refine va_get hx hb hg inX1 hown hK hP 0 rfl rfl 0 (by decide) (hg _ tw_319) (fun _ h9 => h9) rfl dX1_up_20 ?_
        refine lv_iload_n hx hb dX1_up_23 rfl (lv_at hl 0 rfl) ?_
        obtain ⟨z_24, h⟩ := of_ite h
        refine va_iald hx hb hK hP 1 0 rfl rfl (ok_in z_24) dX1_up_24 ?_
        refine lv_iload_n hx hb dX1_up_25 rfl (lv_at hl 2 rfl) ?_
        refine lv_bipush (v := 24) hx hb dX1_up_26 (by decide) ?_
        refine lv_irem hx hb dX1_up_28 (by decide) ?_
        refine lv_ishl hx hb dX1_up_29 ?_
        refine lv_goto (tgt := 34) hx hb dX1_up_30 (by decide) ?_
        refine lv_istore (lv' := [(4, .int ((fa (x2 - (x1 / 24)).toNatClampNeg) <<< ((x1 - x1 / 24 * 24) &&& 31))), (3, .int (x2 - (x1 / 24))), (0, .ref (ad 0)), (1, .int x1), (2, .int x2)]) hx hb dX1_up_34 hl (by decide) rfl (fun ls hl => ?_)
        refine lv_iload_n hx hb dX1_up_36 rfl (lv_at hl 1 rfl) ?_
        refine lv_if_le (tgt := 59) hx hb dX1_up_37 (by decide) (fun c_4 => ?_) (fun c_4 => ?_)
        · rw [if_pos c_4] at h
          refine lv_iconst (v := 0) hx hb dX1_up_59 (by decide) ?_
          refine lv_istore (lv' := [(5, .int 0), (4, .int ((fa (x2 - (x1 / 24)).toNatClampNeg) <<< ((x1 - x1 / 24 * 24) &&& 31))), (3, .int (x2 - (x1 / 24))), (0, .ref (ad 0)), (1, .int x1), (2, .int x2)]) hx hb dX1_up_60 hl (by decide) rfl (fun ls hl => ?_)
          refine lv_aload_n hx hb dX1_up_62 rfl (lv_at hl 3 rfl) ?_
          refine va_get hx hb hg inX1 hown hK hP 0 rfl rfl 0 (by decide) (hg _ tw_319) (fun _ h9 => h9) rfl dX1_up_63 ?_
          refine lv_iload_n hx hb dX1_up_66 rfl (lv_at hl 5 rfl) ?_
          refine lv_iload hx hb dX1_up_67 (lv_at hl 1 rfl) ?_
          refine lv_iload hx hb dX1_up_69 (lv_at hl 0 rfl) ?_
          refine lv_ior hx hb dX1_up_71 ?_
          refine lv_ldc hx hb hown (hg _ tw_427) dX1_up_72 ?_
          refine lv_iand hx hb dX1_up_74 ?_
          obtain ⟨z_75, h⟩ := of_ite h
          refine va_iast hx hb hK hP hD hS 1 0 rfl rfl (ok_in z_75) dX1_up_75 (fun H locs hP hD hS => ?_)
          have hP : va_P D vwCl (wB ck ad (upd fa x2.toNatClampNeg ((((fa (x2 - (x1 / 24)).toNatClampNeg) <<< ((x1 - x1 / 24 * 24) &&& 31)) ||| 0) &&& 16777215))) H := hP
          have hD : va_D A (wB ck ad (upd fa x2.toNatClampNeg ((((fa (x2 - (x1 / 24)).toNatClampNeg) <<< ((x1 - x1 / 24 * 24) &&& 31)) ||| 0) &&& 16777215))) := hD
          refine lv_iinc (v := x2 + (-1)) (lv' := [(2, .int (x2 + (-1))), (5, .int 0), (4, .int ((fa (x2 - (x1 / 24)).toNatClampNeg) <<< ((x1 - x1 / 24 * 24) &&& 31))), (3, .int (x2 - (x1 / 24))), (0, .ref (ad 0)), (1, .int x1)]) hx hb dX1_up_76 hl (k := 5) rfl rfl (by decide) rfl (fun ls hl => ?_)
          refine lv_goto (tgt := 4) hx hb dX1_up_79 (by decide) ?_
          exact ih _ _ _ _ _ _ _ hP hD hS (lv_sub hl [4, 5, 0] rfl) h
        · rw [if_neg c_4] at h
          refine lv_aload_n hx hb dX1_up_40 rfl (lv_at hl 2 rfl) ?_
          refine va_get hx hb hg inX1 hown hK hP 0 rfl rfl 0 (by decide) (hg _ tw_319) (fun _ h9 => h9) rfl dX1_up_41 ?_
          refine lv_iload_n hx hb dX1_up_44 rfl (lv_at hl 1 rfl) ?_
          refine lv_iconst (v := 1) hx hb dX1_up_45 (by decide) ?_
          refine lv_isub hx hb dX1_up_46 ?_
          obtain ⟨z_47, h⟩ := of_ite h
          refine va_iald hx hb hK hP 1 0 rfl rfl (ok_in z_47) dX1_up_47 ?_
          refine lv_bipush (v := 24) hx hb dX1_up_48 (by decide) ?_
          refine lv_iload_n hx hb dX1_up_50 rfl (lv_at hl 3 rfl) ?_
          refine lv_bipush (v := 24) hx hb dX1_up_51 (by decide) ?_
          refine lv_irem hx hb dX1_up_53 (by decide) ?_
          refine lv_isub hx hb dX1_up_54 ?_
          refine lv_ishr hx hb dX1_up_55 ?_
          refine lv_goto (tgt := 60) hx hb dX1_up_56 (by decide) ?_
          refine lv_istore (lv' := [(5, .int ((fa ((x2 - (x1 / 24)) - 1).toNatClampNeg) >>> ((24 - (x1 - x1 / 24 * 24)) &&& 31))), (4, .int ((fa (x2 - (x1 / 24)).toNatClampNeg) <<< ((x1 - x1 / 24 * 24) &&& 31))), (3, .int (x2 - (x1 / 24))), (0, .ref (ad 0)), (1, .int x1), (2, .int x2)]) hx hb dX1_up_60 hl (by decide) rfl (fun ls hl => ?_)
          refine lv_aload_n hx hb dX1_up_62 rfl (lv_at hl 3 rfl) ?_
          refine va_get hx hb hg inX1 hown hK hP 0 rfl rfl 0 (by decide) (hg _ tw_319) (fun _ h9 => h9) rfl dX1_up_63 ?_
          refine lv_iload_n hx hb dX1_up_66 rfl (lv_at hl 5 rfl) ?_
          refine lv_iload hx hb dX1_up_67 (lv_at hl 1 rfl) ?_
          refine lv_iload hx hb dX1_up_69 (lv_at hl 0 rfl) ?_
          refine lv_ior hx hb dX1_up_71 ?_
          refine lv_ldc hx hb hown (hg _ tw_427) dX1_up_72 ?_
          refine lv_iand hx hb dX1_up_74 ?_
          obtain ⟨z_75, h⟩ := of_ite h
          refine va_iast hx hb hK hP hD hS 1 0 rfl rfl (ok_in z_75) dX1_up_75 (fun H locs hP hD hS => ?_)
          have hP : va_P D vwCl (wB ck ad (upd fa x2.toNatClampNeg ((((fa (x2 - (x1 / 24)).toNatClampNeg) <<< ((x1 - x1 / 24 * 24) &&& 31)) ||| ((fa ((x2 - (x1 / 24)) - 1).toNatClampNeg) >>> ((24 - (x1 - x1 / 24 * 24)) &&& 31))) &&& 16777215))) H := hP
          have hD : va_D A (wB ck ad (upd fa x2.toNatClampNeg ((((fa (x2 - (x1 / 24)).toNatClampNeg) <<< ((x1 - x1 / 24 * 24) &&& 31)) ||| ((fa ((x2 - (x1 / 24)) - 1).toNatClampNeg) >>> ((24 - (x1 - x1 / 24 * 24)) &&& 31))) &&& 16777215))) := hD
          refine lv_iinc (v := x2 + (-1)) (lv' := [(2, .int (x2 + (-1))), (5, .int ((fa ((x2 - (x1 / 24)) - 1).toNatClampNeg) >>> ((24 - (x1 - x1 / 24 * 24)) &&& 31))), (4, .int ((fa (x2 - (x1 / 24)).toNatClampNeg) <<< ((x1 - x1 / 24 * 24) &&& 31))), (3, .int (x2 - (x1 / 24))), (0, .ref (ad 0)), (1, .int x1)]) hx hb dX1_up_76 hl (k := 5) rfl rfl (by decide) rfl (fun ls hl => ?_)
          refine lv_goto (tgt := 4) hx hb dX1_up_79 (by decide) ?_
          exact ih _ _ _ _ _ _ _ hP hD hS (lv_sub hl [4, 5, 0] rfl) h
def jX1_up (fa : NI) (x1 : Int32) : Option (NI) := jX1_up_L4 FU fa x1 139
set_option maxHeartbeats 4000000 in
set_option maxRecDepth 100000 in
theorem wX1_up_0 {p : Program} {l : Launch} {e : Env} {s : State} {m : MethodId} {args : Array Value} {below : List Frame} {meth : Method} {c : Code} {D : va_G} {A : Nat → Prop} {ck : Nat → ClassId} {ad : Nat → Nat} (C : CX p s m args meth c RX1 cX1_up 6 none) (hA : ∀ q, s.heap.size ≤ q → A q) (hK : va_K D vwCl (tyB ck) s) (hX : XT s) (fa : NI) (x1 : Int32) (ls : Array Slot) (H : Heap) (locs : List Loc) (u : NI) (hP : va_P D vwCl (wB ck ad fa) H) (hD : va_D A (wB ck ad fa)) (hS : va_S A s.heap H locs) (hl : lv_has ls 6 [(0, .ref (ad 0)), (1, .int x1)]) (h : jX1_up fa x1 = some u) : W p l e (rmz 0 0) s m args below meth c H locs 0 0 (MQ below (HQ D A (wB ck ad u) none) args s 0 0 A) (F0 m 0 ls []) := by
  obtain ⟨hx, hb, hml, hown, hg, hr, hlocks⟩ := id C
  unfold jX1_up at h
  refine lv_sipush (v := 139) hx hb dX1_up_0 (by decide) ?_
  refine lv_istore_n (lv' := [(2, .int 139), (0, .ref (ad 0)), (1, .int x1)]) hx hb dX1_up_3 rfl hl (by decide) rfl (fun ls hl => ?_)
  exact wX1_up_L4 C hA hK hX FU _ _ _ _ _ _ _ hP hD hS (lv_sub hl [1, 2, 0] rfl) h
theorem vc_X1_up : VC RX1 yX1_up cX1_up 6 none 1 := ⟨tw_424, tw_425, tw_3, tw_426, by decide +kernel⟩
theorem cX1_up_met (l : Launch) (ck : Nat → ClassId) (ad : Nat → Nat) (fa : NI) (x1 : Int32) (u : NI) (h : jX1_up fa x1 = some u) : HM l yX1_up cX1_up 6 none (rmz 0 0) [.ref (ad 0), .int x1] (tyB ck) (wB ck ad fa) none (wB ck ad u) :=
  hm_of (own := RX1) (by decide +kernel) rfl (Nat.le_of_ble_eq_true rfl) (fun D A p e s m below meth c ls C hA hK hX hP hD hS hl => wX1_up_0 C hA hK hX fa x1 ls _ _ u hP hD hS hl h)

/-! RealDeskModel$Big.add(LRealDeskModel$Big;)V -/
def jX1_add_L4 : Nat → NI → NI → Int32 → Int32 → Option (NI × NI)
  | 0, _, _, _, _ => none
  | k + 1, fa, fb, x2, x3 => (if 140 ≤ x3 then some (fa, fb) else (if ok x3 140 = true then (if ok x3 140 = true then (if ok x3 140 = true then jX1_add_L4 k (upd fa x3.toNatClampNeg ((((fa x3.toNatClampNeg) + (fb x3.toNatClampNeg)) + x2) &&& 16777215)) fb ((((fa x3.toNatClampNeg) + (fb x3.toNatClampNeg)) + x2) >>> (24 &&& 31)) (x3 + 1) else none) else none) else none))
set_option maxHeartbeats 4000000 in
set_option maxRecDepth 100000 in
theorem wX1_add_L4 {p : Program} {l : Launch} {e : Env} {s : State} {m : MethodId} {args : Array Value} {below : List Frame} {meth : Method} {c : Code} {D : va_G} {A : Nat → Prop} {ck : Nat → ClassId} {ad : Nat → Nat} (C : CX p s m args meth c RX1 cX1_add 5 none) (hA : ∀ q, s.heap.size ≤ q → A q) (hK : va_K D vwCl (tyB ck) s) (hX : XT s) : ∀ (k : Nat) (fa : NI) (fb : NI) (x2 : Int32) (x3 : Int32) (ls : Array Slot) (H : Heap) (locs : List Loc) (u : NI × NI), va_P D vwCl (wBB ck ad fa fb) H → va_D A (wBB ck ad fa fb) → va_S A s.heap H locs → lv_has ls 5 [(0, .ref (ad 0)), (1, .ref (ad 2)), (2, .int x2), (3, .int x3)] → jX1_add_L4 k fa fb x2 x3 = some u → W p l e (rmz 0 0) s m args below meth c H locs 0 0 (MQ below (HQ D A (wBB ck ad u.1 u.2) none) args s 0 0 A) (F0 m 4 ls []) := by
  obtain ⟨hx, hb, hml, hown, hg, hr, hlocks⟩ := id C
  intro k
  induction k with
  | zero => intro fa fb x2 x3 ls H locs u hP hD hS hl h; cases h
  | succ k ih =>
    intro fa fb x2 x3 ls H locs u hP hD hS hl h
    unfold jX1_add_L4 at h
    refine lv_iload_n hx hb dX1_add_4 rfl (lv_at hl 3 rfl) ?_
    refine lv_sipush (v := 140) hx hb dX1_add_5 (by decide) ?_
    refine lv_icmp_ge (tgt := 51) hx hb dX1_add_8 (by decide) (fun c_1 => ?_) (fun c_1 => ?_)
    · rw [if_pos c_1] at h
      cases h
      exact W.vret hx hb hr (fun t ht _ => ⟨rfl, by rw [ht]; exact hP, hD, hS.F ht⟩) hS.2.2 dX1_add_51
    · rw [if_neg c_1] at h
      refine lv_aload_n hx hb dX1_add_11 rfl (lv_at hl 0 rfl) ?_
      refine va_get hx hb hg inX1 hown hK hP 0 rfl rfl 0 (by decide) (hg _ tw_319) (fun _ h9 => h9) rfl dX1_add_12 ?_
      refine lv_iload_n hx hb dX1_add_15 rfl (lv_at hl 3 rfl) ?_
      obtain ⟨z_16, h⟩ := of_ite h
      refine va_iald hx hb hK hP 1 0 rfl rfl (ok_in z_16) dX1_add_16 ?_
      refine lv_aload_n hx hb dX1_add_17 rfl (lv_at hl 1 rfl) ?_
      refine va_get hx hb hg inX1 hown hK hP 2 rfl rfl 0 (by decide) (hg _ tw_319) (fun _ h9 => h9) rfl dX1_add_18 ?_
      refine lv_iload_n hx hb dX1_add_21 rfl (lv_at hl 3 rfl) ?_
      obtain ⟨z_22, h⟩ := of_ite h
      refine va_iald hx hb hK hP 3 0 rfl rfl (ok_in z_22) dX1_add_22 ?_
      refine lv_iadd hx hb dX1_add_23 ?_
      refine lv_iload_n hx hb dX1_add_24 rfl (lv_at hl 2 rfl) ?_
      refine lv_iadd hx hb dX1_add_25 ?_
      refine lv_istore (lv' := [(4, .int (((fa x3.toNatClampNeg) + (fb x3.toNatClampNeg)) + x2)), (0, .ref (ad 0)), (1, .ref (ad 2)), (2, .int x2), (3, .int x3)]) hx hb dX1_add_26 hl (by decide) rfl (fun ls hl => ?_)
      refine lv_aload_n hx hb dX1_add_28 rfl (lv_at hl 1 rfl) ?_
      refine va_get hx hb hg inX1 hown hK hP 0 rfl rfl 0 (by decide) (hg _ tw_319) (fun _ h9 => h9) rfl dX1_add_29 ?_
      refine lv_iload_n hx hb dX1_add_32 rfl (lv_at hl 4 rfl) ?_
      refine lv_iload hx hb dX1_add_33 (lv_at hl 0 rfl) ?_
      refine lv_ldc hx hb hown (hg _ tw_427) dX1_add_35 ?_
      refine lv_iand hx hb dX1_add_37 ?_
      obtain ⟨z_38, h⟩ := of_ite h
      refine va_iast hx hb hK hP hD hS 1 0 rfl rfl (ok_in z_38) dX1_add_38 (fun H locs hP hD hS => ?_)
      have hP : va_P D vwCl (wBB ck ad (upd fa x3.toNatClampNeg ((((fa x3.toNatClampNeg) + (fb x3.toNatClampNeg)) + x2) &&& 16777215)) fb) H := hP
      have hD : va_D A (wBB ck ad (upd fa x3.toNatClampNeg ((((fa x3.toNatClampNeg) + (fb x3.toNatClampNeg)) + x2) &&& 16777215)) fb) := hD
      refine lv_iload hx hb dX1_add_39 (lv_at hl 0 rfl) ?_
      refine lv_bipush (v := 24) hx hb dX1_add_41 (by decide) ?_
      refine lv_ishr hx hb dX1_add_43 ?_
      refine lv_istore_n (lv' := [(2, .int ((((fa x3.toNatClampNeg) + (fb x3.toNatClampNeg)) + x2) >>> (24 &&& 31))), (4, .int (((fa x3.toNatClampNeg) + (fb x3.toNatClampNeg)) + x2)), (0, .ref (ad 0)), (1, .ref (ad 2)), (3, .int x3)]) hx hb dX1_add_44 rfl hl (by decide) rfl (fun ls hl => ?_)
      refine lv_iinc (v := x3 + 1) (lv' := [(3, .int (x3 + 1)), (2, .int ((((fa x3.toNatClampNeg) + (fb x3.toNatClampNeg)) + x2) >>> (24 &&& 31))), (4, .int (((fa x3.toNatClampNeg) + (fb x3.toNatClampNeg)) + x2)), (0, .ref (ad 0)), (1, .ref (ad 2))]) hx hb dX1_add_45 hl (k := 4) rfl rfl (by decide) rfl (fun ls hl => ?_)
      refine lv_goto (tgt := 4) hx hb dX1_add_48 (by decide) ?_
      exact ih _ _ _ _ _ _ _ _ hP hD hS (lv_sub hl [3, 4, 1, 0] rfl) h
def jX1_add (fa : NI) (fb : NI) : Option (NI × NI) := jX1_add_L4 FU fa fb 0 0
set_option maxHeartbeats 4000000 in
set_option maxRecDepth 100000 in
theorem wX1_add_0 {p : Program} {l : Launch} {e : Env} {s : State} {m : MethodId} {args : Array Value} {below : List Frame} {meth : Method} {c : Code} {D : va_G} {A : Nat → Prop} {ck : Nat → ClassId} {ad : Nat → Nat} (C : CX p s m args meth c RX1 cX1_add 5 none) (hA : ∀ q, s.heap.size ≤ q → A q) (hK : va_K D vwCl (tyB ck) s) (hX : XT s) (fa : NI) (fb : NI) (ls : Array Slot) (H : Heap) (locs : List Loc) (u : NI × NI) (hP : va_P D vwCl (wBB ck ad fa fb) H) (hD : va_D A (wBB ck ad fa fb)) (hS : va_S A s.heap H locs) (hl : lv_has ls 5 [(0, .ref (ad 0)), (1, .ref (ad 2))]) (h : jX1_add fa fb = some u) : W p l e (rmz 0 0) s m args below meth c H locs 0 0 (MQ below (HQ D A (wBB ck ad u.1 u.2) none) args s 0 0 A) (F0 m 0 ls []) := by
  obtain ⟨hx, hb, hml, hown, hg, hr, hlocks⟩ := id C
  unfold jX1_add at h
  refine lv_iconst (v := 0) hx hb dX1_add_0 (by decide) ?_
  refine lv_istore_n (lv' := [(2, .int 0), (0, .ref (ad 0)), (1, .ref (ad 2))]) hx hb dX1_add_1 rfl hl (by decide) rfl (fun ls hl => ?_)
  refine lv_iconst (v := 0) hx hb dX1_add_2 (by decide) ?_
  refine lv_istore_n (lv' := [(3, .int 0), (2, .int 0), (0, .ref (ad 0)), (1, .ref (ad 2))]) hx hb dX1_add_3 rfl hl (by decide) rfl (fun ls hl => ?_)
  exact wX1_add_L4 C hA hK hX FU _ _ _ _ _ _ _ _ hP hD hS (lv_sub hl [2, 3, 1, 0] rfl) h
theorem vc_X1_add : VC RX1 yX1_add cX1_add 5 none 1 := ⟨tw_429, tw_430, tw_3, tw_431, by decide +kernel⟩
theorem cX1_add_met (l : Launch) (ck : Nat → ClassId) (ad : Nat → Nat) (fa : NI) (fb : NI) (u : NI × NI) (h : jX1_add fa fb = some u) : HM l yX1_add cX1_add 5 none (rmz 0 0) [.ref (ad 0), .ref (ad 2)] (tyB ck) (wBB ck ad fa fb) none (wBB ck ad u.1 u.2) :=
  hm_of (own := RX1) (by decide +kernel) rfl (Nat.le_of_ble_eq_true rfl) (fun D A p e s m below meth c ls C hA hK hX hP hD hS hl => wX1_add_0 C hA hK hX fa fb ls _ _ u hP hD hS hl h)

/-! RealDeskModel$Big.less(LRealDeskModel$Big;)V -/
def jX1_less_L4 : Nat → NI → NI → Int32 → Int32 → Option (NI × NI)
  | 0, _, _, _, _ => none
  | k + 1, fa, fb, x2, x3 => (if 140 ≤ x3 then some (fa, fb) else (if ok x3 140 = true then (if ok x3 140 = true then (if ok x3 140 = true then jX1_less_L4 k (upd fa x3.toNatClampNeg ((((fa x3.toNatClampNeg) - (fb x3.toNatClampNeg)) - x2) &&& 16777215)) fb (if 0 ≤ (((fa x3.toNatClampNeg) - (fb x3.toNatClampNeg)) - x2) then 0 else 1 : Int32) (x3 + 1) else none) else none) else none))
set_option maxHeartbeats 4000000 in
set_option maxRecDepth 100000 in
theorem wX1_less_L4 {p : Program} {l : Launch} {e : Env} {s : State} {m : MethodId} {args : Array Value} {below : List Frame} {meth : Method} {c : Code} {D : va_G} {A : Nat → Prop} {ck : Nat → ClassId} {ad : Nat → Nat} (C : CX p s m args meth c RX1 cX1_less 5 none) (hA : ∀ q, s.heap.size ≤ q → A q) (hK : va_K D vwCl (tyB ck) s) (hX : XT s) : ∀ (k : Nat) (fa : NI) (fb : NI) (x2 : Int32) (x3 : Int32) (ls : Array Slot) (H : Heap) (locs : List Loc) (u : NI × NI), va_P D vwCl (wBB ck ad fa fb) H → va_D A (wBB ck ad fa fb) → va_S A s.heap H locs → lv_has ls 5 [(0, .ref (ad 0)), (1, .ref (ad 2)), (2, .int x2), (3, .int x3)] → jX1_less_L4 k fa fb x2 x3 = some u → W p l e (rmz 0 0) s m args below meth c H locs 0 0 (MQ below (HQ D A (wBB ck ad u.1 u.2) none) args s 0 0 A) (F0 m 4 ls []) := by
  obtain ⟨hx, hb, hml, hown, hg, hr, hlocks⟩ := id C
  intro k
  induction k with
  | zero => intro fa fb x2 x3 ls H locs u hP hD hS hl h; cases h
  | succ k ih =>
    intro fa fb x2 x3 ls H locs u hP hD hS hl h
    unfold jX1_less_L4 at h
    refine lv_iload_n hx hb dX1_less_4 rfl (lv_at hl 3 rfl) ?_
    refine lv_sipush (v := 140) hx hb dX1_less_5 (by decide) ?_
    refine lv_icmp_ge (tgt := 56) hx hb dX1_less_8 (by decide) (fun c_1 => ?_) (fun c_1 => ?_)
    · rw [if_pos c_1] at h
      cases h
      exact W.vret hx hb hr (fun t ht _ => ⟨rfl, by rw [ht]; exact hP, hD, hS.F ht⟩) hS.2.2 dX1_less_56
    · rw [if_neg c_1] at h
      refine lv_aload_n hx hb dX1_less_11 rfl (lv_at hl 0 rfl) ?_
      refine va_get hx hb hg inX1 hown hK hP 0 rfl rfl 0 (by decide) (hg _ tw_319) (fun _ h9 => h9) rfl dX1_less_12 ?_
      refine lv_iload_n hx hb dX1_less_15 rfl (lv_at hl 3 rfl) ?_
      obtain ⟨z_16, h⟩ := of_ite h
      refine va_iald hx hb hK hP 1 0 rfl rfl (ok_in z_16) dX1_less_16 ?_
      refine lv_aload_n hx hb dX1_less_17 rfl (lv_at hl 1 rfl) ?_
      refine va_get hx hb hg inX1 hown hK hP 2 rfl rfl 0 (by decide) (hg _ tw_319) (fun _ h9 => h9) rfl dX1_less_18 ?_
      refine lv_iload_n hx hb dX1_less_21 rfl (lv_at hl 3 rfl) ?_
      obtain ⟨z_22, h⟩ := of_ite h
      refine va_iald hx hb hK hP 3 0 rfl rfl (ok_in z_22) dX1_less_22 ?_
      refine lv_isub hx hb dX1_less_23 ?_
      refine lv_iload_n hx hb dX1_less_24 rfl (lv_at hl 2 rfl) ?_
      refine lv_isub hx hb dX1_less_25 ?_
      refine lv_istore (lv' := [(4, .int (((fa x3.toNatClampNeg) - (fb x3.toNatClampNeg)) - x2)), (0, .ref (ad 0)), (1, .ref (ad 2)), (2, .int x2), (3, .int x3)]) hx hb dX1_less_26 hl (by decide) rfl (fun ls hl => ?_)
      refine lv_iload hx hb dX1_less_28 (lv_at hl 0 rfl) ?_
      refine rg_i (pj := 38) (v := (if 0 ≤ (((fa x3.toNatClampNeg) - (fb x3.toNatClampNeg)) - x2) then 0 else 1 : Int32)) (ls := ls) (rest := []) (fun kJ => ?_) ?_
      · refine lv_if_ge (tgt := 37) hx hb dX1_less_30 (by decide) (fun c_2 => ?_) (fun c_2 => ?_)
        · refine lv_iconst (v := 0) hx hb dX1_less_37 (by decide) ?_
          exact kJ _ (by rw [if_pos c_2])
        · refine lv_iconst (v := 1) hx hb dX1_less_33 (by decide) ?_
          refine lv_goto (tgt := 38) hx hb dX1_less_34 (by decide) ?_
          exact kJ _ (by rw [if_neg c_2])
      refine lv_istore_n (lv' := [(2, .int (if 0 ≤ (((fa x3.toNatClampNeg) - (fb x3.toNatClampNeg)) - x2) then 0 else 1 : Int32)), (4, .int (((fa x3.toNatClampNeg) - (fb x3.toNatClampNeg)) - x2)), (0, .ref (ad 0)), (1, .ref (ad 2)), (3, .int x3)]) hx hb dX1_less_38 rfl hl (by decide) rfl (fun ls hl => ?_)
      refine lv_aload_n hx hb dX1_less_39 rfl (lv_at hl 2 rfl) ?_
      refine va_get hx hb hg inX1 hown hK hP 0 rfl rfl 0 (by decide) (hg _ tw_319) (fun _ h9 => h9) rfl dX1_less_40 ?_
      refine lv_iload_n hx hb dX1_less_43 rfl (lv_at hl 4 rfl) ?_
      refine lv_iload hx hb dX1_less_44 (lv_at hl 1 rfl) ?_
      refine lv_ldc hx hb hown (hg _ tw_427) dX1_less_46 ?_
      refine lv_iand hx hb dX1_less_48 ?_
      obtain ⟨z_49, h⟩ := of_ite h
      refine va_iast hx hb hK hP hD hS 1 0 rfl rfl (ok_in z_49) dX1_less_49 (fun H locs hP hD hS => ?_)
      have hP : va_P D vwCl (wBB ck ad (upd fa x3.toNatClampNeg ((((fa x3.toNatClampNeg) - (fb x3.toNatClampNeg)) - x2) &&& 16777215)) fb) H := hP
      have hD : va_D A (wBB ck ad (upd fa x3.toNatClampNeg ((((fa x3.toNatClampNeg) - (fb x3.toNatClampNeg)) - x2) &&& 16777215)) fb) := hD
      refine lv_iinc (v := x3 + 1) (lv' := [(3, .int (x3 + 1)), (2, .int (if 0 ≤ (((fa x3.toNatClampNeg) - (fb x3.toNatClampNeg)) - x2) then 0 else 1 : Int32)), (4, .int (((fa x3.toNatClampNeg) - (fb x3.toNatClampNeg)) - x2)), (0, .ref (ad 0)), (1, .ref (ad 2))]) hx hb dX1_less_50 hl (k := 4) rfl rfl (by decide) rfl (fun ls hl => ?_)
      refine lv_goto (tgt := 4) hx hb dX1_less_53 (by decide) ?_
      exact ih _ _ _ _ _ _ _ _ hP hD hS (lv_sub hl [3, 4, 1, 0] rfl) h
def jX1_less (fa : NI) (fb : NI) : Option (NI × NI) := jX1_less_L4 FU fa fb 0 0
set_option maxHeartbeats 4000000 in
set_option maxRecDepth 100000 in
theorem wX1_less_0 {p : Program} {l : Launch} {e : Env} {s : State} {m : MethodId} {args : Array Value} {below : List Frame} {meth : Method} {c : Code} {D : va_G} {A : Nat → Prop} {ck : Nat → ClassId} {ad : Nat → Nat} (C : CX p s m args meth c RX1 cX1_less 5 none) (hA : ∀ q, s.heap.size ≤ q → A q) (hK : va_K D vwCl (tyB ck) s) (hX : XT s) (fa : NI) (fb : NI) (ls : Array Slot) (H : Heap) (locs : List Loc) (u : NI × NI) (hP : va_P D vwCl (wBB ck ad fa fb) H) (hD : va_D A (wBB ck ad fa fb)) (hS : va_S A s.heap H locs) (hl : lv_has ls 5 [(0, .ref (ad 0)), (1, .ref (ad 2))]) (h : jX1_less fa fb = some u) : W p l e (rmz 0 0) s m args below meth c H locs 0 0 (MQ below (HQ D A (wBB ck ad u.1 u.2) none) args s 0 0 A) (F0 m 0 ls []) := by
  obtain ⟨hx, hb, hml, hown, hg, hr, hlocks⟩ := id C
  unfold jX1_less at h
  refine lv_iconst (v := 0) hx hb dX1_less_0 (by decide) ?_
  refine lv_istore_n (lv' := [(2, .int 0), (0, .ref (ad 0)), (1, .ref (ad 2))]) hx hb dX1_less_1 rfl hl (by decide) rfl (fun ls hl => ?_)
  refine lv_iconst (v := 0) hx hb dX1_less_2 (by decide) ?_
  refine lv_istore_n (lv' := [(3, .int 0), (2, .int 0), (0, .ref (ad 0)), (1, .ref (ad 2))]) hx hb dX1_less_3 rfl hl (by decide) rfl (fun ls hl => ?_)
  exact wX1_less_L4 C hA hK hX FU _ _ _ _ _ _ _ _ hP hD hS (lv_sub hl [2, 3, 1, 0] rfl) h
theorem vc_X1_less : VC RX1 yX1_less cX1_less 5 none 1 := ⟨tw_437, tw_438, tw_3, tw_439, by decide +kernel⟩
theorem cX1_less_met (l : Launch) (ck : Nat → ClassId) (ad : Nat → Nat) (fa : NI) (fb : NI) (u : NI × NI) (h : jX1_less fa fb = some u) : HM l yX1_less cX1_less 5 none (rmz 0 0) [.ref (ad 0), .ref (ad 2)] (tyB ck) (wBB ck ad fa fb) none (wBB ck ad u.1 u.2) :=
  hm_of (own := RX1) (by decide +kernel) rfl (Nat.le_of_ble_eq_true rfl) (fun D A p e s m below meth c ls C hA hK hX hP hD hS hl => wX1_less_0 C hA hK hX fa fb ls _ _ u hP hD hS hl h)

/-! RealDeskModel$Big.compare(LRealDeskModel$Big;)I -/
def jX1_compare_L4 : Nat → NI → NI → Int32 → Option (Int32 × NI × NI)
  | 0, _, _, _ => none
  | k + 1, fa, fb, x2 => (if x2 < 0 then (if 0 ≤ x2 then (if ok x2 140 = true then (if ok x2 140 = true then some ((if (fb x2.toNatClampNeg) ≤ (fa x2.toNatClampNeg) then 1 else (-1) : Int32), fa, fb) else none) else none) else some (0, fa, fb)) else (if ok x2 140 = true then (if ok x2 140 = true then (if (fa x2.toNatClampNeg) = (fb x2.toNatClampNeg) then jX1_compare_L4 k fa fb (x2 + (-1)) else (if 0 ≤ x2 then (if ok x2 140 = true then (if ok x2 140 = true then some ((if (fb x2.toNatClampNeg) ≤ (fa x2.toNatClampNeg) then 1 else (-1) : Int32), fa, fb) else none) else none) else some (0, fa, fb))) else none) else none))
set_option maxHeartbeats 4000000 in
set_option maxRecDepth 100000 in
theorem wX1_compare_L4 {p : Program} {l : Launch} {e : Env} {s : State} {m : MethodId} {args : Array Value} {below : List Frame} {meth : Method} {c : Code} {D : va_G} {A : Nat → Prop} {ck : Nat → ClassId} {ad : Nat → Nat} (C : CX p s m args meth c RX1 cX1_compare 3 (some .int)) (hA : ∀ q, s.heap.size ≤ q → A q) (hK : va_K D vwCl (tyB ck) s) (hX : XT s) : ∀ (k : Nat) (fa : NI) (fb : NI) (x2 : Int32) (ls : Array Slot) (H : Heap) (locs : List Loc) (u : Int32 × NI × NI), va_P D vwCl (wBB ck ad fa fb) H → va_D A (wBB ck ad fa fb) → va_S A s.heap H locs → lv_has ls 3 [(0, .ref (ad 0)), (1, .ref (ad 2)), (2, .int x2)] → jX1_compare_L4 k fa fb x2 = some u → W p l e (rmz 0 0) s m args below meth c H locs 0 0 (MQ below (HQ D A (wBB ck ad u.2.1 u.2.2) (some (.int u.1))) args s 0 0 A) (F0 m 4 ls []) := by
  obtain ⟨hx, hb, hml, hown, hg, hr, hlocks⟩ := id C
  intro k
  induction k with
  | zero => intro fa fb x2 ls H locs u hP hD hS hl h; cases h
  | succ k ih =>
    intro fa fb x2 ls H locs u hP hD hS hl h
    unfold jX1_compare_L4 at h
    refine lv_iload_n hx hb dX1_compare_4 rfl (lv_at hl 2 rfl) ?_
    refine lv_if_lt (tgt := 29) hx hb dX1_compare_5 (by decide) (fun c_1 => ?_) (fun c_1 => ?_)
    · rw [if_pos c_1] at h
      refine lv_iload_n hx hb dX1_compare_29 rfl (lv_at hl 2 rfl) ?_
      refine lv_if_ge (tgt := 37) hx hb dX1_compare_30 (by decide) (fun c_2 => ?_) (fun c_2 => ?_)
      · rw [if_pos c_2] at h
        refine lv_aload_n hx hb dX1_compare_37 rfl (lv_at hl 0 rfl) ?_
        refine va_get hx hb hg inX1 hown hK hP 0 rfl rfl 0 (by decide) (hg _ tw_319) (fun _ h9 => h9) rfl dX1_compare_38 ?_
        refine lv_iload_n hx hb dX1_compare_41 rfl (lv_at hl 2 rfl) ?_
        obtain ⟨z_42, h⟩ := of_ite h
        refine va_iald hx hb hK hP 1 0 rfl rfl (ok_in z_42) dX1_compare_42 ?_
        refine lv_aload_n hx hb dX1_compare_43 rfl (lv_at hl 1 rfl) ?_
        refine va_get hx hb hg inX1 hown hK hP 2 rfl rfl 0 (by decide) (hg _ tw_319) (fun _ h9 => h9) rfl dX1_compare_44 ?_
        refine lv_iload_n hx hb dX1_compare_47 rfl (lv_at hl 2 rfl) ?_
        obtain ⟨z_48, h⟩ := of_ite h
        refine va_iald hx hb hK hP 3 0 rfl rfl (ok_in z_48) dX1_compare_48 ?_
        refine rg_i (pj := 57) (v := (if (fb x2.toNatClampNeg) ≤ (fa x2.toNatClampNeg) then 1 else (-1) : Int32)) (ls := ls) (rest := []) (fun kJ => ?_) ?_
        · refine lv_icmp_ge (tgt := 56) hx hb dX1_compare_49 (by decide) (fun c_3 => ?_) (fun c_3 => ?_)
          · refine lv_iconst (v := 1) hx hb dX1_compare_56 (by decide) ?_
            exact kJ _ (by rw [if_pos c_3])
          · refine lv_iconst (v := (-1)) hx hb dX1_compare_52 (by decide) ?_
            refine lv_goto (tgt := 57) hx hb dX1_compare_53 (by decide) ?_
            exact kJ _ (by rw [if_neg c_3])
        cases h
        exact W.iret hx hb hr (fun t ht _ => ⟨rfl, by rw [ht]; exact hP, hD, hS.F ht⟩) hS.2.2 dX1_compare_57
      · rw [if_neg c_2] at h
        refine lv_iconst (v := 0) hx hb dX1_compare_33 (by decide) ?_
        refine lv_goto (tgt := 57) hx hb dX1_compare_34 (by decide) ?_
        cases h
        exact W.iret hx hb hr (fun t ht _ => ⟨rfl, by rw [ht]; exact hP, hD, hS.F ht⟩) hS.2.2 dX1_compare_57
    · rw [if_neg c_1] at h
      refine lv_aload_n hx hb dX1_compare_8 rfl (lv_at hl 0 rfl) ?_
      refine va_get hx hb hg inX1 hown hK hP 0 rfl rfl 0 (by decide) (hg _ tw_319) (fun _ h9 => h9) rfl dX1_compare_9 ?_
      refine lv_iload_n hx hb dX1_compare_12 rfl (lv_at hl 2 rfl) ?_
      obtain ⟨z_13, h⟩ := of_ite h
      refine va_iald hx hb hK hP 1 0 rfl rfl (ok_in z_13) dX1_compare_13 ?_
      refine lv_aload_n hx hb dX1_compare_14 rfl (lv_at hl 1 rfl) ?_
      refine va_get hx hb hg inX1 hown hK hP 2 rfl rfl 0 (by decide) (hg _ tw_319) (fun _ h9 => h9) rfl dX1_compare_15 ?_
      refine lv_iload_n hx hb dX1_compare_18 rfl (lv_at hl 2 rfl) ?_
      obtain ⟨z_19, h⟩ := of_ite h
      refine va_iald hx hb hK hP 3 0 rfl rfl (ok_in z_19) dX1_compare_19 ?_
      refine lv_icmp_ne (tgt := 29) hx hb dX1_compare_20 (by decide) (fun c_4 => ?_) (fun c_4 => ?_)
      · rw [if_neg c_4] at h
        refine lv_iload_n hx hb dX1_compare_29 rfl (lv_at hl 2 rfl) ?_
        refine lv_if_ge (tgt := 37) hx hb dX1_compare_30 (by decide) (fun c_5 => ?_) (fun c_5 => ?_)
        · rw [if_pos c_5] at h
          refine lv_aload_n hx hb dX1_compare_37 rfl (lv_at hl 0 rfl) ?_
          refine va_get hx hb hg inX1 hown hK hP 0 rfl rfl 0 (by decide) (hg _ tw_319) (fun _ h9 => h9) rfl dX1_compare_38 ?_
          refine lv_iload_n hx hb dX1_compare_41 rfl (lv_at hl 2 rfl) ?_
          obtain ⟨z_42, h⟩ := of_ite h
          refine va_iald hx hb hK hP 1 0 rfl rfl (ok_in z_42) dX1_compare_42 ?_
          refine lv_aload_n hx hb dX1_compare_43 rfl (lv_at hl 1 rfl) ?_
          refine va_get hx hb hg inX1 hown hK hP 2 rfl rfl 0 (by decide) (hg _ tw_319) (fun _ h9 => h9) rfl dX1_compare_44 ?_
          refine lv_iload_n hx hb dX1_compare_47 rfl (lv_at hl 2 rfl) ?_
          obtain ⟨z_48, h⟩ := of_ite h
          refine va_iald hx hb hK hP 3 0 rfl rfl (ok_in z_48) dX1_compare_48 ?_
          refine rg_i (pj := 57) (v := (if (fb x2.toNatClampNeg) ≤ (fa x2.toNatClampNeg) then 1 else (-1) : Int32)) (ls := ls) (rest := []) (fun kJ => ?_) ?_
          · refine lv_icmp_ge (tgt := 56) hx hb dX1_compare_49 (by decide) (fun c_6 => ?_) (fun c_6 => ?_)
            · refine lv_iconst (v := 1) hx hb dX1_compare_56 (by decide) ?_
              exact kJ _ (by rw [if_pos c_6])
            · refine lv_iconst (v := (-1)) hx hb dX1_compare_52 (by decide) ?_
              refine lv_goto (tgt := 57) hx hb dX1_compare_53 (by decide) ?_
              exact kJ _ (by rw [if_neg c_6])
          cases h
          exact W.iret hx hb hr (fun t ht _ => ⟨rfl, by rw [ht]; exact hP, hD, hS.F ht⟩) hS.2.2 dX1_compare_57
        · rw [if_neg c_5] at h
          refine lv_iconst (v := 0) hx hb dX1_compare_33 (by decide) ?_
          refine lv_goto (tgt := 57) hx hb dX1_compare_34 (by decide) ?_
          cases h
          exact W.iret hx hb hr (fun t ht _ => ⟨rfl, by rw [ht]; exact hP, hD, hS.F ht⟩) hS.2.2 dX1_compare_57
      · rw [if_pos c_4] at h
        refine lv_iinc (v := x2 + (-1)) (lv' := [(2, .int (x2 + (-1))), (0, .ref (ad 0)), (1, .ref (ad 2))]) hx hb dX1_compare_23 hl (k := 2) rfl rfl (by decide) rfl (fun ls hl => ?_)
        refine lv_goto (tgt := 4) hx hb dX1_compare_26 (by decide) ?_
        exact ih _ _ _ _ _ _ _ hP hD hS (lv_sub hl [1, 2, 0] rfl) h
def jX1_compare (fa : NI) (fb : NI) : Option (Int32 × NI × NI) := jX1_compare_L4 FU fa fb 139
set_option maxHeartbeats 4000000 in
set_option maxRecDepth 100000 in
theorem wX1_compare_0 {p : Program} {l : Launch} {e : Env} {s : State} {m : MethodId} {args : Array Value} {below : List Frame} {meth : Method} {c : Code} {D : va_G} {A : Nat → Prop} {ck : Nat → ClassId} {ad : Nat → Nat} (C : CX p s m args meth c RX1 cX1_compare 3 (some .int)) (hA : ∀ q, s.heap.size ≤ q → A q) (hK : va_K D vwCl (tyB ck) s) (hX : XT s) (fa : NI) (fb : NI) (ls : Array Slot) (H : Heap) (locs : List Loc) (u : Int32 × NI × NI) (hP : va_P D vwCl (wBB ck ad fa fb) H) (hD : va_D A (wBB ck ad fa fb)) (hS : va_S A s.heap H locs) (hl : lv_has ls 3 [(0, .ref (ad 0)), (1, .ref (ad 2))]) (h : jX1_compare fa fb = some u) : W p l e (rmz 0 0) s m args below meth c H locs 0 0 (MQ below (HQ D A (wBB ck ad u.2.1 u.2.2) (some (.int u.1))) args s 0 0 A) (F0 m 0 ls []) := by
  obtain ⟨hx, hb, hml, hown, hg, hr, hlocks⟩ := id C
  unfold jX1_compare at h
  refine lv_sipush (v := 139) hx hb dX1_compare_0 (by decide) ?_
  refine lv_istore_n (lv' := [(2, .int 139), (0, .ref (ad 0)), (1, .ref (ad 2))]) hx hb dX1_compare_3 rfl hl (by decide) rfl (fun ls hl => ?_)
  exact wX1_compare_L4 C hA hK hX FU _ _ _ _ _ _ _ hP hD hS (lv_sub hl [1, 2, 0] rfl) h
theorem vc_X1_compare : VC RX1 yX1_compare cX1_compare 3 (some .int) 1 := ⟨tw_433, tw_434, tw_3, tw_435, by decide +kernel⟩
theorem cX1_compare_met (l : Launch) (ck : Nat → ClassId) (ad : Nat → Nat) (fa : NI) (fb : NI) (u : Int32 × NI × NI) (h : jX1_compare fa fb = some u) : HM l yX1_compare cX1_compare 3 (some .int) (rmz 0 0) [.ref (ad 0), .ref (ad 2)] (tyB ck) (wBB ck ad fa fb) (some (.int u.1)) (wBB ck ad u.2.1 u.2.2) :=
  hm_of (own := RX1) (by decide +kernel) rfl (Nat.le_of_ble_eq_true rfl) (fun D A p e s m below meth c ls C hA hK hX hP hD hS hl => wX1_compare_0 C hA hK hX fa fb ls _ _ u hP hD hS hl h)

/-! RealDeskModel$Big.addLong(J)V -/
def jX1_addLong_L5 : Nat → NI → Int64 → Int32 → Option (NI)
  | 0, _, _, _ => none
  | k + 1, fa, x3, x5 => (if 140 ≤ x5 then some (fa) else (if ok x5 140 = true then (if ok x5 140 = true then jX1_addLong_L5 k (upd fa x5.toNatClampNeg (((x3 + ((fa x5.toNatClampNeg).toInt64)) &&& 16777215).toInt32)) (sr (x3 + ((fa x5.toNatClampNeg).toInt64)) 24) (x5 + 1) else none) else none))
set_option maxHeartbeats 4000000 in
set_option maxRecDepth 100000 in
theorem wX1_addLong_L5 {p : Program} {l : Launch} {e : Env} {s : State} {m : MethodId} {args : Array Value} {below : List Frame} {meth : Method} {c : Code} {D : va_G} {A : Nat → Prop} {ck : Nat → ClassId} {ad : Nat → Nat} (C : CX p s m args meth c RX1 cX1_addLong 6 none) (hA : ∀ q, s.heap.size ≤ q → A q) (hK : va_K D vwCl (tyB ck) s) (hX : XT s) : ∀ (k : Nat) (fa : NI) (x3 : Int64) (x5 : Int32) (ls : Array Slot) (H : Heap) (locs : List Loc) (u : NI), va_P D vwCl (wB ck ad fa) H → va_D A (wB ck ad fa) → va_S A s.heap H locs → lv_has ls 6 [(0, .ref (ad 0)), (3, .long x3), (5, .int x5)] → jX1_addLong_L5 k fa x3 x5 = some u → W p l e (rmz 0 0) s m args below meth c H locs 0 0 (MQ below (HQ D A (wB ck ad u) none) args s 0 0 A) (F0 m 5 ls []) := by
  obtain ⟨hx, hb, hml, hown, hg, hr, hlocks⟩ := id C
  intro k
  induction k with
  | zero => intro fa x3 x5 ls H locs u hP hD hS hl h; cases h
  | succ k ih =>
    intro fa x3 x5 ls H locs u hP hD hS hl h
    unfold jX1_addLong_L5 at h
    refine lv_iload hx hb dX1_addLong_5 (lv_at hl 2 rfl) ?_
    refine lv_sipush (v := 140) hx hb dX1_addLong_7 (by decide) ?_
    refine lv_icmp_ge (tgt := 48) hx hb dX1_addLong_10 (by decide) (fun c_1 => ?_) (fun c_1 => ?_)
    · rw [if_pos c_1] at h
      cases h
      exact W.vret hx hb hr (fun t ht _ => ⟨rfl, by rw [ht]; exact hP, hD, hS.F ht⟩) hS.2.2 dX1_addLong_48
    · rw [if_neg c_1] at h
      refine lv_lload_n hx hb dX1_addLong_13 rfl (lv_at hl 1 rfl) ?_
      refine lv_aload_n hx hb dX1_addLong_14 rfl (lv_at hl 0 rfl) ?_
      refine va_get hx hb hg inX1 hown hK hP 0 rfl rfl 0 (by decide) (hg _ tw_319) (fun _ h9 => h9) rfl dX1_addLong_15 ?_
      refine lv_iload hx hb dX1_addLong_18 (lv_at hl 2 rfl) ?_
      obtain ⟨z_20, h⟩ := of_ite h
      refine va_iald hx hb hK hP 1 0 rfl rfl (ok_in z_20) dX1_addLong_20 ?_
      refine lv_i2l hx hb dX1_addLong_21 rfl ?_
      refine lv_ladd hx hb dX1_addLong_22 ?_
      refine lv_lstore_n (lv' := [(3, .long (x3 + ((fa x5.toNatClampNeg).toInt64))), (0, .ref (ad 0)), (5, .int x5)]) hx hb dX1_addLong_23 rfl hl (by decide) rfl (fun ls hl => ?_)
      refine lv_aload_n hx hb dX1_addLong_24 rfl (lv_at hl 1 rfl) ?_
      refine va_get hx hb hg inX1 hown hK hP 0 rfl rfl 0 (by decide) (hg _ tw_319) (fun _ h9 => h9) rfl dX1_addLong_25 ?_
      refine lv_iload hx hb dX1_addLong_28 (lv_at hl 2 rfl) ?_
      refine lv_lload_n hx hb dX1_addLong_30 rfl (lv_at hl 0 rfl) ?_
      refine lv_ldc2 hx hb hown (hg _ tw_374) dX1_addLong_31 ?_
      refine lv_land hx hb dX1_addLong_34 ?_
      refine lv_l2i hx hb dX1_addLong_35 rfl ?_
      obtain ⟨z_36, h⟩ := of_ite h
      refine va_iast hx hb hK hP hD hS 1 0 rfl rfl (ok_in z_36) dX1_addLong_36 (fun H locs hP hD hS => ?_)
      have hP : va_P D vwCl (wB ck ad (upd fa x5.toNatClampNeg (((x3 + ((fa x5.toNatClampNeg).toInt64)) &&& 16777215).toInt32))) H := hP
      have hD : va_D A (wB ck ad (upd fa x5.toNatClampNeg (((x3 + ((fa x5.toNatClampNeg).toInt64)) &&& 16777215).toInt32))) := hD
      refine lv_lload_n hx hb dX1_addLong_37 rfl (lv_at hl 0 rfl) ?_
      refine lv_bipush (v := 24) hx hb dX1_addLong_38 (by decide) ?_
      refine lv_lshr (v := sr (x3 + ((fa x5.toNatClampNeg).toInt64)) 24) hx hb dX1_addLong_40 rfl ?_
      refine lv_lstore_n (lv' := [(3, .long (sr (x3 + ((fa x5.toNatClampNeg).toInt64)) 24)), (0, .ref (ad 0)), (5, .int x5)]) hx hb dX1_addLong_41 rfl hl (by decide) rfl (fun ls hl => ?_)
      refine lv_iinc (v := x5 + 1) (lv' := [(5, .int (x5 + 1)), (3, .long (sr (x3 + ((fa x5.toNatClampNeg).toInt64)) 24)), (0, .ref (ad 0))]) hx hb dX1_addLong_42 hl (k := 2) rfl rfl (by decide) rfl (fun ls hl => ?_)
      refine lv_goto (tgt := 5) hx hb dX1_addLong_45 (by decide) ?_
      exact ih _ _ _ _ _ _ _ hP hD hS (lv_sub hl [2, 1, 0] rfl) h
def jX1_addLong (fa : NI) (x1 : Int64) : Option (NI) := jX1_addLong_L5 FU fa x1 0
set_option maxHeartbeats 4000000 in
set_option maxRecDepth 100000 in
theorem wX1_addLong_0 {p : Program} {l : Launch} {e : Env} {s : State} {m : MethodId} {args : Array Value} {below : List Frame} {meth : Method} {c : Code} {D : va_G} {A : Nat → Prop} {ck : Nat → ClassId} {ad : Nat → Nat} (C : CX p s m args meth c RX1 cX1_addLong 6 none) (hA : ∀ q, s.heap.size ≤ q → A q) (hK : va_K D vwCl (tyB ck) s) (hX : XT s) (fa : NI) (x1 : Int64) (ls : Array Slot) (H : Heap) (locs : List Loc) (u : NI) (hP : va_P D vwCl (wB ck ad fa) H) (hD : va_D A (wB ck ad fa)) (hS : va_S A s.heap H locs) (hl : lv_has ls 6 [(0, .ref (ad 0)), (1, .long x1)]) (h : jX1_addLong fa x1 = some u) : W p l e (rmz 0 0) s m args below meth c H locs 0 0 (MQ below (HQ D A (wB ck ad u) none) args s 0 0 A) (F0 m 0 ls []) := by
  obtain ⟨hx, hb, hml, hown, hg, hr, hlocks⟩ := id C
  unfold jX1_addLong at h
  refine lv_lload_n hx hb dX1_addLong_0 rfl (lv_at hl 1 rfl) ?_
  refine lv_lstore_n (lv' := [(3, .long x1), (0, .ref (ad 0)), (1, .long x1)]) hx hb dX1_addLong_1 rfl hl (by decide) rfl (fun ls hl => ?_)
  refine lv_iconst (v := 0) hx hb dX1_addLong_2 (by decide) ?_
  refine lv_istore (lv' := [(5, .int 0), (3, .long x1), (0, .ref (ad 0)), (1, .long x1)]) hx hb dX1_addLong_3 hl (by decide) rfl (fun ls hl => ?_)
  exact wX1_addLong_L5 C hA hK hX FU _ _ _ _ _ _ _ hP hD hS (lv_sub hl [2, 1, 0] rfl) h
theorem vc_X1_addLong : VC RX1 yX1_addLong cX1_addLong 6 none 1 := ⟨tw_458, tw_459, tw_3, tw_460, by decide +kernel⟩
theorem cX1_addLong_met (l : Launch) (ck : Nat → ClassId) (ad : Nat → Nat) (fa : NI) (x1 : Int64) (u : NI) (h : jX1_addLong fa x1 = some u) : HM l yX1_addLong cX1_addLong 6 none (rmz 0 0) [.ref (ad 0), .long x1] (tyB ck) (wB ck ad fa) none (wB ck ad u) :=
  hm_of (own := RX1) (by decide +kernel) rfl (Nat.le_of_ble_eq_true rfl) (fun D A p e s m below meth c ls C hA hK hX hP hD hS hl => wX1_addLong_0 C hA hK hX fa x1 ls _ _ u hP hD hS hl h)

/-! RealDeskModel$Big.product(JJ)V -/
def jX1_product_L9 : Nat → NI → Int64 → Int64 → Int32 → Option (NI)
  | 0, _, _, _, _ => none
  | k + 1, fa, x1, x3, x5 => (if x5 < 0 then some (fa) else (Option.bind (jX1_twice fa 0) fun fa_2 => (if ((sr x3 x5) &&& 1) = 1 then (Option.bind (jX1_addLong fa_2 x1) fun fa_3 => jX1_product_L9 k fa_3 x1 x3 (x5 + (-1))) else jX1_product_L9 k fa_2 x1 x3 (x5 + (-1)))))
set_option maxHeartbeats 4000000 in
set_option maxRecDepth 100000 in
theorem wX1_product_L9 {p : Program} {l : Launch} {e : Env} {s : State} {m : MethodId} {args : Array Value} {below : List Frame} {meth : Method} {c : Code} {D : va_G} {A : Nat → Prop} {ck : Nat → ClassId} {ad : Nat → Nat} (C : CX p s m args meth c RX1 cX1_product 6 none) (hA : ∀ q, s.heap.size ≤ q → A q) (hK : va_K D vwCl (tyB ck) s) (hX : XT s) : ∀ (k : Nat) (fa : NI) (x1 : Int64) (x3 : Int64) (x5 : Int32) (ls : Array Slot) (H : Heap) (locs : List Loc) (u : NI), va_P D vwCl (wB ck ad fa) H → va_D A (wB ck ad fa) → va_S A s.heap H locs → lv_has ls 6 [(0, .ref (ad 0)), (1, .long x1), (3, .long x3), (5, .int x5)] → jX1_product_L9 k fa x1 x3 x5 = some u → W p l e (rmz 1 25) s m args below meth c H locs 0 0 (MQ below (HQ D A (wB ck ad u) none) args s 0 0 A) (F0 m 9 ls []) := by
  obtain ⟨hx, hb, hml, hown, hg, hr, hlocks⟩ := id C
  intro k
  induction k with
  | zero => intro fa x1 x3 x5 ls H locs u hP hD hS hl h; cases h
  | succ k ih =>
    intro fa x1 x3 x5 ls H locs u hP hD hS hl h
    unfold jX1_product_L9 at h
    refine lv_iload hx hb dX1_product_9 (lv_at hl 3 rfl) ?_
    refine lv_if_lt (tgt := 41) hx hb dX1_product_11 (by decide) (fun c_1 => ?_) (fun c_1 => ?_)
    · rw [if_pos c_1] at h
      cases h
      exact W.vret hx hb hr (fun t ht _ => ⟨rfl, by rw [ht]; exact hP, hD, hS.F ht⟩) hS.2.2 dX1_product_41
    · rw [if_neg c_1] at h
      refine lv_aload_n hx hb dX1_product_14 rfl (lv_at hl 0 rfl) ?_
      refine lv_iconst (v := 0) hx hb dX1_product_15 (by decide) ?_
      obtain ⟨fa_2, h_r_2, h⟩ := of_bind h
      refine callB C hK hX hP hD hS hA (cX1_twice_met l ck ad _ _ _ h_r_2) vc_X1_twice tw_453 (by decide) rfl hl.1 (rest := []) rfl (Nat.le_of_ble_eq_true rfl) (by decide) dX1_product_16 (fun H locs hP hD hS => ?_)
      have hP : va_P D vwCl (wB ck ad fa_2) H := hP
      have hD : va_D A (wB ck ad fa_2) := hD
      refine W.eq (g2 := F0 m 19 ls []) rfl ?_
      refine lv_lload_n hx hb dX1_product_19 rfl (lv_at hl 2 rfl) ?_
      refine lv_iload hx hb dX1_product_20 (lv_at hl 3 rfl) ?_
      refine lv_lshr (v := sr x3 x5) hx hb dX1_product_22 rfl ?_
      refine lv_lconst (v := 1) hx hb dX1_product_23 (by decide) ?_
      refine lv_land hx hb dX1_product_24 ?_
      refine lv_lconst (v := 1) hx hb dX1_product_25 (by decide) ?_
      refine lc_ne (tgt := 35) hx hb dX1_product_26 dX1_product_27 (by decide) (fun c_2 => ?_) (fun c_2 => ?_)
      · rw [if_neg c_2] at h
        refine lv_iinc (v := x5 + (-1)) (lv' := [(5, .int (x5 + (-1))), (0, .ref (ad 0)), (1, .long x1), (3, .long x3)]) hx hb dX1_product_35 hl (k := 3) rfl rfl (by decide) rfl (fun ls hl => ?_)
        refine lv_goto (tgt := 9) hx hb dX1_product_38 (by decide) ?_
        exact ih _ _ _ _ _ _ _ _ hP hD hS (lv_sub hl [1, 2, 3, 0] rfl) h
      · rw [if_pos c_2] at h
        refine lv_aload_n hx hb dX1_product_30 rfl (lv_at hl 0 rfl) ?_
        refine lv_lload_n hx hb dX1_product_31 rfl (lv_at hl 1 rfl) ?_
        obtain ⟨fa_3, h_r_3, h⟩ := of_bind h
        refine callB C hK hX hP hD hS hA (cX1_addLong_met l ck ad _ _ _ h_r_3) vc_X1_addLong tw_457 (by decide) rfl hl.1 (rest := []) rfl (Nat.le_of_ble_eq_true rfl) (by decide) dX1_product_32 (fun H locs hP hD hS => ?_)
        have hP : va_P D vwCl (wB ck ad fa_3) H := hP
        have hD : va_D A (wB ck ad fa_3) := hD
        refine W.eq (g2 := F0 m 35 ls []) rfl ?_
        refine lv_iinc (v := x5 + (-1)) (lv' := [(5, .int (x5 + (-1))), (0, .ref (ad 0)), (1, .long x1), (3, .long x3)]) hx hb dX1_product_35 hl (k := 3) rfl rfl (by decide) rfl (fun ls hl => ?_)
        refine lv_goto (tgt := 9) hx hb dX1_product_38 (by decide) ?_
        exact ih _ _ _ _ _ _ _ _ hP hD hS (lv_sub hl [1, 2, 3, 0] rfl) h
def jX1_product (fa : NI) (x1 : Int64) (x3 : Int64) : Option (NI) := (Option.bind (jX1_set fa 0) fun fa_1 => jX1_product_L9 FU fa_1 x1 x3 60)
set_option maxHeartbeats 4000000 in
set_option maxRecDepth 100000 in
theorem wX1_product_0 {p : Program} {l : Launch} {e : Env} {s : State} {m : MethodId} {args : Array Value} {below : List Frame} {meth : Method} {c : Code} {D : va_G} {A : Nat → Prop} {ck : Nat → ClassId} {ad : Nat → Nat} (C : CX p s m args meth c RX1 cX1_product 6 none) (hA : ∀ q, s.heap.size ≤ q → A q) (hK : va_K D vwCl (tyB ck) s) (hX : XT s) (fa : NI) (x1 : Int64) (x3 : Int64) (ls : Array Slot) (H : Heap) (locs : List Loc) (u : NI) (hP : va_P D vwCl (wB ck ad fa) H) (hD : va_D A (wB ck ad fa)) (hS : va_S A s.heap H locs) (hl : lv_has ls 6 [(0, .ref (ad 0)), (1, .long x1), (3, .long x3)]) (h : jX1_product fa x1 x3 = some u) : W p l e (rmz 1 25) s m args below meth c H locs 0 0 (MQ below (HQ D A (wB ck ad u) none) args s 0 0 A) (F0 m 0 ls []) := by
  obtain ⟨hx, hb, hml, hown, hg, hr, hlocks⟩ := id C
  unfold jX1_product at h
  refine lv_aload_n hx hb dX1_product_0 rfl (lv_at hl 0 rfl) ?_
  refine lv_lconst (v := 0) hx hb dX1_product_1 (by decide) ?_
  obtain ⟨fa_1, h_r_1, h⟩ := of_bind h
  refine callB C hK hX hP hD hS hA (cX1_set_met l ck ad _ _ _ h_r_1) vc_X1_set tw_452 (by decide) rfl hl.1 (rest := []) rfl (Nat.le_of_ble_eq_true rfl) (by decide) dX1_product_2 (fun H locs hP hD hS => ?_)
  have hP : va_P D vwCl (wB ck ad fa_1) H := hP
  have hD : va_D A (wB ck ad fa_1) := hD
  refine W.eq (g2 := F0 m 5 ls []) rfl ?_
  refine lv_bipush (v := 60) hx hb dX1_product_5 (by decide) ?_
  refine lv_istore (lv' := [(5, .int 60), (0, .ref (ad 0)), (1, .long x1), (3, .long x3)]) hx hb dX1_product_7 hl (by decide) rfl (fun ls hl => ?_)
  exact wX1_product_L9 C hA hK hX FU _ _ _ _ _ _ _ _ hP hD hS (lv_sub hl [1, 2, 3, 0] rfl) h
theorem vc_X1_product : VC RX1 yX1_product cX1_product 6 none 2 := ⟨tw_449, tw_450, tw_3, tw_451, by decide +kernel⟩
theorem cX1_product_met (l : Launch) (ck : Nat → ClassId) (ad : Nat → Nat) (fa : NI) (x1 : Int64) (x3 : Int64) (u : NI) (h : jX1_product fa x1 x3 = some u) : HM l yX1_product cX1_product 6 none (rmz 1 25) [.ref (ad 0), .long x1, .long x3] (tyB ck) (wB ck ad fa) none (wB ck ad u) :=
  hm_of (own := RX1) (by decide +kernel) rfl (Nat.le_of_ble_eq_true rfl) (fun D A p e s m below meth c ls C hA hK hX hP hD hS hl => wX1_product_0 C hA hK hX fa x1 x3 ls _ _ u hP hD hS hl h)

/-! RealDeskModel$Big.places(I)J -/
def jX1_places_L6 : Nat → NI → Int32 → Int64 → Int32 → Option (Int64 × NI)
  | 0, _, _, _, _ => none
  | k + 1, fa, x1, x2, x4 => (if x4 < 0 then some (x2, fa) else (b2 (jX1_bit fa (x1 + x4)) fun r_1 fa_1 => jX1_places_L6 k fa_1 x1 ((2 * x2) + (if r_1 = 0 then 0 else 1 : Int64)) (x4 + (-1))))
set_option maxHeartbeats 4000000 in
set_option maxRecDepth 100000 in
theorem wX1_places_L6 {p : Program} {l : Launch} {e : Env} {s : State} {m : MethodId} {args : Array Value} {below : List Frame} {meth : Method} {c : Code} {D : va_G} {A : Nat → Prop} {ck : Nat → ClassId} {ad : Nat → Nat} (C : CX p s m args meth c RX1 cX1_places 5 (some .long)) (hA : ∀ q, s.heap.size ≤ q → A q) (hK : va_K D vwCl (tyB ck) s) (hX : XT s) : ∀ (k : Nat) (fa : NI) (x1 : Int32) (x2 : Int64) (x4 : Int32) (ls : Array Slot) (H : Heap) (locs : List Loc) (u : Int64 × NI), va_P D vwCl (wB ck ad fa) H → va_D A (wB ck ad fa) → va_S A s.heap H locs → lv_has ls 5 [(0, .ref (ad 0)), (1, .int x1), (2, .long x2), (4, .int x4)] → jX1_places_L6 k fa x1 x2 x4 = some u → W p l e (rmz 1 21) s m args below meth c H locs 0 0 (MQ below (HQ D A (wB ck ad u.2) (some (.long u.1))) args s 0 0 A) (F0 m 6 ls []) := by
  obtain ⟨hx, hb, hml, hown, hg, hr, hlocks⟩ := id C
  intro k
  induction k with
  | zero => intro fa x1 x2 x4 ls H locs u hP hD hS hl h; cases h
  | succ k ih =>
    intro fa x1 x2 x4 ls H locs u hP hD hS hl h
    unfold jX1_places_L6 at h
    refine lv_iload hx hb dX1_places_6 (lv_at hl 3 rfl) ?_
    refine lv_if_lt (tgt := 40) hx hb dX1_places_8 (by decide) (fun c_1 => ?_) (fun c_1 => ?_)
    · rw [if_pos c_1] at h
      refine lv_lload_n hx hb dX1_places_40 rfl (lv_at hl 2 rfl) ?_
      cases h
      exact W.lret hx hb hr (fun t ht _ => ⟨rfl, by rw [ht]; exact hP, hD, hS.F ht⟩) hS.2.2 dX1_places_41
    · rw [if_neg c_1] at h
      refine lv_ldc2 hx hb hown (hg _ tw_391) dX1_places_11 ?_
      refine lv_lload_n hx hb dX1_places_14 rfl (lv_at hl 2 rfl) ?_
      refine lv_lmul hx hb dX1_places_15 ?_
      refine lv_aload_n hx hb dX1_places_16 rfl (lv_at hl 0 rfl) ?_
      refine lv_iload_n hx hb dX1_places_17 rfl (lv_at hl 1 rfl) ?_
      refine lv_iload hx hb dX1_places_18 (lv_at hl 3 rfl) ?_
      refine lv_iadd hx hb dX1_places_20 ?_
      obtain ⟨r_1, fa_1, h_r_1, h⟩ := of_b2 h
      refine callB C hK hX hP hD hS hA (cX1_bit_met l ck ad _ _ _ h_r_1) vc_X1_bit tw_383 (by decide) rfl hl.1 (rest := [.long (2 * x2)]) rfl (Nat.le_of_ble_eq_true rfl) (by decide) dX1_places_21 (fun H locs hP hD hS => ?_)
      have hP : va_P D vwCl (wB ck ad fa_1) H := hP
      have hD : va_D A (wB ck ad fa_1) := hD
      refine W.eq (g2 := F0 m 24 ls [.int r_1, .long (2 * x2)]) rfl ?_
      refine rg_l (pj := 32) (v := (if r_1 = 0 then 0 else 1 : Int64)) (ls := ls) (rest := [.long (2 * x2)]) (fun kJ => ?_) ?_
      · refine lv_if_eq (tgt := 31) hx hb dX1_places_24 (by decide) (fun c_2 => ?_) (fun c_2 => ?_)
        · refine lv_lconst (v := 0) hx hb dX1_places_31 (by decide) ?_
          exact kJ _ (by rw [if_pos c_2])
        · refine lv_lconst (v := 1) hx hb dX1_places_27 (by decide) ?_
          refine lv_goto (tgt := 32) hx hb dX1_places_28 (by decide) ?_
          exact kJ _ (by rw [if_neg c_2])
      refine lv_ladd hx hb dX1_places_32 ?_
      refine lv_lstore_n (lv' := [(2, .long ((2 * x2) + (if r_1 = 0 then 0 else 1 : Int64))), (0, .ref (ad 0)), (1, .int x1), (4, .int x4)]) hx hb dX1_places_33 rfl hl (by decide) rfl (fun ls hl => ?_)
      refine lv_iinc (v := x4 + (-1)) (lv' := [(4, .int (x4 + (-1))), (2, .long ((2 * x2) + (if r_1 = 0 then 0 else 1 : Int64))), (0, .ref (ad 0)), (1, .int x1)]) hx hb dX1_places_34 hl (k := 3) rfl rfl (by decide) rfl (fun ls hl => ?_)
      refine lv_goto (tgt := 6) hx hb dX1_places_37 (by decide) ?_
      exact ih _ _ _ _ _ _ _ _ hP hD hS (lv_sub hl [2, 3, 1, 0] rfl) h
def jX1_places (fa : NI) (x1 : Int32) : Option (Int64 × NI) := jX1_places_L6 FU fa x1 0 52
set_option maxHeartbeats 4000000 in
set_option maxRecDepth 100000 in
theorem wX1_places_0 {p : Program} {l : Launch} {e : Env} {s : State} {m : MethodId} {args : Array Value} {below : List Frame} {meth : Method} {c : Code} {D : va_G} {A : Nat → Prop} {ck : Nat → ClassId} {ad : Nat → Nat} (C : CX p s m args meth c RX1 cX1_places 5 (some .long)) (hA : ∀ q, s.heap.size ≤ q → A q) (hK : va_K D vwCl (tyB ck) s) (hX : XT s) (fa : NI) (x1 : Int32) (ls : Array Slot) (H : Heap) (locs : List Loc) (u : Int64 × NI) (hP : va_P D vwCl (wB ck ad fa) H) (hD : va_D A (wB ck ad fa)) (hS : va_S A s.heap H locs) (hl : lv_has ls 5 [(0, .ref (ad 0)), (1, .int x1)]) (h : jX1_places fa x1 = some u) : W p l e (rmz 1 21) s m args below meth c H locs 0 0 (MQ below (HQ D A (wB ck ad u.2) (some (.long u.1))) args s 0 0 A) (F0 m 0 ls []) := by
  obtain ⟨hx, hb, hml, hown, hg, hr, hlocks⟩ := id C
  unfold jX1_places at h
  refine lv_lconst (v := 0) hx hb dX1_places_0 (by decide) ?_
  refine lv_lstore_n (lv' := [(2, .long 0), (0, .ref (ad 0)), (1, .int x1)]) hx hb dX1_places_1 rfl hl (by decide) rfl (fun ls hl => ?_)
  refine lv_bipush (v := 52) hx hb dX1_places_2 (by decide) ?_
  refine lv_istore (lv' := [(4, .int 52), (2, .long 0), (0, .ref (ad 0)), (1, .int x1)]) hx hb dX1_places_4 hl (by decide) rfl (fun ls hl => ?_)
  exact wX1_places_L6 C hA hK hX FU _ _ _ _ _ _ _ _ hP hD hS (lv_sub hl [2, 3, 1, 0] rfl) h
theorem vc_X1_places : VC RX1 yX1_places cX1_places 5 (some .long) 1 := ⟨tw_388, tw_389, tw_3, tw_390, by decide +kernel⟩
theorem cX1_places_met (l : Launch) (ck : Nat → ClassId) (ad : Nat → Nat) (fa : NI) (x1 : Int32) (u : Int64 × NI) (h : jX1_places fa x1 = some u) : HM l yX1_places cX1_places 5 (some .long) (rmz 1 21) [.ref (ad 0), .int x1] (tyB ck) (wB ck ad fa) (some (.long u.1)) (wB ck ad u.2) :=
  hm_of (own := RX1) (by decide +kernel) rfl (Nat.le_of_ble_eq_true rfl) (fun D A p e s m below meth c ls C hA hK hX hP hD hS hl => wX1_places_0 C hA hK hX fa x1 ls _ _ u hP hD hS hl h)

/-! RealDeskModel$Big.hasBelow(I)Z -/
def jX1_hasBelow_L4 : Nat → NI → Int32 → Int32 → Int32 → Option (Int32 × NI)
  | 0, _, _, _, _ => none
  | k + 1, fa, x1, x2, x3 => (if x1 ≤ x3 then (if bz x2 = true then some (x2, fa) else none) else (if x2 = 0 then (b2 (jX1_bit fa x3) fun r_1 fa_1 => jX1_hasBelow_L4 k fa_1 x1 r_1 (x3 + 1)) else (if bz x2 = true then some (x2, fa) else none)))
set_option maxHeartbeats 4000000 in
set_option maxRecDepth 100000 in
theorem wX1_hasBelow_L4 {p : Program} {l : Launch} {e : Env} {s : State} {m : MethodId} {args : Array Value} {below : List Frame} {meth : Method} {c : Code} {D : va_G} {A : Nat → Prop} {ck : Nat → ClassId} {ad : Nat → Nat} (C : CX p s m args meth c RX1 cX1_hasBelow 4 (some .boolean)) (hA : ∀ q, s.heap.size ≤ q → A q) (hK : va_K D vwCl (tyB ck) s) (hX : XT s) : ∀ (k : Nat) (fa : NI) (x1 : Int32) (x2 : Int32) (x3 : Int32) (ls : Array Slot) (H : Heap) (locs : List Loc) (u : Int32 × NI), va_P D vwCl (wB ck ad fa) H → va_D A (wB ck ad fa) → va_S A s.heap H locs → lv_has ls 4 [(0, .ref (ad 0)), (1, .int x1), (2, .int x2), (3, .int x3)] → jX1_hasBelow_L4 k fa x1 x2 x3 = some u → W p l e (rmz 1 21) s m args below meth c H locs 0 0 (MQ below (HQ D A (wB ck ad u.2) (some (.int u.1))) args s 0 0 A) (F0 m 4 ls []) := by
  obtain ⟨hx, hb, hml, hown, hg, hr, hlocks⟩ := id C
  intro k
  induction k with
  | zero => intro fa x1 x2 x3 ls H locs u hP hD hS hl h; cases h
  | succ k ih =>
    intro fa x1 x2 x3 ls H locs u hP hD hS hl h
    unfold jX1_hasBelow_L4 at h
    refine lv_iload_n hx hb dX1_hasBelow_4 rfl (lv_at hl 3 rfl) ?_
    refine lv_iload_n hx hb dX1_hasBelow_5 rfl (lv_at hl 1 rfl) ?_
    refine lv_icmp_ge (tgt := 25) hx hb dX1_hasBelow_6 (by decide) (fun c_1 => ?_) (fun c_1 => ?_)
    · rw [if_pos c_1] at h
      refine lv_iload_n hx hb dX1_hasBelow_25 rfl (lv_at hl 2 rfl) ?_
      obtain ⟨z_26, h⟩ := of_ite h
      cases h
      exact W.zret hx hb hr (bz_n z_26) (fun t ht _ => ⟨rfl, by rw [ht]; exact hP, hD, hS.F ht⟩) hS.2.2 dX1_hasBelow_26
    · rw [if_neg c_1] at h
      refine lv_iload_n hx hb dX1_hasBelow_9 rfl (lv_at hl 2 rfl) ?_
      refine lv_if_ne (tgt := 25) hx hb dX1_hasBelow_10 (by decide) (fun c_2 => ?_) (fun c_2 => ?_)
      · rw [if_neg c_2] at h
        refine lv_iload_n hx hb dX1_hasBelow_25 rfl (lv_at hl 2 rfl) ?_
        obtain ⟨z_26, h⟩ := of_ite h
        cases h
        exact W.zret hx hb hr (bz_n z_26) (fun t ht _ => ⟨rfl, by rw [ht]; exact hP, hD, hS.F ht⟩) hS.2.2 dX1_hasBelow_26
      · rw [if_pos c_2] at h
        refine lv_aload_n hx hb dX1_hasBelow_13 rfl (lv_at hl 0 rfl) ?_
        refine lv_iload_n hx hb dX1_hasBelow_14 rfl (lv_at hl 3 rfl) ?_
        obtain ⟨r_1, fa_1, h_r_1, h⟩ := of_b2 h
        refine callB C hK hX hP hD hS hA (cX1_bit_met l ck ad _ _ _ h_r_1) vc_X1_bit tw_383 (by decide) rfl hl.1 (rest := []) rfl (Nat.le_of_ble_eq_true rfl) (by decide) dX1_hasBelow_15 (fun H locs hP hD hS => ?_)
        have hP : va_P D vwCl (wB ck ad fa_1) H := hP
        have hD : va_D A (wB ck ad fa_1) := hD
        refine W.eq (g2 := F0 m 18 ls [.int r_1]) rfl ?_
        refine lv_istore_n (lv' := [(2, .int r_1), (0, .ref (ad 0)), (1, .int x1), (3, .int x3)]) hx hb dX1_hasBelow_18 rfl hl (by decide) rfl (fun ls hl => ?_)
        refine lv_iinc (v := x3 + 1) (lv' := [(3, .int (x3 + 1)), (2, .int r_1), (0, .ref (ad 0)), (1, .int x1)]) hx hb dX1_hasBelow_19 hl (k := 3) rfl rfl (by decide) rfl (fun ls hl => ?_)
        refine lv_goto (tgt := 4) hx hb dX1_hasBelow_22 (by decide) ?_
        exact ih _ _ _ _ _ _ _ _ hP hD hS (lv_sub hl [2, 3, 1, 0] rfl) h
def jX1_hasBelow (fa : NI) (x1 : Int32) : Option (Int32 × NI) := jX1_hasBelow_L4 FU fa x1 0 0
set_option maxHeartbeats 4000000 in
set_option maxRecDepth 100000 in
theorem wX1_hasBelow_0 {p : Program} {l : Launch} {e : Env} {s : State} {m : MethodId} {args : Array Value} {below : List Frame} {meth : Method} {c : Code} {D : va_G} {A : Nat → Prop} {ck : Nat → ClassId} {ad : Nat → Nat} (C : CX p s m args meth c RX1 cX1_hasBelow 4 (some .boolean)) (hA : ∀ q, s.heap.size ≤ q → A q) (hK : va_K D vwCl (tyB ck) s) (hX : XT s) (fa : NI) (x1 : Int32) (ls : Array Slot) (H : Heap) (locs : List Loc) (u : Int32 × NI) (hP : va_P D vwCl (wB ck ad fa) H) (hD : va_D A (wB ck ad fa)) (hS : va_S A s.heap H locs) (hl : lv_has ls 4 [(0, .ref (ad 0)), (1, .int x1)]) (h : jX1_hasBelow fa x1 = some u) : W p l e (rmz 1 21) s m args below meth c H locs 0 0 (MQ below (HQ D A (wB ck ad u.2) (some (.int u.1))) args s 0 0 A) (F0 m 0 ls []) := by
  obtain ⟨hx, hb, hml, hown, hg, hr, hlocks⟩ := id C
  unfold jX1_hasBelow at h
  refine lv_iconst (v := 0) hx hb dX1_hasBelow_0 (by decide) ?_
  refine lv_istore_n (lv' := [(2, .int 0), (0, .ref (ad 0)), (1, .int x1)]) hx hb dX1_hasBelow_1 rfl hl (by decide) rfl (fun ls hl => ?_)
  refine lv_iconst (v := 0) hx hb dX1_hasBelow_2 (by decide) ?_
  refine lv_istore_n (lv' := [(3, .int 0), (2, .int 0), (0, .ref (ad 0)), (1, .int x1)]) hx hb dX1_hasBelow_3 rfl hl (by decide) rfl (fun ls hl => ?_)
  exact wX1_hasBelow_L4 C hA hK hX FU _ _ _ _ _ _ _ _ hP hD hS (lv_sub hl [2, 3, 1, 0] rfl) h
theorem vc_X1_hasBelow : VC RX1 yX1_hasBelow cX1_hasBelow 4 (some .boolean) 1 := ⟨tw_393, tw_394, tw_3, tw_395, by decide +kernel⟩
theorem cX1_hasBelow_met (l : Launch) (ck : Nat → ClassId) (ad : Nat → Nat) (fa : NI) (x1 : Int32) (u : Int32 × NI) (h : jX1_hasBelow fa x1 = some u) : HM l yX1_hasBelow cX1_hasBelow 4 (some .boolean) (rmz 1 21) [.ref (ad 0), .int x1] (tyB ck) (wB ck ad fa) (some (.int u.1)) (wB ck ad u.2) :=
  hm_of (own := RX1) (by decide +kernel) rfl (Nat.le_of_ble_eq_true rfl) (fun D A p e s m below meth c ls C hA hK hX hP hD hS hl => wX1_hasBelow_0 C hA hK hX fa x1 ls _ _ u hP hD hS hl h)
