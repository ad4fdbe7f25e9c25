/-! RealDesk.set(IJI)I -/
def jX0_set (g : NL) (x1 : Int32) (x2 : Int64) (x4 : Int32) : Option (Int32 × NL) := (if rok x1 = true then (if 9007199254740992 < x2 then none else (if (-9007199254740992) ≤ x2 then (if x4 < (-1200) then none else (if x4 ≤ 1100 then (b2 (jX0_keep g x1 (jX0_withSignOf (jX0_nearest (jabsl x2) x4) x2)) fun r_1 g_1 => some (r_1, g_1)) else none)) else none)) else none)
set_option maxHeartbeats 4000000 in
set_option maxRecDepth 100000 in
theorem wX0_set_0 {p : Program} {l : Launch} {e : Env} {s : State} {m : MethodId} {args : Array Value} {below : List Frame} {meth : Method} {c : Code} {D : va_G} {A : Nat → Prop} {ck : Nat → ClassId} {ad : Nat → Nat} (C : CX p s m args meth c RX0 cX0_set 5 (some .int)) (hA : ∀ q, s.heap.size ≤ q → A q) (hK : va_K D vwCl (tyD ck) s) (hX : XT s) (g : NL) (x1 : Int32) (x2 : Int64) (x4 : Int32) (ls : Array Slot) (H : Heap) (locs : List Loc) (u : Int32 × NL) (hP : va_P D vwCl (wD ck ad g) H) (hD : va_D A (wD ck ad g)) (hS : va_S A s.heap H locs) (hl : lv_has ls 5 [(0, .ref (ad 0)), (1, .int x1), (2, .long x2), (4, .int x4)]) (h : jX0_set g x1 x2 x4 = some u) : W p l e (rmz 3 78) s m args below meth c H locs 0 0 (MQ below (HQ D A (wD ck ad u.2) (some (.int u.1))) args s 0 0 A) (F0 m 0 ls []) := by
  obtain ⟨hx, hb, hml, hown, hg, hr, hlocks⟩ := id C
  unfold jX0_set at h
  refine lv_iload_n hx hb dX0_set_0 rfl (lv_at hl 1 rfl) ?_
  obtain ⟨z_1, h⟩ := of_ite h
  refine pcallV C (c_rr l _ z_1) sc_rr tw_33 (by decide) rfl hl.1 (rest := []) rfl (Nat.le_of_ble_eq_true rfl) (by decide) dX0_set_1 ?_
  refine lv_lload_n hx hb dX0_set_4 rfl (lv_at hl 2 rfl) ?_
  refine lv_ldc2 hx hb hown (hg _ tw_103) dX0_set_5 ?_
  refine lc_gt (tgt := 20) hx hb dX0_set_8 dX0_set_9 (by decide) (fun c_1 => ?_) (fun c_1 => ?_)
  · rw [if_pos c_1] at h
    cases h
  · rw [if_neg c_1] at h
    refine lv_lload_n hx hb dX0_set_12 rfl (lv_at hl 2 rfl) ?_
    refine lv_ldc2 hx hb hown (hg _ tw_104) dX0_set_13 ?_
    refine lc_ge (tgt := 30) hx hb dX0_set_16 dX0_set_17 (by decide) (fun c_2 => ?_) (fun c_2 => ?_)
    · rw [if_pos c_2] at h
      refine lv_iload hx hb dX0_set_30 (lv_at hl 3 rfl) ?_
      refine lv_sipush (v := (-1200)) hx hb dX0_set_32 (by decide) ?_
      refine lv_icmp_lt (tgt := 46) hx hb dX0_set_35 (by decide) (fun c_3 => ?_) (fun c_3 => ?_)
      · rw [if_pos c_3] at h
        cases h
      · rw [if_neg c_3] at h
        refine lv_iload hx hb dX0_set_38 (lv_at hl 3 rfl) ?_
        refine lv_sipush (v := 1100) hx hb dX0_set_40 (by decide) ?_
        refine lv_icmp_le (tgt := 56) hx hb dX0_set_43 (by decide) (fun c_4 => ?_) (fun c_4 => ?_)
        · rw [if_pos c_4] at h
          refine lv_aload_n hx hb dX0_set_56 rfl (lv_at hl 0 rfl) ?_
          refine lv_iload_n hx hb dX0_set_57 rfl (lv_at hl 1 rfl) ?_
          refine lv_lload_n hx hb dX0_set_58 rfl (lv_at hl 2 rfl) ?_
          refine q_absl C tw_107 (by decide) (Nat.le_of_ble_eq_true rfl) (by decide) hl.1 dX0_set_59 ?_
          refine lv_iload hx hb dX0_set_62 (lv_at hl 3 rfl) ?_
          refine pcall C (cX0_nearest_met l _ _ _ rfl) sc_X0_nearest tw_110 (by decide) rfl hl.1 (rest := [.int x1, .ref (ad 0)]) rfl (Nat.le_of_ble_eq_true rfl) (by decide) dX0_set_64 ?_
          refine lv_lload_n hx hb dX0_set_67 rfl (lv_at hl 2 rfl) ?_
          refine pcall C (cX0_withSignOf_met l _ _ _ rfl) sc_X0_withSignOf tw_130 (by decide) rfl hl.1 (rest := [.int x1, .ref (ad 0)]) rfl (Nat.le_of_ble_eq_true rfl) (by decide) dX0_set_68 ?_
          obtain ⟨r_1, g_1, h_r_1, h⟩ := of_b2 h
          refine callD C hK hX hP hD hS hA (cX0_keep_met l ck ad _ _ _ _ h_r_1) vc_X0_keep tw_133 (by decide) rfl hl.1 (rest := []) rfl (Nat.le_of_ble_eq_true rfl) (by decide) dX0_set_71 (fun H locs hP hD hS => ?_)
          have hP : va_P D vwCl (wD ck ad g_1) H := hP
          have hD : va_D A (wD ck ad g_1) := hD
          refine W.eq (g2 := F0 m 74 ls [.int r_1]) rfl ?_
          cases h
          exact W.iret hx hb hr (fun t ht _ => ⟨rfl, by rw [ht]; exact hP, hD, hS.F ht⟩) hS.2.2 dX0_set_74
        · rw [if_neg c_4] at h
          cases h
    · rw [if_neg c_2] at h
      cases h
theorem vc_X0_set : VC RX0 yX0_set cX0_set 5 (some .int) 3 := ⟨tw_30, tw_31, tw_1, tw_32, by decide +kernel⟩
theorem cX0_set_met (l : Launch) (ck : Nat → ClassId) (ad : Nat → Nat) (g : NL) (x1 : Int32) (x2 : Int64) (x4 : Int32) (u : Int32 × NL) (h : jX0_set g x1 x2 x4 = some u) : HM l yX0_set cX0_set 5 (some .int) (rmz 3 78) [.ref (ad 0), .int x1, .long x2, .int x4] (tyD ck) (wD ck ad g) (some (.int u.1)) (wD ck ad u.2) :=
  hm_of (own := RX0) (by decide +kernel) rfl (Nat.le_of_ble_eq_true rfl) (fun D A p e s m below meth c ls C hA hK hX hP hD hS hl => wX0_set_0 C hA hK hX g x1 x2 x4 ls _ _ u hP hD hS hl h)

/-! RealDesk.combine(IIII)I -/
def jX0_combine (g : NL) (x1 : Int32) (x2 : Int32) (x3 : Int32) (x4 : Int32) : Option (Int32 × NL) := (if rok x1 = true then (if rok x3 = true then (if rok x4 = true then (if kok x2 = true then (if ok x3 16 = true then (if ok x4 16 = true then (b2 (jX0_combineRanks g x1 x2 (g x3.toNatClampNeg) (g x4.toNatClampNeg)) fun r_1 g_1 => some (r_1, g_1)) else none) else none) else none) else none) else none) else none)
set_option maxHeartbeats 4000000 in
set_option maxRecDepth 100000 in
theorem wX0_combine_0 {p : Program} {l : Launch} {e : Env} {s : State} {m : MethodId} {args : Array Value} {below : List Frame} {meth : Method} {c : Code} {D : va_G} {A : Nat → Prop} {ck : Nat → ClassId} {ad : Nat → Nat} (C : CX p s m args meth c RX0 cX0_combine 5 (some .int)) (hA : ∀ q, s.heap.size ≤ q → A q) (hK : va_K D vwCl (tyD ck) s) (hX : XT s) (g : NL) (x1 : Int32) (x2 : Int32) (x3 : Int32) (x4 : Int32) (ls : Array Slot) (H : Heap) (locs : List Loc) (u : Int32 × NL) (hP : va_P D vwCl (wD ck ad g) H) (hD : va_D A (wD ck ad g)) (hS : va_S A s.heap H locs) (hl : lv_has ls 5 [(0, .ref (ad 0)), (1, .int x1), (2, .int x2), (3, .int x3), (4, .int x4)]) (h : jX0_combine g x1 x2 x3 x4 = some u) : W p l e (rmz 7 169) s m args below meth c H locs 0 0 (MQ below (HQ D A (wD ck ad u.2) (some (.int u.1))) args s 0 0 A) (F0 m 0 ls []) := by
  obtain ⟨hx, hb, hml, hown, hg, hr, hlocks⟩ := id C
  unfold jX0_combine at h
  refine lv_iload_n hx hb dX0_combine_0 rfl (lv_at hl 1 rfl) ?_
  obtain ⟨z_1, h⟩ := of_ite h
  refine pcallV C (c_rr l _ z_1) sc_rr tw_33 (by decide) rfl hl.1 (rest := []) rfl (Nat.le_of_ble_eq_true rfl) (by decide) dX0_combine_1 ?_
  refine lv_iload_n hx hb dX0_combine_4 rfl (lv_at hl 3 rfl) ?_
  obtain ⟨z_5, h⟩ := of_ite h
  refine pcallV C (c_rr l _ z_5) sc_rr tw_33 (by decide) rfl hl.1 (rest := []) rfl (Nat.le_of_ble_eq_true rfl) (by decide) dX0_combine_5 ?_
  refine lv_iload hx hb dX0_combine_8 (lv_at hl 4 rfl) ?_
  obtain ⟨z_10, h⟩ := of_ite h
  refine pcallV C (c_rr l _ z_10) sc_rr tw_33 (by decide) rfl hl.1 (rest := []) rfl (Nat.le_of_ble_eq_true rfl) (by decide) dX0_combine_10 ?_
  refine lv_iload_n hx hb dX0_combine_13 rfl (lv_at hl 2 rfl) ?_
  obtain ⟨z_14, h⟩ := of_ite h
  refine pcallV C (c_rk l _ z_14) sc_rk tw_148 (by decide) rfl hl.1 (rest := []) rfl (Nat.le_of_ble_eq_true rfl) (by decide) dX0_combine_14 ?_
  refine lv_aload_n hx hb dX0_combine_17 rfl (lv_at hl 0 rfl) ?_
  refine lv_iload_n hx hb dX0_combine_18 rfl (lv_at hl 1 rfl) ?_
  refine lv_iload_n hx hb dX0_combine_19 rfl (lv_at hl 2 rfl) ?_
  refine lv_aload_n hx hb dX0_combine_20 rfl (lv_at hl 0 rfl) ?_
  refine va_get hx hb hg inX0 hown hK hP 0 rfl rfl 0 (by decide) (hg _ tw_20) (fun _ h9 => h9) rfl dX0_combine_21 ?_
  refine lv_iload_n hx hb dX0_combine_24 rfl (lv_at hl 3 rfl) ?_
  obtain ⟨z_25, h⟩ := of_ite h
  refine va_lald hx hb hK hP 1 0 rfl rfl (ok_in z_25) dX0_combine_25 ?_
  refine lv_aload_n hx hb dX0_combine_26 rfl (lv_at hl 0 rfl) ?_
  refine va_get hx hb hg inX0 hown hK hP 0 rfl rfl 0 (by decide) (hg _ tw_20) (fun _ h9 => h9) rfl dX0_combine_27 ?_
  refine lv_iload hx hb dX0_combine_30 (lv_at hl 4 rfl) ?_
  obtain ⟨z_32, h⟩ := of_ite h
  refine va_lald hx hb hK hP 1 0 rfl rfl (ok_in z_32) dX0_combine_32 ?_
  obtain ⟨r_1, g_1, h_r_1, h⟩ := of_b2 h
  refine callD C hK hX hP hD hS hA (cX0_combineRanks_met l ck ad _ _ _ _ _ _ h_r_1) vc_X0_combineRanks tw_152 (by decide) rfl hl.1 (rest := []) rfl (Nat.le_of_ble_eq_true rfl) (by decide) dX0_combine_33 (fun H locs hP hD hS => ?_)
  have hP : va_P D vwCl (wD ck ad g_1) H := hP
  have hD : va_D A (wD ck ad g_1) := hD
  refine W.eq (g2 := F0 m 36 ls [.int r_1]) rfl ?_
  cases h
  exact W.iret hx hb hr (fun t ht _ => ⟨rfl, by rw [ht]; exact hP, hD, hS.F ht⟩) hS.2.2 dX0_combine_36
theorem vc_X0_combine : VC RX0 yX0_combine cX0_combine 5 (some .int) 4 := ⟨tw_145, tw_146, tw_1, tw_147, by decide +kernel⟩
theorem cX0_combine_met (l : Launch) (ck : Nat → ClassId) (ad : Nat → Nat) (g : NL) (x1 : Int32) (x2 : Int32) (x3 : Int32) (x4 : Int32) (u : Int32 × NL) (h : jX0_combine g x1 x2 x3 x4 = some u) : HM l yX0_combine cX0_combine 5 (some .int) (rmz 7 169) [.ref (ad 0), .int x1, .int x2, .int x3, .int x4] (tyD ck) (wD ck ad g) (some (.int u.1)) (wD ck ad u.2) :=
  hm_of (own := RX0) (by decide +kernel) rfl (Nat.le_of_ble_eq_true rfl) (fun D A p e s m below meth c ls C hA hK hX hP hD hS hl => wX0_combine_0 C hA hK hX g x1 x2 x3 x4 ls _ _ u hP hD hS hl h)

/-! RealDesk.change(III)I -/
def jX0_change (g : NL) (x1 : Int32) (x2 : Int32) (x3 : Int32) : Option (Int32 × NL) := (if rok x1 = true then (if rok x3 = true then (if kok x2 = true then (if ok x3 16 = true then (b2 (jX0_changeRank g x1 x2 (g x3.toNatClampNeg)) fun r_1 g_1 => some (r_1, g_1)) else none) else none) else none) else none)
set_option maxHeartbeats 4000000 in
set_option maxRecDepth 100000 in
theorem wX0_change_0 {p : Program} {l : Launch} {e : Env} {s : State} {m : MethodId} {args : Array Value} {below : List Frame} {meth : Method} {c : Code} {D : va_G} {A : Nat → Prop} {ck : Nat → ClassId} {ad : Nat → Nat} (C : CX p s m args meth c RX0 cX0_change 4 (some .int)) (hA : ∀ q, s.heap.size ≤ q → A q) (hK : va_K D vwCl (tyD ck) s) (hX : XT s) (g : NL) (x1 : Int32) (x2 : Int32) (x3 : Int32) (ls : Array Slot) (H : Heap) (locs : List Loc) (u : Int32 × NL) (hP : va_P D vwCl (wD ck ad g) H) (hD : va_D A (wD ck ad g)) (hS : va_S A s.heap H locs) (hl : lv_has ls 4 [(0, .ref (ad 0)), (1, .int x1), (2, .int x2), (3, .int x3)]) (h : jX0_change g x1 x2 x3 = some u) : W p l e (rmz 6 145) s m args below meth c H locs 0 0 (MQ below (HQ D A (wD ck ad u.2) (some (.int u.1))) args s 0 0 A) (F0 m 0 ls []) := by
  obtain ⟨hx, hb, hml, hown, hg, hr, hlocks⟩ := id C
  unfold jX0_change at h
  refine lv_iload_n hx hb dX0_change_0 rfl (lv_at hl 1 rfl) ?_
  obtain ⟨z_1, h⟩ := of_ite h
  refine pcallV C (c_rr l _ z_1) sc_rr tw_33 (by decide) rfl hl.1 (rest := []) rfl (Nat.le_of_ble_eq_true rfl) (by decide) dX0_change_1 ?_
  refine lv_iload_n hx hb dX0_change_4 rfl (lv_at hl 3 rfl) ?_
  obtain ⟨z_5, h⟩ := of_ite h
  refine pcallV C (c_rr l _ z_5) sc_rr tw_33 (by decide) rfl hl.1 (rest := []) rfl (Nat.le_of_ble_eq_true rfl) (by decide) dX0_change_5 ?_
  refine lv_iload_n hx hb dX0_change_8 rfl (lv_at hl 2 rfl) ?_
  obtain ⟨z_9, h⟩ := of_ite h
  refine pcallV C (c_rk l _ z_9) sc_rk tw_148 (by decide) rfl hl.1 (rest := []) rfl (Nat.le_of_ble_eq_true rfl) (by decide) dX0_change_9 ?_
  refine lv_aload_n hx hb dX0_change_12 rfl (lv_at hl 0 rfl) ?_
  refine lv_iload_n hx hb dX0_change_13 rfl (lv_at hl 1 rfl) ?_
  refine lv_iload_n hx hb dX0_change_14 rfl (lv_at hl 2 rfl) ?_
  refine lv_aload_n hx hb dX0_change_15 rfl (lv_at hl 0 rfl) ?_
  refine va_get hx hb hg inX0 hown hK hP 0 rfl rfl 0 (by decide) (hg _ tw_20) (fun _ h9 => h9) rfl dX0_change_16 ?_
  refine lv_iload_n hx hb dX0_change_19 rfl (lv_at hl 3 rfl) ?_
  obtain ⟨z_20, h⟩ := of_ite h
  refine va_lald hx hb hK hP 1 0 rfl rfl (ok_in z_20) dX0_change_20 ?_
  obtain ⟨r_1, g_1, h_r_1, h⟩ := of_b2 h
  refine callD C hK hX hP hD hS hA (cX0_changeRank_met l ck ad _ _ _ _ _ h_r_1) vc_X0_changeRank tw_221 (by decide) rfl hl.1 (rest := []) rfl (Nat.le_of_ble_eq_true rfl) (by decide) dX0_change_21 (fun H locs hP hD hS => ?_)
  have hP : va_P D vwCl (wD ck ad g_1) H := hP
  have hD : va_D A (wD ck ad g_1) := hD
  refine W.eq (g2 := F0 m 24 ls [.int r_1]) rfl ?_
  cases h
  exact W.iret hx hb hr (fun t ht _ => ⟨rfl, by rw [ht]; exact hP, hD, hS.F ht⟩) hS.2.2 dX0_change_24
theorem vc_X0_change : VC RX0 yX0_change cX0_change 4 (some .int) 3 := ⟨tw_218, tw_219, tw_1, tw_220, by decide +kernel⟩
theorem cX0_change_met (l : Launch) (ck : Nat → ClassId) (ad : Nat → Nat) (g : NL) (x1 : Int32) (x2 : Int32) (x3 : Int32) (u : Int32 × NL) (h : jX0_change g x1 x2 x3 = some u) : HM l yX0_change cX0_change 4 (some .int) (rmz 6 145) [.ref (ad 0), .int x1, .int x2, .int x3] (tyD ck) (wD ck ad g) (some (.int u.1)) (wD ck ad u.2) :=
  hm_of (own := RX0) (by decide +kernel) rfl (Nat.le_of_ble_eq_true rfl) (fun D A p e s m below meth c ls C hA hK hX hP hD hS hl => wX0_change_0 C hA hK hX g x1 x2 x3 ls _ _ u hP hD hS hl h)

/-! RealDesk.power(III)I -/
def jX0_power (g : NL) (x1 : Int32) (x2 : Int32) (x3 : Int32) : Option (Int32 × NL) := (if rok x1 = true then (if rok x2 = true then (if x3 < (-1024) then none else (if x3 ≤ 1024 then (if ok x2 16 = true then ((jX0_raise (g x2.toNatClampNeg) (jabs x3)).bind fun r_1 => (if 0 ≤ x3 then (b2 (jX0_keep g x1 r_1) fun r_2 g_2 => some (r_2, g_2)) else (if (jX0_isOver r_1) = 0 then (if r_1 = 0 then some ((-2), g) else ((jX0_quotient 4607182418800017408 r_1).bind fun r_3 => (b2 (jX0_keep g x1 r_3) fun r_4 g_4 => some (r_4, g_4)))) else (b2 (jX0_keep g x1 r_1) fun r_5 g_5 => some (r_5, g_5))))) else none) else none)) else none) else none)
set_option maxHeartbeats 4000000 in
set_option maxRecDepth 100000 in
theorem wX0_power_0 {p : Program} {l : Launch} {e : Env} {s : State} {m : MethodId} {args : Array Value} {below : List Frame} {meth : Method} {c : Code} {D : va_G} {A : Nat → Prop} {ck : Nat → ClassId} {ad : Nat → Nat} (C : CX p s m args meth c RX0 cX0_power 6 (some .int)) (hA : ∀ q, s.heap.size ≤ q → A q) (hK : va_K D vwCl (tyD ck) s) (hX : XT s) (g : NL) (x1 : Int32) (x2 : Int32) (x3 : Int32) (ls : Array Slot) (H : Heap) (locs : List Loc) (u : Int32 × NL) (hP : va_P D vwCl (wD ck ad g) H) (hD : va_D A (wD ck ad g)) (hS : va_S A s.heap H locs) (hl : lv_has ls 6 [(0, .ref (ad 0)), (1, .int x1), (2, .int x2), (3, .int x3)]) (h : jX0_power g x1 x2 x3 = some u) : W p l e (rmz 6 137) s m args below meth c H locs 0 0 (MQ below (HQ D A (wD ck ad u.2) (some (.int u.1))) args s 0 0 A) (F0 m 0 ls []) := by
  obtain ⟨hx, hb, hml, hown, hg, hr, hlocks⟩ := id C
  unfold jX0_power at h
  refine lv_iload_n hx hb dX0_power_0 rfl (lv_at hl 1 rfl) ?_
  obtain ⟨z_1, h⟩ := of_ite h
  refine pcallV C (c_rr l _ z_1) sc_rr tw_33 (by decide) rfl hl.1 (rest := []) rfl (Nat.le_of_ble_eq_true rfl) (by decide) dX0_power_1 ?_
  refine lv_iload_n hx hb dX0_power_4 rfl (lv_at hl 2 rfl) ?_
  obtain ⟨z_5, h⟩ := of_ite h
  refine pcallV C (c_rr l _ z_5) sc_rr tw_33 (by decide) rfl hl.1 (rest := []) rfl (Nat.le_of_ble_eq_true rfl) (by decide) dX0_power_5 ?_
  refine lv_iload_n hx hb dX0_power_8 rfl (lv_at hl 3 rfl) ?_
  refine lv_sipush (v := (-1024)) hx hb dX0_power_9 (by decide) ?_
  refine lv_icmp_lt (tgt := 22) hx hb dX0_power_12 (by decide) (fun c_1 => ?_) (fun c_1 => ?_)
  · rw [if_pos c_1] at h
    cases h
  · rw [if_neg c_1] at h
    refine lv_iload_n hx hb dX0_power_15 rfl (lv_at hl 3 rfl) ?_
    refine lv_sipush (v := 1024) hx hb dX0_power_16 (by decide) ?_
    refine lv_icmp_le (tgt := 32) hx hb dX0_power_19 (by decide) (fun c_2 => ?_) (fun c_2 => ?_)
    · rw [if_pos c_2] at h
      refine lv_aload_n hx hb dX0_power_32 rfl (lv_at hl 0 rfl) ?_
      refine va_get hx hb hg inX0 hown hK hP 0 rfl rfl 0 (by decide) (hg _ tw_20) (fun _ h9 => h9) rfl dX0_power_33 ?_
      refine lv_iload_n hx hb dX0_power_36 rfl (lv_at hl 2 rfl) ?_
      obtain ⟨z_37, h⟩ := of_ite h
      refine va_lald hx hb hK hP 1 0 rfl rfl (ok_in z_37) dX0_power_37 ?_
      refine lv_iload_n hx hb dX0_power_38 rfl (lv_at hl 3 rfl) ?_
      refine q_abs C tw_239 (by decide) (Nat.le_of_ble_eq_true rfl) (by decide) hl.1 dX0_power_39 ?_
      obtain ⟨r_1, h_r_1, h⟩ := of_bind h
      refine pcall C (cX0_raise_met l _ _ _ h_r_1) sc_X0_raise tw_242 (by decide) rfl hl.1 (rest := []) rfl (Nat.le_of_ble_eq_true rfl) (by decide) dX0_power_42 ?_
      refine lv_lstore (lv' := [(4, .long r_1), (0, .ref (ad 0)), (1, .int x1), (2, .int x2), (3, .int x3)]) hx hb dX0_power_45 hl (by decide) rfl (fun ls hl => ?_)
      refine lv_iload_n hx hb dX0_power_47 rfl (lv_at hl 4 rfl) ?_
      refine lv_if_ge (tgt := 59) hx hb dX0_power_48 (by decide) (fun c_3 => ?_) (fun c_3 => ?_)
      · rw [if_pos c_3] at h
        refine lv_aload_n hx hb dX0_power_59 rfl (lv_at hl 1 rfl) ?_
        refine lv_iload_n hx hb dX0_power_60 rfl (lv_at hl 2 rfl) ?_
        refine lv_lload hx hb dX0_power_61 (lv_at hl 0 rfl) ?_
        obtain ⟨r_2, g_2, h_r_2, h⟩ := of_b2 h
        refine callD C hK hX hP hD hS hA (cX0_keep_met l ck ad _ _ _ _ h_r_2) vc_X0_keep tw_133 (by decide) rfl hl.1 (rest := []) rfl (Nat.le_of_ble_eq_true rfl) (by decide) dX0_power_63 (fun H locs hP hD hS => ?_)
        have hP : va_P D vwCl (wD ck ad g_2) H := hP
        have hD : va_D A (wD ck ad g_2) := hD
        refine W.eq (g2 := F0 m 66 ls [.int r_2]) rfl ?_
        cases h
        exact W.iret hx hb hr (fun t ht _ => ⟨rfl, by rw [ht]; exact hP, hD, hS.F ht⟩) hS.2.2 dX0_power_66
      · rw [if_neg c_3] at h
        refine lv_lload hx hb dX0_power_51 (lv_at hl 0 rfl) ?_
        refine pcall C (cX0_isOver_met l _ _ rfl) sc_X0_isOver tw_137 (by decide) rfl hl.1 (rest := []) rfl (Nat.le_of_ble_eq_true rfl) (by decide) dX0_power_53 ?_
        refine lv_if_eq (tgt := 67) hx hb dX0_power_56 (by decide) (fun c_4 => ?_) (fun c_4 => ?_)
        · rw [if_pos c_4] at h
          refine lv_lload hx hb dX0_power_67 (lv_at hl 0 rfl) ?_
          refine lv_lconst (v := 0) hx hb dX0_power_69 (by decide) ?_
          refine lc_ne (tgt := 79) hx hb dX0_power_70 dX0_power_71 (by decide) (fun c_5 => ?_) (fun c_5 => ?_)
          · rw [if_neg c_5] at h
            refine lv_aload_n hx hb dX0_power_79 rfl (lv_at hl 1 rfl) ?_
            refine lv_iload_n hx hb dX0_power_80 rfl (lv_at hl 2 rfl) ?_
            refine lv_ldc2 hx hb hown (hg _ tw_245) dX0_power_81 ?_
            refine lv_lload hx hb dX0_power_84 (lv_at hl 0 rfl) ?_
            obtain ⟨r_3, h_r_3, h⟩ := of_bind h
            refine pcall C (cX0_quotient_met l _ _ _ h_r_3) sc_X0_quotient tw_193 (by decide) rfl hl.1 (rest := [.int x1, .ref (ad 0)]) rfl (Nat.le_of_ble_eq_true rfl) (by decide) dX0_power_86 ?_
            obtain ⟨r_4, g_4, h_r_4, h⟩ := of_b2 h
            refine callD C hK hX hP hD hS hA (cX0_keep_met l ck ad _ _ _ _ h_r_4) vc_X0_keep tw_133 (by decide) rfl hl.1 (rest := []) rfl (Nat.le_of_ble_eq_true rfl) (by decide) dX0_power_89 (fun H locs hP hD hS => ?_)
            have hP : va_P D vwCl (wD ck ad g_4) H := hP
            have hD : va_D A (wD ck ad g_4) := hD
            refine W.eq (g2 := F0 m 92 ls [.int r_4]) rfl ?_
            cases h
            exact W.iret hx hb hr (fun t ht _ => ⟨rfl, by rw [ht]; exact hP, hD, hS.F ht⟩) hS.2.2 dX0_power_92
          · rw [if_pos c_5] at h
            refine lv_bipush (v := (-2)) hx hb dX0_power_74 (by decide) ?_
            refine lv_goto (tgt := 92) hx hb dX0_power_76 (by decide) ?_
            cases h
            exact W.iret hx hb hr (fun t ht _ => ⟨rfl, by rw [ht]; exact hP, hD, hS.F ht⟩) hS.2.2 dX0_power_92
        · rw [if_neg c_4] at h
          refine lv_aload_n hx hb dX0_power_59 rfl (lv_at hl 1 rfl) ?_
          refine lv_iload_n hx hb dX0_power_60 rfl (lv_at hl 2 rfl) ?_
          refine lv_lload hx hb dX0_power_61 (lv_at hl 0 rfl) ?_
          obtain ⟨r_5, g_5, h_r_5, h⟩ := of_b2 h
          refine callD C hK hX hP hD hS hA (cX0_keep_met l ck ad _ _ _ _ h_r_5) vc_X0_keep tw_133 (by decide) rfl hl.1 (rest := []) rfl (Nat.le_of_ble_eq_true rfl) (by decide) dX0_power_63 (fun H locs hP hD hS => ?_)
          have hP : va_P D vwCl (wD ck ad g_5) H := hP
          have hD : va_D A (wD ck ad g_5) := hD
          refine W.eq (g2 := F0 m 66 ls [.int r_5]) rfl ?_
          cases h
          exact W.iret hx hb hr (fun t ht _ => ⟨rfl, by rw [ht]; exact hP, hD, hS.F ht⟩) hS.2.2 dX0_power_66
    · rw [if_neg c_2] at h
      cases h
theorem vc_X0_power : VC RX0 yX0_power cX0_power 6 (some .int) 3 := ⟨tw_235, tw_236, tw_1, tw_237, by decide +kernel⟩
theorem cX0_power_met (l : Launch) (ck : Nat → ClassId) (ad : Nat → Nat) (g : NL) (x1 : Int32) (x2 : Int32) (x3 : Int32) (u : Int32 × NL) (h : jX0_power g x1 x2 x3 = some u) : HM l yX0_power cX0_power 6 (some .int) (rmz 6 137) [.ref (ad 0), .int x1, .int x2, .int x3] (tyD ck) (wD ck ad g) (some (.int u.1)) (wD ck ad u.2) :=
  hm_of (own := RX0) (by decide +kernel) rfl (Nat.le_of_ble_eq_true rfl) (fun D A p e s m below meth c ls C hA hK hX hP hD hS hl => wX0_power_0 C hA hK hX g x1 x2 x3 ls _ _ u hP hD hS hl h)

/-! RealDesk.order(II)I -/
def jX0_order (g : NL) (x1 : Int32) (x2 : Int32) : Option (Int32 × NL) := (if rok x1 = true then (if rok x2 = true then (if ok x1 16 = true then (if ok x2 16 = true then (if (g x1.toNatClampNeg) = (g x2.toNatClampNeg) then some (0, g) else (if ok x1 16 = true then (if ok x2 16 = true then some ((if (g x2.toNatClampNeg) ≤ (g x1.toNatClampNeg) then 1 else (-1) : Int32), g) else none) else none)) else none) else none) else none) else none)
set_option maxHeartbeats 4000000 in
set_option maxRecDepth 100000 in
theorem wX0_order_0 {p : Program} {l : Launch} {e : Env} {s : State} {m : MethodId} {args : Array Value} {below : List Frame} {meth : Method} {c : Code} {D : va_G} {A : Nat → Prop} {ck : Nat → ClassId} {ad : Nat → Nat} (C : CX p s m args meth c RX0 cX0_order 3 (some .int)) (hA : ∀ q, s.heap.size ≤ q → A q) (hK : va_K D vwCl (tyD ck) s) (hX : XT s) (g : NL) (x1 : Int32) (x2 : Int32) (ls : Array Slot) (H : Heap) (locs : List Loc) (u : Int32 × NL) (hP : va_P D vwCl (wD ck ad g) H) (hD : va_D A (wD ck ad g)) (hS : va_S A s.heap H locs) (hl : lv_has ls 3 [(0, .ref (ad 0)), (1, .int x1), (2, .int x2)]) (h : jX0_order g x1 x2 = some u) : W p l e (rmz 1 20) s m args below meth c H locs 0 0 (MQ below (HQ D A (wD ck ad u.2) (some (.int u.1))) args s 0 0 A) (F0 m 0 ls []) := by
  obtain ⟨hx, hb, hml, hown, hg, hr, hlocks⟩ := id C
  unfold jX0_order at h
  refine lv_iload_n hx hb dX0_order_0 rfl (lv_at hl 1 rfl) ?_
  obtain ⟨z_1, h⟩ := of_ite h
  refine pcallV C (c_rr l _ z_1) sc_rr tw_33 (by decide) rfl hl.1 (rest := []) rfl (Nat.le_of_ble_eq_true rfl) (by decide) dX0_order_1 ?_
  refine lv_iload_n hx hb dX0_order_4 rfl (lv_at hl 2 rfl) ?_
  obtain ⟨z_5, h⟩ := of_ite h
  refine pcallV C (c_rr l _ z_5) sc_rr tw_33 (by decide) rfl hl.1 (rest := []) rfl (Nat.le_of_ble_eq_true rfl) (by decide) dX0_order_5 ?_
  refine lv_aload_n hx hb dX0_order_8 rfl (lv_at hl 0 rfl) ?_
  refine va_get hx hb hg inX0 hown hK hP 0 rfl rfl 0 (by decide) (hg _ tw_20) (fun _ h9 => h9) rfl dX0_order_9 ?_
  refine lv_iload_n hx hb dX0_order_12 rfl (lv_at hl 1 rfl) ?_
  obtain ⟨z_13, h⟩ := of_ite h
  refine va_lald hx hb hK hP 1 0 rfl rfl (ok_in z_13) dX0_order_13 ?_
  refine lv_aload_n hx hb dX0_order_14 rfl (lv_at hl 0 rfl) ?_
  refine va_get hx hb hg inX0 hown hK hP 0 rfl rfl 0 (by decide) (hg _ tw_20) (fun _ h9 => h9) rfl dX0_order_15 ?_
  refine lv_iload_n hx hb dX0_order_18 rfl (lv_at hl 2 rfl) ?_
  obtain ⟨z_19, h⟩ := of_ite h
  refine va_lald hx hb hK hP 1 0 rfl rfl (ok_in z_19) dX0_order_19 ?_
  refine lc_ne (tgt := 26) hx hb dX0_order_20 dX0_order_21 (by decide) (fun c_1 => ?_) (fun c_1 => ?_)
  · rw [if_neg c_1] at h
    refine lv_aload_n hx hb dX0_order_26 rfl (lv_at hl 0 rfl) ?_
    refine va_get hx hb hg inX0 hown hK hP 0 rfl rfl 0 (by decide) (hg _ tw_20) (fun _ h9 => h9) rfl dX0_order_27 ?_
    refine lv_iload_n hx hb dX0_order_30 rfl (lv_at hl 1 rfl) ?_
    obtain ⟨z_31, h⟩ := of_ite h
    refine va_lald hx hb hK hP 1 0 rfl rfl (ok_in z_31) dX0_order_31 ?_
    refine lv_aload_n hx hb dX0_order_32 rfl (lv_at hl 0 rfl) ?_
    refine va_get hx hb hg inX0 hown hK hP 0 rfl rfl 0 (by decide) (hg _ tw_20) (fun _ h9 => h9) rfl dX0_order_33 ?_
    refine lv_iload_n hx hb dX0_order_36 rfl (lv_at hl 2 rfl) ?_
    obtain ⟨z_37, h⟩ := of_ite h
    refine va_lald hx hb hK hP 1 0 rfl rfl (ok_in z_37) dX0_order_37 ?_
    refine rg_i (pj := 47) (v := (if (g x2.toNatClampNeg) ≤ (g x1.toNatClampNeg) then 1 else (-1) : Int32)) (ls := ls) (rest := []) (fun kJ => ?_) ?_
    · refine lc_ge (tgt := 46) hx hb dX0_order_38 dX0_order_39 (by decide) (fun c_2 => ?_) (fun c_2 => ?_)
      · refine lv_iconst (v := 1) hx hb dX0_order_46 (by decide) ?_
        exact kJ _ (by rw [if_pos c_2])
      · refine lv_iconst (v := (-1)) hx hb dX0_order_42 (by decide) ?_
        refine lv_goto (tgt := 47) hx hb dX0_order_43 (by decide) ?_
        exact kJ _ (by rw [if_neg c_2])
    cases h
    exact W.iret hx hb hr (fun t ht _ => ⟨rfl, by rw [ht]; exact hP, hD, hS.F ht⟩) hS.2.2 dX0_order_47
  · rw [if_pos c_1] at h
    refine lv_iconst (v := 0) hx hb dX0_order_24 (by decide) ?_
    cases h
    exact W.iret hx hb hr (fun t ht _ => ⟨rfl, by rw [ht]; exact hP, hD, hS.F ht⟩) hS.2.2 dX0_order_25
theorem vc_X0_order : VC RX0 yX0_order cX0_order 3 (some .int) 2 := ⟨tw_251, tw_252, tw_1, tw_253, by decide +kernel⟩
theorem cX0_order_met (l : Launch) (ck : Nat → ClassId) (ad : Nat → Nat) (g : NL) (x1 : Int32) (x2 : Int32) (u : Int32 × NL) (h : jX0_order g x1 x2 = some u) : HM l yX0_order cX0_order 3 (some .int) (rmz 1 20) [.ref (ad 0), .int x1, .int x2] (tyD ck) (wD ck ad g) (some (.int u.1)) (wD ck ad u.2) :=
  hm_of (own := RX0) (by decide +kernel) rfl (Nat.le_of_ble_eq_true rfl) (fun D A p e s m below meth c ls C hA hK hX hP hD hS hl => wX0_order_0 C hA hK hX g x1 x2 ls _ _ u hP hD hS hl h)

/-! RealDesk.digits(I)J -/
def jX0_digits (g : NL) (x1 : Int32) : Option (Int64 × NL) := (if rok x1 = true then (if ok x1 16 = true then (if ok x1 16 = true then some (jX0_withSignOf (jX0_mOf (g x1.toNatClampNeg)) (g x1.toNatClampNeg), g) else none) else none) else none)
set_option maxHeartbeats 4000000 in
set_option maxRecDepth 100000 in
theorem wX0_digits_0 {p : Program} {l : Launch} {e : Env} {s : State} {m : MethodId} {args : Array Value} {below : List Frame} {meth : Method} {c : Code} {D : va_G} {A : Nat → Prop} {ck : Nat → ClassId} {ad : Nat → Nat} (C : CX p s m args meth c RX0 cX0_digits 2 (some .long)) (hA : ∀ q, s.heap.size ≤ q → A q) (hK : va_K D vwCl (tyD ck) s) (hX : XT s) (g : NL) (x1 : Int32) (ls : Array Slot) (H : Heap) (locs : List Loc) (u : Int64 × NL) (hP : va_P D vwCl (wD ck ad g) H) (hD : va_D A (wD ck ad g)) (hS : va_S A s.heap H locs) (hl : lv_has ls 2 [(0, .ref (ad 0)), (1, .int x1)]) (h : jX0_digits g x1 = some u) : W p l e (rmz 2 45) s m args below meth c H locs 0 0 (MQ below (HQ D A (wD ck ad u.2) (some (.long u.1))) args s 0 0 A) (F0 m 0 ls []) := by
  obtain ⟨hx, hb, hml, hown, hg, hr, hlocks⟩ := id C
  unfold jX0_digits at h
  refine lv_iload_n hx hb dX0_digits_0 rfl (lv_at hl 1 rfl) ?_
  obtain ⟨z_1, h⟩ := of_ite h
  refine pcallV C (c_rr l _ z_1) sc_rr tw_33 (by decide) rfl hl.1 (rest := []) rfl (Nat.le_of_ble_eq_true rfl) (by decide) dX0_digits_1 ?_
  refine lv_aload_n hx hb dX0_digits_4 rfl (lv_at hl 0 rfl) ?_
  refine va_get hx hb hg inX0 hown hK hP 0 rfl rfl 0 (by decide) (hg _ tw_20) (fun _ h9 => h9) rfl dX0_digits_5 ?_
  refine lv_iload_n hx hb dX0_digits_8 rfl (lv_at hl 1 rfl) ?_
  obtain ⟨z_9, h⟩ := of_ite h
  refine va_lald hx hb hK hP 1 0 rfl rfl (ok_in z_9) dX0_digits_9 ?_
  refine pcall C (cX0_mOf_met l _ _ rfl) sc_X0_mOf tw_171 (by decide) rfl hl.1 (rest := []) rfl (Nat.le_of_ble_eq_true rfl) (by decide) dX0_digits_10 ?_
  refine lv_aload_n hx hb dX0_digits_13 rfl (lv_at hl 0 rfl) ?_
  refine va_get hx hb hg inX0 hown hK hP 0 rfl rfl 0 (by decide) (hg _ tw_20) (fun _ h9 => h9) rfl dX0_digits_14 ?_
  refine lv_iload_n hx hb dX0_digits_17 rfl (lv_at hl 1 rfl) ?_
  obtain ⟨z_18, h⟩ := of_ite h
  refine va_lald hx hb hK hP 1 0 rfl rfl (ok_in z_18) dX0_digits_18 ?_
  refine pcall C (cX0_withSignOf_met l _ _ _ rfl) sc_X0_withSignOf tw_130 (by decide) rfl hl.1 (rest := []) rfl (Nat.le_of_ble_eq_true rfl) (by decide) dX0_digits_19 ?_
  cases h
  exact W.lret hx hb hr (fun t ht _ => ⟨rfl, by rw [ht]; exact hP, hD, hS.F ht⟩) hS.2.2 dX0_digits_22
theorem vc_X0_digits : VC RX0 yX0_digits cX0_digits 2 (some .long) 1 := ⟨tw_258, tw_259, tw_1, tw_260, by decide +kernel⟩
theorem cX0_digits_met (l : Launch) (ck : Nat → ClassId) (ad : Nat → Nat) (g : NL) (x1 : Int32) (u : Int64 × NL) (h : jX0_digits g x1 = some u) : HM l yX0_digits cX0_digits 2 (some .long) (rmz 2 45) [.ref (ad 0), .int x1] (tyD ck) (wD ck ad g) (some (.long u.1)) (wD ck ad u.2) :=
  hm_of (own := RX0) (by decide +kernel) rfl (Nat.le_of_ble_eq_true rfl) (fun D A p e s m below meth c ls C hA hK hX hP hD hS hl => wX0_digits_0 C hA hK hX g x1 ls _ _ u hP hD hS hl h)

/-! RealDesk.exponent(I)I -/
def jX0_exponent (g : NL) (x1 : Int32) : Option (Int32 × NL) := (if rok x1 = true then (if ok x1 16 = true then some (jX0_eOf (g x1.toNatClampNeg), g) else none) else none)
set_option maxHeartbeats 4000000 in
set_option maxRecDepth 100000 in
theorem wX0_exponent_0 {p : Program} {l : Launch} {e : Env} {s : State} {m : MethodId} {args : Array Value} {below : List Frame} {meth : Method} {c : Code} {D : va_G} {A : Nat → Prop} {ck : Nat → ClassId} {ad : Nat → Nat} (C : CX p s m args meth c RX0 cX0_exponent 2 (some .int)) (hA : ∀ q, s.heap.size ≤ q → A q) (hK : va_K D vwCl (tyD ck) s) (hX : XT s) (g : NL) (x1 : Int32) (ls : Array Slot) (H : Heap) (locs : List Loc) (u : Int32 × NL) (hP : va_P D vwCl (wD ck ad g) H) (hD : va_D A (wD ck ad g)) (hS : va_S A s.heap H locs) (hl : lv_has ls 2 [(0, .ref (ad 0)), (1, .int x1)]) (h : jX0_exponent g x1 = some u) : W p l e (rmz 2 44) s m args below meth c H locs 0 0 (MQ below (HQ D A (wD ck ad u.2) (some (.int u.1))) args s 0 0 A) (F0 m 0 ls []) := by
  obtain ⟨hx, hb, hml, hown, hg, hr, hlocks⟩ := id C
  unfold jX0_exponent at h
  refine lv_iload_n hx hb dX0_exponent_0 rfl (lv_at hl 1 rfl) ?_
  obtain ⟨z_1, h⟩ := of_ite h
  refine pcallV C (c_rr l _ z_1) sc_rr tw_33 (by decide) rfl hl.1 (rest := []) rfl (Nat.le_of_ble_eq_true rfl) (by decide) dX0_exponent_1 ?_
  refine lv_aload_n hx hb dX0_exponent_4 rfl (lv_at hl 0 rfl) ?_
  refine va_get hx hb hg inX0 hown hK hP 0 rfl rfl 0 (by decide) (hg _ tw_20) (fun _ h9 => h9) rfl dX0_exponent_5 ?_
  refine lv_iload_n hx hb dX0_exponent_8 rfl (lv_at hl 1 rfl) ?_
  obtain ⟨z_9, h⟩ := of_ite h
  refine va_lald hx hb hK hP 1 0 rfl rfl (ok_in z_9) dX0_exponent_9 ?_
  refine pcall C (cX0_eOf_met l _ _ rfl) sc_X0_eOf tw_165 (by decide) rfl hl.1 (rest := []) rfl (Nat.le_of_ble_eq_true rfl) (by decide) dX0_exponent_10 ?_
  cases h
  exact W.iret hx hb hr (fun t ht _ => ⟨rfl, by rw [ht]; exact hP, hD, hS.F ht⟩) hS.2.2 dX0_exponent_13
theorem vc_X0_exponent : VC RX0 yX0_exponent cX0_exponent 2 (some .int) 1 := ⟨tw_265, tw_266, tw_1, tw_267, by decide +kernel⟩
theorem cX0_exponent_met (l : Launch) (ck : Nat → ClassId) (ad : Nat → Nat) (g : NL) (x1 : Int32) (u : Int32 × NL) (h : jX0_exponent g x1 = some u) : HM l yX0_exponent cX0_exponent 2 (some .int) (rmz 2 44) [.ref (ad 0), .int x1] (tyD ck) (wD ck ad g) (some (.int u.1)) (wD ck ad u.2) :=
  hm_of (own := RX0) (by decide +kernel) rfl (Nat.le_of_ble_eq_true rfl) (fun D A p e s m below meth c ls C hA hK hX hP hD hS hl => wX0_exponent_0 C hA hK hX g x1 ls _ _ u hP hD hS hl h)

/-! RealDesk.value(I)D -/
def jX0_value (g : NL) (x1 : Int32) : Option (UInt64 × NL) := (if rok x1 = true then (if ok x1 16 = true then (if ok x1 16 = true then (if ok x1 16 = true then ((jX0_powerOfTwo (jX0_eOf (g x1.toNatClampNeg))).bind fun r_1 => (if nn (FP.dmul (FP.l2d (jX0_withSignOf (jX0_mOf (g x1.toNatClampNeg)) (g x1.toNatClampNeg))) r_1) = true then some (FP.dmul (FP.l2d (jX0_withSignOf (jX0_mOf (g x1.toNatClampNeg)) (g x1.toNatClampNeg))) r_1, g) else none)) else none) else none) else none) else none)
set_option maxHeartbeats 4000000 in
set_option maxRecDepth 100000 in
theorem wX0_value_0 {p : Program} {l : Launch} {e : Env} {s : State} {m : MethodId} {args : Array Value} {below : List Frame} {meth : Method} {c : Code} {D : va_G} {A : Nat → Prop} {ck : Nat → ClassId} {ad : Nat → Nat} (C : CX p s m args meth c RX0 cX0_value 4 (some .double)) (hA : ∀ q, s.heap.size ≤ q → A q) (hK : va_K D vwCl (tyD ck) s) (hX : XT s) (g : NL) (x1 : Int32) (ls : Array Slot) (H : Heap) (locs : List Loc) (u : UInt64 × NL) (hP : va_P D vwCl (wD ck ad g) H) (hD : va_D A (wD ck ad g)) (hS : va_S A s.heap H locs) (hl : lv_has ls 4 [(0, .ref (ad 0)), (1, .int x1)]) (h : jX0_value g x1 = some u) : W p l e (rmz 2 46) s m args below meth c H locs 0 0 (MQ below (HQ D A (wD ck ad u.2) (some (.double u.1))) args s 0 0 A) (F0 m 0 ls []) := by
  obtain ⟨hx, hb, hml, hown, hg, hr, hlocks⟩ := id C
  unfold jX0_value at h
  refine lv_iload_n hx hb dX0_value_0 rfl (lv_at hl 1 rfl) ?_
  obtain ⟨z_1, h⟩ := of_ite h
  refine pcallV C (c_rr l _ z_1) sc_rr tw_33 (by decide) rfl hl.1 (rest := []) rfl (Nat.le_of_ble_eq_true rfl) (by decide) dX0_value_1 ?_
  refine lv_aload_n hx hb dX0_value_4 rfl (lv_at hl 0 rfl) ?_
  refine va_get hx hb hg inX0 hown hK hP 0 rfl rfl 0 (by decide) (hg _ tw_20) (fun _ h9 => h9) rfl dX0_value_5 ?_
  refine lv_iload_n hx hb dX0_value_8 rfl (lv_at hl 1 rfl) ?_
  obtain ⟨z_9, h⟩ := of_ite h
  refine va_lald hx hb hK hP 1 0 rfl rfl (ok_in z_9) dX0_value_9 ?_
  refine pcall C (cX0_mOf_met l _ _ rfl) sc_X0_mOf tw_171 (by decide) rfl hl.1 (rest := []) rfl (Nat.le_of_ble_eq_true rfl) (by decide) dX0_value_10 ?_
  refine lv_aload_n hx hb dX0_value_13 rfl (lv_at hl 0 rfl) ?_
  refine va_get hx hb hg inX0 hown hK hP 0 rfl rfl 0 (by decide) (hg _ tw_20) (fun _ h9 => h9) rfl dX0_value_14 ?_
  refine lv_iload_n hx hb dX0_value_17 rfl (lv_at hl 1 rfl) ?_
  obtain ⟨z_18, h⟩ := of_ite h
  refine va_lald hx hb hK hP 1 0 rfl rfl (ok_in z_18) dX0_value_18 ?_
  refine pcall C (cX0_withSignOf_met l _ _ _ rfl) sc_X0_withSignOf tw_130 (by decide) rfl hl.1 (rest := []) rfl (Nat.le_of_ble_eq_true rfl) (by decide) dX0_value_19 ?_
  refine lv_lstore_n (lv' := [(2, .long (jX0_withSignOf (jX0_mOf (g x1.toNatClampNeg)) (g x1.toNatClampNeg))), (0, .ref (ad 0)), (1, .int x1)]) hx hb dX0_value_22 rfl hl (by decide) rfl (fun ls hl => ?_)
  refine lv_lload_n hx hb dX0_value_23 rfl (lv_at hl 0 rfl) ?_
  refine lv_l2d hx hb dX0_value_24 ?_
  refine lv_aload_n hx hb dX0_value_25 rfl (lv_at hl 1 rfl) ?_
  refine va_get hx hb hg inX0 hown hK hP 0 rfl rfl 0 (by decide) (hg _ tw_20) (fun _ h9 => h9) rfl dX0_value_26 ?_
  refine lv_iload_n hx hb dX0_value_29 rfl (lv_at hl 2 rfl) ?_
  obtain ⟨z_30, h⟩ := of_ite h
  refine va_lald hx hb hK hP 1 0 rfl rfl (ok_in z_30) dX0_value_30 ?_
  refine pcall C (cX0_eOf_met l _ _ rfl) sc_X0_eOf tw_165 (by decide) rfl hl.1 (rest := [.double (FP.l2d (jX0_withSignOf (jX0_mOf (g x1.toNatClampNeg)) (g x1.toNatClampNeg)))]) rfl (Nat.le_of_ble_eq_true rfl) (by decide) dX0_value_31 ?_
  obtain ⟨r_1, h_r_1, h⟩ := of_bind h
  refine pcall C (cX0_powerOfTwo_met l _ _ h_r_1) sc_X0_powerOfTwo tw_275 (by decide) rfl hl.1 (rest := [.double (FP.l2d (jX0_withSignOf (jX0_mOf (g x1.toNatClampNeg)) (g x1.toNatClampNeg)))]) rfl (Nat.le_of_ble_eq_true rfl) (by decide) dX0_value_34 ?_
  obtain ⟨z_37, h⟩ := of_ite h
  refine lv_dmul hx hb dX0_value_37 (nn_of z_37) ?_
  cases h
  exact W.dret hx hb hr (fun t ht _ => ⟨rfl, by rw [ht]; exact hP, hD, hS.F ht⟩) hS.2.2 dX0_value_38
theorem vc_X0_value : VC RX0 yX0_value cX0_value 4 (some .double) 1 := ⟨tw_272, tw_273, tw_1, tw_274, by decide +kernel⟩
theorem cX0_value_met (l : Launch) (ck : Nat → ClassId) (ad : Nat → Nat) (g : NL) (x1 : Int32) (u : UInt64 × NL) (h : jX0_value g x1 = some u) : HM l yX0_value cX0_value 4 (some .double) (rmz 2 46) [.ref (ad 0), .int x1] (tyD ck) (wD ck ad g) (some (.double u.1)) (wD ck ad u.2) :=
  hm_of (own := RX0) (by decide +kernel) rfl (Nat.le_of_ble_eq_true rfl) (fun D A p e s m below meth c ls C hA hK hX hP hD hS hl => wX0_value_0 C hA hK hX g x1 ls _ _ u hP hD hS hl h)

/-! RealDesk.whole(I)J -/
def jX0_whole (g : NL) (x1 : Int32) : Option (Int64 × NL) := (if rok x1 = true then (if ok x1 16 = true then (if 4890909195324358656 ≤ (g x1.toNatClampNeg) then none else (if (-4890909195324358656) ≤ (g x1.toNatClampNeg) then (if (jX0_eOf (g x1.toNatClampNeg)) < 0 then (if (jX0_lowPlaces (jX0_mOf (g x1.toNatClampNeg)) (jmin (-(jX0_eOf (g x1.toNatClampNeg))) 62)) = 0 then some (jX0_withSignOf (su (jX0_mOf (g x1.toNatClampNeg)) (jmin (-(jX0_eOf (g x1.toNatClampNeg))) 62)) (g x1.toNatClampNeg), g) else none) else some (jX0_withSignOf (sl (jX0_mOf (g x1.toNatClampNeg)) (jX0_eOf (g x1.toNatClampNeg))) (g x1.toNatClampNeg), g)) else none)) else none) else none)
set_option maxHeartbeats 4000000 in
set_option maxRecDepth 100000 in
theorem wX0_whole_0 {p : Program} {l : Launch} {e : Env} {s : State} {m : MethodId} {args : Array Value} {below : List Frame} {meth : Method} {c : Code} {D : va_G} {A : Nat → Prop} {ck : Nat → ClassId} {ad : Nat → Nat} (C : CX p s m args meth c RX0 cX0_whole 8 (some .long)) (hA : ∀ q, s.heap.size ≤ q → A q) (hK : va_K D vwCl (tyD ck) s) (hX : XT s) (g : NL) (x1 : Int32) (ls : Array Slot) (H : Heap) (locs : List Loc) (u : Int64 × NL) (hP : va_P D vwCl (wD ck ad g) H) (hD : va_D A (wD ck ad g)) (hS : va_S A s.heap H locs) (hl : lv_has ls 8 [(0, .ref (ad 0)), (1, .int x1)]) (h : jX0_whole g x1 = some u) : W p l e (rmz 2 45) s m args below meth c H locs 0 0 (MQ below (HQ D A (wD ck ad u.2) (some (.long u.1))) args s 0 0 A) (F0 m 0 ls []) := by
  obtain ⟨hx, hb, hml, hown, hg, hr, hlocks⟩ := id C
  unfold jX0_whole at h
  refine lv_iload_n hx hb dX0_whole_0 rfl (lv_at hl 1 rfl) ?_
  obtain ⟨z_1, h⟩ := of_ite h
  refine pcallV C (c_rr l _ z_1) sc_rr tw_33 (by decide) rfl hl.1 (rest := []) rfl (Nat.le_of_ble_eq_true rfl) (by decide) dX0_whole_1 ?_
  refine lv_aload_n hx hb dX0_whole_4 rfl (lv_at hl 0 rfl) ?_
  refine va_get hx hb hg inX0 hown hK hP 0 rfl rfl 0 (by decide) (hg _ tw_20) (fun _ h9 => h9) rfl dX0_whole_5 ?_
  refine lv_iload_n hx hb dX0_whole_8 rfl (lv_at hl 1 rfl) ?_
  obtain ⟨z_9, h⟩ := of_ite h
  refine va_lald hx hb hK hP 1 0 rfl rfl (ok_in z_9) dX0_whole_9 ?_
  refine lv_lstore_n (lv' := [(2, .long (g x1.toNatClampNeg)), (0, .ref (ad 0)), (1, .int x1)]) hx hb dX0_whole_10 rfl hl (by decide) rfl (fun ls hl => ?_)
  refine lv_lload_n hx hb dX0_whole_11 rfl (lv_at hl 0 rfl) ?_
  refine lv_ldc2 hx hb hown (hg _ tw_288) dX0_whole_12 ?_
  refine lc_ge (tgt := 27) hx hb dX0_whole_15 dX0_whole_16 (by decide) (fun c_1 => ?_) (fun c_1 => ?_)
  · rw [if_pos c_1] at h
    cases h
  · rw [if_neg c_1] at h
    refine lv_lload_n hx hb dX0_whole_19 rfl (lv_at hl 0 rfl) ?_
    refine lv_ldc2 hx hb hown (hg _ tw_289) dX0_whole_20 ?_
    refine lc_ge (tgt := 37) hx hb dX0_whole_23 dX0_whole_24 (by decide) (fun c_2 => ?_) (fun c_2 => ?_)
    · rw [if_pos c_2] at h
      refine lv_lload_n hx hb dX0_whole_37 rfl (lv_at hl 0 rfl) ?_
      refine pcall C (cX0_mOf_met l _ _ rfl) sc_X0_mOf tw_171 (by decide) rfl hl.1 (rest := []) rfl (Nat.le_of_ble_eq_true rfl) (by decide) dX0_whole_38 ?_
      refine lv_lstore (lv' := [(4, .long (jX0_mOf (g x1.toNatClampNeg))), (2, .long (g x1.toNatClampNeg)), (0, .ref (ad 0)), (1, .int x1)]) hx hb dX0_whole_41 hl (by decide) rfl (fun ls hl => ?_)
      refine lv_lload_n hx hb dX0_whole_43 rfl (lv_at hl 1 rfl) ?_
      refine pcall C (cX0_eOf_met l _ _ rfl) sc_X0_eOf tw_165 (by decide) rfl hl.1 (rest := []) rfl (Nat.le_of_ble_eq_true rfl) (by decide) dX0_whole_44 ?_
      refine lv_istore (lv' := [(6, .int (jX0_eOf (g x1.toNatClampNeg))), (4, .long (jX0_mOf (g x1.toNatClampNeg))), (2, .long (g x1.toNatClampNeg)), (0, .ref (ad 0)), (1, .int x1)]) hx hb dX0_whole_47 hl (by decide) rfl (fun ls hl => ?_)
      refine lv_iload hx hb dX0_whole_49 (lv_at hl 0 rfl) ?_
      refine lv_if_lt (tgt := 64) hx hb dX0_whole_51 (by decide) (fun c_3 => ?_) (fun c_3 => ?_)
      · rw [if_pos c_3] at h
        refine lv_iload hx hb dX0_whole_64 (lv_at hl 0 rfl) ?_
        refine lv_ineg hx hb dX0_whole_66 ?_
        refine lv_bipush (v := 62) hx hb dX0_whole_67 (by decide) ?_
        refine q_min C tw_168 (by decide) (Nat.le_of_ble_eq_true rfl) (by decide) hl.1 dX0_whole_69 ?_
        refine lv_istore (lv' := [(7, .int (jmin (-(jX0_eOf (g x1.toNatClampNeg))) 62)), (6, .int (jX0_eOf (g x1.toNatClampNeg))), (4, .long (jX0_mOf (g x1.toNatClampNeg))), (2, .long (g x1.toNatClampNeg)), (0, .ref (ad 0)), (1, .int x1)]) hx hb dX0_whole_72 hl (by decide) rfl (fun ls hl => ?_)
        refine lv_lload hx hb dX0_whole_74 (lv_at hl 2 rfl) ?_
        refine lv_iload hx hb dX0_whole_76 (lv_at hl 0 rfl) ?_
        refine pcall C (cX0_lowPlaces_met l _ _ _ rfl) sc_X0_lowPlaces tw_127 (by decide) rfl hl.1 (rest := []) rfl (Nat.le_of_ble_eq_true rfl) (by decide) dX0_whole_78 ?_
        refine lv_lconst (v := 0) hx hb dX0_whole_81 (by decide) ?_
        refine lc_eq (tgt := 96) hx hb dX0_whole_82 dX0_whole_83 (by decide) (fun c_4 => ?_) (fun c_4 => ?_)
        · rw [if_pos c_4] at h
          refine lv_lload hx hb dX0_whole_96 (lv_at hl 2 rfl) ?_
          refine lv_iload hx hb dX0_whole_98 (lv_at hl 0 rfl) ?_
          refine lv_lushr (v := su (jX0_mOf (g x1.toNatClampNeg)) (jmin (-(jX0_eOf (g x1.toNatClampNeg))) 62)) hx hb dX0_whole_100 rfl ?_
          refine lv_lload_n hx hb dX0_whole_101 rfl (lv_at hl 3 rfl) ?_
          refine pcall C (cX0_withSignOf_met l _ _ _ rfl) sc_X0_withSignOf tw_130 (by decide) rfl hl.1 (rest := []) rfl (Nat.le_of_ble_eq_true rfl) (by decide) dX0_whole_102 ?_
          cases h
          exact W.lret hx hb hr (fun t ht _ => ⟨rfl, by rw [ht]; exact hP, hD, hS.F ht⟩) hS.2.2 dX0_whole_105
        · rw [if_neg c_4] at h
          cases h
      · rw [if_neg c_3] at h
        refine lv_lload hx hb dX0_whole_54 (lv_at hl 1 rfl) ?_
        refine lv_iload hx hb dX0_whole_56 (lv_at hl 0 rfl) ?_
        refine lv_lshl (v := sl (jX0_mOf (g x1.toNatClampNeg)) (jX0_eOf (g x1.toNatClampNeg))) hx hb dX0_whole_58 rfl ?_
        refine lv_lload_n hx hb dX0_whole_59 rfl (lv_at hl 2 rfl) ?_
        refine pcall C (cX0_withSignOf_met l _ _ _ rfl) sc_X0_withSignOf tw_130 (by decide) rfl hl.1 (rest := []) rfl (Nat.le_of_ble_eq_true rfl) (by decide) dX0_whole_60 ?_
        cases h
        exact W.lret hx hb hr (fun t ht _ => ⟨rfl, by rw [ht]; exact hP, hD, hS.F ht⟩) hS.2.2 dX0_whole_63
    · rw [if_neg c_2] at h
      cases h
theorem vc_X0_whole : VC RX0 yX0_whole cX0_whole 8 (some .long) 1 := ⟨tw_285, tw_286, tw_1, tw_287, by decide +kernel⟩
theorem cX0_whole_met (l : Launch) (ck : Nat → ClassId) (ad : Nat → Nat) (g : NL) (x1 : Int32) (u : Int64 × NL) (h : jX0_whole g x1 = some u) : HM l yX0_whole cX0_whole 8 (some .long) (rmz 2 45) [.ref (ad 0), .int x1] (tyD ck) (wD ck ad g) (some (.long u.1)) (wD ck ad u.2) :=
  hm_of (own := RX0) (by decide +kernel) rfl (Nat.le_of_ble_eq_true rfl) (fun D A p e s m below meth c ls C hA hK hX hP hD hS hl => wX0_whole_0 C hA hK hX g x1 ls _ _ u hP hD hS hl h)
