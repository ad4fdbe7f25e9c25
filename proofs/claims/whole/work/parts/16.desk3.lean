def exn (k : Nat) : String := if k = 1 then IAE else ISE
def XH (D : va_G) (tys : List (ClassId × FieldType)) (w : va_W) (sz : Nat) (sa : Nat → Nat) (U : State) : Prop := HP D tys w sz U ∧ XS sa U ∧ ZS A0 U U.heap

def tX0_set (g : NL) (x1 : Int32) (x2 : Int64) (x4 : Int32) : Option Nat := (if rok x1 = true then (if 9007199254740992 < x2 then some 1 else (if (-9007199254740992) ≤ x2 then (if x4 < (-1200) then some 1 else (if x4 ≤ 1100 then none else some 1)) else some 1)) else some 1)
set_option maxHeartbeats 4000000 in
set_option maxRecDepth 100000 in
theorem tX0_set_met (l : Launch) (hl0 : l.stackTraces = false) (sa : Nat → Nat) (D : va_G) (sz : Nat) (ck : Nat → ClassId) (ad : Nat → Nat) (g : NL) (x1 : Int32) (x2 : Int64) (x4 : Int32) (v : Nat) (h : tX0_set g x1 x2 x4 = some v) : XM l yX0_set cX0_set 5 (some .int) (rmx 7 110) [.ref (ad 0), .int x1, .long x2, .int x4] (exn v) (XH D (tyD ck) (wD ck ad g) sz sa) := by
  refine xm_of (own := RX0) (by decide +kernel) rfl (Nat.le_of_ble_eq_true rfl) (fun p e s m below meth c ls C hT hB0 hl => ?_)
  obtain ⟨hx, hb, hml, hown, hg, hr, hlocks⟩ := id C
  obtain ⟨⟨-, hP, hK, hD0, hX⟩, hS1, hZ1⟩ := hB0
  have hB : XB sa s := ⟨hX, hS1, hZ1⟩
  have hl : lv_has ls 5 [(0, .ref (ad 0)), (1, .int x1), (2, .long x2), (4, .int x4)] := hl
  unfold tX0_set at h
  refine lv_iload_n hx hb dX0_set_0 rfl (lv_at hl 1 rfl) ?_
  by_cases c_1 : ¬ rok x1 = true
  · rw [if_neg c_1] at h; cases h
    exact tcall C hT hB (t_rr l hl0 sa _ c_1) sc_rr tw_33 (by decide) rfl hl.1 (rest := []) rfl (Nat.le_of_ble_eq_true rfl) dX0_set_1
  have c_1 := Classical.not_not.mp c_1
  rw [if_pos c_1] at h
  refine pcallV C (c_rr l _ c_1) sc_rr tw_33 (by decide) rfl hl.1 (rest := []) rfl (Nat.le_of_ble_eq_true rfl) (by decide) dX0_set_1 ?_
  refine lv_lload_n hx hb dX0_set_4 rfl (lv_at hl 2 rfl) ?_
  refine lv_ldc2 hx hb hown (hg _ tw_103) dX0_set_5 ?_
  refine lc_gt (tgt := 20) hx hb dX0_set_8 dX0_set_9 (by decide) (fun c_2 => ?_) (fun c_2 => ?_)
  · rw [if_pos c_2] at h
    cases h
    exact th_I C hl0 hT hB hB.2.1.2.1 hl.1 dX0_set_20 dX0_set_23 dX0_set_24 dX0_set_26 dX0_set_29 (by decide) (Nat.le_of_ble_eq_true rfl)
  · rw [if_neg c_2] at h
    refine lv_lload_n hx hb dX0_set_12 rfl (lv_at hl 2 rfl) ?_
    refine lv_ldc2 hx hb hown (hg _ tw_104) dX0_set_13 ?_
    refine lc_ge (tgt := 30) hx hb dX0_set_16 dX0_set_17 (by decide) (fun c_3 => ?_) (fun c_3 => ?_)
    · rw [if_pos c_3] at h
      refine lv_iload hx hb dX0_set_30 (lv_at hl 3 rfl) ?_
      refine lv_sipush (v := (-1200)) hx hb dX0_set_32 (by decide) ?_
      refine lv_icmp_lt (tgt := 46) hx hb dX0_set_35 (by decide) (fun c_4 => ?_) (fun c_4 => ?_)
      · rw [if_pos c_4] at h
        cases h
        exact th_I C hl0 hT hB hB.2.1.2.2.1 hl.1 dX0_set_46 dX0_set_49 dX0_set_50 dX0_set_52 dX0_set_55 (by decide) (Nat.le_of_ble_eq_true rfl)
      · rw [if_neg c_4] at h
        refine lv_iload hx hb dX0_set_38 (lv_at hl 3 rfl) ?_
        refine lv_sipush (v := 1100) hx hb dX0_set_40 (by decide) ?_
        refine lv_icmp_le (tgt := 56) hx hb dX0_set_43 (by decide) (fun c_5 => ?_) (fun c_5 => ?_)
        · rw [if_pos c_5] at h
          refine lv_aload_n hx hb dX0_set_56 rfl (lv_at hl 0 rfl) ?_
          refine lv_iload_n hx hb dX0_set_57 rfl (lv_at hl 1 rfl) ?_
          refine lv_lload_n hx hb dX0_set_58 rfl (lv_at hl 2 rfl) ?_
          refine q_absl C tw_107 (by decide) (Nat.le_of_ble_eq_true rfl) (by decide) hl.1 dX0_set_59 ?_
          refine lv_iload hx hb dX0_set_62 (lv_at hl 3 rfl) ?_
          refine pcall C (cX0_nearest_met l _ _ _ rfl) sc_X0_nearest tw_110 (by decide) rfl hl.1 (rest := [.int x1, .ref (ad 0)]) rfl (Nat.le_of_ble_eq_true rfl) (by decide) dX0_set_64 ?_
          refine lv_lload_n hx hb dX0_set_67 rfl (lv_at hl 2 rfl) ?_
          refine pcall C (cX0_withSignOf_met l _ _ _ rfl) sc_X0_withSignOf tw_130 (by decide) rfl hl.1 (rest := [.int x1, .ref (ad 0)]) rfl (Nat.le_of_ble_eq_true rfl) (by decide) dX0_set_68 ?_
          cases h
        · rw [if_neg c_5] at h
          cases h
          exact th_I C hl0 hT hB hB.2.1.2.2.1 hl.1 dX0_set_46 dX0_set_49 dX0_set_50 dX0_set_52 dX0_set_55 (by decide) (Nat.le_of_ble_eq_true rfl)
    · rw [if_neg c_3] at h
      cases h
      exact th_I C hl0 hT hB hB.2.1.2.1 hl.1 dX0_set_20 dX0_set_23 dX0_set_24 dX0_set_26 dX0_set_29 (by decide) (Nat.le_of_ble_eq_true rfl)

def tX0_combine (g : NL) (x1 : Int32) (x2 : Int32) (x3 : Int32) (x4 : Int32) : Option Nat := (if rok x1 = true then (if rok x3 = true then (if rok x4 = true then (if kok x2 = true then (if ok x3 16 = true then (if ok x4 16 = true then none else none) else none) else some 1) else some 1) else some 1) else some 1)
set_option maxHeartbeats 4000000 in
set_option maxRecDepth 100000 in
theorem tX0_combine_met (l : Launch) (hl0 : l.stackTraces = false) (sa : Nat → Nat) (D : va_G) (sz : Nat) (ck : Nat → ClassId) (ad : Nat → Nat) (g : NL) (x1 : Int32) (x2 : Int32) (x3 : Int32) (x4 : Int32) (v : Nat) (h : tX0_combine g x1 x2 x3 x4 = some v) : XM l yX0_combine cX0_combine 5 (some .int) (rmx 7 110) [.ref (ad 0), .int x1, .int x2, .int x3, .int x4] (exn v) (XH D (tyD ck) (wD ck ad g) sz sa) := by
  refine xm_of (own := RX0) (by decide +kernel) rfl (Nat.le_of_ble_eq_true rfl) (fun p e s m below meth c ls C hT hB0 hl => ?_)
  obtain ⟨hx, hb, hml, hown, hg, hr, hlocks⟩ := id C
  obtain ⟨⟨-, hP, hK, hD0, hX⟩, hS1, hZ1⟩ := hB0
  have hB : XB sa s := ⟨hX, hS1, hZ1⟩
  have hl : lv_has ls 5 [(0, .ref (ad 0)), (1, .int x1), (2, .int x2), (3, .int x3), (4, .int x4)] := hl
  unfold tX0_combine at h
  refine lv_iload_n hx hb dX0_combine_0 rfl (lv_at hl 1 rfl) ?_
  by_cases c_1 : ¬ rok x1 = true
  · rw [if_neg c_1] at h; cases h
    exact tcall C hT hB (t_rr l hl0 sa _ c_1) sc_rr tw_33 (by decide) rfl hl.1 (rest := []) rfl (Nat.le_of_ble_eq_true rfl) dX0_combine_1
  have c_1 := Classical.not_not.mp c_1
  rw [if_pos c_1] at h
  refine pcallV C (c_rr l _ c_1) sc_rr tw_33 (by decide) rfl hl.1 (rest := []) rfl (Nat.le_of_ble_eq_true rfl) (by decide) dX0_combine_1 ?_
  refine lv_iload_n hx hb dX0_combine_4 rfl (lv_at hl 3 rfl) ?_
  by_cases c_2 : ¬ rok x3 = true
  · rw [if_neg c_2] at h; cases h
    exact tcall C hT hB (t_rr l hl0 sa _ c_2) sc_rr tw_33 (by decide) rfl hl.1 (rest := []) rfl (Nat.le_of_ble_eq_true rfl) dX0_combine_5
  have c_2 := Classical.not_not.mp c_2
  rw [if_pos c_2] at h
  refine pcallV C (c_rr l _ c_2) sc_rr tw_33 (by decide) rfl hl.1 (rest := []) rfl (Nat.le_of_ble_eq_true rfl) (by decide) dX0_combine_5 ?_
  refine lv_iload hx hb dX0_combine_8 (lv_at hl 4 rfl) ?_
  by_cases c_3 : ¬ rok x4 = true
  · rw [if_neg c_3] at h; cases h
    exact tcall C hT hB (t_rr l hl0 sa _ c_3) sc_rr tw_33 (by decide) rfl hl.1 (rest := []) rfl (Nat.le_of_ble_eq_true rfl) dX0_combine_10
  have c_3 := Classical.not_not.mp c_3
  rw [if_pos c_3] at h
  refine pcallV C (c_rr l _ c_3) sc_rr tw_33 (by decide) rfl hl.1 (rest := []) rfl (Nat.le_of_ble_eq_true rfl) (by decide) dX0_combine_10 ?_
  refine lv_iload_n hx hb dX0_combine_13 rfl (lv_at hl 2 rfl) ?_
  by_cases c_4 : ¬ kok x2 = true
  · rw [if_neg c_4] at h; cases h
    exact tcall C hT hB (t_rk l hl0 sa _ c_4) sc_rk tw_148 (by decide) rfl hl.1 (rest := []) rfl (Nat.le_of_ble_eq_true rfl) dX0_combine_14
  have c_4 := Classical.not_not.mp c_4
  rw [if_pos c_4] at h
  refine pcallV C (c_rk l _ c_4) sc_rk tw_148 (by decide) rfl hl.1 (rest := []) rfl (Nat.le_of_ble_eq_true rfl) (by decide) dX0_combine_14 ?_
  refine lv_aload_n hx hb dX0_combine_17 rfl (lv_at hl 0 rfl) ?_
  refine lv_iload_n hx hb dX0_combine_18 rfl (lv_at hl 1 rfl) ?_
  refine lv_iload_n hx hb dX0_combine_19 rfl (lv_at hl 2 rfl) ?_
  refine lv_aload_n hx hb dX0_combine_20 rfl (lv_at hl 0 rfl) ?_
  refine va_get hx hb hg inX0 hown hK hP 0 rfl rfl 0 (by decide) (hg _ tw_20) (fun _ h9 => h9) rfl dX0_combine_21 ?_
  refine lv_iload_n hx hb dX0_combine_24 rfl (lv_at hl 3 rfl) ?_
  obtain ⟨z_25, h⟩ := of_ite h
  refine va_lald hx hb hK hP 1 0 rfl rfl (ok_in z_25) dX0_combine_25 ?_
  refine lv_aload_n hx hb dX0_combine_26 rfl (lv_at hl 0 rfl) ?_
  refine va_get hx hb hg inX0 hown hK hP 0 rfl rfl 0 (by decide) (hg _ tw_20) (fun _ h9 => h9) rfl dX0_combine_27 ?_
  refine lv_iload hx hb dX0_combine_30 (lv_at hl 4 rfl) ?_
  obtain ⟨z_32, h⟩ := of_ite h
  refine va_lald hx hb hK hP 1 0 rfl rfl (ok_in z_32) dX0_combine_32 ?_
  cases h

def tX0_change (g : NL) (x1 : Int32) (x2 : Int32) (x3 : Int32) : Option Nat := (if rok x1 = true then (if rok x3 = true then (if kok x2 = true then (if ok x3 16 = true then none else none) else some 1) else some 1) else some 1)
set_option maxHeartbeats 4000000 in
set_option maxRecDepth 100000 in
theorem tX0_change_met (l : Launch) (hl0 : l.stackTraces = false) (sa : Nat → Nat) (D : va_G) (sz : Nat) (ck : Nat → ClassId) (ad : Nat → Nat) (g : NL) (x1 : Int32) (x2 : Int32) (x3 : Int32) (v : Nat) (h : tX0_change g x1 x2 x3 = some v) : XM l yX0_change cX0_change 4 (some .int) (rmx 7 110) [.ref (ad 0), .int x1, .int x2, .int x3] (exn v) (XH D (tyD ck) (wD ck ad g) sz sa) := by
  refine xm_of (own := RX0) (by decide +kernel) rfl (Nat.le_of_ble_eq_true rfl) (fun p e s m below meth c ls C hT hB0 hl => ?_)
  obtain ⟨hx, hb, hml, hown, hg, hr, hlocks⟩ := id C
  obtain ⟨⟨-, hP, hK, hD0, hX⟩, hS1, hZ1⟩ := hB0
  have hB : XB sa s := ⟨hX, hS1, hZ1⟩
  have hl : lv_has ls 4 [(0, .ref (ad 0)), (1, .int x1), (2, .int x2), (3, .int x3)] := hl
  unfold tX0_change at h
  refine lv_iload_n hx hb dX0_change_0 rfl (lv_at hl 1 rfl) ?_
  by_cases c_1 : ¬ rok x1 = true
  · rw [if_neg c_1] at h; cases h
    exact tcall C hT hB (t_rr l hl0 sa _ c_1) sc_rr tw_33 (by decide) rfl hl.1 (rest := []) rfl (Nat.le_of_ble_eq_true rfl) dX0_change_1
  have c_1 := Classical.not_not.mp c_1
  rw [if_pos c_1] at h
  refine pcallV C (c_rr l _ c_1) sc_rr tw_33 (by decide) rfl hl.1 (rest := []) rfl (Nat.le_of_ble_eq_true rfl) (by decide) dX0_change_1 ?_
  refine lv_iload_n hx hb dX0_change_4 rfl (lv_at hl 3 rfl) ?_
  by_cases c_2 : ¬ rok x3 = true
  · rw [if_neg c_2] at h; cases h
    exact tcall C hT hB (t_rr l hl0 sa _ c_2) sc_rr tw_33 (by decide) rfl hl.1 (rest := []) rfl (Nat.le_of_ble_eq_true rfl) dX0_change_5
  have c_2 := Classical.not_not.mp c_2
  rw [if_pos c_2] at h
  refine pcallV C (c_rr l _ c_2) sc_rr tw_33 (by decide) rfl hl.1 (rest := []) rfl (Nat.le_of_ble_eq_true rfl) (by decide) dX0_change_5 ?_
  refine lv_iload_n hx hb dX0_change_8 rfl (lv_at hl 2 rfl) ?_
  by_cases c_3 : ¬ kok x2 = true
  · rw [if_neg c_3] at h; cases h
    exact tcall C hT hB (t_rk l hl0 sa _ c_3) sc_rk tw_148 (by decide) rfl hl.1 (rest := []) rfl (Nat.le_of_ble_eq_true rfl) dX0_change_9
  have c_3 := Classical.not_not.mp c_3
  rw [if_pos c_3] at h
  refine pcallV C (c_rk l _ c_3) sc_rk tw_148 (by decide) rfl hl.1 (rest := []) rfl (Nat.le_of_ble_eq_true rfl) (by decide) dX0_change_9 ?_
  refine lv_aload_n hx hb dX0_change_12 rfl (lv_at hl 0 rfl) ?_
  refine lv_iload_n hx hb dX0_change_13 rfl (lv_at hl 1 rfl) ?_
  refine lv_iload_n hx hb dX0_change_14 rfl (lv_at hl 2 rfl) ?_
  refine lv_aload_n hx hb dX0_change_15 rfl (lv_at hl 0 rfl) ?_
  refine va_get hx hb hg inX0 hown hK hP 0 rfl rfl 0 (by decide) (hg _ tw_20) (fun _ h9 => h9) rfl dX0_change_16 ?_
  refine lv_iload_n hx hb dX0_change_19 rfl (lv_at hl 3 rfl) ?_
  obtain ⟨z_20, h⟩ := of_ite h
  refine va_lald hx hb hK hP 1 0 rfl rfl (ok_in z_20) dX0_change_20 ?_
  cases h

def tX0_power (g : NL) (x1 : Int32) (x2 : Int32) (x3 : Int32) : Option Nat := (if rok x1 = true then (if rok x2 = true then (if x3 < (-1024) then some 1 else (if x3 ≤ 1024 then (if ok x2 16 = true then none else none) else some 1)) else some 1) else some 1)
set_option maxHeartbeats 4000000 in
set_option maxRecDepth 100000 in
theorem tX0_power_met (l : Launch) (hl0 : l.stackTraces = false) (sa : Nat → Nat) (D : va_G) (sz : Nat) (ck : Nat → ClassId) (ad : Nat → Nat) (g : NL) (x1 : Int32) (x2 : Int32) (x3 : Int32) (v : Nat) (h : tX0_power g x1 x2 x3 = some v) : XM l yX0_power cX0_power 6 (some .int) (rmx 7 110) [.ref (ad 0), .int x1, .int x2, .int x3] (exn v) (XH D (tyD ck) (wD ck ad g) sz sa) := by
  refine xm_of (own := RX0) (by decide +kernel) rfl (Nat.le_of_ble_eq_true rfl) (fun p e s m below meth c ls C hT hB0 hl => ?_)
  obtain ⟨hx, hb, hml, hown, hg, hr, hlocks⟩ := id C
  obtain ⟨⟨-, hP, hK, hD0, hX⟩, hS1, hZ1⟩ := hB0
  have hB : XB sa s := ⟨hX, hS1, hZ1⟩
  have hl : lv_has ls 6 [(0, .ref (ad 0)), (1, .int x1), (2, .int x2), (3, .int x3)] := hl
  unfold tX0_power at h
  refine lv_iload_n hx hb dX0_power_0 rfl (lv_at hl 1 rfl) ?_
  by_cases c_1 : ¬ rok x1 = true
  · rw [if_neg c_1] at h; cases h
    exact tcall C hT hB (t_rr l hl0 sa _ c_1) sc_rr tw_33 (by decide) rfl hl.1 (rest := []) rfl (Nat.le_of_ble_eq_true rfl) dX0_power_1
  have c_1 := Classical.not_not.mp c_1
  rw [if_pos c_1] at h
  refine pcallV C (c_rr l _ c_1) sc_rr tw_33 (by decide) rfl hl.1 (rest := []) rfl (Nat.le_of_ble_eq_true rfl) (by decide) dX0_power_1 ?_
  refine lv_iload_n hx hb dX0_power_4 rfl (lv_at hl 2 rfl) ?_
  by_cases c_2 : ¬ rok x2 = true
  · rw [if_neg c_2] at h; cases h
    exact tcall C hT hB (t_rr l hl0 sa _ c_2) sc_rr tw_33 (by decide) rfl hl.1 (rest := []) rfl (Nat.le_of_ble_eq_true rfl) dX0_power_5
  have c_2 := Classical.not_not.mp c_2
  rw [if_pos c_2] at h
  refine pcallV C (c_rr l _ c_2) sc_rr tw_33 (by decide) rfl hl.1 (rest := []) rfl (Nat.le_of_ble_eq_true rfl) (by decide) dX0_power_5 ?_
  refine lv_iload_n hx hb dX0_power_8 rfl (lv_at hl 3 rfl) ?_
  refine lv_sipush (v := (-1024)) hx hb dX0_power_9 (by decide) ?_
  refine lv_icmp_lt (tgt := 22) hx hb dX0_power_12 (by decide) (fun c_3 => ?_) (fun c_3 => ?_)
  · rw [if_pos c_3] at h
    cases h
    exact th_I C hl0 hT hB hB.2.1.2.2.2.2.1 hl.1 dX0_power_22 dX0_power_25 dX0_power_26 dX0_power_28 dX0_power_31 (by decide) (Nat.le_of_ble_eq_true rfl)
  · rw [if_neg c_3] at h
    refine lv_iload_n hx hb dX0_power_15 rfl (lv_at hl 3 rfl) ?_
    refine lv_sipush (v := 1024) hx hb dX0_power_16 (by decide) ?_
    refine lv_icmp_le (tgt := 32) hx hb dX0_power_19 (by decide) (fun c_4 => ?_) (fun c_4 => ?_)
    · rw [if_pos c_4] at h
      refine lv_aload_n hx hb dX0_power_32 rfl (lv_at hl 0 rfl) ?_
      refine va_get hx hb hg inX0 hown hK hP 0 rfl rfl 0 (by decide) (hg _ tw_20) (fun _ h9 => h9) rfl dX0_power_33 ?_
      refine lv_iload_n hx hb dX0_power_36 rfl (lv_at hl 2 rfl) ?_
      obtain ⟨z_37, h⟩ := of_ite h
      refine va_lald hx hb hK hP 1 0 rfl rfl (ok_in z_37) dX0_power_37 ?_
      refine lv_iload_n hx hb dX0_power_38 rfl (lv_at hl 3 rfl) ?_
      refine q_abs C tw_239 (by decide) (Nat.le_of_ble_eq_true rfl) (by decide) hl.1 dX0_power_39 ?_
      cases h
    · rw [if_neg c_4] at h
      cases h
      exact th_I C hl0 hT hB hB.2.1.2.2.2.2.1 hl.1 dX0_power_22 dX0_power_25 dX0_power_26 dX0_power_28 dX0_power_31 (by decide) (Nat.le_of_ble_eq_true rfl)

def tX0_order (g : NL) (x1 : Int32) (x2 : Int32) : Option Nat := (if rok x1 = true then (if rok x2 = true then (if ok x1 16 = true then (if ok x2 16 = true then (if (g x1.toNatClampNeg) = (g x2.toNatClampNeg) then none else (if ok x1 16 = true then (if ok x2 16 = true then none else none) else none)) else none) else none) else some 1) else some 1)
set_option maxHeartbeats 4000000 in
set_option maxRecDepth 100000 in
theorem tX0_order_met (l : Launch) (hl0 : l.stackTraces = false) (sa : Nat → Nat) (D : va_G) (sz : Nat) (ck : Nat → ClassId) (ad : Nat → Nat) (g : NL) (x1 : Int32) (x2 : Int32) (v : Nat) (h : tX0_order g x1 x2 = some v) : XM l yX0_order cX0_order 3 (some .int) (rmx 7 110) [.ref (ad 0), .int x1, .int x2] (exn v) (XH D (tyD ck) (wD ck ad g) sz sa) := by
  refine xm_of (own := RX0) (by decide +kernel) rfl (Nat.le_of_ble_eq_true rfl) (fun p e s m below meth c ls C hT hB0 hl => ?_)
  obtain ⟨hx, hb, hml, hown, hg, hr, hlocks⟩ := id C
  obtain ⟨⟨-, hP, hK, hD0, hX⟩, hS1, hZ1⟩ := hB0
  have hB : XB sa s := ⟨hX, hS1, hZ1⟩
  have hl : lv_has ls 3 [(0, .ref (ad 0)), (1, .int x1), (2, .int x2)] := hl
  unfold tX0_order at h
  refine lv_iload_n hx hb dX0_order_0 rfl (lv_at hl 1 rfl) ?_
  by_cases c_1 : ¬ rok x1 = true
  · rw [if_neg c_1] at h; cases h
    exact tcall C hT hB (t_rr l hl0 sa _ c_1) sc_rr tw_33 (by decide) rfl hl.1 (rest := []) rfl (Nat.le_of_ble_eq_true rfl) dX0_order_1
  have c_1 := Classical.not_not.mp c_1
  rw [if_pos c_1] at h
  refine pcallV C (c_rr l _ c_1) sc_rr tw_33 (by decide) rfl hl.1 (rest := []) rfl (Nat.le_of_ble_eq_true rfl) (by decide) dX0_order_1 ?_
  refine lv_iload_n hx hb dX0_order_4 rfl (lv_at hl 2 rfl) ?_
  by_cases c_2 : ¬ rok x2 = true
  · rw [if_neg c_2] at h; cases h
    exact tcall C hT hB (t_rr l hl0 sa _ c_2) sc_rr tw_33 (by decide) rfl hl.1 (rest := []) rfl (Nat.le_of_ble_eq_true rfl) dX0_order_5
  have c_2 := Classical.not_not.mp c_2
  rw [if_pos c_2] at h
  refine pcallV C (c_rr l _ c_2) sc_rr tw_33 (by decide) rfl hl.1 (rest := []) rfl (Nat.le_of_ble_eq_true rfl) (by decide) dX0_order_5 ?_
  refine lv_aload_n hx hb dX0_order_8 rfl (lv_at hl 0 rfl) ?_
  refine va_get hx hb hg inX0 hown hK hP 0 rfl rfl 0 (by decide) (hg _ tw_20) (fun _ h9 => h9) rfl dX0_order_9 ?_
  refine lv_iload_n hx hb dX0_order_12 rfl (lv_at hl 1 rfl) ?_
  obtain ⟨z_13, h⟩ := of_ite h
  refine va_lald hx hb hK hP 1 0 rfl rfl (ok_in z_13) dX0_order_13 ?_
  refine lv_aload_n hx hb dX0_order_14 rfl (lv_at hl 0 rfl) ?_
  refine va_get hx hb hg inX0 hown hK hP 0 rfl rfl 0 (by decide) (hg _ tw_20) (fun _ h9 => h9) rfl dX0_order_15 ?_
  refine lv_iload_n hx hb dX0_order_18 rfl (lv_at hl 2 rfl) ?_
  obtain ⟨z_19, h⟩ := of_ite h
  refine va_lald hx hb hK hP 1 0 rfl rfl (ok_in z_19) dX0_order_19 ?_
  refine lc_ne (tgt := 26) hx hb dX0_order_20 dX0_order_21 (by decide) (fun c_3 => ?_) (fun c_3 => ?_)
  · rw [if_neg c_3] at h
    refine lv_aload_n hx hb dX0_order_26 rfl (lv_at hl 0 rfl) ?_
    refine va_get hx hb hg inX0 hown hK hP 0 rfl rfl 0 (by decide) (hg _ tw_20) (fun _ h9 => h9) rfl dX0_order_27 ?_
    refine lv_iload_n hx hb dX0_order_30 rfl (lv_at hl 1 rfl) ?_
    obtain ⟨z_31, h⟩ := of_ite h
    refine va_lald hx hb hK hP 1 0 rfl rfl (ok_in z_31) dX0_order_31 ?_
    refine lv_aload_n hx hb dX0_order_32 rfl (lv_at hl 0 rfl) ?_
    refine va_get hx hb hg inX0 hown hK hP 0 rfl rfl 0 (by decide) (hg _ tw_20) (fun _ h9 => h9) rfl dX0_order_33 ?_
    refine lv_iload_n hx hb dX0_order_36 rfl (lv_at hl 2 rfl) ?_
    obtain ⟨z_37, h⟩ := of_ite h
    refine va_lald hx hb hK hP 1 0 rfl rfl (ok_in z_37) dX0_order_37 ?_
    refine rg_i (pj := 47) (v := (if (g x2.toNatClampNeg) ≤ (g x1.toNatClampNeg) then 1 else (-1) : Int32)) (ls := ls) (rest := []) (fun kJ => ?_) ?_
    · refine lc_ge (tgt := 46) hx hb dX0_order_38 dX0_order_39 (by decide) (fun c_4 => ?_) (fun c_4 => ?_)
      · refine lv_iconst (v := 1) hx hb dX0_order_46 (by decide) ?_
        exact kJ _ (by rw [if_pos c_4])
      · refine lv_iconst (v := (-1)) hx hb dX0_order_42 (by decide) ?_
        refine lv_goto (tgt := 47) hx hb dX0_order_43 (by decide) ?_
        exact kJ _ (by rw [if_neg c_4])
    cases h
  · rw [if_pos c_3] at h
    refine lv_iconst (v := 0) hx hb dX0_order_24 (by decide) ?_
    cases h

def tX0_digits (g : NL) (x1 : Int32) : Option Nat := (if rok x1 = true then (if ok x1 16 = true then (if ok x1 16 = true then none else none) else none) else some 1)
set_option maxHeartbeats 4000000 in
set_option maxRecDepth 100000 in
theorem tX0_digits_met (l : Launch) (hl0 : l.stackTraces = false) (sa : Nat → Nat) (D : va_G) (sz : Nat) (ck : Nat → ClassId) (ad : Nat → Nat) (g : NL) (x1 : Int32) (v : Nat) (h : tX0_digits g x1 = some v) : XM l yX0_digits cX0_digits 2 (some .long) (rmx 7 110) [.ref (ad 0), .int x1] (exn v) (XH D (tyD ck) (wD ck ad g) sz sa) := by
  refine xm_of (own := RX0) (by decide +kernel) rfl (Nat.le_of_ble_eq_true rfl) (fun p e s m below meth c ls C hT hB0 hl => ?_)
  obtain ⟨hx, hb, hml, hown, hg, hr, hlocks⟩ := id C
  obtain ⟨⟨-, hP, hK, hD0, hX⟩, hS1, hZ1⟩ := hB0
  have hB : XB sa s := ⟨hX, hS1, hZ1⟩
  have hl : lv_has ls 2 [(0, .ref (ad 0)), (1, .int x1)] := hl
  unfold tX0_digits at h
  refine lv_iload_n hx hb dX0_digits_0 rfl (lv_at hl 1 rfl) ?_
  by_cases c_1 : ¬ rok x1 = true
  · rw [if_neg c_1] at h; cases h
    exact tcall C hT hB (t_rr l hl0 sa _ c_1) sc_rr tw_33 (by decide) rfl hl.1 (rest := []) rfl (Nat.le_of_ble_eq_true rfl) dX0_digits_1
  have c_1 := Classical.not_not.mp c_1
  rw [if_pos c_1] at h
  refine pcallV C (c_rr l _ c_1) sc_rr tw_33 (by decide) rfl hl.1 (rest := []) rfl (Nat.le_of_ble_eq_true rfl) (by decide) dX0_digits_1 ?_
  refine lv_aload_n hx hb dX0_digits_4 rfl (lv_at hl 0 rfl) ?_
  refine va_get hx hb hg inX0 hown hK hP 0 rfl rfl 0 (by decide) (hg _ tw_20) (fun _ h9 => h9) rfl dX0_digits_5 ?_
  refine lv_iload_n hx hb dX0_digits_8 rfl (lv_at hl 1 rfl) ?_
  obtain ⟨z_9, h⟩ := of_ite h
  refine va_lald hx hb hK hP 1 0 rfl rfl (ok_in z_9) dX0_digits_9 ?_
  refine pcall C (cX0_mOf_met l _ _ rfl) sc_X0_mOf tw_171 (by decide) rfl hl.1 (rest := []) rfl (Nat.le_of_ble_eq_true rfl) (by decide) dX0_digits_10 ?_
  refine lv_aload_n hx hb dX0_digits_13 rfl (lv_at hl 0 rfl) ?_
  refine va_get hx hb hg inX0 hown hK hP 0 rfl rfl 0 (by decide) (hg _ tw_20) (fun _ h9 => h9) rfl dX0_digits_14 ?_
  refine lv_iload_n hx hb dX0_digits_17 rfl (lv_at hl 1 rfl) ?_
  obtain ⟨z_18, h⟩ := of_ite h
  refine va_lald hx hb hK hP 1 0 rfl rfl (ok_in z_18) dX0_digits_18 ?_
  refine pcall C (cX0_withSignOf_met l _ _ _ rfl) sc_X0_withSignOf tw_130 (by decide) rfl hl.1 (rest := []) rfl (Nat.le_of_ble_eq_true rfl) (by decide) dX0_digits_19 ?_
  cases h

def tX0_exponent (g : NL) (x1 : Int32) : Option Nat := (if rok x1 = true then (if ok x1 16 = true then none else none) else some 1)
set_option maxHeartbeats 4000000 in
set_option maxRecDepth 100000 in
theorem tX0_exponent_met (l : Launch) (hl0 : l.stackTraces = false) (sa : Nat → Nat) (D : va_G) (sz : Nat) (ck : Nat → ClassId) (ad : Nat → Nat) (g : NL) (x1 : Int32) (v : Nat) (h : tX0_exponent g x1 = some v) : XM l yX0_exponent cX0_exponent 2 (some .int) (rmx 7 110) [.ref (ad 0), .int x1] (exn v) (XH D (tyD ck) (wD ck ad g) sz sa) := by
  refine xm_of (own := RX0) (by decide +kernel) rfl (Nat.le_of_ble_eq_true rfl) (fun p e s m below meth c ls C hT hB0 hl => ?_)
  obtain ⟨hx, hb, hml, hown, hg, hr, hlocks⟩ := id C
  obtain ⟨⟨-, hP, hK, hD0, hX⟩, hS1, hZ1⟩ := hB0
  have hB : XB sa s := ⟨hX, hS1, hZ1⟩
  have hl : lv_has ls 2 [(0, .ref (ad 0)), (1, .int x1)] := hl
  unfold tX0_exponent at h
  refine lv_iload_n hx hb dX0_exponent_0 rfl (lv_at hl 1 rfl) ?_
  by_cases c_1 : ¬ rok x1 = true
  · rw [if_neg c_1] at h; cases h
    exact tcall C hT hB (t_rr l hl0 sa _ c_1) sc_rr tw_33 (by decide) rfl hl.1 (rest := []) rfl (Nat.le_of_ble_eq_true rfl) dX0_exponent_1
  have c_1 := Classical.not_not.mp c_1
  rw [if_pos c_1] at h
  refine pcallV C (c_rr l _ c_1) sc_rr tw_33 (by decide) rfl hl.1 (rest := []) rfl (Nat.le_of_ble_eq_true rfl) (by decide) dX0_exponent_1 ?_
  refine lv_aload_n hx hb dX0_exponent_4 rfl (lv_at hl 0 rfl) ?_
  refine va_get hx hb hg inX0 hown hK hP 0 rfl rfl 0 (by decide) (hg _ tw_20) (fun _ h9 => h9) rfl dX0_exponent_5 ?_
  refine lv_iload_n hx hb dX0_exponent_8 rfl (lv_at hl 1 rfl) ?_
  obtain ⟨z_9, h⟩ := of_ite h
  refine va_lald hx hb hK hP 1 0 rfl rfl (ok_in z_9) dX0_exponent_9 ?_
  refine pcall C (cX0_eOf_met l _ _ rfl) sc_X0_eOf tw_165 (by decide) rfl hl.1 (rest := []) rfl (Nat.le_of_ble_eq_true rfl) (by decide) dX0_exponent_10 ?_
  cases h

def tX0_value (g : NL) (x1 : Int32) : Option Nat := (if rok x1 = true then (if ok x1 16 = true then (if ok x1 16 = true then (if ok x1 16 = true then none else none) else none) else none) else some 1)
set_option maxHeartbeats 4000000 in
set_option maxRecDepth 100000 in
theorem tX0_value_met (l : Launch) (hl0 : l.stackTraces = false) (sa : Nat → Nat) (D : va_G) (sz : Nat) (ck : Nat → ClassId) (ad : Nat → Nat) (g : NL) (x1 : Int32) (v : Nat) (h : tX0_value g x1 = some v) : XM l yX0_value cX0_value 4 (some .double) (rmx 7 110) [.ref (ad 0), .int x1] (exn v) (XH D (tyD ck) (wD ck ad g) sz sa) := by
  refine xm_of (own := RX0) (by decide +kernel) rfl (Nat.le_of_ble_eq_true rfl) (fun p e s m below meth c ls C hT hB0 hl => ?_)
  obtain ⟨hx, hb, hml, hown, hg, hr, hlocks⟩ := id C
  obtain ⟨⟨-, hP, hK, hD0, hX⟩, hS1, hZ1⟩ := hB0
  have hB : XB sa s := ⟨hX, hS1, hZ1⟩
  have hl : lv_has ls 4 [(0, .ref (ad 0)), (1, .int x1)] := hl
  unfold tX0_value at h
  refine lv_iload_n hx hb dX0_value_0 rfl (lv_at hl 1 rfl) ?_
  by_cases c_1 : ¬ rok x1 = true
  · rw [if_neg c_1] at h; cases h
    exact tcall C hT hB (t_rr l hl0 sa _ c_1) sc_rr tw_33 (by decide) rfl hl.1 (rest := []) rfl (Nat.le_of_ble_eq_true rfl) dX0_value_1
  have c_1 := Classical.not_not.mp c_1
  rw [if_pos c_1] at h
  refine pcallV C (c_rr l _ c_1) sc_rr tw_33 (by decide) rfl hl.1 (rest := []) rfl (Nat.le_of_ble_eq_true rfl) (by decide) dX0_value_1 ?_
  refine lv_aload_n hx hb dX0_value_4 rfl (lv_at hl 0 rfl) ?_
  refine va_get hx hb hg inX0 hown hK hP 0 rfl rfl 0 (by decide) (hg _ tw_20) (fun _ h9 => h9) rfl dX0_value_5 ?_
  refine lv_iload_n hx hb dX0_value_8 rfl (lv_at hl 1 rfl) ?_
  obtain ⟨z_9, h⟩ := of_ite h
  refine va_lald hx hb hK hP 1 0 rfl rfl (ok_in z_9) dX0_value_9 ?_
  refine pcall C (cX0_mOf_met l _ _ rfl) sc_X0_mOf tw_171 (by decide) rfl hl.1 (rest := []) rfl (Nat.le_of_ble_eq_true rfl) (by decide) dX0_value_10 ?_
  refine lv_aload_n hx hb dX0_value_13 rfl (lv_at hl 0 rfl) ?_
  refine va_get hx hb hg inX0 hown hK hP 0 rfl rfl 0 (by decide) (hg _ tw_20) (fun _ h9 => h9) rfl dX0_value_14 ?_
  refine lv_iload_n hx hb dX0_value_17 rfl (lv_at hl 1 rfl) ?_
  obtain ⟨z_18, h⟩ := of_ite h
  refine va_lald hx hb hK hP 1 0 rfl rfl (ok_in z_18) dX0_value_18 ?_
  refine pcall C (cX0_withSignOf_met l _ _ _ rfl) sc_X0_withSignOf tw_130 (by decide) rfl hl.1 (rest := []) rfl (Nat.le_of_ble_eq_true rfl) (by decide) dX0_value_19 ?_
  refine lv_lstore_n (lv' := [(2, .long (jX0_withSignOf (jX0_mOf (g x1.toNatClampNeg)) (g x1.toNatClampNeg))), (0, .ref (ad 0)), (1, .int x1)]) hx hb dX0_value_22 rfl hl (by decide) rfl (fun ls hl => ?_)
  refine lv_lload_n hx hb dX0_value_23 rfl (lv_at hl 0 rfl) ?_
  refine lv_l2d hx hb dX0_value_24 ?_
  refine lv_aload_n hx hb dX0_value_25 rfl (lv_at hl 1 rfl) ?_
  refine va_get hx hb hg inX0 hown hK hP 0 rfl rfl 0 (by decide) (hg _ tw_20) (fun _ h9 => h9) rfl dX0_value_26 ?_
  refine lv_iload_n hx hb dX0_value_29 rfl (lv_at hl 2 rfl) ?_
  obtain ⟨z_30, h⟩ := of_ite h
  refine va_lald hx hb hK hP 1 0 rfl rfl (ok_in z_30) dX0_value_30 ?_
  refine pcall C (cX0_eOf_met l _ _ rfl) sc_X0_eOf tw_165 (by decide) rfl hl.1 (rest := [.double (FP.l2d (jX0_withSignOf (jX0_mOf (g x1.toNatClampNeg)) (g x1.toNatClampNeg)))]) rfl (Nat.le_of_ble_eq_true rfl) (by decide) dX0_value_31 ?_
  cases h

def tX0_whole (g : NL) (x1 : Int32) : Option Nat := (if rok x1 = true then (if ok x1 16 = true then (if 4890909195324358656 ≤ (g x1.toNatClampNeg) then some 2 else (if (-4890909195324358656) ≤ (g x1.toNatClampNeg) then (if (jX0_eOf (g x1.toNatClampNeg)) < 0 then (if (jX0_lowPlaces (jX0_mOf (g x1.toNatClampNeg)) (jmin (-(jX0_eOf (g x1.toNatClampNeg))) 62)) = 0 then none else some 2) else none) else some 2)) else none) else some 1)
set_option maxHeartbeats 4000000 in
set_option maxRecDepth 100000 in
theorem tX0_whole_met (l : Launch) (hl0 : l.stackTraces = false) (sa : Nat → Nat) (D : va_G) (sz : Nat) (ck : Nat → ClassId) (ad : Nat → Nat) (g : NL) (x1 : Int32) (v : Nat) (h : tX0_whole g x1 = some v) : XM l yX0_whole cX0_whole 8 (some .long) (rmx 7 110) [.ref (ad 0), .int x1] (exn v) (XH D (tyD ck) (wD ck ad g) sz sa) := by
  refine xm_of (own := RX0) (by decide +kernel) rfl (Nat.le_of_ble_eq_true rfl) (fun p e s m below meth c ls C hT hB0 hl => ?_)
  obtain ⟨hx, hb, hml, hown, hg, hr, hlocks⟩ := id C
  obtain ⟨⟨-, hP, hK, hD0, hX⟩, hS1, hZ1⟩ := hB0
  have hB : XB sa s := ⟨hX, hS1, hZ1⟩
  have hl : lv_has ls 8 [(0, .ref (ad 0)), (1, .int x1)] := hl
  unfold tX0_whole at h
  refine lv_iload_n hx hb dX0_whole_0 rfl (lv_at hl 1 rfl) ?_
  by_cases c_1 : ¬ rok x1 = true
  · rw [if_neg c_1] at h; cases h
    exact tcall C hT hB (t_rr l hl0 sa _ c_1) sc_rr tw_33 (by decide) rfl hl.1 (rest := []) rfl (Nat.le_of_ble_eq_true rfl) dX0_whole_1
  have c_1 := Classical.not_not.mp c_1
  rw [if_pos c_1] at h
  refine pcallV C (c_rr l _ c_1) sc_rr tw_33 (by decide) rfl hl.1 (rest := []) rfl (Nat.le_of_ble_eq_true rfl) (by decide) dX0_whole_1 ?_
  refine lv_aload_n hx hb dX0_whole_4 rfl (lv_at hl 0 rfl) ?_
  refine va_get hx hb hg inX0 hown hK hP 0 rfl rfl 0 (by decide) (hg _ tw_20) (fun _ h9 => h9) rfl dX0_whole_5 ?_
  refine lv_iload_n hx hb dX0_whole_8 rfl (lv_at hl 1 rfl) ?_
  obtain ⟨z_9, h⟩ := of_ite h
  refine va_lald hx hb hK hP 1 0 rfl rfl (ok_in z_9) dX0_whole_9 ?_
  refine lv_lstore_n (lv' := [(2, .long (g x1.toNatClampNeg)), (0, .ref (ad 0)), (1, .int x1)]) hx hb dX0_whole_10 rfl hl (by decide) rfl (fun ls hl => ?_)
  refine lv_lload_n hx hb dX0_whole_11 rfl (lv_at hl 0 rfl) ?_
  refine lv_ldc2 hx hb hown (hg _ tw_288) dX0_whole_12 ?_
  refine lc_ge (tgt := 27) hx hb dX0_whole_15 dX0_whole_16 (by decide) (fun c_2 => ?_) (fun c_2 => ?_)
  · rw [if_pos c_2] at h
    cases h
    exact th_S C hl0 hT hB hB.2.1.2.2.2.2.2.1 hl.1 dX0_whole_27 dX0_whole_30 dX0_whole_31 dX0_whole_33 dX0_whole_36 (by decide) (Nat.le_of_ble_eq_true rfl)
  · rw [if_neg c_2] at h
    refine lv_lload_n hx hb dX0_whole_19 rfl (lv_at hl 0 rfl) ?_
    refine lv_ldc2 hx hb hown (hg _ tw_289) dX0_whole_20 ?_
    refine lc_ge (tgt := 37) hx hb dX0_whole_23 dX0_whole_24 (by decide) (fun c_3 => ?_) (fun c_3 => ?_)
    · rw [if_pos c_3] at h
      refine lv_lload_n hx hb dX0_whole_37 rfl (lv_at hl 0 rfl) ?_
      refine pcall C (cX0_mOf_met l _ _ rfl) sc_X0_mOf tw_171 (by decide) rfl hl.1 (rest := []) rfl (Nat.le_of_ble_eq_true rfl) (by decide) dX0_whole_38 ?_
      refine lv_lstore (lv' := [(4, .long (jX0_mOf (g x1.toNatClampNeg))), (2, .long (g x1.toNatClampNeg)), (0, .ref (ad 0)), (1, .int x1)]) hx hb dX0_whole_41 hl (by decide) rfl (fun ls hl => ?_)
      refine lv_lload_n hx hb dX0_whole_43 rfl (lv_at hl 1 rfl) ?_
      refine pcall C (cX0_eOf_met l _ _ rfl) sc_X0_eOf tw_165 (by decide) rfl hl.1 (rest := []) rfl (Nat.le_of_ble_eq_true rfl) (by decide) dX0_whole_44 ?_
      refine lv_istore (lv' := [(6, .int (jX0_eOf (g x1.toNatClampNeg))), (4, .long (jX0_mOf (g x1.toNatClampNeg))), (2, .long (g x1.toNatClampNeg)), (0, .ref (ad 0)), (1, .int x1)]) hx hb dX0_whole_47 hl (by decide) rfl (fun ls hl => ?_)
      refine lv_iload hx hb dX0_whole_49 (lv_at hl 0 rfl) ?_
      refine lv_if_lt (tgt := 64) hx hb dX0_whole_51 (by decide) (fun c_4 => ?_) (fun c_4 => ?_)
      · rw [if_pos c_4] at h
        refine lv_iload hx hb dX0_whole_64 (lv_at hl 0 rfl) ?_
        refine lv_ineg hx hb dX0_whole_66 ?_
        refine lv_bipush (v := 62) hx hb dX0_whole_67 (by decide) ?_
        refine q_min C tw_168 (by decide) (Nat.le_of_ble_eq_true rfl) (by decide) hl.1 dX0_whole_69 ?_
        refine lv_istore (lv' := [(7, .int (jmin (-(jX0_eOf (g x1.toNatClampNeg))) 62)), (6, .int (jX0_eOf (g x1.toNatClampNeg))), (4, .long (jX0_mOf (g x1.toNatClampNeg))), (2, .long (g x1.toNatClampNeg)), (0, .ref (ad 0)), (1, .int x1)]) hx hb dX0_whole_72 hl (by decide) rfl (fun ls hl => ?_)
        refine lv_lload hx hb dX0_whole_74 (lv_at hl 2 rfl) ?_
        refine lv_iload hx hb dX0_whole_76 (lv_at hl 0 rfl) ?_
        refine pcall C (cX0_lowPlaces_met l _ _ _ rfl) sc_X0_lowPlaces tw_127 (by decide) rfl hl.1 (rest := []) rfl (Nat.le_of_ble_eq_true rfl) (by decide) dX0_whole_78 ?_
        refine lv_lconst (v := 0) hx hb dX0_whole_81 (by decide) ?_
        refine lc_eq (tgt := 96) hx hb dX0_whole_82 dX0_whole_83 (by decide) (fun c_5 => ?_) (fun c_5 => ?_)
        · rw [if_pos c_5] at h
          refine lv_lload hx hb dX0_whole_96 (lv_at hl 2 rfl) ?_
          refine lv_iload hx hb dX0_whole_98 (lv_at hl 0 rfl) ?_
          refine lv_lushr (v := su (jX0_mOf (g x1.toNatClampNeg)) (jmin (-(jX0_eOf (g x1.toNatClampNeg))) 62)) hx hb dX0_whole_100 rfl ?_
          refine lv_lload_n hx hb dX0_whole_101 rfl (lv_at hl 3 rfl) ?_
          refine pcall C (cX0_withSignOf_met l _ _ _ rfl) sc_X0_withSignOf tw_130 (by decide) rfl hl.1 (rest := []) rfl (Nat.le_of_ble_eq_true rfl) (by decide) dX0_whole_102 ?_
          cases h
        · rw [if_neg c_5] at h
          cases h
          exact th_S C hl0 hT hB hB.2.1.2.2.2.2.2.2 hl.1 dX0_whole_86 dX0_whole_89 dX0_whole_90 dX0_whole_92 dX0_whole_95 (by decide) (Nat.le_of_ble_eq_true rfl)
      · rw [if_neg c_4] at h
        refine lv_lload hx hb dX0_whole_54 (lv_at hl 1 rfl) ?_
        refine lv_iload hx hb dX0_whole_56 (lv_at hl 0 rfl) ?_
        refine lv_lshl (v := sl (jX0_mOf (g x1.toNatClampNeg)) (jX0_eOf (g x1.toNatClampNeg))) hx hb dX0_whole_58 rfl ?_
        refine lv_lload_n hx hb dX0_whole_59 rfl (lv_at hl 2 rfl) ?_
        refine pcall C (cX0_withSignOf_met l _ _ _ rfl) sc_X0_withSignOf tw_130 (by decide) rfl hl.1 (rest := []) rfl (Nat.le_of_ble_eq_true rfl) (by decide) dX0_whole_60 ?_
        cases h
    · rw [if_neg c_3] at h
      cases h
      exact th_S C hl0 hT hB hB.2.1.2.2.2.2.2.1 hl.1 dX0_whole_27 dX0_whole_30 dX0_whole_31 dX0_whole_33 dX0_whole_36 (by decide) (Nat.le_of_ble_eq_true rfl)
