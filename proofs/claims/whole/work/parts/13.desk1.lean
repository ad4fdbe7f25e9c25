/-! RealDesk.keep(IJ)I -/
def jX0_keep (g : NL) (x1 : Int32) (x2 : Int64) : Option (Int32 × NL) := (if (jX0_isOver x2) = 0 then (if ok x1 16 = true then some (0, vp_updL g x1.toNatClampNeg x2) else none) else some ((-1), g))
set_option maxHeartbeats 4000000 in
set_option maxRecDepth 100000 in
theorem wX0_keep_0 {p : Program} {l : Launch} {e : Env} {s : State} {m : MethodId} {args : Array Value} {below : List Frame} {meth : Method} {c : Code} {D : va_G} {A : Nat → Prop} {ck : Nat → ClassId} {ad : Nat → Nat} (C : CX p s m args meth c RX0 cX0_keep 4 (some .int)) (hA : ∀ q, s.heap.size ≤ q → A q) (hK : va_K D vwCl (tyD ck) s) (hX : XT s) (g : NL) (x1 : Int32) (x2 : Int64) (ls : Array Slot) (H : Heap) (locs : List Loc) (u : Int32 × NL) (hP : va_P D vwCl (wD ck ad g) H) (hD : va_D A (wD ck ad g)) (hS : va_S A s.heap H locs) (hl : lv_has ls 4 [(0, .ref (ad 0)), (1, .int x1), (2, .long x2)]) (h : jX0_keep g x1 x2 = some u) : W p l e (rmz 1 21) s m args below meth c H locs 0 0 (MQ below (HQ D A (wD ck ad u.2) (some (.int u.1))) args s 0 0 A) (F0 m 0 ls []) := by
  obtain ⟨hx, hb, hml, hown, hg, hr, hlocks⟩ := id C
  unfold jX0_keep at h
  refine lv_lload_n hx hb dX0_keep_0 rfl (lv_at hl 2 rfl) ?_
  refine pcall C (cX0_isOver_met l _ _ rfl) sc_X0_isOver tw_137 (by decide) rfl hl.1 (rest := []) rfl (Nat.le_of_ble_eq_true rfl) (by decide) dX0_keep_1 ?_
  refine lv_if_eq (tgt := 9) hx hb dX0_keep_4 (by decide) (fun c_1 => ?_) (fun c_1 => ?_)
  · rw [if_pos c_1] at h
    refine lv_aload_n hx hb dX0_keep_9 rfl (lv_at hl 0 rfl) ?_
    refine va_get hx hb hg inX0 hown hK hP 0 rfl rfl 0 (by decide) (hg _ tw_20) (fun _ h9 => h9) rfl dX0_keep_10 ?_
    refine lv_iload_n hx hb dX0_keep_13 rfl (lv_at hl 1 rfl) ?_
    refine lv_lload_n hx hb dX0_keep_14 rfl (lv_at hl 2 rfl) ?_
    obtain ⟨z_15, h⟩ := of_ite h
    refine va_last hx hb hK hP hD hS 1 0 rfl rfl (ok_in z_15) dX0_keep_15 (fun H locs hP hD hS => ?_)
    have hP : va_P D vwCl (wD ck ad (vp_updL g x1.toNatClampNeg x2)) H := hP
    have hD : va_D A (wD ck ad (vp_updL g x1.toNatClampNeg x2)) := hD
    refine lv_iconst (v := 0) hx hb dX0_keep_16 (by decide) ?_
    cases h
    exact W.iret hx hb hr (fun t ht _ => ⟨rfl, by rw [ht]; exact hP, hD, hS.F ht⟩) hS.2.2 dX0_keep_17
  · rw [if_neg c_1] at h
    refine lv_iconst (v := (-1)) hx hb dX0_keep_7 (by decide) ?_
    cases h
    exact W.iret hx hb hr (fun t ht _ => ⟨rfl, by rw [ht]; exact hP, hD, hS.F ht⟩) hS.2.2 dX0_keep_8
theorem vc_X0_keep : VC RX0 yX0_keep cX0_keep 4 (some .int) 2 := ⟨tw_135, ts_1, tw_1, tw_136, by decide +kernel⟩
theorem cX0_keep_met (l : Launch) (ck : Nat → ClassId) (ad : Nat → Nat) (g : NL) (x1 : Int32) (x2 : Int64) (u : Int32 × NL) (h : jX0_keep g x1 x2 = some u) : HM l yX0_keep cX0_keep 4 (some .int) (rmz 1 21) [.ref (ad 0), .int x1, .long x2] (tyD ck) (wD ck ad g) (some (.int u.1)) (wD ck ad u.2) :=
  hm_of (own := RX0) (by decide +kernel) rfl (Nat.le_of_ble_eq_true rfl) (fun D A p e s m below meth c ls C hA hK hX hP hD hS hl => wX0_keep_0 C hA hK hX g x1 x2 ls _ _ u hP hD hS hl h)

/-! RealDesk.combineRanks(IIJJ)I -/
def jX0_combineRanks (g : NL) (x1 : Int32) (x2 : Int32) (x3 : Int64) (x5 : Int64) : Option (Int32 × NL) := (if x2 = 0 then (b2 (jX0_keep g x1 (jX0_sum x3 x5)) fun r_1 g_1 => some (r_1, g_1)) else (if x2 = 1 then (b2 (jX0_keep g x1 (jX0_sum x3 (-x5))) fun r_2 g_2 => some (r_2, g_2)) else (if x2 = 2 then (b2 (jX0_keep g x1 (jX0_product x3 x5)) fun r_3 g_3 => some (r_3, g_3)) else (if x2 = 3 then (if x5 = 0 then some ((-2), g) else ((jX0_quotient x3 x5).bind fun r_4 => (b2 (jX0_keep g x1 r_4) fun r_5 g_5 => some (r_5, g_5)))) else (if x2 = 4 then (if x5 = 0 then some ((-2), g) else ((jX0_rest x3 x5).bind fun r_6 => (b2 (jX0_keep g x1 r_6) fun r_7 g_7 => some (r_7, g_7)))) else (if x2 = 5 then (b2 (jX0_keep g x1 (jminl x3 x5)) fun r_8 g_8 => some (r_8, g_8)) else (if x2 = 6 then (b2 (jX0_keep g x1 (jmaxl x3 x5)) fun r_9 g_9 => some (r_9, g_9)) else (if x2 = 7 then (b2 (jX0_keep g x1 (jX0_sumError x3 x5)) fun r_10 g_10 => some (r_10, g_10)) else (if (jX0_isSmallProduct x3 x5) = 0 then (b2 (jX0_keep g x1 (jX0_productError x3 x5)) fun r_11 g_11 => some (r_11, g_11)) else some ((-4), g))))))))))
set_option maxHeartbeats 4000000 in
set_option maxRecDepth 100000 in
theorem wX0_combineRanks_0 {p : Program} {l : Launch} {e : Env} {s : State} {m : MethodId} {args : Array Value} {below : List Frame} {meth : Method} {c : Code} {D : va_G} {A : Nat → Prop} {ck : Nat → ClassId} {ad : Nat → Nat} (C : CX p s m args meth c RX0 cX0_combineRanks 7 (some .int)) (hA : ∀ q, s.heap.size ≤ q → A q) (hK : va_K D vwCl (tyD ck) s) (hX : XT s) (g : NL) (x1 : Int32) (x2 : Int32) (x3 : Int64) (x5 : Int64) (ls : Array Slot) (H : Heap) (locs : List Loc) (u : Int32 × NL) (hP : va_P D vwCl (wD ck ad g) H) (hD : va_D A (wD ck ad g)) (hS : va_S A s.heap H locs) (hl : lv_has ls 7 [(0, .ref (ad 0)), (1, .int x1), (2, .int x2), (3, .long x3), (5, .long x5)]) (h : jX0_combineRanks g x1 x2 x3 x5 = some u) : W p l e (rmz 6 143) s m args below meth c H locs 0 0 (MQ below (HQ D A (wD ck ad u.2) (some (.int u.1))) args s 0 0 A) (F0 m 0 ls []) := by
  obtain ⟨hx, hb, hml, hown, hg, hr, hlocks⟩ := id C
  unfold jX0_combineRanks at h
  refine lv_iload_n hx hb dX0_combineRanks_0 rfl (lv_at hl 2 rfl) ?_
  by_cases c_1 : x2 = 0
  · rw [if_pos c_1] at h
    refine sw_in hx hb 0 52 dX0_combineRanks_1 c_1 (by decide) (by decide) (by decide) ?_
    refine lv_aload_n hx hb dX0_combineRanks_52 rfl (lv_at hl 0 rfl) ?_
    refine lv_iload_n hx hb dX0_combineRanks_53 rfl (lv_at hl 1 rfl) ?_
    refine lv_lload_n hx hb dX0_combineRanks_54 rfl (lv_at hl 3 rfl) ?_
    refine lv_lload hx hb dX0_combineRanks_55 (lv_at hl 4 rfl) ?_
    refine pcall C (cX0_sum_met l _ _ _ rfl) sc_X0_sum tw_156 (by decide) rfl hl.1 (rest := [.int x1, .ref (ad 0)]) rfl (Nat.le_of_ble_eq_true rfl) (by decide) dX0_combineRanks_57 ?_
    obtain ⟨r_1, g_1, h_r_1, h⟩ := of_b2 h
    refine callD C hK hX hP hD hS hA (cX0_keep_met l ck ad _ _ _ _ h_r_1) vc_X0_keep tw_133 (by decide) rfl hl.1 (rest := []) rfl (Nat.le_of_ble_eq_true rfl) (by decide) dX0_combineRanks_60 (fun H locs hP hD hS => ?_)
    have hP : va_P D vwCl (wD ck ad g_1) H := hP
    have hD : va_D A (wD ck ad g_1) := hD
    refine W.eq (g2 := F0 m 63 ls [.int r_1]) rfl ?_
    cases h
    exact W.iret hx hb hr (fun t ht _ => ⟨rfl, by rw [ht]; exact hP, hD, hS.F ht⟩) hS.2.2 dX0_combineRanks_63
  rw [if_neg c_1] at h
  by_cases c_2 : x2 = 1
  · rw [if_pos c_2] at h
    refine sw_in hx hb 1 64 dX0_combineRanks_1 c_2 (by decide) (by decide) (by decide) ?_
    refine lv_aload_n hx hb dX0_combineRanks_64 rfl (lv_at hl 0 rfl) ?_
    refine lv_iload_n hx hb dX0_combineRanks_65 rfl (lv_at hl 1 rfl) ?_
    refine lv_lload_n hx hb dX0_combineRanks_66 rfl (lv_at hl 3 rfl) ?_
    refine lv_lload hx hb dX0_combineRanks_67 (lv_at hl 4 rfl) ?_
    refine lv_lneg hx hb dX0_combineRanks_69 ?_
    refine pcall C (cX0_sum_met l _ _ _ rfl) sc_X0_sum tw_156 (by decide) rfl hl.1 (rest := [.int x1, .ref (ad 0)]) rfl (Nat.le_of_ble_eq_true rfl) (by decide) dX0_combineRanks_70 ?_
    obtain ⟨r_2, g_2, h_r_2, h⟩ := of_b2 h
    refine callD C hK hX hP hD hS hA (cX0_keep_met l ck ad _ _ _ _ h_r_2) vc_X0_keep tw_133 (by decide) rfl hl.1 (rest := []) rfl (Nat.le_of_ble_eq_true rfl) (by decide) dX0_combineRanks_73 (fun H locs hP hD hS => ?_)
    have hP : va_P D vwCl (wD ck ad g_2) H := hP
    have hD : va_D A (wD ck ad g_2) := hD
    refine W.eq (g2 := F0 m 76 ls [.int r_2]) rfl ?_
    cases h
    exact W.iret hx hb hr (fun t ht _ => ⟨rfl, by rw [ht]; exact hP, hD, hS.F ht⟩) hS.2.2 dX0_combineRanks_76
  rw [if_neg c_2] at h
  by_cases c_3 : x2 = 2
  · rw [if_pos c_3] at h
    refine sw_in hx hb 2 77 dX0_combineRanks_1 c_3 (by decide) (by decide) (by decide) ?_
    refine lv_aload_n hx hb dX0_combineRanks_77 rfl (lv_at hl 0 rfl) ?_
    refine lv_iload_n hx hb dX0_combineRanks_78 rfl (lv_at hl 1 rfl) ?_
    refine lv_lload_n hx hb dX0_combineRanks_79 rfl (lv_at hl 3 rfl) ?_
    refine lv_lload hx hb dX0_combineRanks_80 (lv_at hl 4 rfl) ?_
    refine pcall C (cX0_product_met l _ _ _ rfl) sc_X0_product tw_178 (by decide) rfl hl.1 (rest := [.int x1, .ref (ad 0)]) rfl (Nat.le_of_ble_eq_true rfl) (by decide) dX0_combineRanks_82 ?_
    obtain ⟨r_3, g_3, h_r_3, h⟩ := of_b2 h
    refine callD C hK hX hP hD hS hA (cX0_keep_met l ck ad _ _ _ _ h_r_3) vc_X0_keep tw_133 (by decide) rfl hl.1 (rest := []) rfl (Nat.le_of_ble_eq_true rfl) (by decide) dX0_combineRanks_85 (fun H locs hP hD hS => ?_)
    have hP : va_P D vwCl (wD ck ad g_3) H := hP
    have hD : va_D A (wD ck ad g_3) := hD
    refine W.eq (g2 := F0 m 88 ls [.int r_3]) rfl ?_
    cases h
    exact W.iret hx hb hr (fun t ht _ => ⟨rfl, by rw [ht]; exact hP, hD, hS.F ht⟩) hS.2.2 dX0_combineRanks_88
  rw [if_neg c_3] at h
  by_cases c_4 : x2 = 3
  · rw [if_pos c_4] at h
    refine sw_in hx hb 3 89 dX0_combineRanks_1 c_4 (by decide) (by decide) (by decide) ?_
    refine lv_lload hx hb dX0_combineRanks_89 (lv_at hl 4 rfl) ?_
    refine lv_lconst (v := 0) hx hb dX0_combineRanks_91 (by decide) ?_
    refine lc_ne (tgt := 101) hx hb dX0_combineRanks_92 dX0_combineRanks_93 (by decide) (fun c_5 => ?_) (fun c_5 => ?_)
    · rw [if_neg c_5] at h
      refine lv_aload_n hx hb dX0_combineRanks_101 rfl (lv_at hl 0 rfl) ?_
      refine lv_iload_n hx hb dX0_combineRanks_102 rfl (lv_at hl 1 rfl) ?_
      refine lv_lload_n hx hb dX0_combineRanks_103 rfl (lv_at hl 3 rfl) ?_
      refine lv_lload hx hb dX0_combineRanks_104 (lv_at hl 4 rfl) ?_
      obtain ⟨r_4, h_r_4, h⟩ := of_bind h
      refine pcall C (cX0_quotient_met l _ _ _ h_r_4) sc_X0_quotient tw_193 (by decide) rfl hl.1 (rest := [.int x1, .ref (ad 0)]) rfl (Nat.le_of_ble_eq_true rfl) (by decide) dX0_combineRanks_106 ?_
      obtain ⟨r_5, g_5, h_r_5, h⟩ := of_b2 h
      refine callD C hK hX hP hD hS hA (cX0_keep_met l ck ad _ _ _ _ h_r_5) vc_X0_keep tw_133 (by decide) rfl hl.1 (rest := []) rfl (Nat.le_of_ble_eq_true rfl) (by decide) dX0_combineRanks_109 (fun H locs hP hD hS => ?_)
      have hP : va_P D vwCl (wD ck ad g_5) H := hP
      have hD : va_D A (wD ck ad g_5) := hD
      refine W.eq (g2 := F0 m 112 ls [.int r_5]) rfl ?_
      cases h
      exact W.iret hx hb hr (fun t ht _ => ⟨rfl, by rw [ht]; exact hP, hD, hS.F ht⟩) hS.2.2 dX0_combineRanks_112
    · rw [if_pos c_5] at h
      refine lv_bipush (v := (-2)) hx hb dX0_combineRanks_96 (by decide) ?_
      refine lv_goto (tgt := 112) hx hb dX0_combineRanks_98 (by decide) ?_
      cases h
      exact W.iret hx hb hr (fun t ht _ => ⟨rfl, by rw [ht]; exact hP, hD, hS.F ht⟩) hS.2.2 dX0_combineRanks_112
  rw [if_neg c_4] at h
  by_cases c_6 : x2 = 4
  · rw [if_pos c_6] at h
    refine sw_in hx hb 4 113 dX0_combineRanks_1 c_6 (by decide) (by decide) (by decide) ?_
    refine lv_lload hx hb dX0_combineRanks_113 (lv_at hl 4 rfl) ?_
    refine lv_lconst (v := 0) hx hb dX0_combineRanks_115 (by decide) ?_
    refine lc_ne (tgt := 125) hx hb dX0_combineRanks_116 dX0_combineRanks_117 (by decide) (fun c_7 => ?_) (fun c_7 => ?_)
    · rw [if_neg c_7] at h
      refine lv_aload_n hx hb dX0_combineRanks_125 rfl (lv_at hl 0 rfl) ?_
      refine lv_iload_n hx hb dX0_combineRanks_126 rfl (lv_at hl 1 rfl) ?_
      refine lv_lload_n hx hb dX0_combineRanks_127 rfl (lv_at hl 3 rfl) ?_
      refine lv_lload hx hb dX0_combineRanks_128 (lv_at hl 4 rfl) ?_
      obtain ⟨r_6, h_r_6, h⟩ := of_bind h
      refine pcall C (cX0_rest_met l _ _ _ h_r_6) sc_X0_rest tw_196 (by decide) rfl hl.1 (rest := [.int x1, .ref (ad 0)]) rfl (Nat.le_of_ble_eq_true rfl) (by decide) dX0_combineRanks_130 ?_
      obtain ⟨r_7, g_7, h_r_7, h⟩ := of_b2 h
      refine callD C hK hX hP hD hS hA (cX0_keep_met l ck ad _ _ _ _ h_r_7) vc_X0_keep tw_133 (by decide) rfl hl.1 (rest := []) rfl (Nat.le_of_ble_eq_true rfl) (by decide) dX0_combineRanks_133 (fun H locs hP hD hS => ?_)
      have hP : va_P D vwCl (wD ck ad g_7) H := hP
      have hD : va_D A (wD ck ad g_7) := hD
      refine W.eq (g2 := F0 m 136 ls [.int r_7]) rfl ?_
      cases h
      exact W.iret hx hb hr (fun t ht _ => ⟨rfl, by rw [ht]; exact hP, hD, hS.F ht⟩) hS.2.2 dX0_combineRanks_136
    · rw [if_pos c_7] at h
      refine lv_bipush (v := (-2)) hx hb dX0_combineRanks_120 (by decide) ?_
      refine lv_goto (tgt := 136) hx hb dX0_combineRanks_122 (by decide) ?_
      cases h
      exact W.iret hx hb hr (fun t ht _ => ⟨rfl, by rw [ht]; exact hP, hD, hS.F ht⟩) hS.2.2 dX0_combineRanks_136
  rw [if_neg c_6] at h
  by_cases c_8 : x2 = 5
  · rw [if_pos c_8] at h
    refine sw_in hx hb 5 137 dX0_combineRanks_1 c_8 (by decide) (by decide) (by decide) ?_
    refine lv_aload_n hx hb dX0_combineRanks_137 rfl (lv_at hl 0 rfl) ?_
    refine lv_iload_n hx hb dX0_combineRanks_138 rfl (lv_at hl 1 rfl) ?_
    refine lv_lload_n hx hb dX0_combineRanks_139 rfl (lv_at hl 3 rfl) ?_
    refine lv_lload hx hb dX0_combineRanks_140 (lv_at hl 4 rfl) ?_
    refine q_minl C tw_199 (by decide) (Nat.le_of_ble_eq_true rfl) (by decide) hl.1 dX0_combineRanks_142 ?_
    obtain ⟨r_8, g_8, h_r_8, h⟩ := of_b2 h
    refine callD C hK hX hP hD hS hA (cX0_keep_met l ck ad _ _ _ _ h_r_8) vc_X0_keep tw_133 (by decide) rfl hl.1 (rest := []) rfl (Nat.le_of_ble_eq_true rfl) (by decide) dX0_combineRanks_145 (fun H locs hP hD hS => ?_)
    have hP : va_P D vwCl (wD ck ad g_8) H := hP
    have hD : va_D A (wD ck ad g_8) := hD
    refine W.eq (g2 := F0 m 148 ls [.int r_8]) rfl ?_
    cases h
    exact W.iret hx hb hr (fun t ht _ => ⟨rfl, by rw [ht]; exact hP, hD, hS.F ht⟩) hS.2.2 dX0_combineRanks_148
  rw [if_neg c_8] at h
  by_cases c_9 : x2 = 6
  · rw [if_pos c_9] at h
    refine sw_in hx hb 6 149 dX0_combineRanks_1 c_9 (by decide) (by decide) (by decide) ?_
    refine lv_aload_n hx hb dX0_combineRanks_149 rfl (lv_at hl 0 rfl) ?_
    refine lv_iload_n hx hb dX0_combineRanks_150 rfl (lv_at hl 1 rfl) ?_
    refine lv_lload_n hx hb dX0_combineRanks_151 rfl (lv_at hl 3 rfl) ?_
    refine lv_lload hx hb dX0_combineRanks_152 (lv_at hl 4 rfl) ?_
    refine q_maxl C tw_202 (by decide) (Nat.le_of_ble_eq_true rfl) (by decide) hl.1 dX0_combineRanks_154 ?_
    obtain ⟨r_9, g_9, h_r_9, h⟩ := of_b2 h
    refine callD C hK hX hP hD hS hA (cX0_keep_met l ck ad _ _ _ _ h_r_9) vc_X0_keep tw_133 (by decide) rfl hl.1 (rest := []) rfl (Nat.le_of_ble_eq_true rfl) (by decide) dX0_combineRanks_157 (fun H locs hP hD hS => ?_)
    have hP : va_P D vwCl (wD ck ad g_9) H := hP
    have hD : va_D A (wD ck ad g_9) := hD
    refine W.eq (g2 := F0 m 160 ls [.int r_9]) rfl ?_
    cases h
    exact W.iret hx hb hr (fun t ht _ => ⟨rfl, by rw [ht]; exact hP, hD, hS.F ht⟩) hS.2.2 dX0_combineRanks_160
  rw [if_neg c_9] at h
  by_cases c_10 : x2 = 7
  · rw [if_pos c_10] at h
    refine sw_in hx hb 7 161 dX0_combineRanks_1 c_10 (by decide) (by decide) (by decide) ?_
    refine lv_aload_n hx hb dX0_combineRanks_161 rfl (lv_at hl 0 rfl) ?_
    refine lv_iload_n hx hb dX0_combineRanks_162 rfl (lv_at hl 1 rfl) ?_
    refine lv_lload_n hx hb dX0_combineRanks_163 rfl (lv_at hl 3 rfl) ?_
    refine lv_lload hx hb dX0_combineRanks_164 (lv_at hl 4 rfl) ?_
    refine pcall C (cX0_sumError_met l _ _ _ rfl) sc_X0_sumError tw_205 (by decide) rfl hl.1 (rest := [.int x1, .ref (ad 0)]) rfl (Nat.le_of_ble_eq_true rfl) (by decide) dX0_combineRanks_166 ?_
    obtain ⟨r_10, g_10, h_r_10, h⟩ := of_b2 h
    refine callD C hK hX hP hD hS hA (cX0_keep_met l ck ad _ _ _ _ h_r_10) vc_X0_keep tw_133 (by decide) rfl hl.1 (rest := []) rfl (Nat.le_of_ble_eq_true rfl) (by decide) dX0_combineRanks_169 (fun H locs hP hD hS => ?_)
    have hP : va_P D vwCl (wD ck ad g_10) H := hP
    have hD : va_D A (wD ck ad g_10) := hD
    refine W.eq (g2 := F0 m 172 ls [.int r_10]) rfl ?_
    cases h
    exact W.iret hx hb hr (fun t ht _ => ⟨rfl, by rw [ht]; exact hP, hD, hS.F ht⟩) hS.2.2 dX0_combineRanks_172
  rw [if_neg c_10] at h
  refine sw_def hx hb (tgt := 173) (n := 9) [0, 1, 2, 3, 4, 5, 6, 7] dX0_combineRanks_1 (by decide) (by decide) (by decide) (List.forall_mem_cons.mpr ⟨c_1, List.forall_mem_cons.mpr ⟨c_2, List.forall_mem_cons.mpr ⟨c_3, List.forall_mem_cons.mpr ⟨c_4, List.forall_mem_cons.mpr ⟨c_6, List.forall_mem_cons.mpr ⟨c_8, List.forall_mem_cons.mpr ⟨c_9, List.forall_mem_cons.mpr ⟨c_10, fun _ h9 => nomatch h9⟩⟩⟩⟩⟩⟩⟩⟩) ?_
  refine lv_lload_n hx hb dX0_combineRanks_173 rfl (lv_at hl 3 rfl) ?_
  refine lv_lload hx hb dX0_combineRanks_174 (lv_at hl 4 rfl) ?_
  refine pcall C (cX0_isSmallProduct_met l _ _ _ rfl) sc_X0_isSmallProduct tw_208 (by decide) rfl hl.1 (rest := []) rfl (Nat.le_of_ble_eq_true rfl) (by decide) dX0_combineRanks_176 ?_
  refine lv_if_eq (tgt := 187) hx hb dX0_combineRanks_179 (by decide) (fun c_11 => ?_) (fun c_11 => ?_)
  · rw [if_pos c_11] at h
    refine lv_aload_n hx hb dX0_combineRanks_187 rfl (lv_at hl 0 rfl) ?_
    refine lv_iload_n hx hb dX0_combineRanks_188 rfl (lv_at hl 1 rfl) ?_
    refine lv_lload_n hx hb dX0_combineRanks_189 rfl (lv_at hl 3 rfl) ?_
    refine lv_lload hx hb dX0_combineRanks_190 (lv_at hl 4 rfl) ?_
    refine pcall C (cX0_productError_met l _ _ _ rfl) sc_X0_productError tw_211 (by decide) rfl hl.1 (rest := [.int x1, .ref (ad 0)]) rfl (Nat.le_of_ble_eq_true rfl) (by decide) dX0_combineRanks_192 ?_
    obtain ⟨r_11, g_11, h_r_11, h⟩ := of_b2 h
    refine callD C hK hX hP hD hS hA (cX0_keep_met l ck ad _ _ _ _ h_r_11) vc_X0_keep tw_133 (by decide) rfl hl.1 (rest := []) rfl (Nat.le_of_ble_eq_true rfl) (by decide) dX0_combineRanks_195 (fun H locs hP hD hS => ?_)
    have hP : va_P D vwCl (wD ck ad g_11) H := hP
    have hD : va_D A (wD ck ad g_11) := hD
    refine W.eq (g2 := F0 m 198 ls [.int r_11]) rfl ?_
    cases h
    exact W.iret hx hb hr (fun t ht _ => ⟨rfl, by rw [ht]; exact hP, hD, hS.F ht⟩) hS.2.2 dX0_combineRanks_198
  · rw [if_neg c_11] at h
    refine lv_bipush (v := (-4)) hx hb dX0_combineRanks_182 (by decide) ?_
    refine lv_goto (tgt := 198) hx hb dX0_combineRanks_184 (by decide) ?_
    cases h
    exact W.iret hx hb hr (fun t ht _ => ⟨rfl, by rw [ht]; exact hP, hD, hS.F ht⟩) hS.2.2 dX0_combineRanks_198
theorem vc_X0_combineRanks : VC RX0 yX0_combineRanks cX0_combineRanks 7 (some .int) 4 := ⟨tw_154, ts_2, tw_1, tw_155, by decide +kernel⟩
theorem cX0_combineRanks_met (l : Launch) (ck : Nat → ClassId) (ad : Nat → Nat) (g : NL) (x1 : Int32) (x2 : Int32) (x3 : Int64) (x5 : Int64) (u : Int32 × NL) (h : jX0_combineRanks g x1 x2 x3 x5 = some u) : HM l yX0_combineRanks cX0_combineRanks 7 (some .int) (rmz 6 143) [.ref (ad 0), .int x1, .int x2, .long x3, .long x5] (tyD ck) (wD ck ad g) (some (.int u.1)) (wD ck ad u.2) :=
  hm_of (own := RX0) (by decide +kernel) rfl (Nat.le_of_ble_eq_true rfl) (fun D A p e s m below meth c ls C hA hK hX hP hD hS hl => wX0_combineRanks_0 C hA hK hX g x1 x2 x3 x5 ls _ _ u hP hD hS hl h)

/-! RealDesk.changeRank(IIJ)I -/
def jX0_changeRank (g : NL) (x1 : Int32) (x2 : Int32) (x3 : Int64) : Option (Int32 × NL) := (if x2 = 0 then (b2 (jX0_keep g x1 (-x3)) fun r_1 g_1 => some (r_1, g_1)) else (if x2 = 1 then (b2 (jX0_keep g x1 (jabsl x3)) fun r_2 g_2 => some (r_2, g_2)) else (if x2 = 2 then (if 0 ≤ x3 then ((jX0_root x3).bind fun r_3 => (b2 (jX0_keep g x1 r_3) fun r_4 g_4 => some (r_4, g_4))) else some ((-3), g)) else (if x2 = 3 then (b2 (jX0_keep g x1 (jX0_wholeNear x2 x3)) fun r_5 g_5 => some (r_5, g_5)) else (if x2 = 4 then (b2 (jX0_keep g x1 (jX0_wholeNear x2 x3)) fun r_6 g_6 => some (r_6, g_6)) else (if x2 = 5 then (b2 (jX0_keep g x1 (jX0_wholeNear x2 x3)) fun r_7 g_7 => some (r_7, g_7)) else (if x2 = 6 then (b2 (jX0_keep g x1 (jX0_wholeNear x2 x3)) fun r_8 g_8 => some (r_8, g_8)) else (if x2 = 7 then (b2 (jX0_keep g x1 (x3 + 1)) fun r_9 g_9 => some (r_9, g_9)) else (b2 (jX0_keep g x1 (x3 - 1)) fun r_10 g_10 => some (r_10, g_10))))))))))
set_option maxHeartbeats 4000000 in
set_option maxRecDepth 100000 in
theorem wX0_changeRank_0 {p : Program} {l : Launch} {e : Env} {s : State} {m : MethodId} {args : Array Value} {below : List Frame} {meth : Method} {c : Code} {D : va_G} {A : Nat → Prop} {ck : Nat → ClassId} {ad : Nat → Nat} (C : CX p s m args meth c RX0 cX0_changeRank 5 (some .int)) (hA : ∀ q, s.heap.size ≤ q → A q) (hK : va_K D vwCl (tyD ck) s) (hX : XT s) (g : NL) (x1 : Int32) (x2 : Int32) (x3 : Int64) (ls : Array Slot) (H : Heap) (locs : List Loc) (u : Int32 × NL) (hP : va_P D vwCl (wD ck ad g) H) (hD : va_D A (wD ck ad g)) (hS : va_S A s.heap H locs) (hl : lv_has ls 5 [(0, .ref (ad 0)), (1, .int x1), (2, .int x2), (3, .long x3)]) (h : jX0_changeRank g x1 x2 x3 = some u) : W p l e (rmz 5 121) s m args below meth c H locs 0 0 (MQ below (HQ D A (wD ck ad u.2) (some (.int u.1))) args s 0 0 A) (F0 m 0 ls []) := by
  obtain ⟨hx, hb, hml, hown, hg, hr, hlocks⟩ := id C
  unfold jX0_changeRank at h
  refine lv_iload_n hx hb dX0_changeRank_0 rfl (lv_at hl 2 rfl) ?_
  by_cases c_1 : x2 = 0
  · rw [if_pos c_1] at h
    refine sw_in hx hb 0 52 dX0_changeRank_1 c_1 (by decide) (by decide) (by decide) ?_
    refine lv_aload_n hx hb dX0_changeRank_52 rfl (lv_at hl 0 rfl) ?_
    refine lv_iload_n hx hb dX0_changeRank_53 rfl (lv_at hl 1 rfl) ?_
    refine lv_lload_n hx hb dX0_changeRank_54 rfl (lv_at hl 3 rfl) ?_
    refine lv_lneg hx hb dX0_changeRank_55 ?_
    obtain ⟨r_1, g_1, h_r_1, h⟩ := of_b2 h
    refine callD C hK hX hP hD hS hA (cX0_keep_met l ck ad _ _ _ _ h_r_1) vc_X0_keep tw_133 (by decide) rfl hl.1 (rest := []) rfl (Nat.le_of_ble_eq_true rfl) (by decide) dX0_changeRank_56 (fun H locs hP hD hS => ?_)
    have hP : va_P D vwCl (wD ck ad g_1) H := hP
    have hD : va_D A (wD ck ad g_1) := hD
    refine W.eq (g2 := F0 m 59 ls [.int r_1]) rfl ?_
    cases h
    exact W.iret hx hb hr (fun t ht _ => ⟨rfl, by rw [ht]; exact hP, hD, hS.F ht⟩) hS.2.2 dX0_changeRank_59
  rw [if_neg c_1] at h
  by_cases c_2 : x2 = 1
  · rw [if_pos c_2] at h
    refine sw_in hx hb 1 60 dX0_changeRank_1 c_2 (by decide) (by decide) (by decide) ?_
    refine lv_aload_n hx hb dX0_changeRank_60 rfl (lv_at hl 0 rfl) ?_
    refine lv_iload_n hx hb dX0_changeRank_61 rfl (lv_at hl 1 rfl) ?_
    refine lv_lload_n hx hb dX0_changeRank_62 rfl (lv_at hl 3 rfl) ?_
    refine q_absl C tw_107 (by decide) (Nat.le_of_ble_eq_true rfl) (by decide) hl.1 dX0_changeRank_63 ?_
    obtain ⟨r_2, g_2, h_r_2, h⟩ := of_b2 h
    refine callD C hK hX hP hD hS hA (cX0_keep_met l ck ad _ _ _ _ h_r_2) vc_X0_keep tw_133 (by decide) rfl hl.1 (rest := []) rfl (Nat.le_of_ble_eq_true rfl) (by decide) dX0_changeRank_66 (fun H locs hP hD hS => ?_)
    have hP : va_P D vwCl (wD ck ad g_2) H := hP
    have hD : va_D A (wD ck ad g_2) := hD
    refine W.eq (g2 := F0 m 69 ls [.int r_2]) rfl ?_
    cases h
    exact W.iret hx hb hr (fun t ht _ => ⟨rfl, by rw [ht]; exact hP, hD, hS.F ht⟩) hS.2.2 dX0_changeRank_69
  rw [if_neg c_2] at h
  by_cases c_3 : x2 = 2
  · rw [if_pos c_3] at h
    refine sw_in hx hb 2 70 dX0_changeRank_1 c_3 (by decide) (by decide) (by decide) ?_
    refine lv_lload_n hx hb dX0_changeRank_70 rfl (lv_at hl 3 rfl) ?_
    refine lv_lconst (v := 0) hx hb dX0_changeRank_71 (by decide) ?_
    refine lc_ge (tgt := 81) hx hb dX0_changeRank_72 dX0_changeRank_73 (by decide) (fun c_4 => ?_) (fun c_4 => ?_)
    · rw [if_pos c_4] at h
      refine lv_aload_n hx hb dX0_changeRank_81 rfl (lv_at hl 0 rfl) ?_
      refine lv_iload_n hx hb dX0_changeRank_82 rfl (lv_at hl 1 rfl) ?_
      refine lv_lload_n hx hb dX0_changeRank_83 rfl (lv_at hl 3 rfl) ?_
      obtain ⟨r_3, h_r_3, h⟩ := of_bind h
      refine pcall C (cX0_root_met l _ _ h_r_3) sc_X0_root tw_225 (by decide) rfl hl.1 (rest := [.int x1, .ref (ad 0)]) rfl (Nat.le_of_ble_eq_true rfl) (by decide) dX0_changeRank_84 ?_
      obtain ⟨r_4, g_4, h_r_4, h⟩ := of_b2 h
      refine callD C hK hX hP hD hS hA (cX0_keep_met l ck ad _ _ _ _ h_r_4) vc_X0_keep tw_133 (by decide) rfl hl.1 (rest := []) rfl (Nat.le_of_ble_eq_true rfl) (by decide) dX0_changeRank_87 (fun H locs hP hD hS => ?_)
      have hP : va_P D vwCl (wD ck ad g_4) H := hP
      have hD : va_D A (wD ck ad g_4) := hD
      refine W.eq (g2 := F0 m 90 ls [.int r_4]) rfl ?_
      cases h
      exact W.iret hx hb hr (fun t ht _ => ⟨rfl, by rw [ht]; exact hP, hD, hS.F ht⟩) hS.2.2 dX0_changeRank_90
    · rw [if_neg c_4] at h
      refine lv_bipush (v := (-3)) hx hb dX0_changeRank_76 (by decide) ?_
      refine lv_goto (tgt := 90) hx hb dX0_changeRank_78 (by decide) ?_
      cases h
      exact W.iret hx hb hr (fun t ht _ => ⟨rfl, by rw [ht]; exact hP, hD, hS.F ht⟩) hS.2.2 dX0_changeRank_90
  rw [if_neg c_3] at h
  by_cases c_5 : x2 = 3
  · rw [if_pos c_5] at h
    refine sw_in hx hb 3 91 dX0_changeRank_1 c_5 (by decide) (by decide) (by decide) ?_
    refine lv_aload_n hx hb dX0_changeRank_91 rfl (lv_at hl 0 rfl) ?_
    refine lv_iload_n hx hb dX0_changeRank_92 rfl (lv_at hl 1 rfl) ?_
    refine lv_iload_n hx hb dX0_changeRank_93 rfl (lv_at hl 2 rfl) ?_
    refine lv_lload_n hx hb dX0_changeRank_94 rfl (lv_at hl 3 rfl) ?_
    refine pcall C (cX0_wholeNear_met l _ _ _ rfl) sc_X0_wholeNear tw_228 (by decide) rfl hl.1 (rest := [.int x1, .ref (ad 0)]) rfl (Nat.le_of_ble_eq_true rfl) (by decide) dX0_changeRank_95 ?_
    obtain ⟨r_5, g_5, h_r_5, h⟩ := of_b2 h
    refine callD C hK hX hP hD hS hA (cX0_keep_met l ck ad _ _ _ _ h_r_5) vc_X0_keep tw_133 (by decide) rfl hl.1 (rest := []) rfl (Nat.le_of_ble_eq_true rfl) (by decide) dX0_changeRank_98 (fun H locs hP hD hS => ?_)
    have hP : va_P D vwCl (wD ck ad g_5) H := hP
    have hD : va_D A (wD ck ad g_5) := hD
    refine W.eq (g2 := F0 m 101 ls [.int r_5]) rfl ?_
    cases h
    exact W.iret hx hb hr (fun t ht _ => ⟨rfl, by rw [ht]; exact hP, hD, hS.F ht⟩) hS.2.2 dX0_changeRank_101
  rw [if_neg c_5] at h
  by_cases c_6 : x2 = 4
  · rw [if_pos c_6] at h
    refine sw_in hx hb 4 91 dX0_changeRank_1 c_6 (by decide) (by decide) (by decide) ?_
    refine lv_aload_n hx hb dX0_changeRank_91 rfl (lv_at hl 0 rfl) ?_
    refine lv_iload_n hx hb dX0_changeRank_92 rfl (lv_at hl 1 rfl) ?_
    refine lv_iload_n hx hb dX0_changeRank_93 rfl (lv_at hl 2 rfl) ?_
    refine lv_lload_n hx hb dX0_changeRank_94 rfl (lv_at hl 3 rfl) ?_
    refine pcall C (cX0_wholeNear_met l _ _ _ rfl) sc_X0_wholeNear tw_228 (by decide) rfl hl.1 (rest := [.int x1, .ref (ad 0)]) rfl (Nat.le_of_ble_eq_true rfl) (by decide) dX0_changeRank_95 ?_
    obtain ⟨r_6, g_6, h_r_6, h⟩ := of_b2 h
    refine callD C hK hX hP hD hS hA (cX0_keep_met l ck ad _ _ _ _ h_r_6) vc_X0_keep tw_133 (by decide) rfl hl.1 (rest := []) rfl (Nat.le_of_ble_eq_true rfl) (by decide) dX0_changeRank_98 (fun H locs hP hD hS => ?_)
    have hP : va_P D vwCl (wD ck ad g_6) H := hP
    have hD : va_D A (wD ck ad g_6) := hD
    refine W.eq (g2 := F0 m 101 ls [.int r_6]) rfl ?_
    cases h
    exact W.iret hx hb hr (fun t ht _ => ⟨rfl, by rw [ht]; exact hP, hD, hS.F ht⟩) hS.2.2 dX0_changeRank_101
  rw [if_neg c_6] at h
  by_cases c_7 : x2 = 5
  · rw [if_pos c_7] at h
    refine sw_in hx hb 5 91 dX0_changeRank_1 c_7 (by decide) (by decide) (by decide) ?_
    refine lv_aload_n hx hb dX0_changeRank_91 rfl (lv_at hl 0 rfl) ?_
    refine lv_iload_n hx hb dX0_changeRank_92 rfl (lv_at hl 1 rfl) ?_
    refine lv_iload_n hx hb dX0_changeRank_93 rfl (lv_at hl 2 rfl) ?_
    refine lv_lload_n hx hb dX0_changeRank_94 rfl (lv_at hl 3 rfl) ?_
    refine pcall C (cX0_wholeNear_met l _ _ _ rfl) sc_X0_wholeNear tw_228 (by decide) rfl hl.1 (rest := [.int x1, .ref (ad 0)]) rfl (Nat.le_of_ble_eq_true rfl) (by decide) dX0_changeRank_95 ?_
    obtain ⟨r_7, g_7, h_r_7, h⟩ := of_b2 h
    refine callD C hK hX hP hD hS hA (cX0_keep_met l ck ad _ _ _ _ h_r_7) vc_X0_keep tw_133 (by decide) rfl hl.1 (rest := []) rfl (Nat.le_of_ble_eq_true rfl) (by decide) dX0_changeRank_98 (fun H locs hP hD hS => ?_)
    have hP : va_P D vwCl (wD ck ad g_7) H := hP
    have hD : va_D A (wD ck ad g_7) := hD
    refine W.eq (g2 := F0 m 101 ls [.int r_7]) rfl ?_
    cases h
    exact W.iret hx hb hr (fun t ht _ => ⟨rfl, by rw [ht]; exact hP, hD, hS.F ht⟩) hS.2.2 dX0_changeRank_101
  rw [if_neg c_7] at h
  by_cases c_8 : x2 = 6
  · rw [if_pos c_8] at h
    refine sw_in hx hb 6 91 dX0_changeRank_1 c_8 (by decide) (by decide) (by decide) ?_
    refine lv_aload_n hx hb dX0_changeRank_91 rfl (lv_at hl 0 rfl) ?_
    refine lv_iload_n hx hb dX0_changeRank_92 rfl (lv_at hl 1 rfl) ?_
    refine lv_iload_n hx hb dX0_changeRank_93 rfl (lv_at hl 2 rfl) ?_
    refine lv_lload_n hx hb dX0_changeRank_94 rfl (lv_at hl 3 rfl) ?_
    refine pcall C (cX0_wholeNear_met l _ _ _ rfl) sc_X0_wholeNear tw_228 (by decide) rfl hl.1 (rest := [.int x1, .ref (ad 0)]) rfl (Nat.le_of_ble_eq_true rfl) (by decide) dX0_changeRank_95 ?_
    obtain ⟨r_8, g_8, h_r_8, h⟩ := of_b2 h
    refine callD C hK hX hP hD hS hA (cX0_keep_met l ck ad _ _ _ _ h_r_8) vc_X0_keep tw_133 (by decide) rfl hl.1 (rest := []) rfl (Nat.le_of_ble_eq_true rfl) (by decide) dX0_changeRank_98 (fun H locs hP hD hS => ?_)
    have hP : va_P D vwCl (wD ck ad g_8) H := hP
    have hD : va_D A (wD ck ad g_8) := hD
    refine W.eq (g2 := F0 m 101 ls [.int r_8]) rfl ?_
    cases h
    exact W.iret hx hb hr (fun t ht _ => ⟨rfl, by rw [ht]; exact hP, hD, hS.F ht⟩) hS.2.2 dX0_changeRank_101
  rw [if_neg c_8] at h
  by_cases c_9 : x2 = 7
  · rw [if_pos c_9] at h
    refine sw_in hx hb 7 102 dX0_changeRank_1 c_9 (by decide) (by decide) (by decide) ?_
    refine lv_aload_n hx hb dX0_changeRank_102 rfl (lv_at hl 0 rfl) ?_
    refine lv_iload_n hx hb dX0_changeRank_103 rfl (lv_at hl 1 rfl) ?_
    refine lv_lload_n hx hb dX0_changeRank_104 rfl (lv_at hl 3 rfl) ?_
    refine lv_lconst (v := 1) hx hb dX0_changeRank_105 (by decide) ?_
    refine lv_ladd hx hb dX0_changeRank_106 ?_
    obtain ⟨r_9, g_9, h_r_9, h⟩ := of_b2 h
    refine callD C hK hX hP hD hS hA (cX0_keep_met l ck ad _ _ _ _ h_r_9) vc_X0_keep tw_133 (by decide) rfl hl.1 (rest := []) rfl (Nat.le_of_ble_eq_true rfl) (by decide) dX0_changeRank_107 (fun H locs hP hD hS => ?_)
    have hP : va_P D vwCl (wD ck ad g_9) H := hP
    have hD : va_D A (wD ck ad g_9) := hD
    refine W.eq (g2 := F0 m 110 ls [.int r_9]) rfl ?_
    cases h
    exact W.iret hx hb hr (fun t ht _ => ⟨rfl, by rw [ht]; exact hP, hD, hS.F ht⟩) hS.2.2 dX0_changeRank_110
  rw [if_neg c_9] at h
  refine sw_def hx hb (tgt := 111) (n := 9) [0, 1, 2, 3, 4, 5, 6, 7] dX0_changeRank_1 (by decide) (by decide) (by decide) (List.forall_mem_cons.mpr ⟨c_1, List.forall_mem_cons.mpr ⟨c_2, List.forall_mem_cons.mpr ⟨c_3, List.forall_mem_cons.mpr ⟨c_5, List.forall_mem_cons.mpr ⟨c_6, List.forall_mem_cons.mpr ⟨c_7, List.forall_mem_cons.mpr ⟨c_8, List.forall_mem_cons.mpr ⟨c_9, fun _ h9 => nomatch h9⟩⟩⟩⟩⟩⟩⟩⟩) ?_
  refine lv_aload_n hx hb dX0_changeRank_111 rfl (lv_at hl 0 rfl) ?_
  refine lv_iload_n hx hb dX0_changeRank_112 rfl (lv_at hl 1 rfl) ?_
  refine lv_lload_n hx hb dX0_changeRank_113 rfl (lv_at hl 3 rfl) ?_
  refine lv_lconst (v := 1) hx hb dX0_changeRank_114 (by decide) ?_
  refine lv_lsub hx hb dX0_changeRank_115 ?_
  obtain ⟨r_10, g_10, h_r_10, h⟩ := of_b2 h
  refine callD C hK hX hP hD hS hA (cX0_keep_met l ck ad _ _ _ _ h_r_10) vc_X0_keep tw_133 (by decide) rfl hl.1 (rest := []) rfl (Nat.le_of_ble_eq_true rfl) (by decide) dX0_changeRank_116 (fun H locs hP hD hS => ?_)
  have hP : va_P D vwCl (wD ck ad g_10) H := hP
  have hD : va_D A (wD ck ad g_10) := hD
  refine W.eq (g2 := F0 m 119 ls [.int r_10]) rfl ?_
  cases h
  exact W.iret hx hb hr (fun t ht _ => ⟨rfl, by rw [ht]; exact hP, hD, hS.F ht⟩) hS.2.2 dX0_changeRank_119
theorem vc_X0_changeRank : VC RX0 yX0_changeRank cX0_changeRank 5 (some .int) 3 := ⟨tw_223, ts_3, tw_1, tw_224, by decide +kernel⟩
theorem cX0_changeRank_met (l : Launch) (ck : Nat → ClassId) (ad : Nat → Nat) (g : NL) (x1 : Int32) (x2 : Int32) (x3 : Int64) (u : Int32 × NL) (h : jX0_changeRank g x1 x2 x3 = some u) : HM l yX0_changeRank cX0_changeRank 5 (some .int) (rmz 5 121) [.ref (ad 0), .int x1, .int x2, .long x3] (tyD ck) (wD ck ad g) (some (.int u.1)) (wD ck ad u.2) :=
  hm_of (own := RX0) (by decide +kernel) rfl (Nat.le_of_ble_eq_true rfl) (fun D A p e s m below meth c ls C hA hK hX hP hD hS hl => wX0_changeRank_0 C hA hK hX g x1 x2 x3 ls _ _ u hP hD hS hl h)
