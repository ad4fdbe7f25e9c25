/-! RealDeskModel.pick(I)I -/
def jX2_pick (th : Int32) (mi : NI) (di : NL) (po : NI) (be : Int32) (mm : Int64) (ee : Int32) (fa : NI) (fb : NI) (x1 : Int32) : Option (Int32 × Int32 × NI × NL × NI × Int32 × Int64 × Int32 × NI × NI) := (bMv (jX2_take th mi di po be mm ee fa fb x1) fun th_1 mi_1 di_1 po_1 be_1 mm_1 ee_1 fa_1 fb_1 => some (0, th_1, mi_1, di_1, po_1, be_1, mm_1, ee_1, fa_1, fb_1))
set_option maxHeartbeats 4000000 in
set_option maxRecDepth 100000 in
theorem wX2_pick_0 {p : Program} {l : Launch} {e : Env} {s : State} {m : MethodId} {args : Array Value} {below : List Frame} {meth : Method} {c : Code} {D : va_G} {A : Nat → Prop} {ck : Nat → ClassId} {ad : Nat → Nat} (C : CX p s m args meth c RX2 cX2_pick 2 (some .int)) (hA : ∀ q, s.heap.size ≤ q → A q) (hK : va_K D vwCl (tyM ck) s) (hX : XT s) (th : Int32) (mi : NI) (di : NL) (po : NI) (be : Int32) (mm : Int64) (ee : Int32) (fa : NI) (fb : NI) (x1 : Int32) (ls : Array Slot) (H : Heap) (locs : List Loc) (u : Int32 × Int32 × NI × NL × NI × Int32 × Int64 × Int32 × NI × NI) (hP : va_P D vwCl (wM ck ad th mi di po be mm ee fa fb) H) (hD : va_D A (wM ck ad th mi di po be mm ee fa fb)) (hS : va_S A s.heap H locs) (hl : lv_has ls 2 [(0, .ref (ad 0)), (1, .int x1)]) (h : jX2_pick th mi di po be mm ee fa fb x1 = some u) : W p l e (rmz 1 21) s m args below meth c H locs 0 0 (MQ below (HQ D A (wM ck ad u.2.1 u.2.2.1 u.2.2.2.1 u.2.2.2.2.1 u.2.2.2.2.2.1 u.2.2.2.2.2.2.1 u.2.2.2.2.2.2.2.1 u.2.2.2.2.2.2.2.2.1 u.2.2.2.2.2.2.2.2.2) (some (.int u.1))) args s 0 0 A) (F0 m 0 ls []) := by
  obtain ⟨hx, hb, hml, hown, hg, hr, hlocks⟩ := id C
  unfold jX2_pick at h
  refine lv_aload_n hx hb dX2_pick_0 rfl (lv_at hl 0 rfl) ?_
  refine lv_iload_n hx hb dX2_pick_1 rfl (lv_at hl 1 rfl) ?_
  obtain ⟨th_1, mi_1, di_1, po_1, be_1, mm_1, ee_1, fa_1, fb_1, h_r_1, h⟩ := of_bMv h
  refine callMM C hK hX hP hD hS hA (cX2_take_met l ck ad _ _ _ _ _ _ _ _ _ _ _ h_r_1) vc_X2_take tw_470 (by decide) rfl hl.1 (rest := []) rfl (Nat.le_of_ble_eq_true rfl) (by decide) dX2_pick_2 (fun H locs hP hD hS => ?_)
  have hP : va_P D vwCl (wM ck ad th_1 mi_1 di_1 po_1 be_1 mm_1 ee_1 fa_1 fb_1) H := hP
  have hD : va_D A (wM ck ad th_1 mi_1 di_1 po_1 be_1 mm_1 ee_1 fa_1 fb_1) := hD
  refine W.eq (g2 := F0 m 5 ls []) rfl ?_
  refine lv_iconst (v := 0) hx hb dX2_pick_5 (by decide) ?_
  cases h
  exact W.iret hx hb hr (fun t ht _ => ⟨rfl, by rw [ht]; exact hP, hD, hS.F ht⟩) hS.2.2 dX2_pick_6
theorem vc_X2_pick : VC RX2 yX2_pick cX2_pick 2 (some .int) 1 := ⟨tw_484, ts_17, tw_2, tw_485, by decide +kernel⟩
theorem cX2_pick_met (l : Launch) (ck : Nat → ClassId) (ad : Nat → Nat) (th : Int32) (mi : NI) (di : NL) (po : NI) (be : Int32) (mm : Int64) (ee : Int32) (fa : NI) (fb : NI) (x1 : Int32) (u : Int32 × Int32 × NI × NL × NI × Int32 × Int64 × Int32 × NI × NI) (h : jX2_pick th mi di po be mm ee fa fb x1 = some u) : HM l yX2_pick cX2_pick 2 (some .int) (rmz 1 21) [.ref (ad 0), .int x1] (tyM ck) (wM ck ad th mi di po be mm ee fa fb) (some (.int u.1)) (wM ck ad u.2.1 u.2.2.1 u.2.2.2.1 u.2.2.2.2.1 u.2.2.2.2.2.1 u.2.2.2.2.2.2.1 u.2.2.2.2.2.2.2.1 u.2.2.2.2.2.2.2.2.1 u.2.2.2.2.2.2.2.2.2) :=
  hm_of (own := RX2) (by decide +kernel) rfl (Nat.le_of_ble_eq_true rfl) (fun D A p e s m below meth c ls C hA hK hX hP hD hS hl => wX2_pick_0 C hA hK hX th mi di po be mm ee fa fb x1 ls _ _ u hP hD hS hl h)

/-! RealDeskModel.combined(III)I -/
def jX2_combined (th : Int32) (mi : NI) (di : NL) (po : NI) (be : Int32) (mm : Int64) (ee : Int32) (fa : NI) (fb : NI) (x1 : Int32) (x2 : Int32) (x3 : Int32) : Option (Int32 × Int32 × NI × NL × NI × Int32 × Int64 × Int32 × NI × NI) := (if x1 = 0 then (bM (jX2_sum th mi di po be mm ee fa fb x2 x3 0) fun r_1 th_1 mi_1 di_1 po_1 be_1 mm_1 ee_1 fa_1 fb_1 => some (r_1, th_1, mi_1, di_1, po_1, be_1, mm_1, ee_1, fa_1, fb_1)) else (if x1 = 1 then (bM (jX2_sum th mi di po be mm ee fa fb x2 x3 1) fun r_2 th_2 mi_2 di_2 po_2 be_2 mm_2 ee_2 fa_2 fb_2 => some (r_2, th_2, mi_2, di_2, po_2, be_2, mm_2, ee_2, fa_2, fb_2)) else (if x1 = 2 then (bM (jX2_product th mi di po be mm ee fa fb x2 x3) fun r_3 th_3 mi_3 di_3 po_3 be_3 mm_3 ee_3 fa_3 fb_3 => some (r_3, th_3, mi_3, di_3, po_3, be_3, mm_3, ee_3, fa_3, fb_3)) else (if x1 = 3 then (if ok x3 16 = true then (if (di x3.toNatClampNeg) = 0 then some ((-2), th, mi, di, po, be, mm, ee, fa, fb) else (if ok x2 16 = true then (if ok x3 16 = true then (if ok x2 16 = true then (if ok x2 16 = true then (if ok x3 16 = true then (if ok x3 16 = true then (bM (jX2_quotient th mi di po be mm ee fa fb (if (mi x2.toNatClampNeg) = (mi x3.toNatClampNeg) then 0 else 1 : Int32) (di x2.toNatClampNeg) (po x2.toNatClampNeg) (di x3.toNatClampNeg) (po x3.toNatClampNeg)) fun r_4 th_4 mi_4 di_4 po_4 be_4 mm_4 ee_4 fa_4 fb_4 => some (r_4, th_4, mi_4, di_4, po_4, be_4, mm_4, ee_4, fa_4, fb_4)) else none) else none) else none) else none) else none) else none)) else none) else (if x1 = 4 then (if ok x3 16 = true then (if (di x3.toNatClampNeg) = 0 then some ((-2), th, mi, di, po, be, mm, ee, fa, fb) else (bM (jX2_rest th mi di po be mm ee fa fb x2 x3) fun r_5 th_5 mi_5 di_5 po_5 be_5 mm_5 ee_5 fa_5 fb_5 => some (r_5, th_5, mi_5, di_5, po_5, be_5, mm_5, ee_5, fa_5, fb_5))) else none) else (if x1 = 5 then (bM (jX2_compareNumbers th mi di po be mm ee fa fb x3 x2) fun r_6 th_6 mi_6 di_6 po_6 be_6 mm_6 ee_6 fa_6 fb_6 => (bM (jX2_pick th_6 mi_6 di_6 po_6 be_6 mm_6 ee_6 fa_6 fb_6 (if 0 ≤ r_6 then x2 else x3 : Int32)) fun r_7 th_7 mi_7 di_7 po_7 be_7 mm_7 ee_7 fa_7 fb_7 => some (r_7, th_7, mi_7, di_7, po_7, be_7, mm_7, ee_7, fa_7, fb_7))) else (if x1 = 6 then (bM (jX2_compareNumbers th mi di po be mm ee fa fb x3 x2) fun r_8 th_8 mi_8 di_8 po_8 be_8 mm_8 ee_8 fa_8 fb_8 => (bM (jX2_pick th_8 mi_8 di_8 po_8 be_8 mm_8 ee_8 fa_8 fb_8 (if r_8 ≤ 0 then x2 else x3 : Int32)) fun r_9 th_9 mi_9 di_9 po_9 be_9 mm_9 ee_9 fa_9 fb_9 => some (r_9, th_9, mi_9, di_9, po_9, be_9, mm_9, ee_9, fa_9, fb_9))) else (if x1 = 7 then (bM (jX2_sumError th mi di po be mm ee fa fb x2 x3) fun r_10 th_10 mi_10 di_10 po_10 be_10 mm_10 ee_10 fa_10 fb_10 => some (r_10, th_10, mi_10, di_10, po_10, be_10, mm_10, ee_10, fa_10, fb_10)) else (bM (jX2_productError th mi di po be mm ee fa fb x2 x3) fun r_11 th_11 mi_11 di_11 po_11 be_11 mm_11 ee_11 fa_11 fb_11 => some (r_11, th_11, mi_11, di_11, po_11, be_11, mm_11, ee_11, fa_11, fb_11))))))))))
set_option maxHeartbeats 4000000 in
set_option maxRecDepth 100000 in
theorem wX2_combined_0 {p : Program} {l : Launch} {e : Env} {s : State} {m : MethodId} {args : Array Value} {below : List Frame} {meth : Method} {c : Code} {D : va_G} {A : Nat → Prop} {ck : Nat → ClassId} {ad : Nat → Nat} (C : CX p s m args meth c RX2 cX2_combined 4 (some .int)) (hA : ∀ q, s.heap.size ≤ q → A q) (hK : va_K D vwCl (tyM ck) s) (hX : XT s) (th : Int32) (mi : NI) (di : NL) (po : NI) (be : Int32) (mm : Int64) (ee : Int32) (fa : NI) (fb : NI) (x1 : Int32) (x2 : Int32) (x3 : Int32) (ls : Array Slot) (H : Heap) (locs : List Loc) (u : Int32 × Int32 × NI × NL × NI × Int32 × Int64 × Int32 × NI × NI) (hP : va_P D vwCl (wM ck ad th mi di po be mm ee fa fb) H) (hD : va_D A (wM ck ad th mi di po be mm ee fa fb)) (hS : va_S A s.heap H locs) (hl : lv_has ls 4 [(0, .ref (ad 0)), (1, .int x1), (2, .int x2), (3, .int x3)]) (h : jX2_combined th mi di po be mm ee fa fb x1 x2 x3 = some u) : W p l e (rmz 5 118) s m args below meth c H locs 0 0 (MQ below (HQ D A (wM ck ad u.2.1 u.2.2.1 u.2.2.2.1 u.2.2.2.2.1 u.2.2.2.2.2.1 u.2.2.2.2.2.2.1 u.2.2.2.2.2.2.2.1 u.2.2.2.2.2.2.2.2.1 u.2.2.2.2.2.2.2.2.2) (some (.int u.1))) args s 0 0 A) (F0 m 0 ls []) := by
  obtain ⟨hx, hb, hml, hown, hg, hr, hlocks⟩ := id C
  unfold jX2_combined at h
  refine lv_iload_n hx hb dX2_combined_0 rfl (lv_at hl 1 rfl) ?_
  by_cases c_1 : x1 = 0
  · rw [if_pos c_1] at h
    refine sw_in hx hb 0 48 dX2_combined_1 c_1 (by decide) (by decide) (by decide) ?_
    refine lv_aload_n hx hb dX2_combined_48 rfl (lv_at hl 0 rfl) ?_
    refine lv_iload_n hx hb dX2_combined_49 rfl (lv_at hl 2 rfl) ?_
    refine lv_iload_n hx hb dX2_combined_50 rfl (lv_at hl 3 rfl) ?_
    refine lv_iconst (v := 0) hx hb dX2_combined_51 (by decide) ?_
    obtain ⟨r_1, th_1, mi_1, di_1, po_1, be_1, mm_1, ee_1, fa_1, fb_1, h_r_1, h⟩ := of_bM h
    refine callMM C hK hX hP hD hS hA (cX2_sum_met l ck ad _ _ _ _ _ _ _ _ _ _ _ _ _ h_r_1) vc_X2_sum tw_415 (by decide) rfl hl.1 (rest := []) rfl (Nat.le_of_ble_eq_true rfl) (by decide) dX2_combined_52 (fun H locs hP hD hS => ?_)
    have hP : va_P D vwCl (wM ck ad th_1 mi_1 di_1 po_1 be_1 mm_1 ee_1 fa_1 fb_1) H := hP
    have hD : va_D A (wM ck ad th_1 mi_1 di_1 po_1 be_1 mm_1 ee_1 fa_1 fb_1) := hD
    refine W.eq (g2 := F0 m 55 ls [.int r_1]) rfl ?_
    cases h
    exact W.iret hx hb hr (fun t ht _ => ⟨rfl, by rw [ht]; exact hP, hD, hS.F ht⟩) hS.2.2 dX2_combined_55
  rw [if_neg c_1] at h
  by_cases c_2 : x1 = 1
  · rw [if_pos c_2] at h
    refine sw_in hx hb 1 56 dX2_combined_1 c_2 (by decide) (by decide) (by decide) ?_
    refine lv_aload_n hx hb dX2_combined_56 rfl (lv_at hl 0 rfl) ?_
    refine lv_iload_n hx hb dX2_combined_57 rfl (lv_at hl 2 rfl) ?_
    refine lv_iload_n hx hb dX2_combined_58 rfl (lv_at hl 3 rfl) ?_
    refine lv_iconst (v := 1) hx hb dX2_combined_59 (by decide) ?_
    obtain ⟨r_2, th_2, mi_2, di_2, po_2, be_2, mm_2, ee_2, fa_2, fb_2, h_r_2, h⟩ := of_bM h
    refine callMM C hK hX hP hD hS hA (cX2_sum_met l ck ad _ _ _ _ _ _ _ _ _ _ _ _ _ h_r_2) vc_X2_sum tw_415 (by decide) rfl hl.1 (rest := []) rfl (Nat.le_of_ble_eq_true rfl) (by decide) dX2_combined_60 (fun H locs hP hD hS => ?_)
    have hP : va_P D vwCl (wM ck ad th_2 mi_2 di_2 po_2 be_2 mm_2 ee_2 fa_2 fb_2) H := hP
    have hD : va_D A (wM ck ad th_2 mi_2 di_2 po_2 be_2 mm_2 ee_2 fa_2 fb_2) := hD
    refine W.eq (g2 := F0 m 63 ls [.int r_2]) rfl ?_
    cases h
    exact W.iret hx hb hr (fun t ht _ => ⟨rfl, by rw [ht]; exact hP, hD, hS.F ht⟩) hS.2.2 dX2_combined_63
  rw [if_neg c_2] at h
  by_cases c_3 : x1 = 2
  · rw [if_pos c_3] at h
    refine sw_in hx hb 2 64 dX2_combined_1 c_3 (by decide) (by decide) (by decide) ?_
    refine lv_aload_n hx hb dX2_combined_64 rfl (lv_at hl 0 rfl) ?_
    refine lv_iload_n hx hb dX2_combined_65 rfl (lv_at hl 2 rfl) ?_
    refine lv_iload_n hx hb dX2_combined_66 rfl (lv_at hl 3 rfl) ?_
    obtain ⟨r_3, th_3, mi_3, di_3, po_3, be_3, mm_3, ee_3, fa_3, fb_3, h_r_3, h⟩ := of_bM h
    refine callMM C hK hX hP hD hS hA (cX2_product_met l ck ad _ _ _ _ _ _ _ _ _ _ _ _ h_r_3) vc_X2_product tw_444 (by decide) rfl hl.1 (rest := []) rfl (Nat.le_of_ble_eq_true rfl) (by decide) dX2_combined_67 (fun H locs hP hD hS => ?_)
    have hP : va_P D vwCl (wM ck ad th_3 mi_3 di_3 po_3 be_3 mm_3 ee_3 fa_3 fb_3) H := hP
    have hD : va_D A (wM ck ad th_3 mi_3 di_3 po_3 be_3 mm_3 ee_3 fa_3 fb_3) := hD
    refine W.eq (g2 := F0 m 70 ls [.int r_3]) rfl ?_
    cases h
    exact W.iret hx hb hr (fun t ht _ => ⟨rfl, by rw [ht]; exact hP, hD, hS.F ht⟩) hS.2.2 dX2_combined_70
  rw [if_neg c_3] at h
  by_cases c_4 : x1 = 3
  · rw [if_pos c_4] at h
    refine sw_in hx hb 3 71 dX2_combined_1 c_4 (by decide) (by decide) (by decide) ?_
    refine lv_aload_n hx hb dX2_combined_71 rfl (lv_at hl 0 rfl) ?_
    refine va_get hx hb hg inX2 hown hK hP 0 rfl rfl 2 (by decide) (hg _ tw_328) (fun _ h9 => h9) rfl dX2_combined_72 ?_
    refine lv_iload_n hx hb dX2_combined_75 rfl (lv_at hl 3 rfl) ?_
    obtain ⟨z_76, h⟩ := of_ite h
    refine va_lald hx hb hK hP 2 1 rfl rfl (ok_in z_76) dX2_combined_76 ?_
    refine lv_lconst (v := 0) hx hb dX2_combined_77 (by decide) ?_
    refine lc_ne (tgt := 87) hx hb dX2_combined_78 dX2_combined_79 (by decide) (fun c_5 => ?_) (fun c_5 => ?_)
    · rw [if_neg c_5] at h
      refine lv_aload_n hx hb dX2_combined_87 rfl (lv_at hl 0 rfl) ?_
      refine lv_aload_n hx hb dX2_combined_88 rfl (lv_at hl 0 rfl) ?_
      refine va_get hx hb hg inX2 hown hK hP 0 rfl rfl 1 (by decide) (hg _ tw_327) (fun _ h9 => h9) rfl dX2_combined_89 ?_
      refine lv_iload_n hx hb dX2_combined_92 rfl (lv_at hl 2 rfl) ?_
      obtain ⟨z_93, h⟩ := of_ite h
      refine va_zald hx hb hK hP 1 2 rfl rfl (ok_in z_93) dX2_combined_93 ?_
      refine lv_aload_n hx hb dX2_combined_94 rfl (lv_at hl 0 rfl) ?_
      refine va_get hx hb hg inX2 hown hK hP 0 rfl rfl 1 (by decide) (hg _ tw_327) (fun _ h9 => h9) rfl dX2_combined_95 ?_
      refine lv_iload_n hx hb dX2_combined_98 rfl (lv_at hl 3 rfl) ?_
      obtain ⟨z_99, h⟩ := of_ite h
      refine va_zald hx hb hK hP 1 2 rfl rfl (ok_in z_99) dX2_combined_99 ?_
      refine rg_i (pj := 108) (v := (if (mi x2.toNatClampNeg) = (mi x3.toNatClampNeg) then 0 else 1 : Int32)) (ls := ls) (rest := [.ref (ad 0)]) (fun kJ => ?_) ?_
      · refine lv_icmp_eq (tgt := 107) hx hb dX2_combined_100 (by decide) (fun c_6 => ?_) (fun c_6 => ?_)
        · refine lv_iconst (v := 0) hx hb dX2_combined_107 (by decide) ?_
          exact kJ _ (by rw [if_pos c_6])
        · refine lv_iconst (v := 1) hx hb dX2_combined_103 (by decide) ?_
          refine lv_goto (tgt := 108) hx hb dX2_combined_104 (by decide) ?_
          exact kJ _ (by rw [if_neg c_6])
      refine lv_aload_n hx hb dX2_combined_108 rfl (lv_at hl 0 rfl) ?_
      refine va_get hx hb hg inX2 hown hK hP 0 rfl rfl 2 (by decide) (hg _ tw_328) (fun _ h9 => h9) rfl dX2_combined_109 ?_
      refine lv_iload_n hx hb dX2_combined_112 rfl (lv_at hl 2 rfl) ?_
      obtain ⟨z_113, h⟩ := of_ite h
      refine va_lald hx hb hK hP 2 1 rfl rfl (ok_in z_113) dX2_combined_113 ?_
      refine lv_aload_n hx hb dX2_combined_114 rfl (lv_at hl 0 rfl) ?_
      refine va_get hx hb hg inX2 hown hK hP 0 rfl rfl 3 (by decide) (hg _ tw_329) (fun _ h9 => h9) rfl dX2_combined_115 ?_
      refine lv_iload_n hx hb dX2_combined_118 rfl (lv_at hl 2 rfl) ?_
      obtain ⟨z_119, h⟩ := of_ite h
      refine va_iald hx hb hK hP 3 0 rfl rfl (ok_in z_119) dX2_combined_119 ?_
      refine lv_aload_n hx hb dX2_combined_120 rfl (lv_at hl 0 rfl) ?_
      refine va_get hx hb hg inX2 hown hK hP 0 rfl rfl 2 (by decide) (hg _ tw_328) (fun _ h9 => h9) rfl dX2_combined_121 ?_
      refine lv_iload_n hx hb dX2_combined_124 rfl (lv_at hl 3 rfl) ?_
      obtain ⟨z_125, h⟩ := of_ite h
      refine va_lald hx hb hK hP 2 1 rfl rfl (ok_in z_125) dX2_combined_125 ?_
      refine lv_aload_n hx hb dX2_combined_126 rfl (lv_at hl 0 rfl) ?_
      refine va_get hx hb hg inX2 hown hK hP 0 rfl rfl 3 (by decide) (hg _ tw_329) (fun _ h9 => h9) rfl dX2_combined_127 ?_
      refine lv_iload_n hx hb dX2_combined_130 rfl (lv_at hl 3 rfl) ?_
      obtain ⟨z_131, h⟩ := of_ite h
      refine va_iald hx hb hK hP 3 0 rfl rfl (ok_in z_131) dX2_combined_131 ?_
      obtain ⟨r_4, th_4, mi_4, di_4, po_4, be_4, mm_4, ee_4, fa_4, fb_4, h_r_4, h⟩ := of_bM h
      refine callMM C hK hX hP hD hS hA (cX2_quotient_met l ck ad _ _ _ _ _ _ _ _ _ _ _ _ _ _ _ h_r_4) vc_X2_quotient tw_461 (by decide) rfl hl.1 (rest := []) rfl (Nat.le_of_ble_eq_true rfl) (by decide) dX2_combined_132 (fun H locs hP hD hS => ?_)
      have hP : va_P D vwCl (wM ck ad th_4 mi_4 di_4 po_4 be_4 mm_4 ee_4 fa_4 fb_4) H := hP
      have hD : va_D A (wM ck ad th_4 mi_4 di_4 po_4 be_4 mm_4 ee_4 fa_4 fb_4) := hD
      refine W.eq (g2 := F0 m 135 ls [.int r_4]) rfl ?_
      cases h
      exact W.iret hx hb hr (fun t ht _ => ⟨rfl, by rw [ht]; exact hP, hD, hS.F ht⟩) hS.2.2 dX2_combined_135
    · rw [if_pos c_5] at h
      refine lv_bipush (v := (-2)) hx hb dX2_combined_82 (by decide) ?_
      refine lv_goto (tgt := 135) hx hb dX2_combined_84 (by decide) ?_
      cases h
      exact W.iret hx hb hr (fun t ht _ => ⟨rfl, by rw [ht]; exact hP, hD, hS.F ht⟩) hS.2.2 dX2_combined_135
  rw [if_neg c_4] at h
  by_cases c_7 : x1 = 4
  · rw [if_pos c_7] at h
    refine sw_in hx hb 4 136 dX2_combined_1 c_7 (by decide) (by decide) (by decide) ?_
    refine lv_aload_n hx hb dX2_combined_136 rfl (lv_at hl 0 rfl) ?_
    refine va_get hx hb hg inX2 hown hK hP 0 rfl rfl 2 (by decide) (hg _ tw_328) (fun _ h9 => h9) rfl dX2_combined_137 ?_
    refine lv_iload_n hx hb dX2_combined_140 rfl (lv_at hl 3 rfl) ?_
    obtain ⟨z_141, h⟩ := of_ite h
    refine va_lald hx hb hK hP 2 1 rfl rfl (ok_in z_141) dX2_combined_141 ?_
    refine lv_lconst (v := 0) hx hb dX2_combined_142 (by decide) ?_
    refine lc_ne (tgt := 152) hx hb dX2_combined_143 dX2_combined_144 (by decide) (fun c_8 => ?_) (fun c_8 => ?_)
    · rw [if_neg c_8] at h
      refine lv_aload_n hx hb dX2_combined_152 rfl (lv_at hl 0 rfl) ?_
      refine lv_iload_n hx hb dX2_combined_153 rfl (lv_at hl 2 rfl) ?_
      refine lv_iload_n hx hb dX2_combined_154 rfl (lv_at hl 3 rfl) ?_
      obtain ⟨r_5, th_5, mi_5, di_5, po_5, be_5, mm_5, ee_5, fa_5, fb_5, h_r_5, h⟩ := of_bM h
      refine callMM C hK hX hP hD hS hA (cX2_rest_met l ck ad _ _ _ _ _ _ _ _ _ _ _ _ h_r_5) vc_X2_rest tw_466 (by decide) rfl hl.1 (rest := []) rfl (Nat.le_of_ble_eq_true rfl) (by decide) dX2_combined_155 (fun H locs hP hD hS => ?_)
      have hP : va_P D vwCl (wM ck ad th_5 mi_5 di_5 po_5 be_5 mm_5 ee_5 fa_5 fb_5) H := hP
      have hD : va_D A (wM ck ad th_5 mi_5 di_5 po_5 be_5 mm_5 ee_5 fa_5 fb_5) := hD
      refine W.eq (g2 := F0 m 158 ls [.int r_5]) rfl ?_
      cases h
      exact W.iret hx hb hr (fun t ht _ => ⟨rfl, by rw [ht]; exact hP, hD, hS.F ht⟩) hS.2.2 dX2_combined_158
    · rw [if_pos c_8] at h
      refine lv_bipush (v := (-2)) hx hb dX2_combined_147 (by decide) ?_
      refine lv_goto (tgt := 158) hx hb dX2_combined_149 (by decide) ?_
      cases h
      exact W.iret hx hb hr (fun t ht _ => ⟨rfl, by rw [ht]; exact hP, hD, hS.F ht⟩) hS.2.2 dX2_combined_158
  rw [if_neg c_7] at h
  by_cases c_9 : x1 = 5
  · rw [if_pos c_9] at h
    refine sw_in hx hb 5 159 dX2_combined_1 c_9 (by decide) (by decide) (by decide) ?_
    refine lv_aload_n hx hb dX2_combined_159 rfl (lv_at hl 0 rfl) ?_
    refine lv_aload_n hx hb dX2_combined_160 rfl (lv_at hl 0 rfl) ?_
    refine lv_iload_n hx hb dX2_combined_161 rfl (lv_at hl 3 rfl) ?_
    refine lv_iload_n hx hb dX2_combined_162 rfl (lv_at hl 2 rfl) ?_
    obtain ⟨r_6, th_6, mi_6, di_6, po_6, be_6, mm_6, ee_6, fa_6, fb_6, h_r_6, h⟩ := of_bM h
    refine callMM C hK hX hP hD hS hA (cX2_compareNumbers_met l ck ad _ _ _ _ _ _ _ _ _ _ _ _ h_r_6) vc_X2_compareNumbers tw_474 (by decide) rfl hl.1 (rest := [.ref (ad 0)]) rfl (Nat.le_of_ble_eq_true rfl) (by decide) dX2_combined_163 (fun H locs hP hD hS => ?_)
    have hP : va_P D vwCl (wM ck ad th_6 mi_6 di_6 po_6 be_6 mm_6 ee_6 fa_6 fb_6) H := hP
    have hD : va_D A (wM ck ad th_6 mi_6 di_6 po_6 be_6 mm_6 ee_6 fa_6 fb_6) := hD
    refine W.eq (g2 := F0 m 166 ls [.int r_6, .ref (ad 0)]) rfl ?_
    refine rg_i (pj := 174) (v := (if 0 ≤ r_6 then x2 else x3 : Int32)) (ls := ls) (rest := [.ref (ad 0)]) (fun kJ => ?_) ?_
    · refine lv_if_ge (tgt := 173) hx hb dX2_combined_166 (by decide) (fun c_10 => ?_) (fun c_10 => ?_)
      · refine lv_iload_n hx hb dX2_combined_173 rfl (lv_at hl 2 rfl) ?_
        exact kJ _ (by rw [if_pos c_10])
      · refine lv_iload_n hx hb dX2_combined_169 rfl (lv_at hl 3 rfl) ?_
        refine lv_goto (tgt := 174) hx hb dX2_combined_170 (by decide) ?_
        exact kJ _ (by rw [if_neg c_10])
    obtain ⟨r_7, th_7, mi_7, di_7, po_7, be_7, mm_7, ee_7, fa_7, fb_7, h_r_7, h⟩ := of_bM h
    refine callMM C hK hX hP hD hS hA (cX2_pick_met l ck ad _ _ _ _ _ _ _ _ _ _ _ h_r_7) vc_X2_pick tw_482 (by decide) rfl hl.1 (rest := []) rfl (Nat.le_of_ble_eq_true rfl) (by decide) dX2_combined_174 (fun H locs hP hD hS => ?_)
    have hP : va_P D vwCl (wM ck ad th_7 mi_7 di_7 po_7 be_7 mm_7 ee_7 fa_7 fb_7) H := hP
    have hD : va_D A (wM ck ad th_7 mi_7 di_7 po_7 be_7 mm_7 ee_7 fa_7 fb_7) := hD
    refine W.eq (g2 := F0 m 177 ls [.int r_7]) rfl ?_
    cases h
    exact W.iret hx hb hr (fun t ht _ => ⟨rfl, by rw [ht]; exact hP, hD, hS.F ht⟩) hS.2.2 dX2_combined_177
  rw [if_neg c_9] at h
  by_cases c_11 : x1 = 6
  · rw [if_pos c_11] at h
    refine sw_in hx hb 6 178 dX2_combined_1 c_11 (by decide) (by decide) (by decide) ?_
    refine lv_aload_n hx hb dX2_combined_178 rfl (lv_at hl 0 rfl) ?_
    refine lv_aload_n hx hb dX2_combined_179 rfl (lv_at hl 0 rfl) ?_
    refine lv_iload_n hx hb dX2_combined_180 rfl (lv_at hl 3 rfl) ?_
    refine lv_iload_n hx hb dX2_combined_181 rfl (lv_at hl 2 rfl) ?_
    obtain ⟨r_8, th_8, mi_8, di_8, po_8, be_8, mm_8, ee_8, fa_8, fb_8, h_r_8, h⟩ := of_bM h
    refine callMM C hK hX hP hD hS hA (cX2_compareNumbers_met l ck ad _ _ _ _ _ _ _ _ _ _ _ _ h_r_8) vc_X2_compareNumbers tw_474 (by decide) rfl hl.1 (rest := [.ref (ad 0)]) rfl (Nat.le_of_ble_eq_true rfl) (by decide) dX2_combined_182 (fun H locs hP hD hS => ?_)
    have hP : va_P D vwCl (wM ck ad th_8 mi_8 di_8 po_8 be_8 mm_8 ee_8 fa_8 fb_8) H := hP
    have hD : va_D A (wM ck ad th_8 mi_8 di_8 po_8 be_8 mm_8 ee_8 fa_8 fb_8) := hD
    refine W.eq (g2 := F0 m 185 ls [.int r_8, .ref (ad 0)]) rfl ?_
    refine rg_i (pj := 193) (v := (if r_8 ≤ 0 then x2 else x3 : Int32)) (ls := ls) (rest := [.ref (ad 0)]) (fun kJ => ?_) ?_
    · refine lv_if_le (tgt := 192) hx hb dX2_combined_185 (by decide) (fun c_12 => ?_) (fun c_12 => ?_)
      · refine lv_iload_n hx hb dX2_combined_192 rfl (lv_at hl 2 rfl) ?_
        exact kJ _ (by rw [if_pos c_12])
      · refine lv_iload_n hx hb dX2_combined_188 rfl (lv_at hl 3 rfl) ?_
        refine lv_goto (tgt := 193) hx hb dX2_combined_189 (by decide) ?_
        exact kJ _ (by rw [if_neg c_12])
    obtain ⟨r_9, th_9, mi_9, di_9, po_9, be_9, mm_9, ee_9, fa_9, fb_9, h_r_9, h⟩ := of_bM h
    refine callMM C hK hX hP hD hS hA (cX2_pick_met l ck ad _ _ _ _ _ _ _ _ _ _ _ h_r_9) vc_X2_pick tw_482 (by decide) rfl hl.1 (rest := []) rfl (Nat.le_of_ble_eq_true rfl) (by decide) dX2_combined_193 (fun H locs hP hD hS => ?_)
    have hP : va_P D vwCl (wM ck ad th_9 mi_9 di_9 po_9 be_9 mm_9 ee_9 fa_9 fb_9) H := hP
    have hD : va_D A (wM ck ad th_9 mi_9 di_9 po_9 be_9 mm_9 ee_9 fa_9 fb_9) := hD
    refine W.eq (g2 := F0 m 196 ls [.int r_9]) rfl ?_
    cases h
    exact W.iret hx hb hr (fun t ht _ => ⟨rfl, by rw [ht]; exact hP, hD, hS.F ht⟩) hS.2.2 dX2_combined_196
  rw [if_neg c_11] at h
  by_cases c_13 : x1 = 7
  · rw [if_pos c_13] at h
    refine sw_in hx hb 7 197 dX2_combined_1 c_13 (by decide) (by decide) (by decide) ?_
    refine lv_aload_n hx hb dX2_combined_197 rfl (lv_at hl 0 rfl) ?_
    refine lv_iload_n hx hb dX2_combined_198 rfl (lv_at hl 2 rfl) ?_
    refine lv_iload_n hx hb dX2_combined_199 rfl (lv_at hl 3 rfl) ?_
    obtain ⟨r_10, th_10, mi_10, di_10, po_10, be_10, mm_10, ee_10, fa_10, fb_10, h_r_10, h⟩ := of_bM h
    refine callMM C hK hX hP hD hS hA (cX2_sumError_met l ck ad _ _ _ _ _ _ _ _ _ _ _ _ h_r_10) vc_X2_sumError tw_486 (by decide) rfl hl.1 (rest := []) rfl (Nat.le_of_ble_eq_true rfl) (by decide) dX2_combined_200 (fun H locs hP hD hS => ?_)
    have hP : va_P D vwCl (wM ck ad th_10 mi_10 di_10 po_10 be_10 mm_10 ee_10 fa_10 fb_10) H := hP
    have hD : va_D A (wM ck ad th_10 mi_10 di_10 po_10 be_10 mm_10 ee_10 fa_10 fb_10) := hD
    refine W.eq (g2 := F0 m 203 ls [.int r_10]) rfl ?_
    cases h
    exact W.iret hx hb hr (fun t ht _ => ⟨rfl, by rw [ht]; exact hP, hD, hS.F ht⟩) hS.2.2 dX2_combined_203
  rw [if_neg c_13] at h
  refine sw_def hx hb (tgt := 204) (n := 8) [0, 1, 2, 3, 4, 5, 6, 7] dX2_combined_1 (by decide) (by decide) (by decide) (List.forall_mem_cons.mpr ⟨c_1, List.forall_mem_cons.mpr ⟨c_2, List.forall_mem_cons.mpr ⟨c_3, List.forall_mem_cons.mpr ⟨c_4, List.forall_mem_cons.mpr ⟨c_7, List.forall_mem_cons.mpr ⟨c_9, List.forall_mem_cons.mpr ⟨c_11, List.forall_mem_cons.mpr ⟨c_13, fun _ h9 => nomatch h9⟩⟩⟩⟩⟩⟩⟩⟩) ?_
  refine lv_aload_n hx hb dX2_combined_204 rfl (lv_at hl 0 rfl) ?_
  refine lv_iload_n hx hb dX2_combined_205 rfl (lv_at hl 2 rfl) ?_
  refine lv_iload_n hx hb dX2_combined_206 rfl (lv_at hl 3 rfl) ?_
  obtain ⟨r_11, th_11, mi_11, di_11, po_11, be_11, mm_11, ee_11, fa_11, fb_11, h_r_11, h⟩ := of_bM h
  refine callMM C hK hX hP hD hS hA (cX2_productError_met l ck ad _ _ _ _ _ _ _ _ _ _ _ _ h_r_11) vc_X2_productError tw_498 (by decide) rfl hl.1 (rest := []) rfl (Nat.le_of_ble_eq_true rfl) (by decide) dX2_combined_207 (fun H locs hP hD hS => ?_)
  have hP : va_P D vwCl (wM ck ad th_11 mi_11 di_11 po_11 be_11 mm_11 ee_11 fa_11 fb_11) H := hP
  have hD : va_D A (wM ck ad th_11 mi_11 di_11 po_11 be_11 mm_11 ee_11 fa_11 fb_11) := hD
  refine W.eq (g2 := F0 m 210 ls [.int r_11]) rfl ?_
  cases h
  exact W.iret hx hb hr (fun t ht _ => ⟨rfl, by rw [ht]; exact hP, hD, hS.F ht⟩) hS.2.2 dX2_combined_210
theorem vc_X2_combined : VC RX2 yX2_combined cX2_combined 4 (some .int) 3 := ⟨tw_413, ts_7, tw_2, tw_414, by decide +kernel⟩
theorem cX2_combined_met (l : Launch) (ck : Nat → ClassId) (ad : Nat → Nat) (th : Int32) (mi : NI) (di : NL) (po : NI) (be : Int32) (mm : Int64) (ee : Int32) (fa : NI) (fb : NI) (x1 : Int32) (x2 : Int32) (x3 : Int32) (u : Int32 × Int32 × NI × NL × NI × Int32 × Int64 × Int32 × NI × NI) (h : jX2_combined th mi di po be mm ee fa fb x1 x2 x3 = some u) : HM l yX2_combined cX2_combined 4 (some .int) (rmz 5 118) [.ref (ad 0), .int x1, .int x2, .int x3] (tyM ck) (wM ck ad th mi di po be mm ee fa fb) (some (.int u.1)) (wM ck ad u.2.1 u.2.2.1 u.2.2.2.1 u.2.2.2.2.1 u.2.2.2.2.2.1 u.2.2.2.2.2.2.1 u.2.2.2.2.2.2.2.1 u.2.2.2.2.2.2.2.2.1 u.2.2.2.2.2.2.2.2.2) :=
  hm_of (own := RX2) (by decide +kernel) rfl (Nat.le_of_ble_eq_true rfl) (fun D A p e s m below meth c ls C hA hK hX hP hD hS hl => wX2_combined_0 C hA hK hX th mi di po be mm ee fa fb x1 x2 x3 ls _ _ u hP hD hS hl h)

/-! RealDeskModel.root(I)I -/
def jX2_root_B180 (th : Int32) (mi : NI) (di : NL) (po : NI) (be : Int32) (mm : Int64) (ee : Int32) (fa : NI) (fb : NI) (x4 : Int32) (x5 : Int32) (x6 : Int64) (x8 : Int32) : Option (Int32 × Int32 × NI × NL × NI × Int32 × Int64 × Int32 × NI × NI) := (Option.bind (jX1_set fa x6) fun fa_6 => (bM (jX2_nearest th mi di po be mm ee fa_6 fb 0 ((x4 - x5) / 2) x8) fun r_7 th_7 mi_7 di_7 po_7 be_7 mm_7 ee_7 fa_7 fb_7 => some (r_7, th_7, mi_7, di_7, po_7, be_7, mm_7, ee_7, fa_7, fb_7)))
set_option maxHeartbeats 4000000 in
set_option maxRecDepth 100000 in
theorem wX2_root_B180 {p : Program} {l : Launch} {e : Env} {s : State} {m : MethodId} {args : Array Value} {below : List Frame} {meth : Method} {c : Code} {D : va_G} {A : Nat → Prop} {ck : Nat → ClassId} {ad : Nat → Nat} (C : CX p s m args meth c RX2 cX2_root 11 (some .int)) (hA : ∀ q, s.heap.size ≤ q → A q) (hK : va_K D vwCl (tyM ck) s) (hX : XT s) (th : Int32) (mi : NI) (di : NL) (po : NI) (be : Int32) (mm : Int64) (ee : Int32) (fa : NI) (fb : NI) (x4 : Int32) (x5 : Int32) (x6 : Int64) (x8 : Int32) (ls : Array Slot) (H : Heap) (locs : List Loc) (u : Int32 × Int32 × NI × NL × NI × Int32 × Int64 × Int32 × NI × NI) (hP : va_P D vwCl (wM ck ad th mi di po be mm ee fa fb) H) (hD : va_D A (wM ck ad th mi di po be mm ee fa fb)) (hS : va_S A s.heap H locs) (hl : lv_has ls 11 [(0, .ref (ad 0)), (4, .int x4), (5, .int x5), (6, .long x6), (8, .int x8)]) (h : jX2_root_B180 th mi di po be mm ee fa fb x4 x5 x6 x8 = some u) : W p l e (rmz 3 71) s m args below meth c H locs 0 0 (MQ below (HQ D A (wM ck ad u.2.1 u.2.2.1 u.2.2.2.1 u.2.2.2.2.1 u.2.2.2.2.2.1 u.2.2.2.2.2.2.1 u.2.2.2.2.2.2.2.1 u.2.2.2.2.2.2.2.2.1 u.2.2.2.2.2.2.2.2.2) (some (.int u.1))) args s 0 0 A) (F0 m 180 ls []) := by
  obtain ⟨hx, hb, hml, hown, hg, hr, hlocks⟩ := id C
  unfold jX2_root_B180 at h
  refine lv_aload_n hx hb dX2_root_180 rfl (lv_at hl 0 rfl) ?_
  refine va_get hx hb hg inX2 hown hK hP 0 rfl rfl 7 (by decide) (hg _ tw_333) (fun _ h9 => h9) rfl dX2_root_181 ?_
  refine lv_lload hx hb dX2_root_184 (lv_at hl 3 rfl) ?_
  obtain ⟨fa_6, h_r_6, h⟩ := of_bind h
  refine callMa C hK hX hP hD hS hA (cX1_set_met l ck (fun i => ad (i + 4)) _ _ _ h_r_6) vc_X1_set tw_370 (by decide) rfl hl.1 (rest := []) rfl (Nat.le_of_ble_eq_true rfl) (by decide) dX2_root_186 (fun H locs hP hD hS => ?_)
  have hP : va_P D vwCl (wM ck ad th mi di po be mm ee fa_6 fb) H := hP
  have hD : va_D A (wM ck ad th mi di po be mm ee fa_6 fb) := hD
  refine W.eq (g2 := F0 m 189 ls []) rfl ?_
  refine lv_aload_n hx hb dX2_root_189 rfl (lv_at hl 0 rfl) ?_
  refine lv_iconst (v := 0) hx hb dX2_root_190 (by decide) ?_
  refine lv_iload hx hb dX2_root_191 (lv_at hl 1 rfl) ?_
  refine lv_iload hx hb dX2_root_193 (lv_at hl 2 rfl) ?_
  refine lv_isub hx hb dX2_root_195 ?_
  refine lv_iconst (v := 2) hx hb dX2_root_196 (by decide) ?_
  refine lv_idiv hx hb dX2_root_197 (by decide) ?_
  refine lv_iload hx hb dX2_root_198 (lv_at hl 4 rfl) ?_
  obtain ⟨r_7, th_7, mi_7, di_7, po_7, be_7, mm_7, ee_7, fa_7, fb_7, h_r_7, h⟩ := of_bM h
  refine callMM C hK hX hP hD hS hA (cX2_nearest_met l ck ad _ _ _ _ _ _ _ _ _ _ _ _ _ h_r_7) vc_X2_nearest tw_375 (by decide) rfl hl.1 (rest := []) rfl (Nat.le_of_ble_eq_true rfl) (by decide) dX2_root_200 (fun H locs hP hD hS => ?_)
  have hP : va_P D vwCl (wM ck ad th_7 mi_7 di_7 po_7 be_7 mm_7 ee_7 fa_7 fb_7) H := hP
  have hD : va_D A (wM ck ad th_7 mi_7 di_7 po_7 be_7 mm_7 ee_7 fa_7 fb_7) := hD
  refine W.eq (g2 := F0 m 203 ls [.int r_7]) rfl ?_
  cases h
  exact W.iret hx hb hr (fun t ht _ => ⟨rfl, by rw [ht]; exact hP, hD, hS.F ht⟩) hS.2.2 dX2_root_203
def jX2_root_L85 : Nat → Int32 → NI → NL → NI → Int32 → Int64 → Int32 → NI → NI → Int32 → Int32 → Int64 → Int32 → Option (Int32 × Int32 × NI × NL × NI × Int32 × Int64 × Int32 × NI × NI)
  | 0, _, _, _, _, _, _, _, _, _, _, _, _, _ => none
  | k + 1, th, mi, di, po, be, mm, ee, fa, fb, x4, x5, x6, x8 => (if x8 < 0 then (Option.bind (jX1_product fa x6 x6) fun fa_4 => (b3 (jX1_compare fa_4 fb) fun r_5 fa_5 fb_5 => jX2_root_B180 th mi di po be mm ee fa_5 fb_5 x4 x5 x6 (if 0 ≤ r_5 then 0 else 1 : Int32))) else (if 1152921504606846976 ≤ (x6 + (sl 1 x8)) then jX2_root_L85 k th mi di po be mm ee fa fb x4 x5 x6 (x8 + (-1)) else (Option.bind (jX1_product fa (x6 + (sl 1 x8)) (x6 + (sl 1 x8))) fun fa_8 => (b3 (jX1_compare fa_8 fb) fun r_9 fa_9 fb_9 => jX2_root_L85 k th mi di po be mm ee fa_9 fb_9 x4 x5 (if 0 < r_9 then x6 else x6 + (sl 1 x8) : Int64) (x8 + (-1))))))
set_option maxHeartbeats 4000000 in
set_option maxRecDepth 100000 in
theorem wX2_root_L85 {p : Program} {l : Launch} {e : Env} {s : State} {m : MethodId} {args : Array Value} {below : List Frame} {meth : Method} {c : Code} {D : va_G} {A : Nat → Prop} {ck : Nat → ClassId} {ad : Nat → Nat} (C : CX p s m args meth c RX2 cX2_root 11 (some .int)) (hA : ∀ q, s.heap.size ≤ q → A q) (hK : va_K D vwCl (tyM ck) s) (hX : XT s) : ∀ (k : Nat) (th : Int32) (mi : NI) (di : NL) (po : NI) (be : Int32) (mm : Int64) (ee : Int32) (fa : NI) (fb : NI) (x4 : Int32) (x5 : Int32) (x6 : Int64) (x8 : Int32) (ls : Array Slot) (H : Heap) (locs : List Loc) (u : Int32 × Int32 × NI × NL × NI × Int32 × Int64 × Int32 × NI × NI), va_P D vwCl (wM ck ad th mi di po be mm ee fa fb) H → va_D A (wM ck ad th mi di po be mm ee fa fb) → va_S A s.heap H locs → lv_has ls 11 [(0, .ref (ad 0)), (4, .int x4), (5, .int x5), (6, .long x6), (8, .int x8)] → jX2_root_L85 k th mi di po be mm ee fa fb x4 x5 x6 x8 = some u → W p l e (rmz 3 71) s m args below meth c H locs 0 0 (MQ below (HQ D A (wM ck ad u.2.1 u.2.2.1 u.2.2.2.1 u.2.2.2.2.1 u.2.2.2.2.2.1 u.2.2.2.2.2.2.1 u.2.2.2.2.2.2.2.1 u.2.2.2.2.2.2.2.2.1 u.2.2.2.2.2.2.2.2.2) (some (.int u.1))) args s 0 0 A) (F0 m 85 ls []) := by
  obtain ⟨hx, hb, hml, hown, hg, hr, hlocks⟩ := id C
  intro k
  induction k with
  | zero => intro th mi di po be mm ee fa fb x4 x5 x6 x8 ls H locs u hP hD hS hl h; cases h
  | succ k ih =>
    intro th mi di po be mm ee fa fb x4 x5 x6 x8 ls H locs u hP hD hS hl h
    unfold jX2_root_L85 at h
    refine lv_iload hx hb dX2_root_85 (lv_at hl 4 rfl) ?_
    refine lv_if_lt (tgt := 148) hx hb dX2_root_87 (by decide) (fun c_1 => ?_) (fun c_1 => ?_)
    · rw [if_pos c_1] at h
      refine lv_aload_n hx hb dX2_root_148 rfl (lv_at hl 0 rfl) ?_
      refine va_get hx hb hg inX2 hown hK hP 0 rfl rfl 7 (by decide) (hg _ tw_333) (fun _ h9 => h9) rfl dX2_root_149 ?_
      refine lv_lload hx hb dX2_root_152 (lv_at hl 3 rfl) ?_
      refine lv_lload hx hb dX2_root_154 (lv_at hl 3 rfl) ?_
      obtain ⟨fa_4, h_r_4, h⟩ := of_bind h
      refine callMa C hK hX hP hD hS hA (cX1_product_met l ck (fun i => ad (i + 4)) _ _ _ _ h_r_4) vc_X1_product tw_448 (by decide) rfl hl.1 (rest := []) rfl (Nat.le_of_ble_eq_true rfl) (by decide) dX2_root_156 (fun H locs hP hD hS => ?_)
      have hP : va_P D vwCl (wM ck ad th mi di po be mm ee fa_4 fb) H := hP
      have hD : va_D A (wM ck ad th mi di po be mm ee fa_4 fb) := hD
      refine W.eq (g2 := F0 m 159 ls []) rfl ?_
      refine lv_aload_n hx hb dX2_root_159 rfl (lv_at hl 0 rfl) ?_
      refine va_get hx hb hg inX2 hown hK hP 0 rfl rfl 7 (by decide) (hg _ tw_333) (fun _ h9 => h9) rfl dX2_root_160 ?_
      refine lv_aload_n hx hb dX2_root_163 rfl (lv_at hl 0 rfl) ?_
      refine va_get hx hb hg inX2 hown hK hP 0 rfl rfl 8 (by decide) (hg _ tw_334) (fun _ h9 => h9) rfl dX2_root_164 ?_
      obtain ⟨r_5, fa_5, fb_5, h_r_5, h⟩ := of_b3 h
      refine callMab C hK hX hP hD hS hA (cX1_compare_met l ck (fun i => ad (i + 4)) _ _ _ h_r_5) vc_X1_compare tw_432 (by decide) rfl hl.1 (rest := []) rfl (Nat.le_of_ble_eq_true rfl) (by decide) dX2_root_167 (fun H locs hP hD hS => ?_)
      have hP : va_P D vwCl (wM ck ad th mi di po be mm ee fa_5 fb_5) H := hP
      have hD : va_D A (wM ck ad th mi di po be mm ee fa_5 fb_5) := hD
      refine W.eq (g2 := F0 m 170 ls [.int r_5]) rfl ?_
      refine rg_i (pj := 178) (v := (if 0 ≤ r_5 then 0 else 1 : Int32)) (ls := ls) (rest := []) (fun kJ => ?_) ?_
      · refine lv_if_ge (tgt := 177) hx hb dX2_root_170 (by decide) (fun c_2 => ?_) (fun c_2 => ?_)
        · refine lv_iconst (v := 0) hx hb dX2_root_177 (by decide) ?_
          exact kJ _ (by rw [if_pos c_2])
        · refine lv_iconst (v := 1) hx hb dX2_root_173 (by decide) ?_
          refine lv_goto (tgt := 178) hx hb dX2_root_174 (by decide) ?_
          exact kJ _ (by rw [if_neg c_2])
      refine lv_istore (lv' := [(8, .int (if 0 ≤ r_5 then 0 else 1 : Int32)), (0, .ref (ad 0)), (4, .int x4), (5, .int x5), (6, .long x6)]) hx hb dX2_root_178 hl (by decide) rfl (fun ls hl => ?_)
      exact wX2_root_B180 C hA hK hX _ _ _ _ _ _ _ _ _ _ _ _ _ _ _ _ _ hP hD hS (lv_sub hl [1, 2, 3, 4, 0] rfl) h
    · rw [if_neg c_1] at h
      refine lv_lload hx hb dX2_root_90 (lv_at hl 3 rfl) ?_
      refine lv_lconst (v := 1) hx hb dX2_root_92 (by decide) ?_
      refine lv_iload hx hb dX2_root_93 (lv_at hl 4 rfl) ?_
      refine lv_lshl (v := sl 1 x8) hx hb dX2_root_95 rfl ?_
      refine lv_ladd hx hb dX2_root_96 ?_
      refine lv_lstore (lv' := [(9, .long (x6 + (sl 1 x8))), (0, .ref (ad 0)), (4, .int x4), (5, .int x5), (6, .long x6), (8, .int x8)]) hx hb dX2_root_97 hl (by decide) rfl (fun ls hl => ?_)
      refine lv_lload hx hb dX2_root_99 (lv_at hl 0 rfl) ?_
      refine lv_ldc2 hx hb hown (hg _ tw_514) dX2_root_101 ?_
      refine lc_ge (tgt := 142) hx hb dX2_root_104 dX2_root_105 (by decide) (fun c_3 => ?_) (fun c_3 => ?_)
      · rw [if_pos c_3] at h
        refine lv_iinc (v := x8 + (-1)) (lv' := [(8, .int (x8 + (-1))), (9, .long (x6 + (sl 1 x8))), (0, .ref (ad 0)), (4, .int x4), (5, .int x5), (6, .long x6)]) hx hb dX2_root_142 hl (k := 5) rfl rfl (by decide) rfl (fun ls hl => ?_)
        refine lv_goto (tgt := 85) hx hb dX2_root_145 (by decide) ?_
        exact ih _ _ _ _ _ _ _ _ _ _ _ _ _ _ _ _ _ hP hD hS (lv_sub hl [2, 3, 4, 5, 0] rfl) h
      · rw [if_neg c_3] at h
        refine lv_aload_n hx hb dX2_root_108 rfl (lv_at hl 1 rfl) ?_
        refine va_get hx hb hg inX2 hown hK hP 0 rfl rfl 7 (by decide) (hg _ tw_333) (fun _ h9 => h9) rfl dX2_root_109 ?_
        refine lv_lload hx hb dX2_root_112 (lv_at hl 0 rfl) ?_
        refine lv_lload hx hb dX2_root_114 (lv_at hl 0 rfl) ?_
        obtain ⟨fa_8, h_r_8, h⟩ := of_bind h
        refine callMa C hK hX hP hD hS hA (cX1_product_met l ck (fun i => ad (i + 4)) _ _ _ _ h_r_8) vc_X1_product tw_448 (by decide) rfl hl.1 (rest := []) rfl (Nat.le_of_ble_eq_true rfl) (by decide) dX2_root_116 (fun H locs hP hD hS => ?_)
        have hP : va_P D vwCl (wM ck ad th mi di po be mm ee fa_8 fb) H := hP
        have hD : va_D A (wM ck ad th mi di po be mm ee fa_8 fb) := hD
        refine W.eq (g2 := F0 m 119 ls []) rfl ?_
        refine lv_aload_n hx hb dX2_root_119 rfl (lv_at hl 1 rfl) ?_
        refine va_get hx hb hg inX2 hown hK hP 0 rfl rfl 7 (by decide) (hg _ tw_333) (fun _ h9 => h9) rfl dX2_root_120 ?_
        refine lv_aload_n hx hb dX2_root_123 rfl (lv_at hl 1 rfl) ?_
        refine va_get hx hb hg inX2 hown hK hP 0 rfl rfl 8 (by decide) (hg _ tw_334) (fun _ h9 => h9) rfl dX2_root_124 ?_
        obtain ⟨r_9, fa_9, fb_9, h_r_9, h⟩ := of_b3 h
        refine callMab C hK hX hP hD hS hA (cX1_compare_met l ck (fun i => ad (i + 4)) _ _ _ h_r_9) vc_X1_compare tw_432 (by decide) rfl hl.1 (rest := []) rfl (Nat.le_of_ble_eq_true rfl) (by decide) dX2_root_127 (fun H locs hP hD hS => ?_)
        have hP : va_P D vwCl (wM ck ad th mi di po be mm ee fa_9 fb_9) H := hP
        have hD : va_D A (wM ck ad th mi di po be mm ee fa_9 fb_9) := hD
        refine W.eq (g2 := F0 m 130 ls [.int r_9]) rfl ?_
        refine rg_l (pj := 140) (v := (if 0 < r_9 then x6 else x6 + (sl 1 x8) : Int64)) (ls := ls) (rest := []) (fun kJ => ?_) ?_
        · refine lv_if_gt (tgt := 138) hx hb dX2_root_130 (by decide) (fun c_4 => ?_) (fun c_4 => ?_)
          · refine lv_lload hx hb dX2_root_138 (lv_at hl 4 rfl) ?_
            exact kJ _ (by rw [if_pos c_4])
          · refine lv_lload hx hb dX2_root_133 (lv_at hl 0 rfl) ?_
            refine lv_goto (tgt := 140) hx hb dX2_root_135 (by decide) ?_
            exact kJ _ (by rw [if_neg c_4])
        refine lv_lstore (lv' := [(6, .long (if 0 < r_9 then x6 else x6 + (sl 1 x8) : Int64)), (9, .long (x6 + (sl 1 x8))), (0, .ref (ad 0)), (4, .int x4), (5, .int x5), (8, .int x8)]) hx hb dX2_root_140 hl (by decide) rfl (fun ls hl => ?_)
        refine lv_iinc (v := x8 + (-1)) (lv' := [(8, .int (x8 + (-1))), (6, .long (if 0 < r_9 then x6 else x6 + (sl 1 x8) : Int64)), (9, .long (x6 + (sl 1 x8))), (0, .ref (ad 0)), (4, .int x4), (5, .int x5)]) hx hb dX2_root_142 hl (k := 5) rfl rfl (by decide) rfl (fun ls hl => ?_)
        refine lv_goto (tgt := 85) hx hb dX2_root_145 (by decide) ?_
        exact ih _ _ _ _ _ _ _ _ _ _ _ _ _ _ _ _ _ hP hD hS (lv_sub hl [3, 4, 5, 1, 0] rfl) h
def jX2_root_B69 (th : Int32) (mi : NI) (di : NL) (po : NI) (be : Int32) (mm : Int64) (ee : Int32) (fa : NI) (fb : NI) (x4 : Int32) (x5 : Int32) : Option (Int32 × Int32 × NI × NL × NI × Int32 × Int64 × Int32 × NI × NI) := (Option.bind (jX1_up fb x5) fun fb_3 => jX2_root_L85 FU th mi di po be mm ee fa fb_3 x4 x5 0 60)
set_option maxHeartbeats 4000000 in
set_option maxRecDepth 100000 in
theorem wX2_root_B69 {p : Program} {l : Launch} {e : Env} {s : State} {m : MethodId} {args : Array Value} {below : List Frame} {meth : Method} {c : Code} {D : va_G} {A : Nat → Prop} {ck : Nat → ClassId} {ad : Nat → Nat} (C : CX p s m args meth c RX2 cX2_root 11 (some .int)) (hA : ∀ q, s.heap.size ≤ q → A q) (hK : va_K D vwCl (tyM ck) s) (hX : XT s) (th : Int32) (mi : NI) (di : NL) (po : NI) (be : Int32) (mm : Int64) (ee : Int32) (fa : NI) (fb : NI) (x4 : Int32) (x5 : Int32) (ls : Array Slot) (H : Heap) (locs : List Loc) (u : Int32 × Int32 × NI × NL × NI × Int32 × Int64 × Int32 × NI × NI) (hP : va_P D vwCl (wM ck ad th mi di po be mm ee fa fb) H) (hD : va_D A (wM ck ad th mi di po be mm ee fa fb)) (hS : va_S A s.heap H locs) (hl : lv_has ls 11 [(0, .ref (ad 0)), (4, .int x4), (5, .int x5)]) (h : jX2_root_B69 th mi di po be mm ee fa fb x4 x5 = some u) : W p l e (rmz 3 71) s m args below meth c H locs 0 0 (MQ below (HQ D A (wM ck ad u.2.1 u.2.2.1 u.2.2.2.1 u.2.2.2.2.1 u.2.2.2.2.2.1 u.2.2.2.2.2.2.1 u.2.2.2.2.2.2.2.1 u.2.2.2.2.2.2.2.2.1 u.2.2.2.2.2.2.2.2.2) (some (.int u.1))) args s 0 0 A) (F0 m 69 ls []) := by
  obtain ⟨hx, hb, hml, hown, hg, hr, hlocks⟩ := id C
  unfold jX2_root_B69 at h
  refine lv_aload_n hx hb dX2_root_69 rfl (lv_at hl 0 rfl) ?_
  refine va_get hx hb hg inX2 hown hK hP 0 rfl rfl 8 (by decide) (hg _ tw_334) (fun _ h9 => h9) rfl dX2_root_70 ?_
  refine lv_iload hx hb dX2_root_73 (lv_at hl 2 rfl) ?_
  obtain ⟨fb_3, h_r_3, h⟩ := of_bind h
  refine callMb C hK hX hP hD hS hA (cX1_up_met l ck (fun i => ad (i + 6)) _ _ _ h_r_3) vc_X1_up tw_423 (by decide) rfl hl.1 (rest := []) rfl (Nat.le_of_ble_eq_true rfl) (by decide) dX2_root_75 (fun H locs hP hD hS => ?_)
  have hP : va_P D vwCl (wM ck ad th mi di po be mm ee fa fb_3) H := hP
  have hD : va_D A (wM ck ad th mi di po be mm ee fa fb_3) := hD
  refine W.eq (g2 := F0 m 78 ls []) rfl ?_
  refine lv_lconst (v := 0) hx hb dX2_root_78 (by decide) ?_
  refine lv_lstore (lv' := [(6, .long 0), (0, .ref (ad 0)), (4, .int x4), (5, .int x5)]) hx hb dX2_root_79 hl (by decide) rfl (fun ls hl => ?_)
  refine lv_bipush (v := 60) hx hb dX2_root_81 (by decide) ?_
  refine lv_istore (lv' := [(8, .int 60), (6, .long 0), (0, .ref (ad 0)), (4, .int x4), (5, .int x5)]) hx hb dX2_root_83 hl (by decide) rfl (fun ls hl => ?_)
  exact wX2_root_L85 C hA hK hX FU _ _ _ _ _ _ _ _ _ _ _ _ _ _ _ _ _ hP hD hS (lv_sub hl [2, 3, 4, 1, 0] rfl) h
def jX2_root_B51 (th : Int32) (mi : NI) (di : NL) (po : NI) (be : Int32) (mm : Int64) (ee : Int32) (fa : NI) (fb : NI) (x4 : Int32) (x5 : Int32) : Option (Int32 × Int32 × NI × NL × NI × Int32 × Int64 × Int32 × NI × NI) := jX2_root_B69 th mi di po be mm ee fa fb x4 (if (x5 - x5 / 2 * 2) = 0 then x5 else x5 + 1 : Int32)
set_option maxHeartbeats 4000000 in
set_option maxRecDepth 100000 in
theorem wX2_root_B51 {p : Program} {l : Launch} {e : Env} {s : State} {m : MethodId} {args : Array Value} {below : List Frame} {meth : Method} {c : Code} {D : va_G} {A : Nat → Prop} {ck : Nat → ClassId} {ad : Nat → Nat} (C : CX p s m args meth c RX2 cX2_root 11 (some .int)) (hA : ∀ q, s.heap.size ≤ q → A q) (hK : va_K D vwCl (tyM ck) s) (hX : XT s) (th : Int32) (mi : NI) (di : NL) (po : NI) (be : Int32) (mm : Int64) (ee : Int32) (fa : NI) (fb : NI) (x4 : Int32) (x5 : Int32) (ls : Array Slot) (H : Heap) (locs : List Loc) (u : Int32 × Int32 × NI × NL × NI × Int32 × Int64 × Int32 × NI × NI) (hP : va_P D vwCl (wM ck ad th mi di po be mm ee fa fb) H) (hD : va_D A (wM ck ad th mi di po be mm ee fa fb)) (hS : va_S A s.heap H locs) (hl : lv_has ls 11 [(0, .ref (ad 0)), (4, .int x4), (5, .int x5)]) (h : jX2_root_B51 th mi di po be mm ee fa fb x4 x5 = some u) : W p l e (rmz 3 71) s m args below meth c H locs 0 0 (MQ below (HQ D A (wM ck ad u.2.1 u.2.2.1 u.2.2.2.1 u.2.2.2.2.1 u.2.2.2.2.2.1 u.2.2.2.2.2.2.1 u.2.2.2.2.2.2.2.1 u.2.2.2.2.2.2.2.2.1 u.2.2.2.2.2.2.2.2.2) (some (.int u.1))) args s 0 0 A) (F0 m 51 ls []) := by
  obtain ⟨hx, hb, hml, hown, hg, hr, hlocks⟩ := id C
  unfold jX2_root_B51 at h
  refine lv_iload hx hb dX2_root_51 (lv_at hl 2 rfl) ?_
  refine lv_iconst (v := 2) hx hb dX2_root_53 (by decide) ?_
  refine lv_irem hx hb dX2_root_54 (by decide) ?_
  refine rg_i (pj := 67) (v := (if (x5 - x5 / 2 * 2) = 0 then x5 else x5 + 1 : Int32)) (ls := ls) (rest := []) (fun kJ => ?_) ?_
  · refine lv_if_ne (tgt := 63) hx hb dX2_root_55 (by decide) (fun c_1 => ?_) (fun c_1 => ?_)
    · refine lv_iload hx hb dX2_root_63 (lv_at hl 2 rfl) ?_
      refine lv_iconst (v := 1) hx hb dX2_root_65 (by decide) ?_
      refine lv_iadd hx hb dX2_root_66 ?_
      exact kJ _ (by rw [if_neg c_1])
    · refine lv_iload hx hb dX2_root_58 (lv_at hl 2 rfl) ?_
      refine lv_goto (tgt := 67) hx hb dX2_root_60 (by decide) ?_
      exact kJ _ (by rw [if_pos c_1])
  refine lv_istore (lv' := [(5, .int (if (x5 - x5 / 2 * 2) = 0 then x5 else x5 + 1 : Int32)), (0, .ref (ad 0)), (4, .int x4)]) hx hb dX2_root_67 hl (by decide) rfl (fun ls hl => ?_)
  exact wX2_root_B69 C hA hK hX _ _ _ _ _ _ _ _ _ _ _ _ _ _ _ hP hD hS (lv_sub hl [1, 2, 0] rfl) h
def jX2_root_B31 (th : Int32) (mi : NI) (di : NL) (po : NI) (be : Int32) (mm : Int64) (ee : Int32) (fa : NI) (fb : NI) (x2 : Int64) (x4 : Int32) : Option (Int32 × Int32 × NI × NL × NI × Int32 × Int64 × Int32 × NI × NI) := (Option.bind (jX1_set fb x2) fun fb_1 => (b2 (jX1_length fb_1) fun r_2 fb_2 => jX2_root_B51 th mi di po be mm ee fa fb_2 x4 (118 - r_2)))
set_option maxHeartbeats 4000000 in
set_option maxRecDepth 100000 in
theorem wX2_root_B31 {p : Program} {l : Launch} {e : Env} {s : State} {m : MethodId} {args : Array Value} {below : List Frame} {meth : Method} {c : Code} {D : va_G} {A : Nat → Prop} {ck : Nat → ClassId} {ad : Nat → Nat} (C : CX p s m args meth c RX2 cX2_root 11 (some .int)) (hA : ∀ q, s.heap.size ≤ q → A q) (hK : va_K D vwCl (tyM ck) s) (hX : XT s) (th : Int32) (mi : NI) (di : NL) (po : NI) (be : Int32) (mm : Int64) (ee : Int32) (fa : NI) (fb : NI) (x2 : Int64) (x4 : Int32) (ls : Array Slot) (H : Heap) (locs : List Loc) (u : Int32 × Int32 × NI × NL × NI × Int32 × Int64 × Int32 × NI × NI) (hP : va_P D vwCl (wM ck ad th mi di po be mm ee fa fb) H) (hD : va_D A (wM ck ad th mi di po be mm ee fa fb)) (hS : va_S A s.heap H locs) (hl : lv_has ls 11 [(0, .ref (ad 0)), (2, .long x2), (4, .int x4)]) (h : jX2_root_B31 th mi di po be mm ee fa fb x2 x4 = some u) : W p l e (rmz 3 71) s m args below meth c H locs 0 0 (MQ below (HQ D A (wM ck ad u.2.1 u.2.2.1 u.2.2.2.1 u.2.2.2.2.1 u.2.2.2.2.2.1 u.2.2.2.2.2.2.1 u.2.2.2.2.2.2.2.1 u.2.2.2.2.2.2.2.2.1 u.2.2.2.2.2.2.2.2.2) (some (.int u.1))) args s 0 0 A) (F0 m 31 ls []) := by
  obtain ⟨hx, hb, hml, hown, hg, hr, hlocks⟩ := id C
  unfold jX2_root_B31 at h
  refine lv_aload_n hx hb dX2_root_31 rfl (lv_at hl 0 rfl) ?_
  refine va_get hx hb hg inX2 hown hK hP 0 rfl rfl 8 (by decide) (hg _ tw_334) (fun _ h9 => h9) rfl dX2_root_32 ?_
  refine lv_lload_n hx hb dX2_root_35 rfl (lv_at hl 1 rfl) ?_
  obtain ⟨fb_1, h_r_1, h⟩ := of_bind h
  refine callMb C hK hX hP hD hS hA (cX1_set_met l ck (fun i => ad (i + 6)) _ _ _ h_r_1) vc_X1_set tw_370 (by decide) rfl hl.1 (rest := []) rfl (Nat.le_of_ble_eq_true rfl) (by decide) dX2_root_36 (fun H locs hP hD hS => ?_)
  have hP : va_P D vwCl (wM ck ad th mi di po be mm ee fa fb_1) H := hP
  have hD : va_D A (wM ck ad th mi di po be mm ee fa fb_1) := hD
  refine W.eq (g2 := F0 m 39 ls []) rfl ?_
  refine lv_bipush (v := 118) hx hb dX2_root_39 (by decide) ?_
  refine lv_aload_n hx hb dX2_root_41 rfl (lv_at hl 0 rfl) ?_
  refine va_get hx hb hg inX2 hown hK hP 0 rfl rfl 8 (by decide) (hg _ tw_334) (fun _ h9 => h9) rfl dX2_root_42 ?_
  obtain ⟨r_2, fb_2, h_r_2, h⟩ := of_b2 h
  refine callMb C hK hX hP hD hS hA (cX1_length_met l ck (fun i => ad (i + 6)) _ _ h_r_2) vc_X1_length tw_379 (by decide) rfl hl.1 (rest := [.int 118]) rfl (Nat.le_of_ble_eq_true rfl) (by decide) dX2_root_45 (fun H locs hP hD hS => ?_)
  have hP : va_P D vwCl (wM ck ad th mi di po be mm ee fa fb_2) H := hP
  have hD : va_D A (wM ck ad th mi di po be mm ee fa fb_2) := hD
  refine W.eq (g2 := F0 m 48 ls [.int r_2, .int 118]) rfl ?_
  refine lv_isub hx hb dX2_root_48 ?_
  refine lv_istore (lv' := [(5, .int (118 - r_2)), (0, .ref (ad 0)), (2, .long x2), (4, .int x4)]) hx hb dX2_root_49 hl (by decide) rfl (fun ls hl => ?_)
  exact wX2_root_B51 C hA hK hX _ _ _ _ _ _ _ _ _ _ _ _ _ _ _ hP hD hS (lv_sub hl [1, 3, 0] rfl) h
def jX2_root (th : Int32) (mi : NI) (di : NL) (po : NI) (be : Int32) (mm : Int64) (ee : Int32) (fa : NI) (fb : NI) (x1 : Int32) : Option (Int32 × Int32 × NI × NL × NI × Int32 × Int64 × Int32 × NI × NI) := (if ok x1 16 = true then (if ok x1 16 = true then (if ((po x1.toNatClampNeg) - (po x1.toNatClampNeg) / 2 * 2) = 0 then jX2_root_B31 th mi di po be mm ee fa fb (di x1.toNatClampNeg) (po x1.toNatClampNeg) else jX2_root_B31 th mi di po be mm ee fa fb (2 * (di x1.toNatClampNeg)) ((po x1.toNatClampNeg) + (-1))) else none) else none)
set_option maxHeartbeats 4000000 in
set_option maxRecDepth 100000 in
theorem wX2_root_0 {p : Program} {l : Launch} {e : Env} {s : State} {m : MethodId} {args : Array Value} {below : List Frame} {meth : Method} {c : Code} {D : va_G} {A : Nat → Prop} {ck : Nat → ClassId} {ad : Nat → Nat} (C : CX p s m args meth c RX2 cX2_root 11 (some .int)) (hA : ∀ q, s.heap.size ≤ q → A q) (hK : va_K D vwCl (tyM ck) s) (hX : XT s) (th : Int32) (mi : NI) (di : NL) (po : NI) (be : Int32) (mm : Int64) (ee : Int32) (fa : NI) (fb : NI) (x1 : Int32) (ls : Array Slot) (H : Heap) (locs : List Loc) (u : Int32 × Int32 × NI × NL × NI × Int32 × Int64 × Int32 × NI × NI) (hP : va_P D vwCl (wM ck ad th mi di po be mm ee fa fb) H) (hD : va_D A (wM ck ad th mi di po be mm ee fa fb)) (hS : va_S A s.heap H locs) (hl : lv_has ls 11 [(0, .ref (ad 0)), (1, .int x1)]) (h : jX2_root th mi di po be mm ee fa fb x1 = some u) : W p l e (rmz 3 71) s m args below meth c H locs 0 0 (MQ below (HQ D A (wM ck ad u.2.1 u.2.2.1 u.2.2.2.1 u.2.2.2.2.1 u.2.2.2.2.2.1 u.2.2.2.2.2.2.1 u.2.2.2.2.2.2.2.1 u.2.2.2.2.2.2.2.2.1 u.2.2.2.2.2.2.2.2.2) (some (.int u.1))) args s 0 0 A) (F0 m 0 ls []) := by
  obtain ⟨hx, hb, hml, hown, hg, hr, hlocks⟩ := id C
  unfold jX2_root at h
  refine lv_aload_n hx hb dX2_root_0 rfl (lv_at hl 0 rfl) ?_
  refine va_get hx hb hg inX2 hown hK hP 0 rfl rfl 2 (by decide) (hg _ tw_328) (fun _ h9 => h9) rfl dX2_root_1 ?_
  refine lv_iload_n hx hb dX2_root_4 rfl (lv_at hl 1 rfl) ?_
  obtain ⟨z_5, h⟩ := of_ite h
  refine va_lald hx hb hK hP 2 1 rfl rfl (ok_in z_5) dX2_root_5 ?_
  refine lv_lstore_n (lv' := [(2, .long (di x1.toNatClampNeg)), (0, .ref (ad 0)), (1, .int x1)]) hx hb dX2_root_6 rfl hl (by decide) rfl (fun ls hl => ?_)
  refine lv_aload_n hx hb dX2_root_7 rfl (lv_at hl 1 rfl) ?_
  refine va_get hx hb hg inX2 hown hK hP 0 rfl rfl 3 (by decide) (hg _ tw_329) (fun _ h9 => h9) rfl dX2_root_8 ?_
  refine lv_iload_n hx hb dX2_root_11 rfl (lv_at hl 2 rfl) ?_
  obtain ⟨z_12, h⟩ := of_ite h
  refine va_iald hx hb hK hP 3 0 rfl rfl (ok_in z_12) dX2_root_12 ?_
  refine lv_istore (lv' := [(4, .int (po x1.toNatClampNeg)), (2, .long (di x1.toNatClampNeg)), (0, .ref (ad 0)), (1, .int x1)]) hx hb dX2_root_13 hl (by decide) rfl (fun ls hl => ?_)
  refine lv_iload hx hb dX2_root_15 (lv_at hl 0 rfl) ?_
  refine lv_iconst (v := 2) hx hb dX2_root_17 (by decide) ?_
  refine lv_irem hx hb dX2_root_18 (by decide) ?_
  refine lv_if_eq (tgt := 31) hx hb dX2_root_19 (by decide) (fun c_1 => ?_) (fun c_1 => ?_)
  · rw [if_pos c_1] at h
    exact wX2_root_B31 C hA hK hX _ _ _ _ _ _ _ _ _ _ _ _ _ _ _ hP hD hS (lv_sub hl [2, 1, 0] rfl) h
  · rw [if_neg c_1] at h
    refine lv_ldc2 hx hb hown (hg _ tw_397) dX2_root_22 ?_
    refine lv_lload_n hx hb dX2_root_25 rfl (lv_at hl 1 rfl) ?_
    refine lv_lmul hx hb dX2_root_26 ?_
    refine lv_lstore_n (lv' := [(2, .long (2 * (di x1.toNatClampNeg))), (4, .int (po x1.toNatClampNeg)), (0, .ref (ad 0)), (1, .int x1)]) hx hb dX2_root_27 rfl hl (by decide) rfl (fun ls hl => ?_)
    refine lv_iinc (v := (po x1.toNatClampNeg) + (-1)) (lv' := [(4, .int ((po x1.toNatClampNeg) + (-1))), (2, .long (2 * (di x1.toNatClampNeg))), (0, .ref (ad 0)), (1, .int x1)]) hx hb dX2_root_28 hl (k := 1) rfl rfl (by decide) rfl (fun ls hl => ?_)
    exact wX2_root_B31 C hA hK hX _ _ _ _ _ _ _ _ _ _ _ _ _ _ _ hP hD hS (lv_sub hl [2, 1, 0] rfl) h
theorem vc_X2_root : VC RX2 yX2_root cX2_root 11 (some .int) 1 := ⟨tw_512, ts_23, tw_2, tw_513, by decide +kernel⟩
theorem cX2_root_met (l : Launch) (ck : Nat → ClassId) (ad : Nat → Nat) (th : Int32) (mi : NI) (di : NL) (po : NI) (be : Int32) (mm : Int64) (ee : Int32) (fa : NI) (fb : NI) (x1 : Int32) (u : Int32 × Int32 × NI × NL × NI × Int32 × Int64 × Int32 × NI × NI) (h : jX2_root th mi di po be mm ee fa fb x1 = some u) : HM l yX2_root cX2_root 11 (some .int) (rmz 3 71) [.ref (ad 0), .int x1] (tyM ck) (wM ck ad th mi di po be mm ee fa fb) (some (.int u.1)) (wM ck ad u.2.1 u.2.2.1 u.2.2.2.1 u.2.2.2.2.1 u.2.2.2.2.2.1 u.2.2.2.2.2.2.1 u.2.2.2.2.2.2.2.1 u.2.2.2.2.2.2.2.2.1 u.2.2.2.2.2.2.2.2.2) :=
  hm_of (own := RX2) (by decide +kernel) rfl (Nat.le_of_ble_eq_true rfl) (fun D A p e s m below meth c ls C hA hK hX hP hD hS hl => wX2_root_0 C hA hK hX th mi di po be mm ee fa fb x1 ls _ _ u hP hD hS hl h)

/-! RealDeskModel.wholeOf(II)I -/
def jX2_wholeOf_B212 (th : Int32) (mi : NI) (di : NL) (po : NI) (be : Int32) (mm : Int64) (ee : Int32) (fa : NI) (fb : NI) (x4 : Int64) (x9 : Int32) : Option (Int32 × Int32 × NI × NL × NI × Int32 × Int64 × Int32 × NI × NI) := (bM (jX2_settle th mi di po be (if x9 = 0 then x4 else x4 + 1 : Int64) 0 fa fb) fun r_2 th_2 mi_2 di_2 po_2 be_2 mm_2 ee_2 fa_2 fb_2 => some (r_2, th_2, mi_2, di_2, po_2, be_2, mm_2, ee_2, fa_2, fb_2))
set_option maxHeartbeats 4000000 in
set_option maxRecDepth 100000 in
theorem wX2_wholeOf_B212 {p : Program} {l : Launch} {e : Env} {s : State} {m : MethodId} {args : Array Value} {below : List Frame} {meth : Method} {c : Code} {D : va_G} {A : Nat → Prop} {ck : Nat → ClassId} {ad : Nat → Nat} (C : CX p s m args meth c RX2 cX2_wholeOf 10 (some .int)) (hA : ∀ q, s.heap.size ≤ q → A q) (hK : va_K D vwCl (tyM ck) s) (hX : XT s) (th : Int32) (mi : NI) (di : NL) (po : NI) (be : Int32) (mm : Int64) (ee : Int32) (fa : NI) (fb : NI) (x4 : Int64) (x9 : Int32) (ls : Array Slot) (H : Heap) (locs : List Loc) (u : Int32 × Int32 × NI × NL × NI × Int32 × Int64 × Int32 × NI × NI) (hP : va_P D vwCl (wM ck ad th mi di po be mm ee fa fb) H) (hD : va_D A (wM ck ad th mi di po be mm ee fa fb)) (hS : va_S A s.heap H locs) (hl : lv_has ls 10 [(0, .ref (ad 0)), (4, .long x4), (9, .int x9)]) (h : jX2_wholeOf_B212 th mi di po be mm ee fa fb x4 x9 = some u) : W p l e (rmz 1 21) s m args below meth c H locs 0 0 (MQ below (HQ D A (wM ck ad u.2.1 u.2.2.1 u.2.2.2.1 u.2.2.2.2.1 u.2.2.2.2.2.1 u.2.2.2.2.2.2.1 u.2.2.2.2.2.2.2.1 u.2.2.2.2.2.2.2.2.1 u.2.2.2.2.2.2.2.2.2) (some (.int u.1))) args s 0 0 A) (F0 m 212 ls []) := by
  obtain ⟨hx, hb, hml, hown, hg, hr, hlocks⟩ := id C
  unfold jX2_wholeOf_B212 at h
  refine lv_aload_n hx hb dX2_wholeOf_212 rfl (lv_at hl 0 rfl) ?_
  refine lv_iload hx hb dX2_wholeOf_213 (lv_at hl 2 rfl) ?_
  refine rg_l (pj := 227) (v := (if x9 = 0 then x4 else x4 + 1 : Int64)) (ls := ls) (rest := [.ref (ad 0)]) (fun kJ => ?_) ?_
  · refine lv_if_eq (tgt := 225) hx hb dX2_wholeOf_215 (by decide) (fun c_1 => ?_) (fun c_1 => ?_)
    · refine lv_lload hx hb dX2_wholeOf_225 (lv_at hl 1 rfl) ?_
      exact kJ _ (by rw [if_pos c_1])
    · refine lv_lload hx hb dX2_wholeOf_218 (lv_at hl 1 rfl) ?_
      refine lv_lconst (v := 1) hx hb dX2_wholeOf_220 (by decide) ?_
      refine lv_ladd hx hb dX2_wholeOf_221 ?_
      refine lv_goto (tgt := 227) hx hb dX2_wholeOf_222 (by decide) ?_
      exact kJ _ (by rw [if_neg c_1])
  refine va_put hx hb hg inX2 tyX2 tyX2_ok nmX2 hown hK hP hD hS 0 rfl rfl 5 (by decide) (hg _ tw_331) (fun _ h9 => h9) rfl (tyX2_ok 5 (by decide)) rfl rfl (Nat.le_of_ble_eq_true rfl) dX2_wholeOf_227 (fun H locs hP hD hS => ?_)
  have hP : va_P D vwCl (wM ck ad th mi di po be (if x9 = 0 then x4 else x4 + 1 : Int64) ee fa fb) H := hP
  have hD : va_D A (wM ck ad th mi di po be (if x9 = 0 then x4 else x4 + 1 : Int64) ee fa fb) := hD
  refine lv_aload_n hx hb dX2_wholeOf_230 rfl (lv_at hl 0 rfl) ?_
  refine lv_iconst (v := 0) hx hb dX2_wholeOf_231 (by decide) ?_
  refine va_put hx hb hg inX2 tyX2 tyX2_ok nmX2 hown hK hP hD hS 0 rfl rfl 6 (by decide) (hg _ tw_332) (fun _ h9 => h9) rfl (tyX2_ok 6 (by decide)) rfl rfl (Nat.le_of_ble_eq_true rfl) dX2_wholeOf_232 (fun H locs hP hD hS => ?_)
  have hP : va_P D vwCl (wM ck ad th mi di po be (if x9 = 0 then x4 else x4 + 1 : Int64) 0 fa fb) H := hP
  have hD : va_D A (wM ck ad th mi di po be (if x9 = 0 then x4 else x4 + 1 : Int64) 0 fa fb) := hD
  refine lv_aload_n hx hb dX2_wholeOf_235 rfl (lv_at hl 0 rfl) ?_
  obtain ⟨r_2, th_2, mi_2, di_2, po_2, be_2, mm_2, ee_2, fa_2, fb_2, h_r_2, h⟩ := of_bM h
  refine callMM C hK hX hP hD hS hA (cX2_settle_met l ck ad _ _ _ _ _ _ _ _ _ _ h_r_2) vc_X2_settle tw_398 (by decide) rfl hl.1 (rest := []) rfl (Nat.le_of_ble_eq_true rfl) (by decide) dX2_wholeOf_236 (fun H locs hP hD hS => ?_)
  have hP : va_P D vwCl (wM ck ad th_2 mi_2 di_2 po_2 be_2 mm_2 ee_2 fa_2 fb_2) H := hP
  have hD : va_D A (wM ck ad th_2 mi_2 di_2 po_2 be_2 mm_2 ee_2 fa_2 fb_2) := hD
  refine W.eq (g2 := F0 m 239 ls [.int r_2]) rfl ?_
  cases h
  exact W.iret hx hb hr (fun t ht _ => ⟨rfl, by rw [ht]; exact hP, hD, hS.F ht⟩) hS.2.2 dX2_wholeOf_239
def jX2_wholeOf_B130 (th : Int32) (mi : NI) (di : NL) (po : NI) (be : Int32) (mm : Int64) (ee : Int32) (fa : NI) (fb : NI) (x2 : Int32) (x4 : Int64) (x6 : Int32) (x7 : Int32) (x8 : Int32) : Option (Int32 × Int32 × NI × NL × NI × Int32 × Int64 × Int32 × NI × NI) := (if x2 = 0 then jX2_wholeOf_B212 th mi di po be mm ee fa fb x4 (if be = 0 then 0 else (if x8 = 0 then 0 else 1 : Int32) : Int32) else (if x2 = 1 then jX2_wholeOf_B212 th mi di po be mm ee fa fb x4 (if be = 0 then (if x8 = 0 then 0 else 1 : Int32) else 0 : Int32) else (if x2 = 3 then (if x6 = 0 then jX2_wholeOf_B212 th mi di po be mm ee fa fb x4 0 else (if x7 = 0 then jX2_wholeOf_B212 th mi di po be mm ee fa fb x4 (if (x4 - x4 / 2 * 2) = 1 then 1 else 0 : Int32) else jX2_wholeOf_B212 th mi di po be mm ee fa fb x4 1)) else jX2_wholeOf_B212 th mi di po be mm ee fa fb x4 0)))
set_option maxHeartbeats 4000000 in
set_option maxRecDepth 100000 in
theorem wX2_wholeOf_B130 {p : Program} {l : Launch} {e : Env} {s : State} {m : MethodId} {args : Array Value} {below : List Frame} {meth : Method} {c : Code} {D : va_G} {A : Nat → Prop} {ck : Nat → ClassId} {ad : Nat → Nat} (C : CX p s m args meth c RX2 cX2_wholeOf 10 (some .int)) (hA : ∀ q, s.heap.size ≤ q → A q) (hK : va_K D vwCl (tyM ck) s) (hX : XT s) (th : Int32) (mi : NI) (di : NL) (po : NI) (be : Int32) (mm : Int64) (ee : Int32) (fa : NI) (fb : NI) (x2 : Int32) (x4 : Int64) (x6 : Int32) (x7 : Int32) (x8 : Int32) (ls : Array Slot) (H : Heap) (locs : List Loc) (u : Int32 × Int32 × NI × NL × NI × Int32 × Int64 × Int32 × NI × NI) (hP : va_P D vwCl (wM ck ad th mi di po be mm ee fa fb) H) (hD : va_D A (wM ck ad th mi di po be mm ee fa fb)) (hS : va_S A s.heap H locs) (hl : lv_has ls 10 [(0, .ref (ad 0)), (2, .int x2), (4, .long x4), (6, .int x6), (7, .int x7), (8, .int x8)]) (h : jX2_wholeOf_B130 th mi di po be mm ee fa fb x2 x4 x6 x7 x8 = some u) : W p l e (rmz 1 21) s m args below meth c H locs 0 0 (MQ below (HQ D A (wM ck ad u.2.1 u.2.2.1 u.2.2.2.1 u.2.2.2.2.1 u.2.2.2.2.2.1 u.2.2.2.2.2.2.1 u.2.2.2.2.2.2.2.1 u.2.2.2.2.2.2.2.2.1 u.2.2.2.2.2.2.2.2.2) (some (.int u.1))) args s 0 0 A) (F0 m 130 ls []) := by
  obtain ⟨hx, hb, hml, hown, hg, hr, hlocks⟩ := id C
  unfold jX2_wholeOf_B130 at h
  refine lv_iload_n hx hb dX2_wholeOf_130 rfl (lv_at hl 1 rfl) ?_
  refine lv_if_ne (tgt := 154) hx hb dX2_wholeOf_131 (by decide) (fun c_1 => ?_) (fun c_1 => ?_)
  · rw [if_neg c_1] at h
    refine lv_iload_n hx hb dX2_wholeOf_154 rfl (lv_at hl 1 rfl) ?_
    refine lv_iconst (v := 1) hx hb dX2_wholeOf_155 (by decide) ?_
    refine lv_icmp_ne (tgt := 179) hx hb dX2_wholeOf_156 (by decide) (fun c_2 => ?_) (fun c_2 => ?_)
    · rw [if_neg c_2] at h
      refine lv_iload_n hx hb dX2_wholeOf_179 rfl (lv_at hl 1 rfl) ?_
      refine lv_iconst (v := 3) hx hb dX2_wholeOf_180 (by decide) ?_
      refine lv_icmp_ne (tgt := 209) hx hb dX2_wholeOf_181 (by decide) (fun c_3 => ?_) (fun c_3 => ?_)
      · rw [if_neg c_3] at h
        refine lv_iconst (v := 0) hx hb dX2_wholeOf_209 (by decide) ?_
        refine lv_istore (lv' := [(9, .int 0), (0, .ref (ad 0)), (2, .int x2), (4, .long x4), (6, .int x6), (7, .int x7), (8, .int x8)]) hx hb dX2_wholeOf_210 hl (by decide) rfl (fun ls hl => ?_)
        exact wX2_wholeOf_B212 C hA hK hX _ _ _ _ _ _ _ _ _ _ _ _ _ _ _ hP hD hS (lv_sub hl [1, 3, 0] rfl) h
      · rw [if_pos c_3] at h
        refine lv_iload hx hb dX2_wholeOf_184 (lv_at hl 3 rfl) ?_
        refine lv_if_eq (tgt := 209) hx hb dX2_wholeOf_186 (by decide) (fun c_4 => ?_) (fun c_4 => ?_)
        · rw [if_pos c_4] at h
          refine lv_iconst (v := 0) hx hb dX2_wholeOf_209 (by decide) ?_
          refine lv_istore (lv' := [(9, .int 0), (0, .ref (ad 0)), (2, .int x2), (4, .long x4), (6, .int x6), (7, .int x7), (8, .int x8)]) hx hb dX2_wholeOf_210 hl (by decide) rfl (fun ls hl => ?_)
          exact wX2_wholeOf_B212 C hA hK hX _ _ _ _ _ _ _ _ _ _ _ _ _ _ _ hP hD hS (lv_sub hl [1, 3, 0] rfl) h
        · rw [if_neg c_4] at h
          refine lv_iload hx hb dX2_wholeOf_189 (lv_at hl 4 rfl) ?_
          refine lv_if_ne (tgt := 205) hx hb dX2_wholeOf_191 (by decide) (fun c_5 => ?_) (fun c_5 => ?_)
          · rw [if_neg c_5] at h
            refine lv_iconst (v := 1) hx hb dX2_wholeOf_205 (by decide) ?_
            refine lv_goto (tgt := 210) hx hb dX2_wholeOf_206 (by decide) ?_
            refine lv_istore (lv' := [(9, .int 1), (0, .ref (ad 0)), (2, .int x2), (4, .long x4), (6, .int x6), (7, .int x7), (8, .int x8)]) hx hb dX2_wholeOf_210 hl (by decide) rfl (fun ls hl => ?_)
            exact wX2_wholeOf_B212 C hA hK hX _ _ _ _ _ _ _ _ _ _ _ _ _ _ _ hP hD hS (lv_sub hl [1, 3, 0] rfl) h
          · rw [if_pos c_5] at h
            refine lv_lload hx hb dX2_wholeOf_194 (lv_at hl 2 rfl) ?_
            refine lv_ldc2 hx hb hown (hg _ tw_397) dX2_wholeOf_196 ?_
            refine lv_lrem hx hb dX2_wholeOf_199 (by decide) ?_
            refine lv_lconst (v := 1) hx hb dX2_wholeOf_200 (by decide) ?_
            refine rg_i (pj := 210) (v := (if (x4 - x4 / 2 * 2) = 1 then 1 else 0 : Int32)) (ls := ls) (rest := []) (fun kJ => ?_) ?_
            · refine lc_ne (tgt := 209) hx hb dX2_wholeOf_201 dX2_wholeOf_202 (by decide) (fun c_6 => ?_) (fun c_6 => ?_)
              · refine lv_iconst (v := 0) hx hb dX2_wholeOf_209 (by decide) ?_
                exact kJ _ (by rw [if_neg c_6])
              · refine lv_iconst (v := 1) hx hb dX2_wholeOf_205 (by decide) ?_
                refine lv_goto (tgt := 210) hx hb dX2_wholeOf_206 (by decide) ?_
                exact kJ _ (by rw [if_pos c_6])
            refine lv_istore (lv' := [(9, .int (if (x4 - x4 / 2 * 2) = 1 then 1 else 0 : Int32)), (0, .ref (ad 0)), (2, .int x2), (4, .long x4), (6, .int x6), (7, .int x7), (8, .int x8)]) hx hb dX2_wholeOf_210 hl (by decide) rfl (fun ls hl => ?_)
            exact wX2_wholeOf_B212 C hA hK hX _ _ _ _ _ _ _ _ _ _ _ _ _ _ _ hP hD hS (lv_sub hl [1, 3, 0] rfl) h
    · rw [if_pos c_2] at h
      refine lv_aload_n hx hb dX2_wholeOf_159 rfl (lv_at hl 0 rfl) ?_
      refine va_get hx hb hg inX2 hown hK hP 0 rfl rfl 4 (by decide) (hg _ tw_330) (fun _ h9 => h9) rfl dX2_wholeOf_160 ?_
      refine rg_i (pj := 210) (v := (if be = 0 then (if x8 = 0 then 0 else 1 : Int32) else 0 : Int32)) (ls := ls) (rest := []) (fun kJ => ?_) ?_
      · refine lv_if_ne (tgt := 175) hx hb dX2_wholeOf_163 (by decide) (fun c_7 => ?_) (fun c_7 => ?_)
        · refine lv_iconst (v := 0) hx hb dX2_wholeOf_175 (by decide) ?_
          refine lv_goto (tgt := 210) hx hb dX2_wholeOf_176 (by decide) ?_
          exact kJ _ (by rw [if_neg c_7])
        · refine lv_iload hx hb dX2_wholeOf_166 (lv_at hl 5 rfl) ?_
          refine lv_if_eq (tgt := 175) hx hb dX2_wholeOf_168 (by decide) (fun c_8 => ?_) (fun c_8 => ?_)
          · refine lv_iconst (v := 0) hx hb dX2_wholeOf_175 (by decide) ?_
            refine lv_goto (tgt := 210) hx hb dX2_wholeOf_176 (by decide) ?_
            exact kJ _ (by rw [if_pos c_7, if_pos c_8])
          · refine lv_iconst (v := 1) hx hb dX2_wholeOf_171 (by decide) ?_
            refine lv_goto (tgt := 210) hx hb dX2_wholeOf_172 (by decide) ?_
            exact kJ _ (by rw [if_pos c_7, if_neg c_8])
      refine lv_istore (lv' := [(9, .int (if be = 0 then (if x8 = 0 then 0 else 1 : Int32) else 0 : Int32)), (0, .ref (ad 0)), (2, .int x2), (4, .long x4), (6, .int x6), (7, .int x7), (8, .int x8)]) hx hb dX2_wholeOf_210 hl (by decide) rfl (fun ls hl => ?_)
      exact wX2_wholeOf_B212 C hA hK hX _ _ _ _ _ _ _ _ _ _ _ _ _ _ _ hP hD hS (lv_sub hl [1, 3, 0] rfl) h
  · rw [if_pos c_1] at h
    refine lv_aload_n hx hb dX2_wholeOf_134 rfl (lv_at hl 0 rfl) ?_
    refine va_get hx hb hg inX2 hown hK hP 0 rfl rfl 4 (by decide) (hg _ tw_330) (fun _ h9 => h9) rfl dX2_wholeOf_135 ?_
    refine rg_i (pj := 210) (v := (if be = 0 then 0 else (if x8 = 0 then 0 else 1 : Int32) : Int32)) (ls := ls) (rest := []) (fun kJ => ?_) ?_
    · refine lv_if_eq (tgt := 150) hx hb dX2_wholeOf_138 (by decide) (fun c_9 => ?_) (fun c_9 => ?_)
      · refine lv_iconst (v := 0) hx hb dX2_wholeOf_150 (by decide) ?_
        refine lv_goto (tgt := 210) hx hb dX2_wholeOf_151 (by decide) ?_
        exact kJ _ (by rw [if_pos c_9])
      · refine lv_iload hx hb dX2_wholeOf_141 (lv_at hl 5 rfl) ?_
        refine lv_if_eq (tgt := 150) hx hb dX2_wholeOf_143 (by decide) (fun c_10 => ?_) (fun c_10 => ?_)
        · refine lv_iconst (v := 0) hx hb dX2_wholeOf_150 (by decide) ?_
          refine lv_goto (tgt := 210) hx hb dX2_wholeOf_151 (by decide) ?_
          exact kJ _ (by rw [if_neg c_9, if_pos c_10])
        · refine lv_iconst (v := 1) hx hb dX2_wholeOf_146 (by decide) ?_
          refine lv_goto (tgt := 210) hx hb dX2_wholeOf_147 (by decide) ?_
          exact kJ _ (by rw [if_neg c_9, if_neg c_10])
    refine lv_istore (lv' := [(9, .int (if be = 0 then 0 else (if x8 = 0 then 0 else 1 : Int32) : Int32)), (0, .ref (ad 0)), (2, .int x2), (4, .long x4), (6, .int x6), (7, .int x7), (8, .int x8)]) hx hb dX2_wholeOf_210 hl (by decide) rfl (fun ls hl => ?_)
    exact wX2_wholeOf_B212 C hA hK hX _ _ _ _ _ _ _ _ _ _ _ _ _ _ _ hP hD hS (lv_sub hl [1, 3, 0] rfl) h
def jX2_wholeOf_B113 (th : Int32) (mi : NI) (di : NL) (po : NI) (be : Int32) (mm : Int64) (ee : Int32) (fa : NI) (fb : NI) (x2 : Int32) (x4 : Int64) (x6 : Int32) (x7 : Int32) : Option (Int32 × Int32 × NI × NL × NI × Int32 × Int64 × Int32 × NI × NI) := jX2_wholeOf_B130 th mi di po be mm ee fa fb x2 x4 x6 x7 (if x6 = 0 then (if x7 = 0 then 0 else 1 : Int32) else 1 : Int32)
set_option maxHeartbeats 4000000 in
set_option maxRecDepth 100000 in
theorem wX2_wholeOf_B113 {p : Program} {l : Launch} {e : Env} {s : State} {m : MethodId} {args : Array Value} {below : List Frame} {meth : Method} {c : Code} {D : va_G} {A : Nat → Prop} {ck : Nat → ClassId} {ad : Nat → Nat} (C : CX p s m args meth c RX2 cX2_wholeOf 10 (some .int)) (hA : ∀ q, s.heap.size ≤ q → A q) (hK : va_K D vwCl (tyM ck) s) (hX : XT s) (th : Int32) (mi : NI) (di : NL) (po : NI) (be : Int32) (mm : Int64) (ee : Int32) (fa : NI) (fb : NI) (x2 : Int32) (x4 : Int64) (x6 : Int32) (x7 : Int32) (ls : Array Slot) (H : Heap) (locs : List Loc) (u : Int32 × Int32 × NI × NL × NI × Int32 × Int64 × Int32 × NI × NI) (hP : va_P D vwCl (wM ck ad th mi di po be mm ee fa fb) H) (hD : va_D A (wM ck ad th mi di po be mm ee fa fb)) (hS : va_S A s.heap H locs) (hl : lv_has ls 10 [(0, .ref (ad 0)), (2, .int x2), (4, .long x4), (6, .int x6), (7, .int x7)]) (h : jX2_wholeOf_B113 th mi di po be mm ee fa fb x2 x4 x6 x7 = some u) : W p l e (rmz 1 21) s m args below meth c H locs 0 0 (MQ below (HQ D A (wM ck ad u.2.1 u.2.2.1 u.2.2.2.1 u.2.2.2.2.1 u.2.2.2.2.2.1 u.2.2.2.2.2.2.1 u.2.2.2.2.2.2.2.1 u.2.2.2.2.2.2.2.2.1 u.2.2.2.2.2.2.2.2.2) (some (.int u.1))) args s 0 0 A) (F0 m 113 ls []) := by
  obtain ⟨hx, hb, hml, hown, hg, hr, hlocks⟩ := id C
  unfold jX2_wholeOf_B113 at h
  refine lv_iload hx hb dX2_wholeOf_113 (lv_at hl 3 rfl) ?_
  refine rg_i (pj := 128) (v := (if x6 = 0 then (if x7 = 0 then 0 else 1 : Int32) else 1 : Int32)) (ls := ls) (rest := []) (fun kJ => ?_) ?_
  · refine lv_if_ne (tgt := 123) hx hb dX2_wholeOf_115 (by decide) (fun c_1 => ?_) (fun c_1 => ?_)
    · refine lv_iconst (v := 1) hx hb dX2_wholeOf_123 (by decide) ?_
      refine lv_goto (tgt := 128) hx hb dX2_wholeOf_124 (by decide) ?_
      exact kJ _ (by rw [if_neg c_1])
    · refine lv_iload hx hb dX2_wholeOf_118 (lv_at hl 4 rfl) ?_
      refine lv_if_eq (tgt := 127) hx hb dX2_wholeOf_120 (by decide) (fun c_2 => ?_) (fun c_2 => ?_)
      · refine lv_iconst (v := 0) hx hb dX2_wholeOf_127 (by decide) ?_
        exact kJ _ (by rw [if_pos c_1, if_pos c_2])
      · refine lv_iconst (v := 1) hx hb dX2_wholeOf_123 (by decide) ?_
        refine lv_goto (tgt := 128) hx hb dX2_wholeOf_124 (by decide) ?_
        exact kJ _ (by rw [if_pos c_1, if_neg c_2])
  refine lv_istore (lv' := [(8, .int (if x6 = 0 then (if x7 = 0 then 0 else 1 : Int32) else 1 : Int32)), (0, .ref (ad 0)), (2, .int x2), (4, .long x4), (6, .int x6), (7, .int x7)]) hx hb dX2_wholeOf_128 hl (by decide) rfl (fun ls hl => ?_)
  exact wX2_wholeOf_B130 C hA hK hX _ _ _ _ _ _ _ _ _ _ _ _ _ _ _ _ _ _ hP hD hS (lv_sub hl [1, 2, 3, 4, 5, 0] rfl) h
def jX2_wholeOf_B66 (th : Int32) (mi : NI) (di : NL) (po : NI) (be : Int32) (mm : Int64) (ee : Int32) (fa : NI) (fb : NI) (x2 : Int32) (x3 : Int32) (x4 : Int64) (x6 : Int32) : Option (Int32 × Int32 × NI × NL × NI × Int32 × Int64 × Int32 × NI × NI) := jX2_wholeOf_B113 th mi di po be mm ee fa fb x2 x4 x6 (if x3 ≤ 53 then (if (mm &&& ((sl 1 (x3 - 1)) - 1)) ≤ 0 then 0 else 1 : Int32) else (if mm ≤ 0 then 0 else 1 : Int32) : Int32)
set_option maxHeartbeats 4000000 in
set_option maxRecDepth 100000 in
theorem wX2_wholeOf_B66 {p : Program} {l : Launch} {e : Env} {s : State} {m : MethodId} {args : Array Value} {below : List Frame} {meth : Method} {c : Code} {D : va_G} {A : Nat → Prop} {ck : Nat → ClassId} {ad : Nat → Nat} (C : CX p s m args meth c RX2 cX2_wholeOf 10 (some .int)) (hA : ∀ q, s.heap.size ≤ q → A q) (hK : va_K D vwCl (tyM ck) s) (hX : XT s) (th : Int32) (mi : NI) (di : NL) (po : NI) (be : Int32) (mm : Int64) (ee : Int32) (fa : NI) (fb : NI) (x2 : Int32) (x3 : Int32) (x4 : Int64) (x6 : Int32) (ls : Array Slot) (H : Heap) (locs : List Loc) (u : Int32 × Int32 × NI × NL × NI × Int32 × Int64 × Int32 × NI × NI) (hP : va_P D vwCl (wM ck ad th mi di po be mm ee fa fb) H) (hD : va_D A (wM ck ad th mi di po be mm ee fa fb)) (hS : va_S A s.heap H locs) (hl : lv_has ls 10 [(0, .ref (ad 0)), (2, .int x2), (3, .int x3), (4, .long x4), (6, .int x6)]) (h : jX2_wholeOf_B66 th mi di po be mm ee fa fb x2 x3 x4 x6 = some u) : W p l e (rmz 1 21) s m args below meth c H locs 0 0 (MQ below (HQ D A (wM ck ad u.2.1 u.2.2.1 u.2.2.2.1 u.2.2.2.2.1 u.2.2.2.2.2.1 u.2.2.2.2.2.2.1 u.2.2.2.2.2.2.2.1 u.2.2.2.2.2.2.2.2.1 u.2.2.2.2.2.2.2.2.2) (some (.int u.1))) args s 0 0 A) (F0 m 66 ls []) := by
  obtain ⟨hx, hb, hml, hown, hg, hr, hlocks⟩ := id C
  unfold jX2_wholeOf_B66 at h
  refine lv_iload_n hx hb dX2_wholeOf_66 rfl (lv_at hl 2 rfl) ?_
  refine lv_bipush (v := 53) hx hb dX2_wholeOf_67 (by decide) ?_
  refine rg_i (pj := 111) (v := (if x3 ≤ 53 then (if (mm &&& ((sl 1 (x3 - 1)) - 1)) ≤ 0 then 0 else 1 : Int32) else (if mm ≤ 0 then 0 else 1 : Int32) : Int32)) (ls := ls) (rest := []) (fun kJ => ?_) ?_
  · refine lv_icmp_le (tgt := 89) hx hb dX2_wholeOf_69 (by decide) (fun c_1 => ?_) (fun c_1 => ?_)
    · refine lv_aload_n hx hb dX2_wholeOf_89 rfl (lv_at hl 0 rfl) ?_
      refine va_get hx hb hg inX2 hown hK hP 0 rfl rfl 5 (by decide) (hg _ tw_331) (fun _ h9 => h9) rfl dX2_wholeOf_90 ?_
      refine lv_lconst (v := 1) hx hb dX2_wholeOf_93 (by decide) ?_
      refine lv_iload_n hx hb dX2_wholeOf_94 rfl (lv_at hl 2 rfl) ?_
      refine lv_iconst (v := 1) hx hb dX2_wholeOf_95 (by decide) ?_
      refine lv_isub hx hb dX2_wholeOf_96 ?_
      refine lv_lshl (v := sl 1 (x3 - 1)) hx hb dX2_wholeOf_97 rfl ?_
      refine lv_lconst (v := 1) hx hb dX2_wholeOf_98 (by decide) ?_
      refine lv_lsub hx hb dX2_wholeOf_99 ?_
      refine lv_land hx hb dX2_wholeOf_100 ?_
      refine lv_lconst (v := 0) hx hb dX2_wholeOf_101 (by decide) ?_
      refine lc_le (tgt := 110) hx hb dX2_wholeOf_102 dX2_wholeOf_103 (by decide) (fun c_2 => ?_) (fun c_2 => ?_)
      · refine lv_iconst (v := 0) hx hb dX2_wholeOf_110 (by decide) ?_
        exact kJ _ (by rw [if_pos c_1, if_pos c_2])
      · refine lv_iconst (v := 1) hx hb dX2_wholeOf_106 (by decide) ?_
        refine lv_goto (tgt := 111) hx hb dX2_wholeOf_107 (by decide) ?_
        exact kJ _ (by rw [if_pos c_1, if_neg c_2])
    · refine lv_aload_n hx hb dX2_wholeOf_72 rfl (lv_at hl 0 rfl) ?_
      refine va_get hx hb hg inX2 hown hK hP 0 rfl rfl 5 (by decide) (hg _ tw_331) (fun _ h9 => h9) rfl dX2_wholeOf_73 ?_
      refine lv_lconst (v := 0) hx hb dX2_wholeOf_76 (by decide) ?_
      refine lc_le (tgt := 85) hx hb dX2_wholeOf_77 dX2_wholeOf_78 (by decide) (fun c_3 => ?_) (fun c_3 => ?_)
      · refine lv_iconst (v := 0) hx hb dX2_wholeOf_85 (by decide) ?_
        refine lv_goto (tgt := 111) hx hb dX2_wholeOf_86 (by decide) ?_
        exact kJ _ (by rw [if_neg c_1, if_pos c_3])
      · refine lv_iconst (v := 1) hx hb dX2_wholeOf_81 (by decide) ?_
        refine lv_goto (tgt := 111) hx hb dX2_wholeOf_82 (by decide) ?_
        exact kJ _ (by rw [if_neg c_1, if_neg c_3])
  refine lv_istore (lv' := [(7, .int (if x3 ≤ 53 then (if (mm &&& ((sl 1 (x3 - 1)) - 1)) ≤ 0 then 0 else 1 : Int32) else (if mm ≤ 0 then 0 else 1 : Int32) : Int32)), (0, .ref (ad 0)), (2, .int x2), (3, .int x3), (4, .long x4), (6, .int x6)]) hx hb dX2_wholeOf_111 hl (by decide) rfl (fun ls hl => ?_)
  exact wX2_wholeOf_B113 C hA hK hX _ _ _ _ _ _ _ _ _ _ _ _ _ _ _ _ _ hP hD hS (lv_sub hl [1, 2, 4, 5, 0] rfl) h
def jX2_wholeOf_B38 (th : Int32) (mi : NI) (di : NL) (po : NI) (be : Int32) (mm : Int64) (ee : Int32) (fa : NI) (fb : NI) (x2 : Int32) (x3 : Int32) (x4 : Int64) : Option (Int32 × Int32 × NI × NL × NI × Int32 × Int64 × Int32 × NI × NI) := jX2_wholeOf_B66 th mi di po be mm ee fa fb x2 x3 x4 (if 53 < x3 then 0 else (if ((sr mm (x3 - 1)) &&& 1) = 1 then 1 else 0 : Int32) : Int32)
set_option maxHeartbeats 4000000 in
set_option maxRecDepth 100000 in
theorem wX2_wholeOf_B38 {p : Program} {l : Launch} {e : Env} {s : State} {m : MethodId} {args : Array Value} {below : List Frame} {meth : Method} {c : Code} {D : va_G} {A : Nat → Prop} {ck : Nat → ClassId} {ad : Nat → Nat} (C : CX p s m args meth c RX2 cX2_wholeOf 10 (some .int)) (hA : ∀ q, s.heap.size ≤ q → A q) (hK : va_K D vwCl (tyM ck) s) (hX : XT s) (th : Int32) (mi : NI) (di : NL) (po : NI) (be : Int32) (mm : Int64) (ee : Int32) (fa : NI) (fb : NI) (x2 : Int32) (x3 : Int32) (x4 : Int64) (ls : Array Slot) (H : Heap) (locs : List Loc) (u : Int32 × Int32 × NI × NL × NI × Int32 × Int64 × Int32 × NI × NI) (hP : va_P D vwCl (wM ck ad th mi di po be mm ee fa fb) H) (hD : va_D A (wM ck ad th mi di po be mm ee fa fb)) (hS : va_S A s.heap H locs) (hl : lv_has ls 10 [(0, .ref (ad 0)), (2, .int x2), (3, .int x3), (4, .long x4)]) (h : jX2_wholeOf_B38 th mi di po be mm ee fa fb x2 x3 x4 = some u) : W p l e (rmz 1 21) s m args below meth c H locs 0 0 (MQ below (HQ D A (wM ck ad u.2.1 u.2.2.1 u.2.2.2.1 u.2.2.2.2.1 u.2.2.2.2.2.1 u.2.2.2.2.2.2.1 u.2.2.2.2.2.2.2.1 u.2.2.2.2.2.2.2.2.1 u.2.2.2.2.2.2.2.2.2) (some (.int u.1))) args s 0 0 A) (F0 m 38 ls []) := by
  obtain ⟨hx, hb, hml, hown, hg, hr, hlocks⟩ := id C
  unfold jX2_wholeOf_B38 at h
  refine lv_iload_n hx hb dX2_wholeOf_38 rfl (lv_at hl 2 rfl) ?_
  refine lv_bipush (v := 53) hx hb dX2_wholeOf_39 (by decide) ?_
  refine rg_i (pj := 64) (v := (if 53 < x3 then 0 else (if ((sr mm (x3 - 1)) &&& 1) = 1 then 1 else 0 : Int32) : Int32)) (ls := ls) (rest := []) (fun kJ => ?_) ?_
  · refine lv_icmp_gt (tgt := 63) hx hb dX2_wholeOf_41 (by decide) (fun c_1 => ?_) (fun c_1 => ?_)
    · refine lv_iconst (v := 0) hx hb dX2_wholeOf_63 (by decide) ?_
      exact kJ _ (by rw [if_pos c_1])
    · refine lv_aload_n hx hb dX2_wholeOf_44 rfl (lv_at hl 0 rfl) ?_
      refine va_get hx hb hg inX2 hown hK hP 0 rfl rfl 5 (by decide) (hg _ tw_331) (fun _ h9 => h9) rfl dX2_wholeOf_45 ?_
      refine lv_iload_n hx hb dX2_wholeOf_48 rfl (lv_at hl 2 rfl) ?_
      refine lv_iconst (v := 1) hx hb dX2_wholeOf_49 (by decide) ?_
      refine lv_isub hx hb dX2_wholeOf_50 ?_
      refine lv_lshr (v := sr mm (x3 - 1)) hx hb dX2_wholeOf_51 rfl ?_
      refine lv_lconst (v := 1) hx hb dX2_wholeOf_52 (by decide) ?_
      refine lv_land hx hb dX2_wholeOf_53 ?_
      refine lv_lconst (v := 1) hx hb dX2_wholeOf_54 (by decide) ?_
      refine lc_ne (tgt := 63) hx hb dX2_wholeOf_55 dX2_wholeOf_56 (by decide) (fun c_2 => ?_) (fun c_2 => ?_)
      · refine lv_iconst (v := 0) hx hb dX2_wholeOf_63 (by decide) ?_
        exact kJ _ (by rw [if_neg c_1, if_neg c_2])
      · refine lv_iconst (v := 1) hx hb dX2_wholeOf_59 (by decide) ?_
        refine lv_goto (tgt := 64) hx hb dX2_wholeOf_60 (by decide) ?_
        exact kJ _ (by rw [if_neg c_1, if_pos c_2])
  refine lv_istore (lv' := [(6, .int (if 53 < x3 then 0 else (if ((sr mm (x3 - 1)) &&& 1) = 1 then 1 else 0 : Int32) : Int32)), (0, .ref (ad 0)), (2, .int x2), (3, .int x3), (4, .long x4)]) hx hb dX2_wholeOf_64 hl (by decide) rfl (fun ls hl => ?_)
  exact wX2_wholeOf_B66 C hA hK hX _ _ _ _ _ _ _ _ _ _ _ _ _ _ _ _ _ hP hD hS (lv_sub hl [1, 2, 3, 4, 0] rfl) h
def jX2_wholeOf_B20 (th : Int32) (mi : NI) (di : NL) (po : NI) (be : Int32) (mm : Int64) (ee : Int32) (fa : NI) (fb : NI) (x2 : Int32) (x3 : Int32) : Option (Int32 × Int32 × NI × NL × NI × Int32 × Int64 × Int32 × NI × NI) := jX2_wholeOf_B38 th mi di po be mm ee fa fb x2 x3 (if x3 ≤ 53 then sr mm x3 else 0 : Int64)
set_option maxHeartbeats 4000000 in
set_option maxRecDepth 100000 in
theorem wX2_wholeOf_B20 {p : Program} {l : Launch} {e : Env} {s : State} {m : MethodId} {args : Array Value} {below : List Frame} {meth : Method} {c : Code} {D : va_G} {A : Nat → Prop} {ck : Nat → ClassId} {ad : Nat → Nat} (C : CX p s m args meth c RX2 cX2_wholeOf 10 (some .int)) (hA : ∀ q, s.heap.size ≤ q → A q) (hK : va_K D vwCl (tyM ck) s) (hX : XT s) (th : Int32) (mi : NI) (di : NL) (po : NI) (be : Int32) (mm : Int64) (ee : Int32) (fa : NI) (fb : NI) (x2 : Int32) (x3 : Int32) (ls : Array Slot) (H : Heap) (locs : List Loc) (u : Int32 × Int32 × NI × NL × NI × Int32 × Int64 × Int32 × NI × NI) (hP : va_P D vwCl (wM ck ad th mi di po be mm ee fa fb) H) (hD : va_D A (wM ck ad th mi di po be mm ee fa fb)) (hS : va_S A s.heap H locs) (hl : lv_has ls 10 [(0, .ref (ad 0)), (2, .int x2), (3, .int x3)]) (h : jX2_wholeOf_B20 th mi di po be mm ee fa fb x2 x3 = some u) : W p l e (rmz 1 21) s m args below meth c H locs 0 0 (MQ below (HQ D A (wM ck ad u.2.1 u.2.2.1 u.2.2.2.1 u.2.2.2.2.1 u.2.2.2.2.2.1 u.2.2.2.2.2.2.1 u.2.2.2.2.2.2.2.1 u.2.2.2.2.2.2.2.2.1 u.2.2.2.2.2.2.2.2.2) (some (.int u.1))) args s 0 0 A) (F0 m 20 ls []) := by
  obtain ⟨hx, hb, hml, hown, hg, hr, hlocks⟩ := id C
  unfold jX2_wholeOf_B20 at h
  refine lv_iload_n hx hb dX2_wholeOf_20 rfl (lv_at hl 2 rfl) ?_
  refine lv_bipush (v := 53) hx hb dX2_wholeOf_21 (by decide) ?_
  refine rg_l (pj := 36) (v := (if x3 ≤ 53 then sr mm x3 else 0 : Int64)) (ls := ls) (rest := []) (fun kJ => ?_) ?_
  · refine lv_icmp_le (tgt := 30) hx hb dX2_wholeOf_23 (by decide) (fun c_1 => ?_) (fun c_1 => ?_)
    · refine lv_aload_n hx hb dX2_wholeOf_30 rfl (lv_at hl 0 rfl) ?_
      refine va_get hx hb hg inX2 hown hK hP 0 rfl rfl 5 (by decide) (hg _ tw_331) (fun _ h9 => h9) rfl dX2_wholeOf_31 ?_
      refine lv_iload_n hx hb dX2_wholeOf_34 rfl (lv_at hl 2 rfl) ?_
      refine lv_lshr (v := sr mm x3) hx hb dX2_wholeOf_35 rfl ?_
      exact kJ _ (by rw [if_pos c_1])
    · refine lv_lconst (v := 0) hx hb dX2_wholeOf_26 (by decide) ?_
      refine lv_goto (tgt := 36) hx hb dX2_wholeOf_27 (by decide) ?_
      exact kJ _ (by rw [if_neg c_1])
  refine lv_lstore (lv' := [(4, .long (if x3 ≤ 53 then sr mm x3 else 0 : Int64)), (0, .ref (ad 0)), (2, .int x2), (3, .int x3)]) hx hb dX2_wholeOf_36 hl (by decide) rfl (fun ls hl => ?_)
  exact wX2_wholeOf_B38 C hA hK hX _ _ _ _ _ _ _ _ _ _ _ _ _ _ _ _ hP hD hS (lv_sub hl [1, 2, 3, 0] rfl) h
def jX2_wholeOf (th : Int32) (mi : NI) (di : NL) (po : NI) (be : Int32) (mm : Int64) (ee : Int32) (fa : NI) (fb : NI) (x1 : Int32) (x2 : Int32) : Option (Int32 × Int32 × NI × NL × NI × Int32 × Int64 × Int32 × NI × NI) := (bMv (jX2_take th mi di po be mm ee fa fb x1) fun th_1 mi_1 di_1 po_1 be_1 mm_1 ee_1 fa_1 fb_1 => (if ee_1 < 0 then jX2_wholeOf_B20 th_1 mi_1 di_1 po_1 be_1 mm_1 ee_1 fa_1 fb_1 x2 (-ee_1) else some (0, th_1, mi_1, di_1, po_1, be_1, mm_1, ee_1, fa_1, fb_1)))
set_option maxHeartbeats 4000000 in
set_option maxRecDepth 100000 in
theorem wX2_wholeOf_0 {p : Program} {l : Launch} {e : Env} {s : State} {m : MethodId} {args : Array Value} {below : List Frame} {meth : Method} {c : Code} {D : va_G} {A : Nat → Prop} {ck : Nat → ClassId} {ad : Nat → Nat} (C : CX p s m args meth c RX2 cX2_wholeOf 10 (some .int)) (hA : ∀ q, s.heap.size ≤ q → A q) (hK : va_K D vwCl (tyM ck) s) (hX : XT s) (th : Int32) (mi : NI) (di : NL) (po : NI) (be : Int32) (mm : Int64) (ee : Int32) (fa : NI) (fb : NI) (x1 : Int32) (x2 : Int32) (ls : Array Slot) (H : Heap) (locs : List Loc) (u : Int32 × Int32 × NI × NL × NI × Int32 × Int64 × Int32 × NI × NI) (hP : va_P D vwCl (wM ck ad th mi di po be mm ee fa fb) H) (hD : va_D A (wM ck ad th mi di po be mm ee fa fb)) (hS : va_S A s.heap H locs) (hl : lv_has ls 10 [(0, .ref (ad 0)), (1, .int x1), (2, .int x2)]) (h : jX2_wholeOf th mi di po be mm ee fa fb x1 x2 = some u) : W p l e (rmz 1 21) s m args below meth c H locs 0 0 (MQ below (HQ D A (wM ck ad u.2.1 u.2.2.1 u.2.2.2.1 u.2.2.2.2.1 u.2.2.2.2.2.1 u.2.2.2.2.2.2.1 u.2.2.2.2.2.2.2.1 u.2.2.2.2.2.2.2.2.1 u.2.2.2.2.2.2.2.2.2) (some (.int u.1))) args s 0 0 A) (F0 m 0 ls []) := by
  obtain ⟨hx, hb, hml, hown, hg, hr, hlocks⟩ := id C
  unfold jX2_wholeOf at h
  refine lv_aload_n hx hb dX2_wholeOf_0 rfl (lv_at hl 0 rfl) ?_
  refine lv_iload_n hx hb dX2_wholeOf_1 rfl (lv_at hl 1 rfl) ?_
  obtain ⟨th_1, mi_1, di_1, po_1, be_1, mm_1, ee_1, fa_1, fb_1, h_r_1, h⟩ := of_bMv h
  refine callMM C hK hX hP hD hS hA (cX2_take_met l ck ad _ _ _ _ _ _ _ _ _ _ _ h_r_1) vc_X2_take tw_470 (by decide) rfl hl.1 (rest := []) rfl (Nat.le_of_ble_eq_true rfl) (by decide) dX2_wholeOf_2 (fun H locs hP hD hS => ?_)
  have hP : va_P D vwCl (wM ck ad th_1 mi_1 di_1 po_1 be_1 mm_1 ee_1 fa_1 fb_1) H := hP
  have hD : va_D A (wM ck ad th_1 mi_1 di_1 po_1 be_1 mm_1 ee_1 fa_1 fb_1) := hD
  refine W.eq (g2 := F0 m 5 ls []) rfl ?_
  refine lv_aload_n hx hb dX2_wholeOf_5 rfl (lv_at hl 0 rfl) ?_
  refine va_get hx hb hg inX2 hown hK hP 0 rfl rfl 6 (by decide) (hg _ tw_332) (fun _ h9 => h9) rfl dX2_wholeOf_6 ?_
  refine lv_if_lt (tgt := 14) hx hb dX2_wholeOf_9 (by decide) (fun c_1 => ?_) (fun c_1 => ?_)
  · rw [if_pos c_1] at h
    refine lv_aload_n hx hb dX2_wholeOf_14 rfl (lv_at hl 0 rfl) ?_
    refine va_get hx hb hg inX2 hown hK hP 0 rfl rfl 6 (by decide) (hg _ tw_332) (fun _ h9 => h9) rfl dX2_wholeOf_15 ?_
    refine lv_ineg hx hb dX2_wholeOf_18 ?_
    refine lv_istore_n (lv' := [(3, .int (-ee_1)), (0, .ref (ad 0)), (1, .int x1), (2, .int x2)]) hx hb dX2_wholeOf_19 rfl hl (by decide) rfl (fun ls hl => ?_)
    exact wX2_wholeOf_B20 C hA hK hX _ _ _ _ _ _ _ _ _ _ _ _ _ _ _ hP hD hS (lv_sub hl [1, 3, 0] rfl) h
  · rw [if_neg c_1] at h
    refine lv_iconst (v := 0) hx hb dX2_wholeOf_12 (by decide) ?_
    cases h
    exact W.iret hx hb hr (fun t ht _ => ⟨rfl, by rw [ht]; exact hP, hD, hS.F ht⟩) hS.2.2 dX2_wholeOf_13
theorem vc_X2_wholeOf : VC RX2 yX2_wholeOf cX2_wholeOf 10 (some .int) 2 := ⟨tw_522, ts_25, tw_2, tw_523, by decide +kernel⟩
theorem cX2_wholeOf_met (l : Launch) (ck : Nat → ClassId) (ad : Nat → Nat) (th : Int32) (mi : NI) (di : NL) (po : NI) (be : Int32) (mm : Int64) (ee : Int32) (fa : NI) (fb : NI) (x1 : Int32) (x2 : Int32) (u : Int32 × Int32 × NI × NL × NI × Int32 × Int64 × Int32 × NI × NI) (h : jX2_wholeOf th mi di po be mm ee fa fb x1 x2 = some u) : HM l yX2_wholeOf cX2_wholeOf 10 (some .int) (rmz 1 21) [.ref (ad 0), .int x1, .int x2] (tyM ck) (wM ck ad th mi di po be mm ee fa fb) (some (.int u.1)) (wM ck ad u.2.1 u.2.2.1 u.2.2.2.1 u.2.2.2.2.1 u.2.2.2.2.2.1 u.2.2.2.2.2.2.1 u.2.2.2.2.2.2.2.1 u.2.2.2.2.2.2.2.2.1 u.2.2.2.2.2.2.2.2.2) :=
  hm_of (own := RX2) (by decide +kernel) rfl (Nat.le_of_ble_eq_true rfl) (fun D A p e s m below meth c ls C hA hK hX hP hD hS hl => wX2_wholeOf_0 C hA hK hX th mi di po be mm ee fa fb x1 x2 ls _ _ u hP hD hS hl h)

/-! RealDeskModel.neighbour(IZ)I -/
def jX2_neighbour_B71 (th : Int32) (mi : NI) (di : NL) (po : NI) (be : Int32) (mm : Int64) (ee : Int32) (fa : NI) (fb : NI) (x3 : Int64) (x5 : Int64) (x7 : Int64) : Option (Int32 × Int32 × NI × NL × NI × Int32 × Int64 × Int32 × NI × NI) := (if x7 ≤ x5 then some (0, th, mi, di, po, (if 0 ≤ x3 then 0 else 1 : Int32), x7 - (sl (((if 9007199254740992 ≤ x7 then (((sr x7 52).toInt32) - 1) - 1074 else (-1074) : Int32) + 1074).toInt64) 52), (if 9007199254740992 ≤ x7 then (((sr x7 52).toInt32) - 1) - 1074 else (-1074) : Int32), fa, fb) else some ((-1), th, mi, di, po, be, mm, ee, fa, fb))
set_option maxHeartbeats 4000000 in
set_option maxRecDepth 100000 in
theorem wX2_neighbour_B71 {p : Program} {l : Launch} {e : Env} {s : State} {m : MethodId} {args : Array Value} {below : List Frame} {meth : Method} {c : Code} {D : va_G} {A : Nat → Prop} {ck : Nat → ClassId} {ad : Nat → Nat} (C : CX p s m args meth c RX2 cX2_neighbour 9 (some .int)) (hA : ∀ q, s.heap.size ≤ q → A q) (hK : va_K D vwCl (tyM ck) s) (hX : XT s) (th : Int32) (mi : NI) (di : NL) (po : NI) (be : Int32) (mm : Int64) (ee : Int32) (fa : NI) (fb : NI) (x3 : Int64) (x5 : Int64) (x7 : Int64) (ls : Array Slot) (H : Heap) (locs : List Loc) (u : Int32 × Int32 × NI × NL × NI × Int32 × Int64 × Int32 × NI × NI) (hP : va_P D vwCl (wM ck ad th mi di po be mm ee fa fb) H) (hD : va_D A (wM ck ad th mi di po be mm ee fa fb)) (hS : va_S A s.heap H locs) (hl : lv_has ls 9 [(0, .ref (ad 0)), (3, .long x3), (5, .long x5), (7, .long x7)]) (h : jX2_neighbour_B71 th mi di po be mm ee fa fb x3 x5 x7 = some u) : W p l e (rmz 0 0) s m args below meth c H locs 0 0 (MQ below (HQ D A (wM ck ad u.2.1 u.2.2.1 u.2.2.2.1 u.2.2.2.2.1 u.2.2.2.2.2.1 u.2.2.2.2.2.2.1 u.2.2.2.2.2.2.2.1 u.2.2.2.2.2.2.2.2.1 u.2.2.2.2.2.2.2.2.2) (some (.int u.1))) args s 0 0 A) (F0 m 71 ls []) := by
  obtain ⟨hx, hb, hml, hown, hg, hr, hlocks⟩ := id C
  unfold jX2_neighbour_B71 at h
  refine lv_lload hx hb dX2_neighbour_71 (lv_at hl 3 rfl) ?_
  refine lv_lload hx hb dX2_neighbour_73 (lv_at hl 2 rfl) ?_
  refine lc_le (tgt := 81) hx hb dX2_neighbour_75 dX2_neighbour_76 (by decide) (fun c_1 => ?_) (fun c_1 => ?_)
  · rw [if_pos c_1] at h
    refine lv_aload_n hx hb dX2_neighbour_81 rfl (lv_at hl 0 rfl) ?_
    refine lv_lload_n hx hb dX2_neighbour_82 rfl (lv_at hl 1 rfl) ?_
    refine lv_lconst (v := 0) hx hb dX2_neighbour_83 (by decide) ?_
    refine rg_i (pj := 93) (v := (if 0 ≤ x3 then 0 else 1 : Int32)) (ls := ls) (rest := [.ref (ad 0)]) (fun kJ => ?_) ?_
    · refine lc_ge (tgt := 92) hx hb dX2_neighbour_84 dX2_neighbour_85 (by decide) (fun c_2 => ?_) (fun c_2 => ?_)
      · refine lv_iconst (v := 0) hx hb dX2_neighbour_92 (by decide) ?_
        exact kJ _ (by rw [if_pos c_2])
      · refine lv_iconst (v := 1) hx hb dX2_neighbour_88 (by decide) ?_
        refine lv_goto (tgt := 93) hx hb dX2_neighbour_89 (by decide) ?_
        exact kJ _ (by rw [if_neg c_2])
    refine va_put hx hb hg inX2 tyX2 tyX2_ok nmX2 hown hK hP hD hS 0 rfl rfl 4 (by decide) (hg _ tw_330) (fun _ h9 => h9) rfl (tyX2_ok 4 (by decide)) (bz_n (bz_ite bz_0 bz_1)) (bz_f (bz_ite bz_0 bz_1)) (Nat.le_of_ble_eq_true rfl) dX2_neighbour_93 (fun H locs hP hD hS => ?_)
    have hP : va_P D vwCl (wM ck ad th mi di po (if 0 ≤ x3 then 0 else 1 : Int32) mm ee fa fb) H := hP
    have hD : va_D A (wM ck ad th mi di po (if 0 ≤ x3 then 0 else 1 : Int32) mm ee fa fb) := hD
    refine lv_aload_n hx hb dX2_neighbour_96 rfl (lv_at hl 0 rfl) ?_
    refine lv_lload hx hb dX2_neighbour_97 (lv_at hl 3 rfl) ?_
    refine lv_ldc2 hx hb hown (hg _ tw_366) dX2_neighbour_99 ?_
    refine rg_i (pj := 124) (v := (if 9007199254740992 ≤ x7 then (((sr x7 52).toInt32) - 1) - 1074 else (-1074) : Int32)) (ls := ls) (rest := [.ref (ad 0)]) (fun kJ => ?_) ?_
    · refine lc_ge (tgt := 112) hx hb dX2_neighbour_102 dX2_neighbour_103 (by decide) (fun c_3 => ?_) (fun c_3 => ?_)
      · refine lv_lload hx hb dX2_neighbour_112 (lv_at hl 3 rfl) ?_
        refine lv_bipush (v := 52) hx hb dX2_neighbour_114 (by decide) ?_
        refine lv_lshr (v := sr x7 52) hx hb dX2_neighbour_116 rfl ?_
        refine lv_l2i hx hb dX2_neighbour_117 rfl ?_
        refine lv_iconst (v := 1) hx hb dX2_neighbour_118 (by decide) ?_
        refine lv_isub hx hb dX2_neighbour_119 ?_
        refine lv_sipush (v := 1074) hx hb dX2_neighbour_120 (by decide) ?_
        refine lv_isub hx hb dX2_neighbour_123 ?_
        exact kJ _ (by rw [if_pos c_3])
      · refine lv_sipush (v := (-1074)) hx hb dX2_neighbour_106 (by decide) ?_
        refine lv_goto (tgt := 124) hx hb dX2_neighbour_109 (by decide) ?_
        exact kJ _ (by rw [if_neg c_3])
    refine va_put hx hb hg inX2 tyX2 tyX2_ok nmX2 hown hK hP hD hS 0 rfl rfl 6 (by decide) (hg _ tw_332) (fun _ h9 => h9) rfl (tyX2_ok 6 (by decide)) rfl rfl (Nat.le_of_ble_eq_true rfl) dX2_neighbour_124 (fun H locs hP hD hS => ?_)
    have hP : va_P D vwCl (wM ck ad th mi di po (if 0 ≤ x3 then 0 else 1 : Int32) mm (if 9007199254740992 ≤ x7 then (((sr x7 52).toInt32) - 1) - 1074 else (-1074) : Int32) fa fb) H := hP
    have hD : va_D A (wM ck ad th mi di po (if 0 ≤ x3 then 0 else 1 : Int32) mm (if 9007199254740992 ≤ x7 then (((sr x7 52).toInt32) - 1) - 1074 else (-1074) : Int32) fa fb) := hD
    refine lv_aload_n hx hb dX2_neighbour_127 rfl (lv_at hl 0 rfl) ?_
    refine lv_lload hx hb dX2_neighbour_128 (lv_at hl 3 rfl) ?_
    refine lv_aload_n hx hb dX2_neighbour_130 rfl (lv_at hl 0 rfl) ?_
    refine va_get hx hb hg inX2 hown hK hP 0 rfl rfl 6 (by decide) (hg _ tw_332) (fun _ h9 => h9) rfl dX2_neighbour_131 ?_
    refine lv_sipush (v := 1074) hx hb dX2_neighbour_134 (by decide) ?_
    refine lv_iadd hx hb dX2_neighbour_137 ?_
    refine lv_i2l hx hb dX2_neighbour_138 rfl ?_
    refine lv_bipush (v := 52) hx hb dX2_neighbour_139 (by decide) ?_
    refine lv_lshl (v := sl (((if 9007199254740992 ≤ x7 then (((sr x7 52).toInt32) - 1) - 1074 else (-1074) : Int32) + 1074).toInt64) 52) hx hb dX2_neighbour_141 rfl ?_
    refine lv_lsub hx hb dX2_neighbour_142 ?_
    refine va_put hx hb hg inX2 tyX2 tyX2_ok nmX2 hown hK hP hD hS 0 rfl rfl 5 (by decide) (hg _ tw_331) (fun _ h9 => h9) rfl (tyX2_ok 5 (by decide)) rfl rfl (Nat.le_of_ble_eq_true rfl) dX2_neighbour_143 (fun H locs hP hD hS => ?_)
    have hP : va_P D vwCl (wM ck ad th mi di po (if 0 ≤ x3 then 0 else 1 : Int32) (x7 - (sl (((if 9007199254740992 ≤ x7 then (((sr x7 52).toInt32) - 1) - 1074 else (-1074) : Int32) + 1074).toInt64) 52)) (if 9007199254740992 ≤ x7 then (((sr x7 52).toInt32) - 1) - 1074 else (-1074) : Int32) fa fb) H := hP
    have hD : va_D A (wM ck ad th mi di po (if 0 ≤ x3 then 0 else 1 : Int32) (x7 - (sl (((if 9007199254740992 ≤ x7 then (((sr x7 52).toInt32) - 1) - 1074 else (-1074) : Int32) + 1074).toInt64) 52)) (if 9007199254740992 ≤ x7 then (((sr x7 52).toInt32) - 1) - 1074 else (-1074) : Int32) fa fb) := hD
    refine lv_iconst (v := 0) hx hb dX2_neighbour_146 (by decide) ?_
    cases h
    exact W.iret hx hb hr (fun t ht _ => ⟨rfl, by rw [ht]; exact hP, hD, hS.F ht⟩) hS.2.2 dX2_neighbour_147
  · rw [if_neg c_1] at h
    refine lv_iconst (v := (-1)) hx hb dX2_neighbour_79 (by decide) ?_
    cases h
    exact W.iret hx hb hr (fun t ht _ => ⟨rfl, by rw [ht]; exact hP, hD, hS.F ht⟩) hS.2.2 dX2_neighbour_80
def jX2_neighbour_B57 (th : Int32) (mi : NI) (di : NL) (po : NI) (be : Int32) (mm : Int64) (ee : Int32) (fa : NI) (fb : NI) (x3 : Int64) (x5 : Int64) : Option (Int32 × Int32 × NI × NL × NI × Int32 × Int64 × Int32 × NI × NI) := jX2_neighbour_B71 th mi di po be mm ee fa fb x3 x5 (if 0 ≤ x3 then x3 else -x3 : Int64)
set_option maxHeartbeats 4000000 in
set_option maxRecDepth 100000 in
theorem wX2_neighbour_B57 {p : Program} {l : Launch} {e : Env} {s : State} {m : MethodId} {args : Array Value} {below : List Frame} {meth : Method} {c : Code} {D : va_G} {A : Nat → Prop} {ck : Nat → ClassId} {ad : Nat → Nat} (C : CX p s m args meth c RX2 cX2_neighbour 9 (some .int)) (hA : ∀ q, s.heap.size ≤ q → A q) (hK : va_K D vwCl (tyM ck) s) (hX : XT s) (th : Int32) (mi : NI) (di : NL) (po : NI) (be : Int32) (mm : Int64) (ee : Int32) (fa : NI) (fb : NI) (x3 : Int64) (x5 : Int64) (ls : Array Slot) (H : Heap) (locs : List Loc) (u : Int32 × Int32 × NI × NL × NI × Int32 × Int64 × Int32 × NI × NI) (hP : va_P D vwCl (wM ck ad th mi di po be mm ee fa fb) H) (hD : va_D A (wM ck ad th mi di po be mm ee fa fb)) (hS : va_S A s.heap H locs) (hl : lv_has ls 9 [(0, .ref (ad 0)), (3, .long x3), (5, .long x5)]) (h : jX2_neighbour_B57 th mi di po be mm ee fa fb x3 x5 = some u) : W p l e (rmz 0 0) s m args below meth c H locs 0 0 (MQ below (HQ D A (wM ck ad u.2.1 u.2.2.1 u.2.2.2.1 u.2.2.2.2.1 u.2.2.2.2.2.1 u.2.2.2.2.2.2.1 u.2.2.2.2.2.2.2.1 u.2.2.2.2.2.2.2.2.1 u.2.2.2.2.2.2.2.2.2) (some (.int u.1))) args s 0 0 A) (F0 m 57 ls []) := by
  obtain ⟨hx, hb, hml, hown, hg, hr, hlocks⟩ := id C
  unfold jX2_neighbour_B57 at h
  refine lv_lload_n hx hb dX2_neighbour_57 rfl (lv_at hl 1 rfl) ?_
  refine lv_lconst (v := 0) hx hb dX2_neighbour_58 (by decide) ?_
  refine rg_l (pj := 69) (v := (if 0 ≤ x3 then x3 else -x3 : Int64)) (ls := ls) (rest := []) (fun kJ => ?_) ?_
  · refine lc_ge (tgt := 68) hx hb dX2_neighbour_59 dX2_neighbour_60 (by decide) (fun c_1 => ?_) (fun c_1 => ?_)
    · refine lv_lload_n hx hb dX2_neighbour_68 rfl (lv_at hl 1 rfl) ?_
      exact kJ _ (by rw [if_pos c_1])
    · refine lv_lload_n hx hb dX2_neighbour_63 rfl (lv_at hl 1 rfl) ?_
      refine lv_lneg hx hb dX2_neighbour_64 ?_
      refine lv_goto (tgt := 69) hx hb dX2_neighbour_65 (by decide) ?_
      exact kJ _ (by rw [if_neg c_1])
  refine lv_lstore (lv' := [(7, .long (if 0 ≤ x3 then x3 else -x3 : Int64)), (0, .ref (ad 0)), (3, .long x3), (5, .long x5)]) hx hb dX2_neighbour_69 hl (by decide) rfl (fun ls hl => ?_)
  exact wX2_neighbour_B71 C hA hK hX _ _ _ _ _ _ _ _ _ _ _ _ _ _ _ _ hP hD hS (lv_sub hl [1, 2, 3, 0] rfl) h
def jX2_neighbour_B43 (th : Int32) (mi : NI) (di : NL) (po : NI) (be : Int32) (mm : Int64) (ee : Int32) (fa : NI) (fb : NI) (x2 : Int32) (x3 : Int64) (x5 : Int64) : Option (Int32 × Int32 × NI × NL × NI × Int32 × Int64 × Int32 × NI × NI) := jX2_neighbour_B57 th mi di po be mm ee fa fb (if x2 = 0 then x3 - 1 else x3 + 1 : Int64) x5
set_option maxHeartbeats 4000000 in
set_option maxRecDepth 100000 in
theorem wX2_neighbour_B43 {p : Program} {l : Launch} {e : Env} {s : State} {m : MethodId} {args : Array Value} {below : List Frame} {meth : Method} {c : Code} {D : va_G} {A : Nat → Prop} {ck : Nat → ClassId} {ad : Nat → Nat} (C : CX p s m args meth c RX2 cX2_neighbour 9 (some .int)) (hA : ∀ q, s.heap.size ≤ q → A q) (hK : va_K D vwCl (tyM ck) s) (hX : XT s) (th : Int32) (mi : NI) (di : NL) (po : NI) (be : Int32) (mm : Int64) (ee : Int32) (fa : NI) (fb : NI) (x2 : Int32) (x3 : Int64) (x5 : Int64) (ls : Array Slot) (H : Heap) (locs : List Loc) (u : Int32 × Int32 × NI × NL × NI × Int32 × Int64 × Int32 × NI × NI) (hP : va_P D vwCl (wM ck ad th mi di po be mm ee fa fb) H) (hD : va_D A (wM ck ad th mi di po be mm ee fa fb)) (hS : va_S A s.heap H locs) (hl : lv_has ls 9 [(0, .ref (ad 0)), (2, .int x2), (3, .long x3), (5, .long x5)]) (h : jX2_neighbour_B43 th mi di po be mm ee fa fb x2 x3 x5 = some u) : W p l e (rmz 0 0) s m args below meth c H locs 0 0 (MQ below (HQ D A (wM ck ad u.2.1 u.2.2.1 u.2.2.2.1 u.2.2.2.2.1 u.2.2.2.2.2.1 u.2.2.2.2.2.2.1 u.2.2.2.2.2.2.2.1 u.2.2.2.2.2.2.2.2.1 u.2.2.2.2.2.2.2.2.2) (some (.int u.1))) args s 0 0 A) (F0 m 43 ls []) := by
  obtain ⟨hx, hb, hml, hown, hg, hr, hlocks⟩ := id C
  unfold jX2_neighbour_B43 at h
  refine lv_iload_n hx hb dX2_neighbour_43 rfl (lv_at hl 1 rfl) ?_
  refine rg_l (pj := 56) (v := (if x2 = 0 then x3 - 1 else x3 + 1 : Int64)) (ls := ls) (rest := []) (fun kJ => ?_) ?_
  · refine lv_if_eq (tgt := 53) hx hb dX2_neighbour_44 (by decide) (fun c_1 => ?_) (fun c_1 => ?_)
    · refine lv_lload_n hx hb dX2_neighbour_53 rfl (lv_at hl 2 rfl) ?_
      refine lv_lconst (v := 1) hx hb dX2_neighbour_54 (by decide) ?_
      refine lv_lsub hx hb dX2_neighbour_55 ?_
      exact kJ _ (by rw [if_pos c_1])
    · refine lv_lload_n hx hb dX2_neighbour_47 rfl (lv_at hl 2 rfl) ?_
      refine lv_lconst (v := 1) hx hb dX2_neighbour_48 (by decide) ?_
      refine lv_ladd hx hb dX2_neighbour_49 ?_
      refine lv_goto (tgt := 56) hx hb dX2_neighbour_50 (by decide) ?_
      exact kJ _ (by rw [if_neg c_1])
  refine lv_lstore_n (lv' := [(3, .long (if x2 = 0 then x3 - 1 else x3 + 1 : Int64)), (0, .ref (ad 0)), (2, .int x2), (5, .long x5)]) hx hb dX2_neighbour_56 rfl hl (by decide) rfl (fun ls hl => ?_)
  exact wX2_neighbour_B57 C hA hK hX _ _ _ _ _ _ _ _ _ _ _ _ _ _ _ hP hD hS (lv_sub hl [1, 0, 3] rfl) h
def jX2_neighbour_B22 (th : Int32) (mi : NI) (di : NL) (po : NI) (be : Int32) (mm : Int64) (ee : Int32) (fa : NI) (fb : NI) (x1 : Int32) (x2 : Int32) (x3 : Int64) : Option (Int32 × Int32 × NI × NL × NI × Int32 × Int64 × Int32 × NI × NI) := (if ok x1 16 = true then jX2_neighbour_B43 th mi di po be mm ee fa fb x2 (if (mi x1.toNatClampNeg) = 0 then x3 else -x3 : Int64) 9218868437227405311 else none)
set_option maxHeartbeats 4000000 in
set_option maxRecDepth 100000 in
theorem wX2_neighbour_B22 {p : Program} {l : Launch} {e : Env} {s : State} {m : MethodId} {args : Array Value} {below : List Frame} {meth : Method} {c : Code} {D : va_G} {A : Nat → Prop} {ck : Nat → ClassId} {ad : Nat → Nat} (C : CX p s m args meth c RX2 cX2_neighbour 9 (some .int)) (hA : ∀ q, s.heap.size ≤ q → A q) (hK : va_K D vwCl (tyM ck) s) (hX : XT s) (th : Int32) (mi : NI) (di : NL) (po : NI) (be : Int32) (mm : Int64) (ee : Int32) (fa : NI) (fb : NI) (x1 : Int32) (x2 : Int32) (x3 : Int64) (ls : Array Slot) (H : Heap) (locs : List Loc) (u : Int32 × Int32 × NI × NL × NI × Int32 × Int64 × Int32 × NI × NI) (hP : va_P D vwCl (wM ck ad th mi di po be mm ee fa fb) H) (hD : va_D A (wM ck ad th mi di po be mm ee fa fb)) (hS : va_S A s.heap H locs) (hl : lv_has ls 9 [(0, .ref (ad 0)), (1, .int x1), (2, .int x2), (3, .long x3)]) (h : jX2_neighbour_B22 th mi di po be mm ee fa fb x1 x2 x3 = some u) : W p l e (rmz 0 0) s m args below meth c H locs 0 0 (MQ below (HQ D A (wM ck ad u.2.1 u.2.2.1 u.2.2.2.1 u.2.2.2.2.1 u.2.2.2.2.2.1 u.2.2.2.2.2.2.1 u.2.2.2.2.2.2.2.1 u.2.2.2.2.2.2.2.2.1 u.2.2.2.2.2.2.2.2.2) (some (.int u.1))) args s 0 0 A) (F0 m 22 ls []) := by
  obtain ⟨hx, hb, hml, hown, hg, hr, hlocks⟩ := id C
  unfold jX2_neighbour_B22 at h
  refine lv_ldc2 hx hb hown (hg _ tw_519) dX2_neighbour_22 ?_
  refine lv_lstore (lv' := [(5, .long 9218868437227405311), (0, .ref (ad 0)), (1, .int x1), (2, .int x2), (3, .long x3)]) hx hb dX2_neighbour_25 hl (by decide) rfl (fun ls hl => ?_)
  refine lv_aload_n hx hb dX2_neighbour_27 rfl (lv_at hl 1 rfl) ?_
  refine va_get hx hb hg inX2 hown hK hP 0 rfl rfl 1 (by decide) (hg _ tw_327) (fun _ h9 => h9) rfl dX2_neighbour_28 ?_
  refine lv_iload_n hx hb dX2_neighbour_31 rfl (lv_at hl 2 rfl) ?_
  obtain ⟨z_32, h⟩ := of_ite h
  refine va_zald hx hb hK hP 1 2 rfl rfl (ok_in z_32) dX2_neighbour_32 ?_
  refine rg_l (pj := 42) (v := (if (mi x1.toNatClampNeg) = 0 then x3 else -x3 : Int64)) (ls := ls) (rest := []) (fun kJ => ?_) ?_
  · refine lv_if_eq (tgt := 41) hx hb dX2_neighbour_33 (by decide) (fun c_1 => ?_) (fun c_1 => ?_)
    · refine lv_lload_n hx hb dX2_neighbour_41 rfl (lv_at hl 4 rfl) ?_
      exact kJ _ (by rw [if_pos c_1])
    · refine lv_lload_n hx hb dX2_neighbour_36 rfl (lv_at hl 4 rfl) ?_
      refine lv_lneg hx hb dX2_neighbour_37 ?_
      refine lv_goto (tgt := 42) hx hb dX2_neighbour_38 (by decide) ?_
      exact kJ _ (by rw [if_neg c_1])
  refine lv_lstore_n (lv' := [(3, .long (if (mi x1.toNatClampNeg) = 0 then x3 else -x3 : Int64)), (5, .long 9218868437227405311), (0, .ref (ad 0)), (1, .int x1), (2, .int x2)]) hx hb dX2_neighbour_42 rfl hl (by decide) rfl (fun ls hl => ?_)
  exact wX2_neighbour_B43 C hA hK hX _ _ _ _ _ _ _ _ _ _ _ _ _ _ _ _ hP hD hS (lv_sub hl [2, 4, 0, 1] rfl) h
def jX2_neighbour (th : Int32) (mi : NI) (di : NL) (po : NI) (be : Int32) (mm : Int64) (ee : Int32) (fa : NI) (fb : NI) (x1 : Int32) (x2 : Int32) : Option (Int32 × Int32 × NI × NL × NI × Int32 × Int64 × Int32 × NI × NI) := (if ok x1 16 = true then (if ok x1 16 = true then jX2_neighbour_B22 th mi di po be mm ee fa fb x1 x2 ((sl (((po x1.toNatClampNeg) + 1074).toInt64) 52) + (di x1.toNatClampNeg)) else none) else none)
set_option maxHeartbeats 4000000 in
set_option maxRecDepth 100000 in
theorem wX2_neighbour_0 {p : Program} {l : Launch} {e : Env} {s : State} {m : MethodId} {args : Array Value} {below : List Frame} {meth : Method} {c : Code} {D : va_G} {A : Nat → Prop} {ck : Nat → ClassId} {ad : Nat → Nat} (C : CX p s m args meth c RX2 cX2_neighbour 9 (some .int)) (hA : ∀ q, s.heap.size ≤ q → A q) (hK : va_K D vwCl (tyM ck) s) (hX : XT s) (th : Int32) (mi : NI) (di : NL) (po : NI) (be : Int32) (mm : Int64) (ee : Int32) (fa : NI) (fb : NI) (x1 : Int32) (x2 : Int32) (ls : Array Slot) (H : Heap) (locs : List Loc) (u : Int32 × Int32 × NI × NL × NI × Int32 × Int64 × Int32 × NI × NI) (hP : va_P D vwCl (wM ck ad th mi di po be mm ee fa fb) H) (hD : va_D A (wM ck ad th mi di po be mm ee fa fb)) (hS : va_S A s.heap H locs) (hl : lv_has ls 9 [(0, .ref (ad 0)), (1, .int x1), (2, .int x2)]) (h : jX2_neighbour th mi di po be mm ee fa fb x1 x2 = some u) : W p l e (rmz 0 0) s m args below meth c H locs 0 0 (MQ below (HQ D A (wM ck ad u.2.1 u.2.2.1 u.2.2.2.1 u.2.2.2.2.1 u.2.2.2.2.2.1 u.2.2.2.2.2.2.1 u.2.2.2.2.2.2.2.1 u.2.2.2.2.2.2.2.2.1 u.2.2.2.2.2.2.2.2.2) (some (.int u.1))) args s 0 0 A) (F0 m 0 ls []) := by
  obtain ⟨hx, hb, hml, hown, hg, hr, hlocks⟩ := id C
  unfold jX2_neighbour at h
  refine lv_aload_n hx hb dX2_neighbour_0 rfl (lv_at hl 0 rfl) ?_
  refine va_get hx hb hg inX2 hown hK hP 0 rfl rfl 3 (by decide) (hg _ tw_329) (fun _ h9 => h9) rfl dX2_neighbour_1 ?_
  refine lv_iload_n hx hb dX2_neighbour_4 rfl (lv_at hl 1 rfl) ?_
  obtain ⟨z_5, h⟩ := of_ite h
  refine va_iald hx hb hK hP 3 0 rfl rfl (ok_in z_5) dX2_neighbour_5 ?_
  refine lv_sipush (v := 1074) hx hb dX2_neighbour_6 (by decide) ?_
  refine lv_iadd hx hb dX2_neighbour_9 ?_
  refine lv_i2l hx hb dX2_neighbour_10 rfl ?_
  refine lv_bipush (v := 52) hx hb dX2_neighbour_11 (by decide) ?_
  refine lv_lshl (v := sl (((po x1.toNatClampNeg) + 1074).toInt64) 52) hx hb dX2_neighbour_13 rfl ?_
  refine lv_aload_n hx hb dX2_neighbour_14 rfl (lv_at hl 0 rfl) ?_
  refine va_get hx hb hg inX2 hown hK hP 0 rfl rfl 2 (by decide) (hg _ tw_328) (fun _ h9 => h9) rfl dX2_neighbour_15 ?_
  refine lv_iload_n hx hb dX2_neighbour_18 rfl (lv_at hl 1 rfl) ?_
  obtain ⟨z_19, h⟩ := of_ite h
  refine va_lald hx hb hK hP 2 1 rfl rfl (ok_in z_19) dX2_neighbour_19 ?_
  refine lv_ladd hx hb dX2_neighbour_20 ?_
  refine lv_lstore_n (lv' := [(3, .long ((sl (((po x1.toNatClampNeg) + 1074).toInt64) 52) + (di x1.toNatClampNeg))), (0, .ref (ad 0)), (1, .int x1), (2, .int x2)]) hx hb dX2_neighbour_21 rfl hl (by decide) rfl (fun ls hl => ?_)
  exact wX2_neighbour_B22 C hA hK hX _ _ _ _ _ _ _ _ _ _ _ _ _ _ _ _ hP hD hS (lv_sub hl [1, 2, 3, 0] rfl) h
theorem vc_X2_neighbour : VC RX2 yX2_neighbour cX2_neighbour 9 (some .int) 2 := ⟨tw_517, ts_24, tw_2, tw_518, by decide +kernel⟩
theorem cX2_neighbour_met (l : Launch) (ck : Nat → ClassId) (ad : Nat → Nat) (th : Int32) (mi : NI) (di : NL) (po : NI) (be : Int32) (mm : Int64) (ee : Int32) (fa : NI) (fb : NI) (x1 : Int32) (x2 : Int32) (u : Int32 × Int32 × NI × NL × NI × Int32 × Int64 × Int32 × NI × NI) (h : jX2_neighbour th mi di po be mm ee fa fb x1 x2 = some u) : HM l yX2_neighbour cX2_neighbour 9 (some .int) (rmz 0 0) [.ref (ad 0), .int x1, .int x2] (tyM ck) (wM ck ad th mi di po be mm ee fa fb) (some (.int u.1)) (wM ck ad u.2.1 u.2.2.1 u.2.2.2.1 u.2.2.2.2.1 u.2.2.2.2.2.1 u.2.2.2.2.2.2.1 u.2.2.2.2.2.2.2.1 u.2.2.2.2.2.2.2.2.1 u.2.2.2.2.2.2.2.2.2) :=
  hm_of (own := RX2) (by decide +kernel) rfl (Nat.le_of_ble_eq_true rfl) (fun D A p e s m below meth c ls C hA hK hX hP hD hS hl => wX2_neighbour_0 C hA hK hX th mi di po be mm ee fa fb x1 x2 ls _ _ u hP hD hS hl h)

/-! RealDeskModel.changed(II)I -/
def jX2_changed (th : Int32) (mi : NI) (di : NL) (po : NI) (be : Int32) (mm : Int64) (ee : Int32) (fa : NI) (fb : NI) (x1 : Int32) (x2 : Int32) : Option (Int32 × Int32 × NI × NL × NI × Int32 × Int64 × Int32 × NI × NI) := (if x1 = 0 then (bMv (jX2_take th mi di po be mm ee fa fb x2) fun th_1 mi_1 di_1 po_1 be_1 mm_1 ee_1 fa_1 fb_1 => some (0, th_1, mi_1, di_1, po_1, (if be_1 = 0 then (if mm_1 ≤ 0 then 0 else 1 : Int32) else 0 : Int32), mm_1, ee_1, fa_1, fb_1)) else (if x1 = 1 then (bMv (jX2_take th mi di po be mm ee fa fb x2) fun th_2 mi_2 di_2 po_2 be_2 mm_2 ee_2 fa_2 fb_2 => some (0, th_2, mi_2, di_2, po_2, 0, mm_2, ee_2, fa_2, fb_2)) else (if x1 = 2 then (if ok x2 16 = true then (if (mi x2.toNatClampNeg) = 0 then (if ok x2 16 = true then (if (di x2.toNatClampNeg) = 0 then (bM (jX2_pick th mi di po be mm ee fa fb x2) fun r_4 th_4 mi_4 di_4 po_4 be_4 mm_4 ee_4 fa_4 fb_4 => some (r_4, th_4, mi_4, di_4, po_4, be_4, mm_4, ee_4, fa_4, fb_4)) else (bM (jX2_root th mi di po be mm ee fa fb x2) fun r_3 th_3 mi_3 di_3 po_3 be_3 mm_3 ee_3 fa_3 fb_3 => some (r_3, th_3, mi_3, di_3, po_3, be_3, mm_3, ee_3, fa_3, fb_3))) else none) else some ((-3), th, mi, di, po, be, mm, ee, fa, fb)) else none) else (if x1 = 7 then (bM (jX2_neighbour th mi di po be mm ee fa fb x2 1) fun r_5 th_5 mi_5 di_5 po_5 be_5 mm_5 ee_5 fa_5 fb_5 => some (r_5, th_5, mi_5, di_5, po_5, be_5, mm_5, ee_5, fa_5, fb_5)) else (if x1 = 8 then (bM (jX2_neighbour th mi di po be mm ee fa fb x2 0) fun r_6 th_6 mi_6 di_6 po_6 be_6 mm_6 ee_6 fa_6 fb_6 => some (r_6, th_6, mi_6, di_6, po_6, be_6, mm_6, ee_6, fa_6, fb_6)) else (bM (jX2_wholeOf th mi di po be mm ee fa fb x2 (x1 - 3)) fun r_7 th_7 mi_7 di_7 po_7 be_7 mm_7 ee_7 fa_7 fb_7 => some (r_7, th_7, mi_7, di_7, po_7, be_7, mm_7, ee_7, fa_7, fb_7)))))))
set_option maxHeartbeats 4000000 in
set_option maxRecDepth 100000 in
theorem wX2_changed_0 {p : Program} {l : Launch} {e : Env} {s : State} {m : MethodId} {args : Array Value} {below : List Frame} {meth : Method} {c : Code} {D : va_G} {A : Nat → Prop} {ck : Nat → ClassId} {ad : Nat → Nat} (C : CX p s m args meth c RX2 cX2_changed 3 (some .int)) (hA : ∀ q, s.heap.size ≤ q → A q) (hK : va_K D vwCl (tyM ck) s) (hX : XT s) (th : Int32) (mi : NI) (di : NL) (po : NI) (be : Int32) (mm : Int64) (ee : Int32) (fa : NI) (fb : NI) (x1 : Int32) (x2 : Int32) (ls : Array Slot) (H : Heap) (locs : List Loc) (u : Int32 × Int32 × NI × NL × NI × Int32 × Int64 × Int32 × NI × NI) (hP : va_P D vwCl (wM ck ad th mi di po be mm ee fa fb) H) (hD : va_D A (wM ck ad th mi di po be mm ee fa fb)) (hS : va_S A s.heap H locs) (hl : lv_has ls 3 [(0, .ref (ad 0)), (1, .int x1), (2, .int x2)]) (h : jX2_changed th mi di po be mm ee fa fb x1 x2 = some u) : W p l e (rmz 4 101) s m args below meth c H locs 0 0 (MQ below (HQ D A (wM ck ad u.2.1 u.2.2.1 u.2.2.2.1 u.2.2.2.2.1 u.2.2.2.2.2.1 u.2.2.2.2.2.2.1 u.2.2.2.2.2.2.2.1 u.2.2.2.2.2.2.2.2.1 u.2.2.2.2.2.2.2.2.2) (some (.int u.1))) args s 0 0 A) (F0 m 0 ls []) := by
  obtain ⟨hx, hb, hml, hown, hg, hr, hlocks⟩ := id C
  unfold jX2_changed at h
  refine lv_iload_n hx hb dX2_changed_0 rfl (lv_at hl 1 rfl) ?_
  by_cases c_1 : x1 = 0
  · rw [if_pos c_1] at h
    refine sw_in hx hb 0 52 dX2_changed_1 c_1 (by decide) (by decide) (by decide) ?_
    refine lv_aload_n hx hb dX2_changed_52 rfl (lv_at hl 0 rfl) ?_
    refine lv_iload_n hx hb dX2_changed_53 rfl (lv_at hl 2 rfl) ?_
    obtain ⟨th_1, mi_1, di_1, po_1, be_1, mm_1, ee_1, fa_1, fb_1, h_r_1, h⟩ := of_bMv h
    refine callMM C hK hX hP hD hS hA (cX2_take_met l ck ad _ _ _ _ _ _ _ _ _ _ _ h_r_1) vc_X2_take tw_470 (by decide) rfl hl.1 (rest := []) rfl (Nat.le_of_ble_eq_true rfl) (by decide) dX2_changed_54 (fun H locs hP hD hS => ?_)
    have hP : va_P D vwCl (wM ck ad th_1 mi_1 di_1 po_1 be_1 mm_1 ee_1 fa_1 fb_1) H := hP
    have hD : va_D A (wM ck ad th_1 mi_1 di_1 po_1 be_1 mm_1 ee_1 fa_1 fb_1) := hD
    refine W.eq (g2 := F0 m 57 ls []) rfl ?_
    refine lv_aload_n hx hb dX2_changed_57 rfl (lv_at hl 0 rfl) ?_
    refine lv_aload_n hx hb dX2_changed_58 rfl (lv_at hl 0 rfl) ?_
    refine va_get hx hb hg inX2 hown hK hP 0 rfl rfl 4 (by decide) (hg _ tw_330) (fun _ h9 => h9) rfl dX2_changed_59 ?_
    refine rg_i (pj := 79) (v := (if be_1 = 0 then (if mm_1 ≤ 0 then 0 else 1 : Int32) else 0 : Int32)) (ls := ls) (rest := [.ref (ad 0)]) (fun kJ => ?_) ?_
    · refine lv_if_ne (tgt := 78) hx hb dX2_changed_62 (by decide) (fun c_2 => ?_) (fun c_2 => ?_)
      · refine lv_iconst (v := 0) hx hb dX2_changed_78 (by decide) ?_
        exact kJ _ (by rw [if_neg c_2])
      · refine lv_aload_n hx hb dX2_changed_65 rfl (lv_at hl 0 rfl) ?_
        refine va_get hx hb hg inX2 hown hK hP 0 rfl rfl 5 (by decide) (hg _ tw_331) (fun _ h9 => h9) rfl dX2_changed_66 ?_
        refine lv_lconst (v := 0) hx hb dX2_changed_69 (by decide) ?_
        refine lc_le (tgt := 78) hx hb dX2_changed_70 dX2_changed_71 (by decide) (fun c_3 => ?_) (fun c_3 => ?_)
        · refine lv_iconst (v := 0) hx hb dX2_changed_78 (by decide) ?_
          exact kJ _ (by rw [if_pos c_2, if_pos c_3])
        · refine lv_iconst (v := 1) hx hb dX2_changed_74 (by decide) ?_
          refine lv_goto (tgt := 79) hx hb dX2_changed_75 (by decide) ?_
          exact kJ _ (by rw [if_pos c_2, if_neg c_3])
    refine va_put hx hb hg inX2 tyX2 tyX2_ok nmX2 hown hK hP hD hS 0 rfl rfl 4 (by decide) (hg _ tw_330) (fun _ h9 => h9) rfl (tyX2_ok 4 (by decide)) (bz_n (bz_ite (bz_ite bz_0 bz_1) bz_0)) (bz_f (bz_ite (bz_ite bz_0 bz_1) bz_0)) (Nat.le_of_ble_eq_true rfl) dX2_changed_79 (fun H locs hP hD hS => ?_)
    have hP : va_P D vwCl (wM ck ad th_1 mi_1 di_1 po_1 (if be_1 = 0 then (if mm_1 ≤ 0 then 0 else 1 : Int32) else 0 : Int32) mm_1 ee_1 fa_1 fb_1) H := hP
    have hD : va_D A (wM ck ad th_1 mi_1 di_1 po_1 (if be_1 = 0 then (if mm_1 ≤ 0 then 0 else 1 : Int32) else 0 : Int32) mm_1 ee_1 fa_1 fb_1) := hD
    refine lv_iconst (v := 0) hx hb dX2_changed_82 (by decide) ?_
    cases h
    exact W.iret hx hb hr (fun t ht _ => ⟨rfl, by rw [ht]; exact hP, hD, hS.F ht⟩) hS.2.2 dX2_changed_83
  rw [if_neg c_1] at h
  by_cases c_4 : x1 = 1
  · rw [if_pos c_4] at h
    refine sw_in hx hb 1 84 dX2_changed_1 c_4 (by decide) (by decide) (by decide) ?_
    refine lv_aload_n hx hb dX2_changed_84 rfl (lv_at hl 0 rfl) ?_
    refine lv_iload_n hx hb dX2_changed_85 rfl (lv_at hl 2 rfl) ?_
    obtain ⟨th_2, mi_2, di_2, po_2, be_2, mm_2, ee_2, fa_2, fb_2, h_r_2, h⟩ := of_bMv h
    refine callMM C hK hX hP hD hS hA (cX2_take_met l ck ad _ _ _ _ _ _ _ _ _ _ _ h_r_2) vc_X2_take tw_470 (by decide) rfl hl.1 (rest := []) rfl (Nat.le_of_ble_eq_true rfl) (by decide) dX2_changed_86 (fun H locs hP hD hS => ?_)
    have hP : va_P D vwCl (wM ck ad th_2 mi_2 di_2 po_2 be_2 mm_2 ee_2 fa_2 fb_2) H := hP
    have hD : va_D A (wM ck ad th_2 mi_2 di_2 po_2 be_2 mm_2 ee_2 fa_2 fb_2) := hD
    refine W.eq (g2 := F0 m 89 ls []) rfl ?_
    refine lv_aload_n hx hb dX2_changed_89 rfl (lv_at hl 0 rfl) ?_
    refine lv_iconst (v := 0) hx hb dX2_changed_90 (by decide) ?_
    refine va_put hx hb hg inX2 tyX2 tyX2_ok nmX2 hown hK hP hD hS 0 rfl rfl 4 (by decide) (hg _ tw_330) (fun _ h9 => h9) rfl (tyX2_ok 4 (by decide)) (bz_n bz_0) (bz_f bz_0) (Nat.le_of_ble_eq_true rfl) dX2_changed_91 (fun H locs hP hD hS => ?_)
    have hP : va_P D vwCl (wM ck ad th_2 mi_2 di_2 po_2 0 mm_2 ee_2 fa_2 fb_2) H := hP
    have hD : va_D A (wM ck ad th_2 mi_2 di_2 po_2 0 mm_2 ee_2 fa_2 fb_2) := hD
    refine lv_iconst (v := 0) hx hb dX2_changed_94 (by decide) ?_
    cases h
    exact W.iret hx hb hr (fun t ht _ => ⟨rfl, by rw [ht]; exact hP, hD, hS.F ht⟩) hS.2.2 dX2_changed_95
  rw [if_neg c_4] at h
  by_cases c_5 : x1 = 2
  · rw [if_pos c_5] at h
    refine sw_in hx hb 2 96 dX2_changed_1 c_5 (by decide) (by decide) (by decide) ?_
    refine lv_aload_n hx hb dX2_changed_96 rfl (lv_at hl 0 rfl) ?_
    refine va_get hx hb hg inX2 hown hK hP 0 rfl rfl 1 (by decide) (hg _ tw_327) (fun _ h9 => h9) rfl dX2_changed_97 ?_
    refine lv_iload_n hx hb dX2_changed_100 rfl (lv_at hl 2 rfl) ?_
    obtain ⟨z_101, h⟩ := of_ite h
    refine va_zald hx hb hK hP 1 2 rfl rfl (ok_in z_101) dX2_changed_101 ?_
    refine lv_if_eq (tgt := 110) hx hb dX2_changed_102 (by decide) (fun c_6 => ?_) (fun c_6 => ?_)
    · rw [if_pos c_6] at h
      refine lv_aload_n hx hb dX2_changed_110 rfl (lv_at hl 0 rfl) ?_
      refine va_get hx hb hg inX2 hown hK hP 0 rfl rfl 2 (by decide) (hg _ tw_328) (fun _ h9 => h9) rfl dX2_changed_111 ?_
      refine lv_iload_n hx hb dX2_changed_114 rfl (lv_at hl 2 rfl) ?_
      obtain ⟨z_115, h⟩ := of_ite h
      refine va_lald hx hb hK hP 2 1 rfl rfl (ok_in z_115) dX2_changed_115 ?_
      refine lv_lconst (v := 0) hx hb dX2_changed_116 (by decide) ?_
      refine lc_ne (tgt := 129) hx hb dX2_changed_117 dX2_changed_118 (by decide) (fun c_7 => ?_) (fun c_7 => ?_)
      · rw [if_neg c_7] at h
        refine lv_aload_n hx hb dX2_changed_129 rfl (lv_at hl 0 rfl) ?_
        refine lv_iload_n hx hb dX2_changed_130 rfl (lv_at hl 2 rfl) ?_
        obtain ⟨r_3, th_3, mi_3, di_3, po_3, be_3, mm_3, ee_3, fa_3, fb_3, h_r_3, h⟩ := of_bM h
        refine callMM C hK hX hP hD hS hA (cX2_root_met l ck ad _ _ _ _ _ _ _ _ _ _ _ h_r_3) vc_X2_root tw_510 (by decide) rfl hl.1 (rest := []) rfl (Nat.le_of_ble_eq_true rfl) (by decide) dX2_changed_131 (fun H locs hP hD hS => ?_)
        have hP : va_P D vwCl (wM ck ad th_3 mi_3 di_3 po_3 be_3 mm_3 ee_3 fa_3 fb_3) H := hP
        have hD : va_D A (wM ck ad th_3 mi_3 di_3 po_3 be_3 mm_3 ee_3 fa_3 fb_3) := hD
        refine W.eq (g2 := F0 m 134 ls [.int r_3]) rfl ?_
        cases h
        exact W.iret hx hb hr (fun t ht _ => ⟨rfl, by rw [ht]; exact hP, hD, hS.F ht⟩) hS.2.2 dX2_changed_134
      · rw [if_pos c_7] at h
        refine lv_aload_n hx hb dX2_changed_121 rfl (lv_at hl 0 rfl) ?_
        refine lv_iload_n hx hb dX2_changed_122 rfl (lv_at hl 2 rfl) ?_
        obtain ⟨r_4, th_4, mi_4, di_4, po_4, be_4, mm_4, ee_4, fa_4, fb_4, h_r_4, h⟩ := of_bM h
        refine callMM C hK hX hP hD hS hA (cX2_pick_met l ck ad _ _ _ _ _ _ _ _ _ _ _ h_r_4) vc_X2_pick tw_482 (by decide) rfl hl.1 (rest := []) rfl (Nat.le_of_ble_eq_true rfl) (by decide) dX2_changed_123 (fun H locs hP hD hS => ?_)
        have hP : va_P D vwCl (wM ck ad th_4 mi_4 di_4 po_4 be_4 mm_4 ee_4 fa_4 fb_4) H := hP
        have hD : va_D A (wM ck ad th_4 mi_4 di_4 po_4 be_4 mm_4 ee_4 fa_4 fb_4) := hD
        refine W.eq (g2 := F0 m 126 ls [.int r_4]) rfl ?_
        refine lv_goto (tgt := 134) hx hb dX2_changed_126 (by decide) ?_
        cases h
        exact W.iret hx hb hr (fun t ht _ => ⟨rfl, by rw [ht]; exact hP, hD, hS.F ht⟩) hS.2.2 dX2_changed_134
    · rw [if_neg c_6] at h
      refine lv_bipush (v := (-3)) hx hb dX2_changed_105 (by decide) ?_
      refine lv_goto (tgt := 134) hx hb dX2_changed_107 (by decide) ?_
      cases h
      exact W.iret hx hb hr (fun t ht _ => ⟨rfl, by rw [ht]; exact hP, hD, hS.F ht⟩) hS.2.2 dX2_changed_134
  rw [if_neg c_5] at h
  by_cases c_8 : x1 = 7
  · rw [if_pos c_8] at h
    refine sw_in hx hb 7 135 dX2_changed_1 c_8 (by decide) (by decide) (by decide) ?_
    refine lv_aload_n hx hb dX2_changed_135 rfl (lv_at hl 0 rfl) ?_
    refine lv_iload_n hx hb dX2_changed_136 rfl (lv_at hl 2 rfl) ?_
    refine lv_iconst (v := 1) hx hb dX2_changed_137 (by decide) ?_
    obtain ⟨r_5, th_5, mi_5, di_5, po_5, be_5, mm_5, ee_5, fa_5, fb_5, h_r_5, h⟩ := of_bM h
    refine callMM C hK hX hP hD hS hA (cX2_neighbour_met l ck ad _ _ _ _ _ _ _ _ _ _ _ _ h_r_5) vc_X2_neighbour tw_515 (by decide) rfl hl.1 (rest := []) rfl (Nat.le_of_ble_eq_true rfl) (by decide) dX2_changed_138 (fun H locs hP hD hS => ?_)
    have hP : va_P D vwCl (wM ck ad th_5 mi_5 di_5 po_5 be_5 mm_5 ee_5 fa_5 fb_5) H := hP
    have hD : va_D A (wM ck ad th_5 mi_5 di_5 po_5 be_5 mm_5 ee_5 fa_5 fb_5) := hD
    refine W.eq (g2 := F0 m 141 ls [.int r_5]) rfl ?_
    cases h
    exact W.iret hx hb hr (fun t ht _ => ⟨rfl, by rw [ht]; exact hP, hD, hS.F ht⟩) hS.2.2 dX2_changed_141
  rw [if_neg c_8] at h
  by_cases c_9 : x1 = 8
  · rw [if_pos c_9] at h
    refine sw_in hx hb 8 142 dX2_changed_1 c_9 (by decide) (by decide) (by decide) ?_
    refine lv_aload_n hx hb dX2_changed_142 rfl (lv_at hl 0 rfl) ?_
    refine lv_iload_n hx hb dX2_changed_143 rfl (lv_at hl 2 rfl) ?_
    refine lv_iconst (v := 0) hx hb dX2_changed_144 (by decide) ?_
    obtain ⟨r_6, th_6, mi_6, di_6, po_6, be_6, mm_6, ee_6, fa_6, fb_6, h_r_6, h⟩ := of_bM h
    refine callMM C hK hX hP hD hS hA (cX2_neighbour_met l ck ad _ _ _ _ _ _ _ _ _ _ _ _ h_r_6) vc_X2_neighbour tw_515 (by decide) rfl hl.1 (rest := []) rfl (Nat.le_of_ble_eq_true rfl) (by decide) dX2_changed_145 (fun H locs hP hD hS => ?_)
    have hP : va_P D vwCl (wM ck ad th_6 mi_6 di_6 po_6 be_6 mm_6 ee_6 fa_6 fb_6) H := hP
    have hD : va_D A (wM ck ad th_6 mi_6 di_6 po_6 be_6 mm_6 ee_6 fa_6 fb_6) := hD
    refine W.eq (g2 := F0 m 148 ls [.int r_6]) rfl ?_
    cases h
    exact W.iret hx hb hr (fun t ht _ => ⟨rfl, by rw [ht]; exact hP, hD, hS.F ht⟩) hS.2.2 dX2_changed_148
  rw [if_neg c_9] at h
  refine sw_def hx hb (tgt := 149) (n := 9) [0, 1, 2, 7, 8] dX2_changed_1 (by decide) (by decide) (by decide) (List.forall_mem_cons.mpr ⟨c_1, List.forall_mem_cons.mpr ⟨c_4, List.forall_mem_cons.mpr ⟨c_5, List.forall_mem_cons.mpr ⟨c_8, List.forall_mem_cons.mpr ⟨c_9, fun _ h9 => nomatch h9⟩⟩⟩⟩⟩) ?_
  refine lv_aload_n hx hb dX2_changed_149 rfl (lv_at hl 0 rfl) ?_
  refine lv_iload_n hx hb dX2_changed_150 rfl (lv_at hl 2 rfl) ?_
  refine lv_iload_n hx hb dX2_changed_151 rfl (lv_at hl 1 rfl) ?_
  refine lv_iconst (v := 3) hx hb dX2_changed_152 (by decide) ?_
  refine lv_isub hx hb dX2_changed_153 ?_
  obtain ⟨r_7, th_7, mi_7, di_7, po_7, be_7, mm_7, ee_7, fa_7, fb_7, h_r_7, h⟩ := of_bM h
  refine callMM C hK hX hP hD hS hA (cX2_wholeOf_met l ck ad _ _ _ _ _ _ _ _ _ _ _ _ h_r_7) vc_X2_wholeOf tw_520 (by decide) rfl hl.1 (rest := []) rfl (Nat.le_of_ble_eq_true rfl) (by decide) dX2_changed_154 (fun H locs hP hD hS => ?_)
  have hP : va_P D vwCl (wM ck ad th_7 mi_7 di_7 po_7 be_7 mm_7 ee_7 fa_7 fb_7) H := hP
  have hD : va_D A (wM ck ad th_7 mi_7 di_7 po_7 be_7 mm_7 ee_7 fa_7 fb_7) := hD
  refine W.eq (g2 := F0 m 157 ls [.int r_7]) rfl ?_
  cases h
  exact W.iret hx hb hr (fun t ht _ => ⟨rfl, by rw [ht]; exact hP, hD, hS.F ht⟩) hS.2.2 dX2_changed_157
theorem vc_X2_changed : VC RX2 yX2_changed cX2_changed 3 (some .int) 2 := ⟨tw_508, ts_22, tw_2, tw_509, by decide +kernel⟩
theorem cX2_changed_met (l : Launch) (ck : Nat → ClassId) (ad : Nat → Nat) (th : Int32) (mi : NI) (di : NL) (po : NI) (be : Int32) (mm : Int64) (ee : Int32) (fa : NI) (fb : NI) (x1 : Int32) (x2 : Int32) (u : Int32 × Int32 × NI × NL × NI × Int32 × Int64 × Int32 × NI × NI) (h : jX2_changed th mi di po be mm ee fa fb x1 x2 = some u) : HM l yX2_changed cX2_changed 3 (some .int) (rmz 4 101) [.ref (ad 0), .int x1, .int x2] (tyM ck) (wM ck ad th mi di po be mm ee fa fb) (some (.int u.1)) (wM ck ad u.2.1 u.2.2.1 u.2.2.2.1 u.2.2.2.2.1 u.2.2.2.2.2.1 u.2.2.2.2.2.2.1 u.2.2.2.2.2.2.2.1 u.2.2.2.2.2.2.2.2.1 u.2.2.2.2.2.2.2.2.2) :=
  hm_of (own := RX2) (by decide +kernel) rfl (Nat.le_of_ble_eq_true rfl) (fun D A p e s m below meth c ls C hA hK hX hP hD hS hl => wX2_changed_0 C hA hK hX th mi di po be mm ee fa fb x1 x2 ls _ _ u hP hD hS hl h)

/-! RealDeskModel.multiply(ZJI)I -/
def jX2_multiply (th : Int32) (mi : NI) (di : NL) (po : NI) (be : Int32) (mm : Int64) (ee : Int32) (fa : NI) (fb : NI) (x1 : Int32) (x2 : Int64) (x4 : Int32) : Option (Int32 × Int32 × NI × NL × NI × Int32 × Int64 × Int32 × NI × NI) := (Option.bind (jX1_product fa mm x2) fun fa_1 => (bM (jX2_nearest th mi di po be mm ee fa_1 fb (if be = x1 then 0 else 1 : Int32) (ee + x4) 0) fun r_2 th_2 mi_2 di_2 po_2 be_2 mm_2 ee_2 fa_2 fb_2 => some (r_2, th_2, mi_2, di_2, po_2, be_2, mm_2, ee_2, fa_2, fb_2)))
set_option maxHeartbeats 4000000 in
set_option maxRecDepth 100000 in
theorem wX2_multiply_0 {p : Program} {l : Launch} {e : Env} {s : State} {m : MethodId} {args : Array Value} {below : List Frame} {meth : Method} {c : Code} {D : va_G} {A : Nat → Prop} {ck : Nat → ClassId} {ad : Nat → Nat} (C : CX p s m args meth c RX2 cX2_multiply 6 (some .int)) (hA : ∀ q, s.heap.size ≤ q → A q) (hK : va_K D vwCl (tyM ck) s) (hX : XT s) (th : Int32) (mi : NI) (di : NL) (po : NI) (be : Int32) (mm : Int64) (ee : Int32) (fa : NI) (fb : NI) (x1 : Int32) (x2 : Int64) (x4 : Int32) (ls : Array Slot) (H : Heap) (locs : List Loc) (u : Int32 × Int32 × NI × NL × NI × Int32 × Int64 × Int32 × NI × NI) (hP : va_P D vwCl (wM ck ad th mi di po be mm ee fa fb) H) (hD : va_D A (wM ck ad th mi di po be mm ee fa fb)) (hS : va_S A s.heap H locs) (hl : lv_has ls 6 [(0, .ref (ad 0)), (1, .int x1), (2, .long x2), (4, .int x4)]) (h : jX2_multiply th mi di po be mm ee fa fb x1 x2 x4 = some u) : W p l e (rmz 3 71) s m args below meth c H locs 0 0 (MQ below (HQ D A (wM ck ad u.2.1 u.2.2.1 u.2.2.2.1 u.2.2.2.2.1 u.2.2.2.2.2.1 u.2.2.2.2.2.2.1 u.2.2.2.2.2.2.2.1 u.2.2.2.2.2.2.2.2.1 u.2.2.2.2.2.2.2.2.2) (some (.int u.1))) args s 0 0 A) (F0 m 0 ls []) := by
  obtain ⟨hx, hb, hml, hown, hg, hr, hlocks⟩ := id C
  unfold jX2_multiply at h
  refine lv_aload_n hx hb dX2_multiply_0 rfl (lv_at hl 0 rfl) ?_
  refine va_get hx hb hg inX2 hown hK hP 0 rfl rfl 4 (by decide) (hg _ tw_330) (fun _ h9 => h9) rfl dX2_multiply_1 ?_
  refine lv_iload_n hx hb dX2_multiply_4 rfl (lv_at hl 1 rfl) ?_
  refine rg_i (pj := 13) (v := (if be = x1 then 0 else 1 : Int32)) (ls := ls) (rest := []) (fun kJ => ?_) ?_
  · refine lv_icmp_eq (tgt := 12) hx hb dX2_multiply_5 (by decide) (fun c_1 => ?_) (fun c_1 => ?_)
    · refine lv_iconst (v := 0) hx hb dX2_multiply_12 (by decide) ?_
      exact kJ _ (by rw [if_pos c_1])
    · refine lv_iconst (v := 1) hx hb dX2_multiply_8 (by decide) ?_
      refine lv_goto (tgt := 13) hx hb dX2_multiply_9 (by decide) ?_
      exact kJ _ (by rw [if_neg c_1])
  refine lv_istore (lv' := [(5, .int (if be = x1 then 0 else 1 : Int32)), (0, .ref (ad 0)), (1, .int x1), (2, .long x2), (4, .int x4)]) hx hb dX2_multiply_13 hl (by decide) rfl (fun ls hl => ?_)
  refine lv_aload_n hx hb dX2_multiply_15 rfl (lv_at hl 1 rfl) ?_
  refine va_get hx hb hg inX2 hown hK hP 0 rfl rfl 7 (by decide) (hg _ tw_333) (fun _ h9 => h9) rfl dX2_multiply_16 ?_
  refine lv_aload_n hx hb dX2_multiply_19 rfl (lv_at hl 1 rfl) ?_
  refine va_get hx hb hg inX2 hown hK hP 0 rfl rfl 5 (by decide) (hg _ tw_331) (fun _ h9 => h9) rfl dX2_multiply_20 ?_
  refine lv_lload_n hx hb dX2_multiply_23 rfl (lv_at hl 3 rfl) ?_
  obtain ⟨fa_1, h_r_1, h⟩ := of_bind h
  refine callMa C hK hX hP hD hS hA (cX1_product_met l ck (fun i => ad (i + 4)) _ _ _ _ h_r_1) vc_X1_product tw_448 (by decide) rfl hl.1 (rest := []) rfl (Nat.le_of_ble_eq_true rfl) (by decide) dX2_multiply_24 (fun H locs hP hD hS => ?_)
  have hP : va_P D vwCl (wM ck ad th mi di po be mm ee fa_1 fb) H := hP
  have hD : va_D A (wM ck ad th mi di po be mm ee fa_1 fb) := hD
  refine W.eq (g2 := F0 m 27 ls []) rfl ?_
  refine lv_aload_n hx hb dX2_multiply_27 rfl (lv_at hl 1 rfl) ?_
  refine lv_iload hx hb dX2_multiply_28 (lv_at hl 0 rfl) ?_
  refine lv_aload_n hx hb dX2_multiply_30 rfl (lv_at hl 1 rfl) ?_
  refine va_get hx hb hg inX2 hown hK hP 0 rfl rfl 6 (by decide) (hg _ tw_332) (fun _ h9 => h9) rfl dX2_multiply_31 ?_
  refine lv_iload hx hb dX2_multiply_34 (lv_at hl 4 rfl) ?_
  refine lv_iadd hx hb dX2_multiply_36 ?_
  refine lv_iconst (v := 0) hx hb dX2_multiply_37 (by decide) ?_
  obtain ⟨r_2, th_2, mi_2, di_2, po_2, be_2, mm_2, ee_2, fa_2, fb_2, h_r_2, h⟩ := of_bM h
  refine callMM C hK hX hP hD hS hA (cX2_nearest_met l ck ad _ _ _ _ _ _ _ _ _ _ _ _ _ h_r_2) vc_X2_nearest tw_375 (by decide) rfl hl.1 (rest := []) rfl (Nat.le_of_ble_eq_true rfl) (by decide) dX2_multiply_38 (fun H locs hP hD hS => ?_)
  have hP : va_P D vwCl (wM ck ad th_2 mi_2 di_2 po_2 be_2 mm_2 ee_2 fa_2 fb_2) H := hP
  have hD : va_D A (wM ck ad th_2 mi_2 di_2 po_2 be_2 mm_2 ee_2 fa_2 fb_2) := hD
  refine W.eq (g2 := F0 m 41 ls [.int r_2]) rfl ?_
  cases h
  exact W.iret hx hb hr (fun t ht _ => ⟨rfl, by rw [ht]; exact hP, hD, hS.F ht⟩) hS.2.2 dX2_multiply_41
theorem vc_X2_multiply : VC RX2 yX2_multiply cX2_multiply 6 (some .int) 3 := ⟨tw_534, ts_27, tw_2, tw_535, by decide +kernel⟩
theorem cX2_multiply_met (l : Launch) (ck : Nat → ClassId) (ad : Nat → Nat) (th : Int32) (mi : NI) (di : NL) (po : NI) (be : Int32) (mm : Int64) (ee : Int32) (fa : NI) (fb : NI) (x1 : Int32) (x2 : Int64) (x4 : Int32) (u : Int32 × Int32 × NI × NL × NI × Int32 × Int64 × Int32 × NI × NI) (h : jX2_multiply th mi di po be mm ee fa fb x1 x2 x4 = some u) : HM l yX2_multiply cX2_multiply 6 (some .int) (rmz 3 71) [.ref (ad 0), .int x1, .long x2, .int x4] (tyM ck) (wM ck ad th mi di po be mm ee fa fb) (some (.int u.1)) (wM ck ad u.2.1 u.2.2.1 u.2.2.2.1 u.2.2.2.2.1 u.2.2.2.2.2.1 u.2.2.2.2.2.2.1 u.2.2.2.2.2.2.2.1 u.2.2.2.2.2.2.2.2.1 u.2.2.2.2.2.2.2.2.2) :=
  hm_of (own := RX2) (by decide +kernel) rfl (Nat.le_of_ble_eq_true rfl) (fun D A p e s m below meth c ls C hA hK hX hP hD hS hl => wX2_multiply_0 C hA hK hX th mi di po be mm ee fa fb x1 x2 x4 ls _ _ u hP hD hS hl h)

/-! RealDeskModel.raised(II)I -/
def jX2_raised_B135 (th : Int32) (mi : NI) (di : NL) (po : NI) (be : Int32) (mm : Int64) (ee : Int32) (fa : NI) (fb : NI) (x2 : Int32) : Option (Int32 × Int32 × NI × NL × NI × Int32 × Int64 × Int32 × NI × NI) := (if x2 < 0 then (if mm = 0 then some ((-2), th, mi, di, po, be, mm, ee, fa, fb) else (bM (jX2_quotient th mi di po be mm ee fa fb be 4503599627370496 (-52) mm ee) fun r_2 th_2 mi_2 di_2 po_2 be_2 mm_2 ee_2 fa_2 fb_2 => some (r_2, th_2, mi_2, di_2, po_2, be_2, mm_2, ee_2, fa_2, fb_2))) else some (0, th, mi, di, po, be, mm, ee, fa, fb))
set_option maxHeartbeats 4000000 in
set_option maxRecDepth 100000 in
theorem wX2_raised_B135 {p : Program} {l : Launch} {e : Env} {s : State} {m : MethodId} {args : Array Value} {below : List Frame} {meth : Method} {c : Code} {D : va_G} {A : Nat → Prop} {ck : Nat → ClassId} {ad : Nat → Nat} (C : CX p s m args meth c RX2 cX2_raised 6 (some .int)) (hA : ∀ q, s.heap.size ≤ q → A q) (hK : va_K D vwCl (tyM ck) s) (hX : XT s) (th : Int32) (mi : NI) (di : NL) (po : NI) (be : Int32) (mm : Int64) (ee : Int32) (fa : NI) (fb : NI) (x2 : Int32) (ls : Array Slot) (H : Heap) (locs : List Loc) (u : Int32 × Int32 × NI × NL × NI × Int32 × Int64 × Int32 × NI × NI) (hP : va_P D vwCl (wM ck ad th mi di po be mm ee fa fb) H) (hD : va_D A (wM ck ad th mi di po be mm ee fa fb)) (hS : va_S A s.heap H locs) (hl : lv_has ls 6 [(0, .ref (ad 0)), (2, .int x2)]) (h : jX2_raised_B135 th mi di po be mm ee fa fb x2 = some u) : W p l e (rmz 4 101) s m args below meth c H locs 0 0 (MQ below (HQ D A (wM ck ad u.2.1 u.2.2.1 u.2.2.2.1 u.2.2.2.2.1 u.2.2.2.2.2.1 u.2.2.2.2.2.2.1 u.2.2.2.2.2.2.2.1 u.2.2.2.2.2.2.2.2.1 u.2.2.2.2.2.2.2.2.2) (some (.int u.1))) args s 0 0 A) (F0 m 135 ls []) := by
  obtain ⟨hx, hb, hml, hown, hg, hr, hlocks⟩ := id C
  unfold jX2_raised_B135 at h
  refine lv_iload_n hx hb dX2_raised_135 rfl (lv_at hl 1 rfl) ?_
  refine lv_if_lt (tgt := 141) hx hb dX2_raised_136 (by decide) (fun c_1 => ?_) (fun c_1 => ?_)
  · rw [if_pos c_1] at h
    refine lv_aload_n hx hb dX2_raised_141 rfl (lv_at hl 0 rfl) ?_
    refine va_get hx hb hg inX2 hown hK hP 0 rfl rfl 5 (by decide) (hg _ tw_331) (fun _ h9 => h9) rfl dX2_raised_142 ?_
    refine lv_lconst (v := 0) hx hb dX2_raised_145 (by decide) ?_
    refine lc_ne (tgt := 155) hx hb dX2_raised_146 dX2_raised_147 (by decide) (fun c_2 => ?_) (fun c_2 => ?_)
    · rw [if_neg c_2] at h
      refine lv_aload_n hx hb dX2_raised_155 rfl (lv_at hl 0 rfl) ?_
      refine lv_aload_n hx hb dX2_raised_156 rfl (lv_at hl 0 rfl) ?_
      refine va_get hx hb hg inX2 hown hK hP 0 rfl rfl 4 (by decide) (hg _ tw_330) (fun _ h9 => h9) rfl dX2_raised_157 ?_
      refine lv_ldc2 hx hb hown (hg _ tw_402) dX2_raised_160 ?_
      refine lv_bipush (v := (-52)) hx hb dX2_raised_163 (by decide) ?_
      refine lv_aload_n hx hb dX2_raised_165 rfl (lv_at hl 0 rfl) ?_
      refine va_get hx hb hg inX2 hown hK hP 0 rfl rfl 5 (by decide) (hg _ tw_331) (fun _ h9 => h9) rfl dX2_raised_166 ?_
      refine lv_aload_n hx hb dX2_raised_169 rfl (lv_at hl 0 rfl) ?_
      refine va_get hx hb hg inX2 hown hK hP 0 rfl rfl 6 (by decide) (hg _ tw_332) (fun _ h9 => h9) rfl dX2_raised_170 ?_
      obtain ⟨r_2, th_2, mi_2, di_2, po_2, be_2, mm_2, ee_2, fa_2, fb_2, h_r_2, h⟩ := of_bM h
      refine callMM C hK hX hP hD hS hA (cX2_quotient_met l ck ad _ _ _ _ _ _ _ _ _ _ _ _ _ _ _ h_r_2) vc_X2_quotient tw_461 (by decide) rfl hl.1 (rest := []) rfl (Nat.le_of_ble_eq_true rfl) (by decide) dX2_raised_173 (fun H locs hP hD hS => ?_)
      have hP : va_P D vwCl (wM ck ad th_2 mi_2 di_2 po_2 be_2 mm_2 ee_2 fa_2 fb_2) H := hP
      have hD : va_D A (wM ck ad th_2 mi_2 di_2 po_2 be_2 mm_2 ee_2 fa_2 fb_2) := hD
      refine W.eq (g2 := F0 m 176 ls [.int r_2]) rfl ?_
      cases h
      exact W.iret hx hb hr (fun t ht _ => ⟨rfl, by rw [ht]; exact hP, hD, hS.F ht⟩) hS.2.2 dX2_raised_176
    · rw [if_pos c_2] at h
      refine lv_bipush (v := (-2)) hx hb dX2_raised_150 (by decide) ?_
      refine lv_goto (tgt := 176) hx hb dX2_raised_152 (by decide) ?_
      cases h
      exact W.iret hx hb hr (fun t ht _ => ⟨rfl, by rw [ht]; exact hP, hD, hS.F ht⟩) hS.2.2 dX2_raised_176
  · rw [if_neg c_1] at h
    refine lv_iconst (v := 0) hx hb dX2_raised_139 (by decide) ?_
    cases h
    exact W.iret hx hb hr (fun t ht _ => ⟨rfl, by rw [ht]; exact hP, hD, hS.F ht⟩) hS.2.2 dX2_raised_140
def jX2_raised_L64 : Nat → Int32 → NI → NL → NI → Int32 → Int64 → Int32 → NI → NI → Int32 → Int32 → Int32 → Int32 → Option (Int32 × Int32 × NI × NL × NI × Int32 × Int64 × Int32 × NI × NI)
  | 0, _, _, _, _, _, _, _, _, _, _, _, _, _ => none
  | k + 1, th, mi, di, po, be, mm, ee, fa, fb, x1, x2, x3, x5 => (if x5 ≤ 0 then jX2_raised_B135 th mi di po be mm ee fa fb x2 else (bM (jX2_multiply th mi di po be mm ee fa fb be mm ee) fun r_3 th_3 mi_3 di_3 po_3 be_3 mm_3 ee_3 fa_3 fb_3 => (if r_3 = (-1) then some ((-1), th_3, mi_3, di_3, po_3, be_3, mm_3, ee_3, fa_3, fb_3) else (if (x3 &&& x5) = 0 then jX2_raised_L64 k th_3 mi_3 di_3 po_3 be_3 mm_3 ee_3 fa_3 fb_3 x1 x2 x3 (x5 / 2) else (if ok x1 16 = true then (if ok x1 16 = true then (if ok x1 16 = true then (bM (jX2_multiply th_3 mi_3 di_3 po_3 be_3 mm_3 ee_3 fa_3 fb_3 (mi_3 x1.toNatClampNeg) (di_3 x1.toNatClampNeg) (po_3 x1.toNatClampNeg)) fun r_4 th_4 mi_4 di_4 po_4 be_4 mm_4 ee_4 fa_4 fb_4 => (if r_4 = (-1) then some ((-1), th_4, mi_4, di_4, po_4, be_4, mm_4, ee_4, fa_4, fb_4) else jX2_raised_L64 k th_4 mi_4 di_4 po_4 be_4 mm_4 ee_4 fa_4 fb_4 x1 x2 x3 (x5 / 2))) else none) else none) else none)))))
set_option maxHeartbeats 4000000 in
set_option maxRecDepth 100000 in
theorem wX2_raised_L64 {p : Program} {l : Launch} {e : Env} {s : State} {m : MethodId} {args : Array Value} {below : List Frame} {meth : Method} {c : Code} {D : va_G} {A : Nat → Prop} {ck : Nat → ClassId} {ad : Nat → Nat} (C : CX p s m args meth c RX2 cX2_raised 6 (some .int)) (hA : ∀ q, s.heap.size ≤ q → A q) (hK : va_K D vwCl (tyM ck) s) (hX : XT s) : ∀ (k : Nat) (th : Int32) (mi : NI) (di : NL) (po : NI) (be : Int32) (mm : Int64) (ee : Int32) (fa : NI) (fb : NI) (x1 : Int32) (x2 : Int32) (x3 : Int32) (x5 : Int32) (ls : Array Slot) (H : Heap) (locs : List Loc) (u : Int32 × Int32 × NI × NL × NI × Int32 × Int64 × Int32 × NI × NI), va_P D vwCl (wM ck ad th mi di po be mm ee fa fb) H → va_D A (wM ck ad th mi di po be mm ee fa fb) → va_S A s.heap H locs → lv_has ls 6 [(0, .ref (ad 0)), (1, .int x1), (2, .int x2), (3, .int x3), (5, .int x5)] → jX2_raised_L64 k th mi di po be mm ee fa fb x1 x2 x3 x5 = some u → W p l e (rmz 4 101) s m args below meth c H locs 0 0 (MQ below (HQ D A (wM ck ad u.2.1 u.2.2.1 u.2.2.2.1 u.2.2.2.2.1 u.2.2.2.2.2.1 u.2.2.2.2.2.2.1 u.2.2.2.2.2.2.2.1 u.2.2.2.2.2.2.2.2.1 u.2.2.2.2.2.2.2.2.2) (some (.int u.1))) args s 0 0 A) (F0 m 64 ls []) := by
  obtain ⟨hx, hb, hml, hown, hg, hr, hlocks⟩ := id C
  intro k
  induction k with
  | zero => intro th mi di po be mm ee fa fb x1 x2 x3 x5 ls H locs u hP hD hS hl h; cases h
  | succ k ih =>
    intro th mi di po be mm ee fa fb x1 x2 x3 x5 ls H locs u hP hD hS hl h
    unfold jX2_raised_L64 at h
    refine lv_iload hx hb dX2_raised_64 (lv_at hl 4 rfl) ?_
    refine lv_if_le (tgt := 135) hx hb dX2_raised_66 (by decide) (fun c_1 => ?_) (fun c_1 => ?_)
    · rw [if_pos c_1] at h
      exact wX2_raised_B135 C hA hK hX _ _ _ _ _ _ _ _ _ _ _ _ _ _ hP hD hS (lv_sub hl [0, 2] rfl) h
    · rw [if_neg c_1] at h
      refine lv_aload_n hx hb dX2_raised_69 rfl (lv_at hl 0 rfl) ?_
      refine lv_aload_n hx hb dX2_raised_70 rfl (lv_at hl 0 rfl) ?_
      refine va_get hx hb hg inX2 hown hK hP 0 rfl rfl 4 (by decide) (hg _ tw_330) (fun _ h9 => h9) rfl dX2_raised_71 ?_
      refine lv_aload_n hx hb dX2_raised_74 rfl (lv_at hl 0 rfl) ?_
      refine va_get hx hb hg inX2 hown hK hP 0 rfl rfl 5 (by decide) (hg _ tw_331) (fun _ h9 => h9) rfl dX2_raised_75 ?_
      refine lv_aload_n hx hb dX2_raised_78 rfl (lv_at hl 0 rfl) ?_
      refine va_get hx hb hg inX2 hown hK hP 0 rfl rfl 6 (by decide) (hg _ tw_332) (fun _ h9 => h9) rfl dX2_raised_79 ?_
      obtain ⟨r_3, th_3, mi_3, di_3, po_3, be_3, mm_3, ee_3, fa_3, fb_3, h_r_3, h⟩ := of_bM h
      refine callMM C hK hX hP hD hS hA (cX2_multiply_met l ck ad _ _ _ _ _ _ _ _ _ _ _ _ _ h_r_3) vc_X2_multiply tw_532 (by decide) rfl hl.1 (rest := []) rfl (Nat.le_of_ble_eq_true rfl) (by decide) dX2_raised_82 (fun H locs hP hD hS => ?_)
      have hP : va_P D vwCl (wM ck ad th_3 mi_3 di_3 po_3 be_3 mm_3 ee_3 fa_3 fb_3) H := hP
      have hD : va_D A (wM ck ad th_3 mi_3 di_3 po_3 be_3 mm_3 ee_3 fa_3 fb_3) := hD
      refine W.eq (g2 := F0 m 85 ls [.int r_3]) rfl ?_
      refine lv_iconst (v := (-1)) hx hb dX2_raised_85 (by decide) ?_
      refine lv_icmp_ne (tgt := 91) hx hb dX2_raised_86 (by decide) (fun c_2 => ?_) (fun c_2 => ?_)
      · rw [if_neg c_2] at h
        refine lv_iload_n hx hb dX2_raised_91 rfl (lv_at hl 3 rfl) ?_
        refine lv_iload hx hb dX2_raised_92 (lv_at hl 4 rfl) ?_
        refine lv_iand hx hb dX2_raised_94 ?_
        refine lv_if_eq (tgt := 126) hx hb dX2_raised_95 (by decide) (fun c_3 => ?_) (fun c_3 => ?_)
        · rw [if_pos c_3] at h
          refine lv_iload hx hb dX2_raised_126 (lv_at hl 4 rfl) ?_
          refine lv_iconst (v := 2) hx hb dX2_raised_128 (by decide) ?_
          refine lv_idiv hx hb dX2_raised_129 (by decide) ?_
          refine lv_istore (lv' := [(5, .int (x5 / 2)), (0, .ref (ad 0)), (1, .int x1), (2, .int x2), (3, .int x3)]) hx hb dX2_raised_130 hl (by decide) rfl (fun ls hl => ?_)
          refine lv_goto (tgt := 64) hx hb dX2_raised_132 (by decide) ?_
          exact ih _ _ _ _ _ _ _ _ _ _ _ _ _ _ _ _ _ hP hD hS (lv_sub hl [1, 2, 3, 4, 0] rfl) h
        · rw [if_neg c_3] at h
          refine lv_aload_n hx hb dX2_raised_98 rfl (lv_at hl 0 rfl) ?_
          refine lv_aload_n hx hb dX2_raised_99 rfl (lv_at hl 0 rfl) ?_
          refine va_get hx hb hg inX2 hown hK hP 0 rfl rfl 1 (by decide) (hg _ tw_327) (fun _ h9 => h9) rfl dX2_raised_100 ?_
          refine lv_iload_n hx hb dX2_raised_103 rfl (lv_at hl 1 rfl) ?_
          obtain ⟨z_104, h⟩ := of_ite h
          refine va_zald hx hb hK hP 1 2 rfl rfl (ok_in z_104) dX2_raised_104 ?_
          refine lv_aload_n hx hb dX2_raised_105 rfl (lv_at hl 0 rfl) ?_
          refine va_get hx hb hg inX2 hown hK hP 0 rfl rfl 2 (by decide) (hg _ tw_328) (fun _ h9 => h9) rfl dX2_raised_106 ?_
          refine lv_iload_n hx hb dX2_raised_109 rfl (lv_at hl 1 rfl) ?_
          obtain ⟨z_110, h⟩ := of_ite h
          refine va_lald hx hb hK hP 2 1 rfl rfl (ok_in z_110) dX2_raised_110 ?_
          refine lv_aload_n hx hb dX2_raised_111 rfl (lv_at hl 0 rfl) ?_
          refine va_get hx hb hg inX2 hown hK hP 0 rfl rfl 3 (by decide) (hg _ tw_329) (fun _ h9 => h9) rfl dX2_raised_112 ?_
          refine lv_iload_n hx hb dX2_raised_115 rfl (lv_at hl 1 rfl) ?_
          obtain ⟨z_116, h⟩ := of_ite h
          refine va_iald hx hb hK hP 3 0 rfl rfl (ok_in z_116) dX2_raised_116 ?_
          obtain ⟨r_4, th_4, mi_4, di_4, po_4, be_4, mm_4, ee_4, fa_4, fb_4, h_r_4, h⟩ := of_bM h
          refine callMM C hK hX hP hD hS hA (cX2_multiply_met l ck ad _ _ _ _ _ _ _ _ _ _ _ _ _ h_r_4) vc_X2_multiply tw_532 (by decide) rfl hl.1 (rest := []) rfl (Nat.le_of_ble_eq_true rfl) (by decide) dX2_raised_117 (fun H locs hP hD hS => ?_)
          have hP : va_P D vwCl (wM ck ad th_4 mi_4 di_4 po_4 be_4 mm_4 ee_4 fa_4 fb_4) H := hP
          have hD : va_D A (wM ck ad th_4 mi_4 di_4 po_4 be_4 mm_4 ee_4 fa_4 fb_4) := hD
          refine W.eq (g2 := F0 m 120 ls [.int r_4]) rfl ?_
          refine lv_iconst (v := (-1)) hx hb dX2_raised_120 (by decide) ?_
          refine lv_icmp_ne (tgt := 126) hx hb dX2_raised_121 (by decide) (fun c_4 => ?_) (fun c_4 => ?_)
          · rw [if_neg c_4] at h
            refine lv_iload hx hb dX2_raised_126 (lv_at hl 4 rfl) ?_
            refine lv_iconst (v := 2) hx hb dX2_raised_128 (by decide) ?_
            refine lv_idiv hx hb dX2_raised_129 (by decide) ?_
            refine lv_istore (lv' := [(5, .int (x5 / 2)), (0, .ref (ad 0)), (1, .int x1), (2, .int x2), (3, .int x3)]) hx hb dX2_raised_130 hl (by decide) rfl (fun ls hl => ?_)
            refine lv_goto (tgt := 64) hx hb dX2_raised_132 (by decide) ?_
            exact ih _ _ _ _ _ _ _ _ _ _ _ _ _ _ _ _ _ hP hD hS (lv_sub hl [1, 2, 3, 4, 0] rfl) h
          · rw [if_pos c_4] at h
            refine lv_iconst (v := (-1)) hx hb dX2_raised_124 (by decide) ?_
            cases h
            exact W.iret hx hb hr (fun t ht _ => ⟨rfl, by rw [ht]; exact hP, hD, hS.F ht⟩) hS.2.2 dX2_raised_125
      · rw [if_pos c_2] at h
        refine lv_iconst (v := (-1)) hx hb dX2_raised_89 (by decide) ?_
        cases h
        exact W.iret hx hb hr (fun t ht _ => ⟨rfl, by rw [ht]; exact hP, hD, hS.F ht⟩) hS.2.2 dX2_raised_90
def jX2_raised_L41 : Nat → Int32 → NI → NL → NI → Int32 → Int64 → Int32 → NI → NI → Int32 → Int32 → Int32 → Int32 → Option (Int32 × Int32 × NI × NL × NI × Int32 × Int64 × Int32 × NI × NI)
  | 0, _, _, _, _, _, _, _, _, _, _, _, _, _ => none
  | k + 1, th, mi, di, po, be, mm, ee, fa, fb, x1, x2, x3, x4 => (if (x3 / 2) < x4 then jX2_raised_L64 FU th mi di po be mm ee fa fb x1 x2 x3 (x4 / 2) else jX2_raised_L41 k th mi di po be mm ee fa fb x1 x2 x3 (2 * x4))
set_option maxHeartbeats 4000000 in
set_option maxRecDepth 100000 in
theorem wX2_raised_L41 {p : Program} {l : Launch} {e : Env} {s : State} {m : MethodId} {args : Array Value} {below : List Frame} {meth : Method} {c : Code} {D : va_G} {A : Nat → Prop} {ck : Nat → ClassId} {ad : Nat → Nat} (C : CX p s m args meth c RX2 cX2_raised 6 (some .int)) (hA : ∀ q, s.heap.size ≤ q → A q) (hK : va_K D vwCl (tyM ck) s) (hX : XT s) : ∀ (k : Nat) (th : Int32) (mi : NI) (di : NL) (po : NI) (be : Int32) (mm : Int64) (ee : Int32) (fa : NI) (fb : NI) (x1 : Int32) (x2 : Int32) (x3 : Int32) (x4 : Int32) (ls : Array Slot) (H : Heap) (locs : List Loc) (u : Int32 × Int32 × NI × NL × NI × Int32 × Int64 × Int32 × NI × NI), va_P D vwCl (wM ck ad th mi di po be mm ee fa fb) H → va_D A (wM ck ad th mi di po be mm ee fa fb) → va_S A s.heap H locs → lv_has ls 6 [(0, .ref (ad 0)), (1, .int x1), (2, .int x2), (3, .int x3), (4, .int x4)] → jX2_raised_L41 k th mi di po be mm ee fa fb x1 x2 x3 x4 = some u → W p l e (rmz 4 101) s m args below meth c H locs 0 0 (MQ below (HQ D A (wM ck ad u.2.1 u.2.2.1 u.2.2.2.1 u.2.2.2.2.1 u.2.2.2.2.2.1 u.2.2.2.2.2.2.1 u.2.2.2.2.2.2.2.1 u.2.2.2.2.2.2.2.2.1 u.2.2.2.2.2.2.2.2.2) (some (.int u.1))) args s 0 0 A) (F0 m 41 ls []) := by
  obtain ⟨hx, hb, hml, hown, hg, hr, hlocks⟩ := id C
  intro k
  induction k with
  | zero => intro th mi di po be mm ee fa fb x1 x2 x3 x4 ls H locs u hP hD hS hl h; cases h
  | succ k ih =>
    intro th mi di po be mm ee fa fb x1 x2 x3 x4 ls H locs u hP hD hS hl h
    unfold jX2_raised_L41 at h
    refine lv_iload hx hb dX2_raised_41 (lv_at hl 4 rfl) ?_
    refine lv_iload_n hx hb dX2_raised_43 rfl (lv_at hl 3 rfl) ?_
    refine lv_iconst (v := 2) hx hb dX2_raised_44 (by decide) ?_
    refine lv_idiv hx hb dX2_raised_45 (by decide) ?_
    refine lv_icmp_gt (tgt := 58) hx hb dX2_raised_46 (by decide) (fun c_1 => ?_) (fun c_1 => ?_)
    · rw [if_pos c_1] at h
      refine lv_iload hx hb dX2_raised_58 (lv_at hl 4 rfl) ?_
      refine lv_iconst (v := 2) hx hb dX2_raised_60 (by decide) ?_
      refine lv_idiv hx hb dX2_raised_61 (by decide) ?_
      refine lv_istore (lv' := [(5, .int (x4 / 2)), (0, .ref (ad 0)), (1, .int x1), (2, .int x2), (3, .int x3), (4, .int x4)]) hx hb dX2_raised_62 hl (by decide) rfl (fun ls hl => ?_)
      exact wX2_raised_L64 C hA hK hX FU _ _ _ _ _ _ _ _ _ _ _ _ _ _ _ _ _ hP hD hS (lv_sub hl [1, 2, 3, 4, 0] rfl) h
    · rw [if_neg c_1] at h
      refine lv_iconst (v := 2) hx hb dX2_raised_49 (by decide) ?_
      refine lv_iload hx hb dX2_raised_50 (lv_at hl 4 rfl) ?_
      refine lv_imul hx hb dX2_raised_52 ?_
      refine lv_istore (lv' := [(4, .int (2 * x4)), (0, .ref (ad 0)), (1, .int x1), (2, .int x2), (3, .int x3)]) hx hb dX2_raised_53 hl (by decide) rfl (fun ls hl => ?_)
      refine lv_goto (tgt := 41) hx hb dX2_raised_55 (by decide) ?_
      exact ih _ _ _ _ _ _ _ _ _ _ _ _ _ _ _ _ _ hP hD hS (lv_sub hl [1, 2, 3, 4, 0] rfl) h
def jX2_raised_B38 (th : Int32) (mi : NI) (di : NL) (po : NI) (be : Int32) (mm : Int64) (ee : Int32) (fa : NI) (fb : NI) (x1 : Int32) (x2 : Int32) (x3 : Int32) : Option (Int32 × Int32 × NI × NL × NI × Int32 × Int64 × Int32 × NI × NI) := jX2_raised_L41 FU th mi di po be mm ee fa fb x1 x2 x3 1
set_option maxHeartbeats 4000000 in
set_option maxRecDepth 100000 in
theorem wX2_raised_B38 {p : Program} {l : Launch} {e : Env} {s : State} {m : MethodId} {args : Array Value} {below : List Frame} {meth : Method} {c : Code} {D : va_G} {A : Nat → Prop} {ck : Nat → ClassId} {ad : Nat → Nat} (C : CX p s m args meth c RX2 cX2_raised 6 (some .int)) (hA : ∀ q, s.heap.size ≤ q → A q) (hK : va_K D vwCl (tyM ck) s) (hX : XT s) (th : Int32) (mi : NI) (di : NL) (po : NI) (be : Int32) (mm : Int64) (ee : Int32) (fa : NI) (fb : NI) (x1 : Int32) (x2 : Int32) (x3 : Int32) (ls : Array Slot) (H : Heap) (locs : List Loc) (u : Int32 × Int32 × NI × NL × NI × Int32 × Int64 × Int32 × NI × NI) (hP : va_P D vwCl (wM ck ad th mi di po be mm ee fa fb) H) (hD : va_D A (wM ck ad th mi di po be mm ee fa fb)) (hS : va_S A s.heap H locs) (hl : lv_has ls 6 [(0, .ref (ad 0)), (1, .int x1), (2, .int x2), (3, .int x3)]) (h : jX2_raised_B38 th mi di po be mm ee fa fb x1 x2 x3 = some u) : W p l e (rmz 4 101) s m args below meth c H locs 0 0 (MQ below (HQ D A (wM ck ad u.2.1 u.2.2.1 u.2.2.2.1 u.2.2.2.2.1 u.2.2.2.2.2.1 u.2.2.2.2.2.2.1 u.2.2.2.2.2.2.2.1 u.2.2.2.2.2.2.2.2.1 u.2.2.2.2.2.2.2.2.2) (some (.int u.1))) args s 0 0 A) (F0 m 38 ls []) := by
  obtain ⟨hx, hb, hml, hown, hg, hr, hlocks⟩ := id C
  unfold jX2_raised_B38 at h
  refine lv_iconst (v := 1) hx hb dX2_raised_38 (by decide) ?_
  refine lv_istore (lv' := [(4, .int 1), (0, .ref (ad 0)), (1, .int x1), (2, .int x2), (3, .int x3)]) hx hb dX2_raised_39 hl (by decide) rfl (fun ls hl => ?_)
  exact wX2_raised_L41 C hA hK hX FU _ _ _ _ _ _ _ _ _ _ _ _ _ _ _ _ _ hP hD hS (lv_sub hl [1, 2, 3, 4, 0] rfl) h
def jX2_raised (th : Int32) (mi : NI) (di : NL) (po : NI) (be : Int32) (mm : Int64) (ee : Int32) (fa : NI) (fb : NI) (x1 : Int32) (x2 : Int32) : Option (Int32 × Int32 × NI × NL × NI × Int32 × Int64 × Int32 × NI × NI) := (bMv (jX2_take th mi di po be mm ee fa fb x1) fun th_1 mi_1 di_1 po_1 be_1 mm_1 ee_1 fa_1 fb_1 => (if x2 = 0 then jX2_raised_B38 th_1 mi_1 di_1 po_1 0 4503599627370496 (-52) fa_1 fb_1 x1 x2 (if 0 ≤ x2 then x2 else -x2 : Int32) else jX2_raised_B38 th_1 mi_1 di_1 po_1 be_1 mm_1 ee_1 fa_1 fb_1 x1 x2 (if 0 ≤ x2 then x2 else -x2 : Int32)))
set_option maxHeartbeats 4000000 in
set_option maxRecDepth 100000 in
theorem wX2_raised_0 {p : Program} {l : Launch} {e : Env} {s : State} {m : MethodId} {args : Array Value} {below : List Frame} {meth : Method} {c : Code} {D : va_G} {A : Nat → Prop} {ck : Nat → ClassId} {ad : Nat → Nat} (C : CX p s m args meth c RX2 cX2_raised 6 (some .int)) (hA : ∀ q, s.heap.size ≤ q → A q) (hK : va_K D vwCl (tyM ck) s) (hX : XT s) (th : Int32) (mi : NI) (di : NL) (po : NI) (be : Int32) (mm : Int64) (ee : Int32) (fa : NI) (fb : NI) (x1 : Int32) (x2 : Int32) (ls : Array Slot) (H : Heap) (locs : List Loc) (u : Int32 × Int32 × NI × NL × NI × Int32 × Int64 × Int32 × NI × NI) (hP : va_P D vwCl (wM ck ad th mi di po be mm ee fa fb) H) (hD : va_D A (wM ck ad th mi di po be mm ee fa fb)) (hS : va_S A s.heap H locs) (hl : lv_has ls 6 [(0, .ref (ad 0)), (1, .int x1), (2, .int x2)]) (h : jX2_raised th mi di po be mm ee fa fb x1 x2 = some u) : W p l e (rmz 4 101) s m args below meth c H locs 0 0 (MQ below (HQ D A (wM ck ad u.2.1 u.2.2.1 u.2.2.2.1 u.2.2.2.2.1 u.2.2.2.2.2.1 u.2.2.2.2.2.2.1 u.2.2.2.2.2.2.2.1 u.2.2.2.2.2.2.2.2.1 u.2.2.2.2.2.2.2.2.2) (some (.int u.1))) args s 0 0 A) (F0 m 0 ls []) := by
  obtain ⟨hx, hb, hml, hown, hg, hr, hlocks⟩ := id C
  unfold jX2_raised at h
  refine lv_iload_n hx hb dX2_raised_0 rfl (lv_at hl 2 rfl) ?_
  refine rg_i (pj := 10) (v := (if 0 ≤ x2 then x2 else -x2 : Int32)) (ls := ls) (rest := []) (fun kJ => ?_) ?_
  · refine lv_if_ge (tgt := 9) hx hb dX2_raised_1 (by decide) (fun c_1 => ?_) (fun c_1 => ?_)
    · refine lv_iload_n hx hb dX2_raised_9 rfl (lv_at hl 2 rfl) ?_
      exact kJ _ (by rw [if_pos c_1])
    · refine lv_iload_n hx hb dX2_raised_4 rfl (lv_at hl 2 rfl) ?_
      refine lv_ineg hx hb dX2_raised_5 ?_
      refine lv_goto (tgt := 10) hx hb dX2_raised_6 (by decide) ?_
      exact kJ _ (by rw [if_neg c_1])
  refine lv_istore_n (lv' := [(3, .int (if 0 ≤ x2 then x2 else -x2 : Int32)), (0, .ref (ad 0)), (1, .int x1), (2, .int x2)]) hx hb dX2_raised_10 rfl hl (by decide) rfl (fun ls hl => ?_)
  refine lv_aload_n hx hb dX2_raised_11 rfl (lv_at hl 1 rfl) ?_
  refine lv_iload_n hx hb dX2_raised_12 rfl (lv_at hl 2 rfl) ?_
  obtain ⟨th_1, mi_1, di_1, po_1, be_1, mm_1, ee_1, fa_1, fb_1, h_r_1, h⟩ := of_bMv h
  refine callMM C hK hX hP hD hS hA (cX2_take_met l ck ad _ _ _ _ _ _ _ _ _ _ _ h_r_1) vc_X2_take tw_470 (by decide) rfl hl.1 (rest := []) rfl (Nat.le_of_ble_eq_true rfl) (by decide) dX2_raised_13 (fun H locs hP hD hS => ?_)
  have hP : va_P D vwCl (wM ck ad th_1 mi_1 di_1 po_1 be_1 mm_1 ee_1 fa_1 fb_1) H := hP
  have hD : va_D A (wM ck ad th_1 mi_1 di_1 po_1 be_1 mm_1 ee_1 fa_1 fb_1) := hD
  refine W.eq (g2 := F0 m 16 ls []) rfl ?_
  refine lv_iload_n hx hb dX2_raised_16 rfl (lv_at hl 3 rfl) ?_
  refine lv_if_ne (tgt := 38) hx hb dX2_raised_17 (by decide) (fun c_2 => ?_) (fun c_2 => ?_)
  · rw [if_neg c_2] at h
    exact wX2_raised_B38 C hA hK hX _ _ _ _ _ _ _ _ _ _ _ _ _ _ _ _ hP hD hS (lv_sub hl [1, 2, 3, 0] rfl) h
  · rw [if_pos c_2] at h
    refine lv_aload_n hx hb dX2_raised_20 rfl (lv_at hl 1 rfl) ?_
    refine lv_iconst (v := 0) hx hb dX2_raised_21 (by decide) ?_
    refine va_put hx hb hg inX2 tyX2 tyX2_ok nmX2 hown hK hP hD hS 0 rfl rfl 4 (by decide) (hg _ tw_330) (fun _ h9 => h9) rfl (tyX2_ok 4 (by decide)) (bz_n bz_0) (bz_f bz_0) (Nat.le_of_ble_eq_true rfl) dX2_raised_22 (fun H locs hP hD hS => ?_)
    have hP : va_P D vwCl (wM ck ad th_1 mi_1 di_1 po_1 0 mm_1 ee_1 fa_1 fb_1) H := hP
    have hD : va_D A (wM ck ad th_1 mi_1 di_1 po_1 0 mm_1 ee_1 fa_1 fb_1) := hD
    refine lv_aload_n hx hb dX2_raised_25 rfl (lv_at hl 1 rfl) ?_
    refine lv_ldc2 hx hb hown (hg _ tw_402) dX2_raised_26 ?_
    refine va_put hx hb hg inX2 tyX2 tyX2_ok nmX2 hown hK hP hD hS 0 rfl rfl 5 (by decide) (hg _ tw_331) (fun _ h9 => h9) rfl (tyX2_ok 5 (by decide)) rfl rfl (Nat.le_of_ble_eq_true rfl) dX2_raised_29 (fun H locs hP hD hS => ?_)
    have hP : va_P D vwCl (wM ck ad th_1 mi_1 di_1 po_1 0 4503599627370496 ee_1 fa_1 fb_1) H := hP
    have hD : va_D A (wM ck ad th_1 mi_1 di_1 po_1 0 4503599627370496 ee_1 fa_1 fb_1) := hD
    refine lv_aload_n hx hb dX2_raised_32 rfl (lv_at hl 1 rfl) ?_
    refine lv_bipush (v := (-52)) hx hb dX2_raised_33 (by decide) ?_
    refine va_put hx hb hg inX2 tyX2 tyX2_ok nmX2 hown hK hP hD hS 0 rfl rfl 6 (by decide) (hg _ tw_332) (fun _ h9 => h9) rfl (tyX2_ok 6 (by decide)) rfl rfl (Nat.le_of_ble_eq_true rfl) dX2_raised_35 (fun H locs hP hD hS => ?_)
    have hP : va_P D vwCl (wM ck ad th_1 mi_1 di_1 po_1 0 4503599627370496 (-52) fa_1 fb_1) H := hP
    have hD : va_D A (wM ck ad th_1 mi_1 di_1 po_1 0 4503599627370496 (-52) fa_1 fb_1) := hD
    exact wX2_raised_B38 C hA hK hX _ _ _ _ _ _ _ _ _ _ _ _ _ _ _ _ hP hD hS (lv_sub hl [1, 2, 3, 0] rfl) h
theorem vc_X2_raised : VC RX2 yX2_raised cX2_raised 6 (some .int) 2 := ⟨tw_530, ts_26, tw_2, tw_531, by decide +kernel⟩
theorem cX2_raised_met (l : Launch) (ck : Nat → ClassId) (ad : Nat → Nat) (th : Int32) (mi : NI) (di : NL) (po : NI) (be : Int32) (mm : Int64) (ee : Int32) (fa : NI) (fb : NI) (x1 : Int32) (x2 : Int32) (u : Int32 × Int32 × NI × NL × NI × Int32 × Int64 × Int32 × NI × NI) (h : jX2_raised th mi di po be mm ee fa fb x1 x2 = some u) : HM l yX2_raised cX2_raised 6 (some .int) (rmz 4 101) [.ref (ad 0), .int x1, .int x2] (tyM ck) (wM ck ad th mi di po be mm ee fa fb) (some (.int u.1)) (wM ck ad u.2.1 u.2.2.1 u.2.2.2.1 u.2.2.2.2.1 u.2.2.2.2.2.1 u.2.2.2.2.2.2.1 u.2.2.2.2.2.2.2.1 u.2.2.2.2.2.2.2.2.1 u.2.2.2.2.2.2.2.2.2) :=
  hm_of (own := RX2) (by decide +kernel) rfl (Nat.le_of_ble_eq_true rfl) (fun D A p e s m below meth c ls C hA hK hX hP hD hS hl => wX2_raised_0 C hA hK hX th mi di po be mm ee fa fb x1 x2 ls _ _ u hP hD hS hl h)

/-! RealDeskModel.set(IJI)I -/
def jX2_set_B58 (th : Int32) (mi : NI) (di : NL) (po : NI) (be : Int32) (mm : Int64) (ee : Int32) (fa : NI) (fb : NI) (x1 : Int32) (x2 : Int64) (x4 : Int32) (x5 : Int32) : Option (Int32 × Int32 × NI × NL × NI × Int32 × Int64 × Int32 × NI × NI) := (if x5 = 0 then some (0, th, mi, di, po, be, mm, ee, fa, fb) else (Option.bind (jX1_set fa (if 0 ≤ x2 then x2 else -x2 : Int64)) fun fa_1 => (bM (jX2_nearest th mi di po be mm ee fa_1 fb (if 0 ≤ x2 then 0 else 1 : Int32) x4 0) fun r_2 th_2 mi_2 di_2 po_2 be_2 mm_2 ee_2 fa_2 fb_2 => (bM (jX2_keep th_2 mi_2 di_2 po_2 be_2 mm_2 ee_2 fa_2 fb_2 x1 r_2) fun r_3 th_3 mi_3 di_3 po_3 be_3 mm_3 ee_3 fa_3 fb_3 => some (r_3, th_3, mi_3, di_3, po_3, be_3, mm_3, ee_3, fa_3, fb_3)))))
set_option maxHeartbeats 4000000 in
set_option maxRecDepth 100000 in
theorem wX2_set_B58 {p : Program} {l : Launch} {e : Env} {s : State} {m : MethodId} {args : Array Value} {below : List Frame} {meth : Method} {c : Code} {D : va_G} {A : Nat → Prop} {ck : Nat → ClassId} {ad : Nat → Nat} (C : CX p s m args meth c RX2 cX2_set 6 (some .int)) (hA : ∀ q, s.heap.size ≤ q → A q) (hK : va_K D vwCl (tyM ck) s) (hX : XT s) (th : Int32) (mi : NI) (di : NL) (po : NI) (be : Int32) (mm : Int64) (ee : Int32) (fa : NI) (fb : NI) (x1 : Int32) (x2 : Int64) (x4 : Int32) (x5 : Int32) (ls : Array Slot) (H : Heap) (locs : List Loc) (u : Int32 × Int32 × NI × NL × NI × Int32 × Int64 × Int32 × NI × NI) (hP : va_P D vwCl (wM ck ad th mi di po be mm ee fa fb) H) (hD : va_D A (wM ck ad th mi di po be mm ee fa fb)) (hS : va_S A s.heap H locs) (hl : lv_has ls 6 [(0, .ref (ad 0)), (1, .int x1), (2, .long x2), (4, .int x4), (5, .int x5)]) (h : jX2_set_B58 th mi di po be mm ee fa fb x1 x2 x4 x5 = some u) : W p l e (rmz 3 71) s m args below meth c H locs 0 0 (MQ below (HQ D A (wM ck ad u.2.1 u.2.2.1 u.2.2.2.1 u.2.2.2.2.1 u.2.2.2.2.2.1 u.2.2.2.2.2.2.1 u.2.2.2.2.2.2.2.1 u.2.2.2.2.2.2.2.2.1 u.2.2.2.2.2.2.2.2.2) (some (.int u.1))) args s 0 0 A) (F0 m 58 ls []) := by
  obtain ⟨hx, hb, hml, hown, hg, hr, hlocks⟩ := id C
  unfold jX2_set_B58 at h
  refine lv_iload hx hb dX2_set_58 (lv_at hl 4 rfl) ?_
  refine lv_if_ne (tgt := 65) hx hb dX2_set_60 (by decide) (fun c_1 => ?_) (fun c_1 => ?_)
  · rw [if_neg c_1] at h
    refine lv_aload_n hx hb dX2_set_65 rfl (lv_at hl 0 rfl) ?_
    refine va_get hx hb hg inX2 hown hK hP 0 rfl rfl 7 (by decide) (hg _ tw_333) (fun _ h9 => h9) rfl dX2_set_66 ?_
    refine lv_lload_n hx hb dX2_set_69 rfl (lv_at hl 2 rfl) ?_
    refine lv_lconst (v := 0) hx hb dX2_set_70 (by decide) ?_
    refine rg_l (pj := 81) (v := (if 0 ≤ x2 then x2 else -x2 : Int64)) (ls := ls) (rest := [.ref (ad 4)]) (fun kJ => ?_) ?_
    · refine lc_ge (tgt := 80) hx hb dX2_set_71 dX2_set_72 (by decide) (fun c_2 => ?_) (fun c_2 => ?_)
      · refine lv_lload_n hx hb dX2_set_80 rfl (lv_at hl 2 rfl) ?_
        exact kJ _ (by rw [if_pos c_2])
      · refine lv_lload_n hx hb dX2_set_75 rfl (lv_at hl 2 rfl) ?_
        refine lv_lneg hx hb dX2_set_76 ?_
        refine lv_goto (tgt := 81) hx hb dX2_set_77 (by decide) ?_
        exact kJ _ (by rw [if_neg c_2])
    obtain ⟨fa_1, h_r_1, h⟩ := of_bind h
    refine callMa C hK hX hP hD hS hA (cX1_set_met l ck (fun i => ad (i + 4)) _ _ _ h_r_1) vc_X1_set tw_370 (by decide) rfl hl.1 (rest := []) rfl (Nat.le_of_ble_eq_true rfl) (by decide) dX2_set_81 (fun H locs hP hD hS => ?_)
    have hP : va_P D vwCl (wM ck ad th mi di po be mm ee fa_1 fb) H := hP
    have hD : va_D A (wM ck ad th mi di po be mm ee fa_1 fb) := hD
    refine W.eq (g2 := F0 m 84 ls []) rfl ?_
    refine lv_aload_n hx hb dX2_set_84 rfl (lv_at hl 0 rfl) ?_
    refine lv_iload_n hx hb dX2_set_85 rfl (lv_at hl 1 rfl) ?_
    refine lv_aload_n hx hb dX2_set_86 rfl (lv_at hl 0 rfl) ?_
    refine lv_lload_n hx hb dX2_set_87 rfl (lv_at hl 2 rfl) ?_
    refine lv_lconst (v := 0) hx hb dX2_set_88 (by decide) ?_
    refine rg_i (pj := 98) (v := (if 0 ≤ x2 then 0 else 1 : Int32)) (ls := ls) (rest := [.ref (ad 0), .int x1, .ref (ad 0)]) (fun kJ => ?_) ?_
    · refine lc_ge (tgt := 97) hx hb dX2_set_89 dX2_set_90 (by decide) (fun c_3 => ?_) (fun c_3 => ?_)
      · refine lv_iconst (v := 0) hx hb dX2_set_97 (by decide) ?_
        exact kJ _ (by rw [if_pos c_3])
      · refine lv_iconst (v := 1) hx hb dX2_set_93 (by decide) ?_
        refine lv_goto (tgt := 98) hx hb dX2_set_94 (by decide) ?_
        exact kJ _ (by rw [if_neg c_3])
    refine lv_iload hx hb dX2_set_98 (lv_at hl 3 rfl) ?_
    refine lv_iconst (v := 0) hx hb dX2_set_100 (by decide) ?_
    obtain ⟨r_2, th_2, mi_2, di_2, po_2, be_2, mm_2, ee_2, fa_2, fb_2, h_r_2, h⟩ := of_bM h
    refine callMM C hK hX hP hD hS hA (cX2_nearest_met l ck ad _ _ _ _ _ _ _ _ _ _ _ _ _ h_r_2) vc_X2_nearest tw_375 (by decide) rfl hl.1 (rest := [.int x1, .ref (ad 0)]) rfl (Nat.le_of_ble_eq_true rfl) (by decide) dX2_set_101 (fun H locs hP hD hS => ?_)
    have hP : va_P D vwCl (wM ck ad th_2 mi_2 di_2 po_2 be_2 mm_2 ee_2 fa_2 fb_2) H := hP
    have hD : va_D A (wM ck ad th_2 mi_2 di_2 po_2 be_2 mm_2 ee_2 fa_2 fb_2) := hD
    refine W.eq (g2 := F0 m 104 ls [.int r_2, .int x1, .ref (ad 0)]) rfl ?_
    obtain ⟨r_3, th_3, mi_3, di_3, po_3, be_3, mm_3, ee_3, fa_3, fb_3, h_r_3, h⟩ := of_bM h
    refine callMM C hK hX hP hD hS hA (cX2_keep_met l ck ad _ _ _ _ _ _ _ _ _ _ _ _ h_r_3) vc_X2_keep tw_403 (by decide) rfl hl.1 (rest := []) rfl (Nat.le_of_ble_eq_true rfl) (by decide) dX2_set_104 (fun H locs hP hD hS => ?_)
    have hP : va_P D vwCl (wM ck ad th_3 mi_3 di_3 po_3 be_3 mm_3 ee_3 fa_3 fb_3) H := hP
    have hD : va_D A (wM ck ad th_3 mi_3 di_3 po_3 be_3 mm_3 ee_3 fa_3 fb_3) := hD
    refine W.eq (g2 := F0 m 107 ls [.int r_3]) rfl ?_
    cases h
    exact W.iret hx hb hr (fun t ht _ => ⟨rfl, by rw [ht]; exact hP, hD, hS.F ht⟩) hS.2.2 dX2_set_107
  · rw [if_pos c_1] at h
    refine lv_iconst (v := 0) hx hb dX2_set_63 (by decide) ?_
    cases h
    exact W.iret hx hb hr (fun t ht _ => ⟨rfl, by rw [ht]; exact hP, hD, hS.F ht⟩) hS.2.2 dX2_set_64
def jX2_set_B44 (th : Int32) (mi : NI) (di : NL) (po : NI) (be : Int32) (mm : Int64) (ee : Int32) (fa : NI) (fb : NI) (x1 : Int32) (x2 : Int64) (x4 : Int32) (x5 : Int32) : Option (Int32 × Int32 × NI × NL × NI × Int32 × Int64 × Int32 × NI × NI) := jX2_set_B58 (if x5 = 0 then 1 else 0 : Int32) mi di po be mm ee fa fb x1 x2 x4 x5
set_option maxHeartbeats 4000000 in
set_option maxRecDepth 100000 in
theorem wX2_set_B44 {p : Program} {l : Launch} {e : Env} {s : State} {m : MethodId} {args : Array Value} {below : List Frame} {meth : Method} {c : Code} {D : va_G} {A : Nat → Prop} {ck : Nat → ClassId} {ad : Nat → Nat} (C : CX p s m args meth c RX2 cX2_set 6 (some .int)) (hA : ∀ q, s.heap.size ≤ q → A q) (hK : va_K D vwCl (tyM ck) s) (hX : XT s) (th : Int32) (mi : NI) (di : NL) (po : NI) (be : Int32) (mm : Int64) (ee : Int32) (fa : NI) (fb : NI) (x1 : Int32) (x2 : Int64) (x4 : Int32) (x5 : Int32) (ls : Array Slot) (H : Heap) (locs : List Loc) (u : Int32 × Int32 × NI × NL × NI × Int32 × Int64 × Int32 × NI × NI) (hP : va_P D vwCl (wM ck ad th mi di po be mm ee fa fb) H) (hD : va_D A (wM ck ad th mi di po be mm ee fa fb)) (hS : va_S A s.heap H locs) (hl : lv_has ls 6 [(0, .ref (ad 0)), (1, .int x1), (2, .long x2), (4, .int x4), (5, .int x5)]) (h : jX2_set_B44 th mi di po be mm ee fa fb x1 x2 x4 x5 = some u) : W p l e (rmz 3 71) s m args below meth c H locs 0 0 (MQ below (HQ D A (wM ck ad u.2.1 u.2.2.1 u.2.2.2.1 u.2.2.2.2.1 u.2.2.2.2.2.1 u.2.2.2.2.2.2.1 u.2.2.2.2.2.2.2.1 u.2.2.2.2.2.2.2.2.1 u.2.2.2.2.2.2.2.2.2) (some (.int u.1))) args s 0 0 A) (F0 m 44 ls []) := by
  obtain ⟨hx, hb, hml, hown, hg, hr, hlocks⟩ := id C
  unfold jX2_set_B44 at h
  refine lv_aload_n hx hb dX2_set_44 rfl (lv_at hl 0 rfl) ?_
  refine lv_iload hx hb dX2_set_45 (lv_at hl 4 rfl) ?_
  refine rg_i (pj := 55) (v := (if x5 = 0 then 1 else 0 : Int32)) (ls := ls) (rest := [.ref (ad 0)]) (fun kJ => ?_) ?_
  · refine lv_if_eq (tgt := 54) hx hb dX2_set_47 (by decide) (fun c_1 => ?_) (fun c_1 => ?_)
    · refine lv_iconst (v := 1) hx hb dX2_set_54 (by decide) ?_
      exact kJ _ (by rw [if_pos c_1])
    · refine lv_iconst (v := 0) hx hb dX2_set_50 (by decide) ?_
      refine lv_goto (tgt := 55) hx hb dX2_set_51 (by decide) ?_
      exact kJ _ (by rw [if_neg c_1])
  refine va_put hx hb hg inX2 tyX2 tyX2_ok nmX2 hown hK hP hD hS 0 rfl rfl 0 (by decide) (hg _ tw_326) (fun _ h9 => h9) rfl (tyX2_ok 0 (by decide)) rfl rfl (Nat.le_of_ble_eq_true rfl) dX2_set_55 (fun H locs hP hD hS => ?_)
  have hP : va_P D vwCl (wM ck ad (if x5 = 0 then 1 else 0 : Int32) mi di po be mm ee fa fb) H := hP
  have hD : va_D A (wM ck ad (if x5 = 0 then 1 else 0 : Int32) mi di po be mm ee fa fb) := hD
  exact wX2_set_B58 C hA hK hX _ _ _ _ _ _ _ _ _ _ _ _ _ _ _ _ _ hP hD hS (lv_sub hl [0, 1, 2, 3, 4] rfl) h
def jX2_set (th : Int32) (mi : NI) (di : NL) (po : NI) (be : Int32) (mm : Int64) (ee : Int32) (fa : NI) (fb : NI) (x1 : Int32) (x2 : Int64) (x4 : Int32) : Option (Int32 × Int32 × NI × NL × NI × Int32 × Int64 × Int32 × NI × NI) := jX2_set_B44 th mi di po be mm ee fa fb x1 x2 x4 (if (jX2_isRegister x1) = 0 then 0 else (if x2 < (-9007199254740992) then 0 else (if 9007199254740992 < x2 then 0 else (if (jX2_within x4 (-1200) 1100) = 0 then 0 else 1 : Int32) : Int32) : Int32) : Int32)
set_option maxHeartbeats 4000000 in
set_option maxRecDepth 100000 in
theorem wX2_set_0 {p : Program} {l : Launch} {e : Env} {s : State} {m : MethodId} {args : Array Value} {below : List Frame} {meth : Method} {c : Code} {D : va_G} {A : Nat → Prop} {ck : Nat → ClassId} {ad : Nat → Nat} (C : CX p s m args meth c RX2 cX2_set 6 (some .int)) (hA : ∀ q, s.heap.size ≤ q → A q) (hK : va_K D vwCl (tyM ck) s) (hX : XT s) (th : Int32) (mi : NI) (di : NL) (po : NI) (be : Int32) (mm : Int64) (ee : Int32) (fa : NI) (fb : NI) (x1 : Int32) (x2 : Int64) (x4 : Int32) (ls : Array Slot) (H : Heap) (locs : List Loc) (u : Int32 × Int32 × NI × NL × NI × Int32 × Int64 × Int32 × NI × NI) (hP : va_P D vwCl (wM ck ad th mi di po be mm ee fa fb) H) (hD : va_D A (wM ck ad th mi di po be mm ee fa fb)) (hS : va_S A s.heap H locs) (hl : lv_has ls 6 [(0, .ref (ad 0)), (1, .int x1), (2, .long x2), (4, .int x4)]) (h : jX2_set th mi di po be mm ee fa fb x1 x2 x4 = some u) : W p l e (rmz 3 71) s m args below meth c H locs 0 0 (MQ below (HQ D A (wM ck ad u.2.1 u.2.2.1 u.2.2.2.1 u.2.2.2.2.1 u.2.2.2.2.2.1 u.2.2.2.2.2.2.1 u.2.2.2.2.2.2.2.1 u.2.2.2.2.2.2.2.2.1 u.2.2.2.2.2.2.2.2.2) (some (.int u.1))) args s 0 0 A) (F0 m 0 ls []) := by
  obtain ⟨hx, hb, hml, hown, hg, hr, hlocks⟩ := id C
  unfold jX2_set at h
  refine lv_iload_n hx hb dX2_set_0 rfl (lv_at hl 1 rfl) ?_
  refine pcall C (cX2_isRegister_met l _ _ rfl) sc_X2_isRegister tw_362 (by decide) rfl hl.1 (rest := []) rfl (Nat.le_of_ble_eq_true rfl) (by decide) dX2_set_1 ?_
  refine rg_i (pj := 42) (v := (if (jX2_isRegister x1) = 0 then 0 else (if x2 < (-9007199254740992) then 0 else (if 9007199254740992 < x2 then 0 else (if (jX2_within x4 (-1200) 1100) = 0 then 0 else 1 : Int32) : Int32) : Int32) : Int32)) (ls := ls) (rest := []) (fun kJ => ?_) ?_
  · refine lv_if_eq (tgt := 41) hx hb dX2_set_4 (by decide) (fun c_1 => ?_) (fun c_1 => ?_)
    · refine lv_iconst (v := 0) hx hb dX2_set_41 (by decide) ?_
      exact kJ _ (by rw [if_pos c_1])
    · refine lv_lload_n hx hb dX2_set_7 rfl (lv_at hl 2 rfl) ?_
      refine lv_ldc2 hx hb hown (hg _ tw_365) dX2_set_8 ?_
      refine lc_lt (tgt := 41) hx hb dX2_set_11 dX2_set_12 (by decide) (fun c_2 => ?_) (fun c_2 => ?_)
      · refine lv_iconst (v := 0) hx hb dX2_set_41 (by decide) ?_
        exact kJ _ (by rw [if_neg c_1, if_pos c_2])
      · refine lv_lload_n hx hb dX2_set_15 rfl (lv_at hl 2 rfl) ?_
        refine lv_ldc2 hx hb hown (hg _ tw_366) dX2_set_16 ?_
        refine lc_gt (tgt := 41) hx hb dX2_set_19 dX2_set_20 (by decide) (fun c_3 => ?_) (fun c_3 => ?_)
        · refine lv_iconst (v := 0) hx hb dX2_set_41 (by decide) ?_
          exact kJ _ (by rw [if_neg c_1, if_neg c_2, if_pos c_3])
        · refine lv_iload hx hb dX2_set_23 (lv_at hl 3 rfl) ?_
          refine lv_sipush (v := (-1200)) hx hb dX2_set_25 (by decide) ?_
          refine lv_sipush (v := 1100) hx hb dX2_set_28 (by decide) ?_
          refine pcall C (cX2_within_met l _ _ _ _ rfl) sc_X2_within tw_367 (by decide) rfl hl.1 (rest := []) rfl (Nat.le_of_ble_eq_true rfl) (by decide) dX2_set_31 ?_
          refine lv_if_eq (tgt := 41) hx hb dX2_set_34 (by decide) (fun c_4 => ?_) (fun c_4 => ?_)
          · refine lv_iconst (v := 0) hx hb dX2_set_41 (by decide) ?_
            exact kJ _ (by rw [if_neg c_1, if_neg c_2, if_neg c_3, if_pos c_4])
          · refine lv_iconst (v := 1) hx hb dX2_set_37 (by decide) ?_
            refine lv_goto (tgt := 42) hx hb dX2_set_38 (by decide) ?_
            exact kJ _ (by rw [if_neg c_1, if_neg c_2, if_neg c_3, if_neg c_4])
  refine lv_istore (lv' := [(5, .int (if (jX2_isRegister x1) = 0 then 0 else (if x2 < (-9007199254740992) then 0 else (if 9007199254740992 < x2 then 0 else (if (jX2_within x4 (-1200) 1100) = 0 then 0 else 1 : Int32) : Int32) : Int32) : Int32)), (0, .ref (ad 0)), (1, .int x1), (2, .long x2), (4, .int x4)]) hx hb dX2_set_42 hl (by decide) rfl (fun ls hl => ?_)
  exact wX2_set_B44 C hA hK hX _ _ _ _ _ _ _ _ _ _ _ _ _ _ _ _ _ hP hD hS (lv_sub hl [1, 2, 3, 4, 0] rfl) h
theorem vc_X2_set : VC RX2 yX2_set cX2_set 6 (some .int) 3 := ⟨tw_359, tw_360, tw_2, tw_361, by decide +kernel⟩
theorem cX2_set_met (l : Launch) (ck : Nat → ClassId) (ad : Nat → Nat) (th : Int32) (mi : NI) (di : NL) (po : NI) (be : Int32) (mm : Int64) (ee : Int32) (fa : NI) (fb : NI) (x1 : Int32) (x2 : Int64) (x4 : Int32) (u : Int32 × Int32 × NI × NL × NI × Int32 × Int64 × Int32 × NI × NI) (h : jX2_set th mi di po be mm ee fa fb x1 x2 x4 = some u) : HM l yX2_set cX2_set 6 (some .int) (rmz 3 71) [.ref (ad 0), .int x1, .long x2, .int x4] (tyM ck) (wM ck ad th mi di po be mm ee fa fb) (some (.int u.1)) (wM ck ad u.2.1 u.2.2.1 u.2.2.2.1 u.2.2.2.2.1 u.2.2.2.2.2.1 u.2.2.2.2.2.2.1 u.2.2.2.2.2.2.2.1 u.2.2.2.2.2.2.2.2.1 u.2.2.2.2.2.2.2.2.2) :=
  hm_of (own := RX2) (by decide +kernel) rfl (Nat.le_of_ble_eq_true rfl) (fun D A p e s m below meth c ls C hA hK hX hP hD hS hl => wX2_set_0 C hA hK hX th mi di po be mm ee fa fb x1 x2 x4 ls _ _ u hP hD hS hl h)

/-! RealDeskModel.combine(IIII)I -/
def jX2_combine_B41 (th : Int32) (mi : NI) (di : NL) (po : NI) (be : Int32) (mm : Int64) (ee : Int32) (fa : NI) (fb : NI) (x1 : Int32) (x2 : Int32) (x3 : Int32) (x4 : Int32) : Option (Int32 × Int32 × NI × NL × NI × Int32 × Int64 × Int32 × NI × NI) := (if th ≤ 0 then (bM (jX2_combined th mi di po be mm ee fa fb x2 x3 x4) fun r_1 th_1 mi_1 di_1 po_1 be_1 mm_1 ee_1 fa_1 fb_1 => (bM (jX2_keep th_1 mi_1 di_1 po_1 be_1 mm_1 ee_1 fa_1 fb_1 x1 r_1) fun r_2 th_2 mi_2 di_2 po_2 be_2 mm_2 ee_2 fa_2 fb_2 => some (r_2, th_2, mi_2, di_2, po_2, be_2, mm_2, ee_2, fa_2, fb_2))) else some (0, th, mi, di, po, be, mm, ee, fa, fb))
set_option maxHeartbeats 4000000 in
set_option maxRecDepth 100000 in
theorem wX2_combine_B41 {p : Program} {l : Launch} {e : Env} {s : State} {m : MethodId} {args : Array Value} {below : List Frame} {meth : Method} {c : Code} {D : va_G} {A : Nat → Prop} {ck : Nat → ClassId} {ad : Nat → Nat} (C : CX p s m args meth c RX2 cX2_combine 5 (some .int)) (hA : ∀ q, s.heap.size ≤ q → A q) (hK : va_K D vwCl (tyM ck) s) (hX : XT s) (th : Int32) (mi : NI) (di : NL) (po : NI) (be : Int32) (mm : Int64) (ee : Int32) (fa : NI) (fb : NI) (x1 : Int32) (x2 : Int32) (x3 : Int32) (x4 : Int32) (ls : Array Slot) (H : Heap) (locs : List Loc) (u : Int32 × Int32 × NI × NL × NI × Int32 × Int64 × Int32 × NI × NI) (hP : va_P D vwCl (wM ck ad th mi di po be mm ee fa fb) H) (hD : va_D A (wM ck ad th mi di po be mm ee fa fb)) (hS : va_S A s.heap H locs) (hl : lv_has ls 5 [(0, .ref (ad 0)), (1, .int x1), (2, .int x2), (3, .int x3), (4, .int x4)]) (h : jX2_combine_B41 th mi di po be mm ee fa fb x1 x2 x3 x4 = some u) : W p l e (rmz 6 141) s m args below meth c H locs 0 0 (MQ below (HQ D A (wM ck ad u.2.1 u.2.2.1 u.2.2.2.1 u.2.2.2.2.1 u.2.2.2.2.2.1 u.2.2.2.2.2.2.1 u.2.2.2.2.2.2.2.1 u.2.2.2.2.2.2.2.2.1 u.2.2.2.2.2.2.2.2.2) (some (.int u.1))) args s 0 0 A) (F0 m 41 ls []) := by
  obtain ⟨hx, hb, hml, hown, hg, hr, hlocks⟩ := id C
  unfold jX2_combine_B41 at h
  refine lv_aload_n hx hb dX2_combine_41 rfl (lv_at hl 0 rfl) ?_
  refine va_get hx hb hg inX2 hown hK hP 0 rfl rfl 0 (by decide) (hg _ tw_326) (fun _ h9 => h9) rfl dX2_combine_42 ?_
  refine lv_if_le (tgt := 52) hx hb dX2_combine_45 (by decide) (fun c_1 => ?_) (fun c_1 => ?_)
  · rw [if_pos c_1] at h
    refine lv_aload_n hx hb dX2_combine_52 rfl (lv_at hl 0 rfl) ?_
    refine lv_iload_n hx hb dX2_combine_53 rfl (lv_at hl 1 rfl) ?_
    refine lv_aload_n hx hb dX2_combine_54 rfl (lv_at hl 0 rfl) ?_
    refine lv_iload_n hx hb dX2_combine_55 rfl (lv_at hl 2 rfl) ?_
    refine lv_iload_n hx hb dX2_combine_56 rfl (lv_at hl 3 rfl) ?_
    refine lv_iload hx hb dX2_combine_57 (lv_at hl 4 rfl) ?_
    obtain ⟨r_1, th_1, mi_1, di_1, po_1, be_1, mm_1, ee_1, fa_1, fb_1, h_r_1, h⟩ := of_bM h
    refine callMM C hK hX hP hD hS hA (cX2_combined_met l ck ad _ _ _ _ _ _ _ _ _ _ _ _ _ h_r_1) vc_X2_combined tw_411 (by decide) rfl hl.1 (rest := [.int x1, .ref (ad 0)]) rfl (Nat.le_of_ble_eq_true rfl) (by decide) dX2_combine_59 (fun H locs hP hD hS => ?_)
    have hP : va_P D vwCl (wM ck ad th_1 mi_1 di_1 po_1 be_1 mm_1 ee_1 fa_1 fb_1) H := hP
    have hD : va_D A (wM ck ad th_1 mi_1 di_1 po_1 be_1 mm_1 ee_1 fa_1 fb_1) := hD
    refine W.eq (g2 := F0 m 62 ls [.int r_1, .int x1, .ref (ad 0)]) rfl ?_
    obtain ⟨r_2, th_2, mi_2, di_2, po_2, be_2, mm_2, ee_2, fa_2, fb_2, h_r_2, h⟩ := of_bM h
    refine callMM C hK hX hP hD hS hA (cX2_keep_met l ck ad _ _ _ _ _ _ _ _ _ _ _ _ h_r_2) vc_X2_keep tw_403 (by decide) rfl hl.1 (rest := []) rfl (Nat.le_of_ble_eq_true rfl) (by decide) dX2_combine_62 (fun H locs hP hD hS => ?_)
    have hP : va_P D vwCl (wM ck ad th_2 mi_2 di_2 po_2 be_2 mm_2 ee_2 fa_2 fb_2) H := hP
    have hD : va_D A (wM ck ad th_2 mi_2 di_2 po_2 be_2 mm_2 ee_2 fa_2 fb_2) := hD
    refine W.eq (g2 := F0 m 65 ls [.int r_2]) rfl ?_
    cases h
    exact W.iret hx hb hr (fun t ht _ => ⟨rfl, by rw [ht]; exact hP, hD, hS.F ht⟩) hS.2.2 dX2_combine_65
  · rw [if_neg c_1] at h
    refine lv_iconst (v := 0) hx hb dX2_combine_48 (by decide) ?_
    refine lv_goto (tgt := 65) hx hb dX2_combine_49 (by decide) ?_
    cases h
    exact W.iret hx hb hr (fun t ht _ => ⟨rfl, by rw [ht]; exact hP, hD, hS.F ht⟩) hS.2.2 dX2_combine_65
def jX2_combine (th : Int32) (mi : NI) (di : NL) (po : NI) (be : Int32) (mm : Int64) (ee : Int32) (fa : NI) (fb : NI) (x1 : Int32) (x2 : Int32) (x3 : Int32) (x4 : Int32) : Option (Int32 × Int32 × NI × NL × NI × Int32 × Int64 × Int32 × NI × NI) := jX2_combine_B41 (if (jX2_isRegister x1) = 0 then 1 else (if (jX2_isRegister x3) = 0 then 1 else (if (jX2_isRegister x4) = 0 then 1 else (if (jX2_within x2 0 8) = 0 then 1 else 0 : Int32) : Int32) : Int32) : Int32) mi di po be mm ee fa fb x1 x2 x3 x4
set_option maxHeartbeats 4000000 in
set_option maxRecDepth 100000 in
theorem wX2_combine_0 {p : Program} {l : Launch} {e : Env} {s : State} {m : MethodId} {args : Array Value} {below : List Frame} {meth : Method} {c : Code} {D : va_G} {A : Nat → Prop} {ck : Nat → ClassId} {ad : Nat → Nat} (C : CX p s m args meth c RX2 cX2_combine 5 (some .int)) (hA : ∀ q, s.heap.size ≤ q → A q) (hK : va_K D vwCl (tyM ck) s) (hX : XT s) (th : Int32) (mi : NI) (di : NL) (po : NI) (be : Int32) (mm : Int64) (ee : Int32) (fa : NI) (fb : NI) (x1 : Int32) (x2 : Int32) (x3 : Int32) (x4 : Int32) (ls : Array Slot) (H : Heap) (locs : List Loc) (u : Int32 × Int32 × NI × NL × NI × Int32 × Int64 × Int32 × NI × NI) (hP : va_P D vwCl (wM ck ad th mi di po be mm ee fa fb) H) (hD : va_D A (wM ck ad th mi di po be mm ee fa fb)) (hS : va_S A s.heap H locs) (hl : lv_has ls 5 [(0, .ref (ad 0)), (1, .int x1), (2, .int x2), (3, .int x3), (4, .int x4)]) (h : jX2_combine th mi di po be mm ee fa fb x1 x2 x3 x4 = some u) : W p l e (rmz 6 141) s m args below meth c H locs 0 0 (MQ below (HQ D A (wM ck ad u.2.1 u.2.2.1 u.2.2.2.1 u.2.2.2.2.1 u.2.2.2.2.2.1 u.2.2.2.2.2.2.1 u.2.2.2.2.2.2.2.1 u.2.2.2.2.2.2.2.2.1 u.2.2.2.2.2.2.2.2.2) (some (.int u.1))) args s 0 0 A) (F0 m 0 ls []) := by
  obtain ⟨hx, hb, hml, hown, hg, hr, hlocks⟩ := id C
  unfold jX2_combine at h
  refine lv_aload_n hx hb dX2_combine_0 rfl (lv_at hl 0 rfl) ?_
  refine lv_iload_n hx hb dX2_combine_1 rfl (lv_at hl 1 rfl) ?_
  refine pcall C (cX2_isRegister_met l _ _ rfl) sc_X2_isRegister tw_362 (by decide) rfl hl.1 (rest := [.ref (ad 0)]) rfl (Nat.le_of_ble_eq_true rfl) (by decide) dX2_combine_2 ?_
  refine rg_i (pj := 38) (v := (if (jX2_isRegister x1) = 0 then 1 else (if (jX2_isRegister x3) = 0 then 1 else (if (jX2_isRegister x4) = 0 then 1 else (if (jX2_within x2 0 8) = 0 then 1 else 0 : Int32) : Int32) : Int32) : Int32)) (ls := ls) (rest := [.ref (ad 0)]) (fun kJ => ?_) ?_
  · refine lv_if_eq (tgt := 37) hx hb dX2_combine_5 (by decide) (fun c_1 => ?_) (fun c_1 => ?_)
    · refine lv_iconst (v := 1) hx hb dX2_combine_37 (by decide) ?_
      exact kJ _ (by rw [if_pos c_1])
    · refine lv_iload_n hx hb dX2_combine_8 rfl (lv_at hl 3 rfl) ?_
      refine pcall C (cX2_isRegister_met l _ _ rfl) sc_X2_isRegister tw_362 (by decide) rfl hl.1 (rest := [.ref (ad 0)]) rfl (Nat.le_of_ble_eq_true rfl) (by decide) dX2_combine_9 ?_
      refine lv_if_eq (tgt := 37) hx hb dX2_combine_12 (by decide) (fun c_2 => ?_) (fun c_2 => ?_)
      · refine lv_iconst (v := 1) hx hb dX2_combine_37 (by decide) ?_
        exact kJ _ (by rw [if_neg c_1, if_pos c_2])
      · refine lv_iload hx hb dX2_combine_15 (lv_at hl 4 rfl) ?_
        refine pcall C (cX2_isRegister_met l _ _ rfl) sc_X2_isRegister tw_362 (by decide) rfl hl.1 (rest := [.ref (ad 0)]) rfl (Nat.le_of_ble_eq_true rfl) (by decide) dX2_combine_17 ?_
        refine lv_if_eq (tgt := 37) hx hb dX2_combine_20 (by decide) (fun c_3 => ?_) (fun c_3 => ?_)
        · refine lv_iconst (v := 1) hx hb dX2_combine_37 (by decide) ?_
          exact kJ _ (by rw [if_neg c_1, if_neg c_2, if_pos c_3])
        · refine lv_iload_n hx hb dX2_combine_23 rfl (lv_at hl 2 rfl) ?_
          refine lv_iconst (v := 0) hx hb dX2_combine_24 (by decide) ?_
          refine lv_bipush (v := 8) hx hb dX2_combine_25 (by decide) ?_
          refine pcall C (cX2_within_met l _ _ _ _ rfl) sc_X2_within tw_367 (by decide) rfl hl.1 (rest := [.ref (ad 0)]) rfl (Nat.le_of_ble_eq_true rfl) (by decide) dX2_combine_27 ?_
          refine lv_if_eq (tgt := 37) hx hb dX2_combine_30 (by decide) (fun c_4 => ?_) (fun c_4 => ?_)
          · refine lv_iconst (v := 1) hx hb dX2_combine_37 (by decide) ?_
            exact kJ _ (by rw [if_neg c_1, if_neg c_2, if_neg c_3, if_pos c_4])
          · refine lv_iconst (v := 0) hx hb dX2_combine_33 (by decide) ?_
            refine lv_goto (tgt := 38) hx hb dX2_combine_34 (by decide) ?_
            exact kJ _ (by rw [if_neg c_1, if_neg c_2, if_neg c_3, if_neg c_4])
  refine va_put hx hb hg inX2 tyX2 tyX2_ok nmX2 hown hK hP hD hS 0 rfl rfl 0 (by decide) (hg _ tw_326) (fun _ h9 => h9) rfl (tyX2_ok 0 (by decide)) rfl rfl (Nat.le_of_ble_eq_true rfl) dX2_combine_38 (fun H locs hP hD hS => ?_)
  have hP : va_P D vwCl (wM ck ad (if (jX2_isRegister x1) = 0 then 1 else (if (jX2_isRegister x3) = 0 then 1 else (if (jX2_isRegister x4) = 0 then 1 else (if (jX2_within x2 0 8) = 0 then 1 else 0 : Int32) : Int32) : Int32) : Int32) mi di po be mm ee fa fb) H := hP
  have hD : va_D A (wM ck ad (if (jX2_isRegister x1) = 0 then 1 else (if (jX2_isRegister x3) = 0 then 1 else (if (jX2_isRegister x4) = 0 then 1 else (if (jX2_within x2 0 8) = 0 then 1 else 0 : Int32) : Int32) : Int32) : Int32) mi di po be mm ee fa fb) := hD
  exact wX2_combine_B41 C hA hK hX _ _ _ _ _ _ _ _ _ _ _ _ _ _ _ _ _ hP hD hS (lv_sub hl [0, 1, 2, 3, 4] rfl) h
theorem vc_X2_combine : VC RX2 yX2_combine cX2_combine 5 (some .int) 4 := ⟨tw_408, tw_409, tw_2, tw_410, by decide +kernel⟩
theorem cX2_combine_met (l : Launch) (ck : Nat → ClassId) (ad : Nat → Nat) (th : Int32) (mi : NI) (di : NL) (po : NI) (be : Int32) (mm : Int64) (ee : Int32) (fa : NI) (fb : NI) (x1 : Int32) (x2 : Int32) (x3 : Int32) (x4 : Int32) (u : Int32 × Int32 × NI × NL × NI × Int32 × Int64 × Int32 × NI × NI) (h : jX2_combine th mi di po be mm ee fa fb x1 x2 x3 x4 = some u) : HM l yX2_combine cX2_combine 5 (some .int) (rmz 6 141) [.ref (ad 0), .int x1, .int x2, .int x3, .int x4] (tyM ck) (wM ck ad th mi di po be mm ee fa fb) (some (.int u.1)) (wM ck ad u.2.1 u.2.2.1 u.2.2.2.1 u.2.2.2.2.1 u.2.2.2.2.2.1 u.2.2.2.2.2.2.1 u.2.2.2.2.2.2.2.1 u.2.2.2.2.2.2.2.2.1 u.2.2.2.2.2.2.2.2.2) :=
  hm_of (own := RX2) (by decide +kernel) rfl (Nat.le_of_ble_eq_true rfl) (fun D A p e s m below meth c ls C hA hK hX hP hD hS hl => wX2_combine_0 C hA hK hX th mi di po be mm ee fa fb x1 x2 x3 x4 ls _ _ u hP hD hS hl h)

/-! RealDeskModel.change(III)I -/
def jX2_change_B33 (th : Int32) (mi : NI) (di : NL) (po : NI) (be : Int32) (mm : Int64) (ee : Int32) (fa : NI) (fb : NI) (x1 : Int32) (x2 : Int32) (x3 : Int32) : Option (Int32 × Int32 × NI × NL × NI × Int32 × Int64 × Int32 × NI × NI) := (if th ≤ 0 then (bM (jX2_changed th mi di po be mm ee fa fb x2 x3) fun r_1 th_1 mi_1 di_1 po_1 be_1 mm_1 ee_1 fa_1 fb_1 => (bM (jX2_keep th_1 mi_1 di_1 po_1 be_1 mm_1 ee_1 fa_1 fb_1 x1 r_1) fun r_2 th_2 mi_2 di_2 po_2 be_2 mm_2 ee_2 fa_2 fb_2 => some (r_2, th_2, mi_2, di_2, po_2, be_2, mm_2, ee_2, fa_2, fb_2))) else some (0, th, mi, di, po, be, mm, ee, fa, fb))
set_option maxHeartbeats 4000000 in
set_option maxRecDepth 100000 in
theorem wX2_change_B33 {p : Program} {l : Launch} {e : Env} {s : State} {m : MethodId} {args : Array Value} {below : List Frame} {meth : Method} {c : Code} {D : va_G} {A : Nat → Prop} {ck : Nat → ClassId} {ad : Nat → Nat} (C : CX p s m args meth c RX2 cX2_change 4 (some .int)) (hA : ∀ q, s.heap.size ≤ q → A q) (hK : va_K D vwCl (tyM ck) s) (hX : XT s) (th : Int32) (mi : NI) (di : NL) (po : NI) (be : Int32) (mm : Int64) (ee : Int32) (fa : NI) (fb : NI) (x1 : Int32) (x2 : Int32) (x3 : Int32) (ls : Array Slot) (H : Heap) (locs : List Loc) (u : Int32 × Int32 × NI × NL × NI × Int32 × Int64 × Int32 × NI × NI) (hP : va_P D vwCl (wM ck ad th mi di po be mm ee fa fb) H) (hD : va_D A (wM ck ad th mi di po be mm ee fa fb)) (hS : va_S A s.heap H locs) (hl : lv_has ls 4 [(0, .ref (ad 0)), (1, .int x1), (2, .int x2), (3, .int x3)]) (h : jX2_change_B33 th mi di po be mm ee fa fb x1 x2 x3 = some u) : W p l e (rmz 5 123) s m args below meth c H locs 0 0 (MQ below (HQ D A (wM ck ad u.2.1 u.2.2.1 u.2.2.2.1 u.2.2.2.2.1 u.2.2.2.2.2.1 u.2.2.2.2.2.2.1 u.2.2.2.2.2.2.2.1 u.2.2.2.2.2.2.2.2.1 u.2.2.2.2.2.2.2.2.2) (some (.int u.1))) args s 0 0 A) (F0 m 33 ls []) := by
  obtain ⟨hx, hb, hml, hown, hg, hr, hlocks⟩ := id C
  unfold jX2_change_B33 at h
  refine lv_aload_n hx hb dX2_change_33 rfl (lv_at hl 0 rfl) ?_
  refine va_get hx hb hg inX2 hown hK hP 0 rfl rfl 0 (by decide) (hg _ tw_326) (fun _ h9 => h9) rfl dX2_change_34 ?_
  refine lv_if_le (tgt := 44) hx hb dX2_change_37 (by decide) (fun c_1 => ?_) (fun c_1 => ?_)
  · rw [if_pos c_1] at h
    refine lv_aload_n hx hb dX2_change_44 rfl (lv_at hl 0 rfl) ?_
    refine lv_iload_n hx hb dX2_change_45 rfl (lv_at hl 1 rfl) ?_
    refine lv_aload_n hx hb dX2_change_46 rfl (lv_at hl 0 rfl) ?_
    refine lv_iload_n hx hb dX2_change_47 rfl (lv_at hl 2 rfl) ?_
    refine lv_iload_n hx hb dX2_change_48 rfl (lv_at hl 3 rfl) ?_
    obtain ⟨r_1, th_1, mi_1, di_1, po_1, be_1, mm_1, ee_1, fa_1, fb_1, h_r_1, h⟩ := of_bM h
    refine callMM C hK hX hP hD hS hA (cX2_changed_met l ck ad _ _ _ _ _ _ _ _ _ _ _ _ h_r_1) vc_X2_changed tw_506 (by decide) rfl hl.1 (rest := [.int x1, .ref (ad 0)]) rfl (Nat.le_of_ble_eq_true rfl) (by decide) dX2_change_49 (fun H locs hP hD hS => ?_)
    have hP : va_P D vwCl (wM ck ad th_1 mi_1 di_1 po_1 be_1 mm_1 ee_1 fa_1 fb_1) H := hP
    have hD : va_D A (wM ck ad th_1 mi_1 di_1 po_1 be_1 mm_1 ee_1 fa_1 fb_1) := hD
    refine W.eq (g2 := F0 m 52 ls [.int r_1, .int x1, .ref (ad 0)]) rfl ?_
    obtain ⟨r_2, th_2, mi_2, di_2, po_2, be_2, mm_2, ee_2, fa_2, fb_2, h_r_2, h⟩ := of_bM h
    refine callMM C hK hX hP hD hS hA (cX2_keep_met l ck ad _ _ _ _ _ _ _ _ _ _ _ _ h_r_2) vc_X2_keep tw_403 (by decide) rfl hl.1 (rest := []) rfl (Nat.le_of_ble_eq_true rfl) (by decide) dX2_change_52 (fun H locs hP hD hS => ?_)
    have hP : va_P D vwCl (wM ck ad th_2 mi_2 di_2 po_2 be_2 mm_2 ee_2 fa_2 fb_2) H := hP
    have hD : va_D A (wM ck ad th_2 mi_2 di_2 po_2 be_2 mm_2 ee_2 fa_2 fb_2) := hD
    refine W.eq (g2 := F0 m 55 ls [.int r_2]) rfl ?_
    cases h
    exact W.iret hx hb hr (fun t ht _ => ⟨rfl, by rw [ht]; exact hP, hD, hS.F ht⟩) hS.2.2 dX2_change_55
  · rw [if_neg c_1] at h
    refine lv_iconst (v := 0) hx hb dX2_change_40 (by decide) ?_
    refine lv_goto (tgt := 55) hx hb dX2_change_41 (by decide) ?_
    cases h
    exact W.iret hx hb hr (fun t ht _ => ⟨rfl, by rw [ht]; exact hP, hD, hS.F ht⟩) hS.2.2 dX2_change_55
def jX2_change (th : Int32) (mi : NI) (di : NL) (po : NI) (be : Int32) (mm : Int64) (ee : Int32) (fa : NI) (fb : NI) (x1 : Int32) (x2 : Int32) (x3 : Int32) : Option (Int32 × Int32 × NI × NL × NI × Int32 × Int64 × Int32 × NI × NI) := jX2_change_B33 (if (jX2_isRegister x1) = 0 then 1 else (if (jX2_isRegister x3) = 0 then 1 else (if (jX2_within x2 0 8) = 0 then 1 else 0 : Int32) : Int32) : Int32) mi di po be mm ee fa fb x1 x2 x3
set_option maxHeartbeats 4000000 in
set_option maxRecDepth 100000 in
theorem wX2_change_0 {p : Program} {l : Launch} {e : Env} {s : State} {m : MethodId} {args : Array Value} {below : List Frame} {meth : Method} {c : Code} {D : va_G} {A : Nat → Prop} {ck : Nat → ClassId} {ad : Nat → Nat} (C : CX p s m args meth c RX2 cX2_change 4 (some .int)) (hA : ∀ q, s.heap.size ≤ q → A q) (hK : va_K D vwCl (tyM ck) s) (hX : XT s) (th : Int32) (mi : NI) (di : NL) (po : NI) (be : Int32) (mm : Int64) (ee : Int32) (fa : NI) (fb : NI) (x1 : Int32) (x2 : Int32) (x3 : Int32) (ls : Array Slot) (H : Heap) (locs : List Loc) (u : Int32 × Int32 × NI × NL × NI × Int32 × Int64 × Int32 × NI × NI) (hP : va_P D vwCl (wM ck ad th mi di po be mm ee fa fb) H) (hD : va_D A (wM ck ad th mi di po be mm ee fa fb)) (hS : va_S A s.heap H locs) (hl : lv_has ls 4 [(0, .ref (ad 0)), (1, .int x1), (2, .int x2), (3, .int x3)]) (h : jX2_change th mi di po be mm ee fa fb x1 x2 x3 = some u) : W p l e (rmz 5 123) s m args below meth c H locs 0 0 (MQ below (HQ D A (wM ck ad u.2.1 u.2.2.1 u.2.2.2.1 u.2.2.2.2.1 u.2.2.2.2.2.1 u.2.2.2.2.2.2.1 u.2.2.2.2.2.2.2.1 u.2.2.2.2.2.2.2.2.1 u.2.2.2.2.2.2.2.2.2) (some (.int u.1))) args s 0 0 A) (F0 m 0 ls []) := by
  obtain ⟨hx, hb, hml, hown, hg, hr, hlocks⟩ := id C
  unfold jX2_change at h
  refine lv_aload_n hx hb dX2_change_0 rfl (lv_at hl 0 rfl) ?_
  refine lv_iload_n hx hb dX2_change_1 rfl (lv_at hl 1 rfl) ?_
  refine pcall C (cX2_isRegister_met l _ _ rfl) sc_X2_isRegister tw_362 (by decide) rfl hl.1 (rest := [.ref (ad 0)]) rfl (Nat.le_of_ble_eq_true rfl) (by decide) dX2_change_2 ?_
  refine rg_i (pj := 30) (v := (if (jX2_isRegister x1) = 0 then 1 else (if (jX2_isRegister x3) = 0 then 1 else (if (jX2_within x2 0 8) = 0 then 1 else 0 : Int32) : Int32) : Int32)) (ls := ls) (rest := [.ref (ad 0)]) (fun kJ => ?_) ?_
  · refine lv_if_eq (tgt := 29) hx hb dX2_change_5 (by decide) (fun c_1 => ?_) (fun c_1 => ?_)
    · refine lv_iconst (v := 1) hx hb dX2_change_29 (by decide) ?_
      exact kJ _ (by rw [if_pos c_1])
    · refine lv_iload_n hx hb dX2_change_8 rfl (lv_at hl 3 rfl) ?_
      refine pcall C (cX2_isRegister_met l _ _ rfl) sc_X2_isRegister tw_362 (by decide) rfl hl.1 (rest := [.ref (ad 0)]) rfl (Nat.le_of_ble_eq_true rfl) (by decide) dX2_change_9 ?_
      refine lv_if_eq (tgt := 29) hx hb dX2_change_12 (by decide) (fun c_2 => ?_) (fun c_2 => ?_)
      · refine lv_iconst (v := 1) hx hb dX2_change_29 (by decide) ?_
        exact kJ _ (by rw [if_neg c_1, if_pos c_2])
      · refine lv_iload_n hx hb dX2_change_15 rfl (lv_at hl 2 rfl) ?_
        refine lv_iconst (v := 0) hx hb dX2_change_16 (by decide) ?_
        refine lv_bipush (v := 8) hx hb dX2_change_17 (by decide) ?_
        refine pcall C (cX2_within_met l _ _ _ _ rfl) sc_X2_within tw_367 (by decide) rfl hl.1 (rest := [.ref (ad 0)]) rfl (Nat.le_of_ble_eq_true rfl) (by decide) dX2_change_19 ?_
        refine lv_if_eq (tgt := 29) hx hb dX2_change_22 (by decide) (fun c_3 => ?_) (fun c_3 => ?_)
        · refine lv_iconst (v := 1) hx hb dX2_change_29 (by decide) ?_
          exact kJ _ (by rw [if_neg c_1, if_neg c_2, if_pos c_3])
        · refine lv_iconst (v := 0) hx hb dX2_change_25 (by decide) ?_
          refine lv_goto (tgt := 30) hx hb dX2_change_26 (by decide) ?_
          exact kJ _ (by rw [if_neg c_1, if_neg c_2, if_neg c_3])
  refine va_put hx hb hg inX2 tyX2 tyX2_ok nmX2 hown hK hP hD hS 0 rfl rfl 0 (by decide) (hg _ tw_326) (fun _ h9 => h9) rfl (tyX2_ok 0 (by decide)) rfl rfl (Nat.le_of_ble_eq_true rfl) dX2_change_30 (fun H locs hP hD hS => ?_)
  have hP : va_P D vwCl (wM ck ad (if (jX2_isRegister x1) = 0 then 1 else (if (jX2_isRegister x3) = 0 then 1 else (if (jX2_within x2 0 8) = 0 then 1 else 0 : Int32) : Int32) : Int32) mi di po be mm ee fa fb) H := hP
  have hD : va_D A (wM ck ad (if (jX2_isRegister x1) = 0 then 1 else (if (jX2_isRegister x3) = 0 then 1 else (if (jX2_within x2 0 8) = 0 then 1 else 0 : Int32) : Int32) : Int32) mi di po be mm ee fa fb) := hD
  exact wX2_change_B33 C hA hK hX _ _ _ _ _ _ _ _ _ _ _ _ _ _ _ _ hP hD hS (lv_sub hl [0, 1, 2, 3] rfl) h
theorem vc_X2_change : VC RX2 yX2_change cX2_change 4 (some .int) 3 := ⟨tw_503, tw_504, tw_2, tw_505, by decide +kernel⟩
theorem cX2_change_met (l : Launch) (ck : Nat → ClassId) (ad : Nat → Nat) (th : Int32) (mi : NI) (di : NL) (po : NI) (be : Int32) (mm : Int64) (ee : Int32) (fa : NI) (fb : NI) (x1 : Int32) (x2 : Int32) (x3 : Int32) (u : Int32 × Int32 × NI × NL × NI × Int32 × Int64 × Int32 × NI × NI) (h : jX2_change th mi di po be mm ee fa fb x1 x2 x3 = some u) : HM l yX2_change cX2_change 4 (some .int) (rmz 5 123) [.ref (ad 0), .int x1, .int x2, .int x3] (tyM ck) (wM ck ad th mi di po be mm ee fa fb) (some (.int u.1)) (wM ck ad u.2.1 u.2.2.1 u.2.2.2.1 u.2.2.2.2.1 u.2.2.2.2.2.1 u.2.2.2.2.2.2.1 u.2.2.2.2.2.2.2.1 u.2.2.2.2.2.2.2.2.1 u.2.2.2.2.2.2.2.2.2) :=
  hm_of (own := RX2) (by decide +kernel) rfl (Nat.le_of_ble_eq_true rfl) (fun D A p e s m below meth c ls C hA hK hX hP hD hS hl => wX2_change_0 C hA hK hX th mi di po be mm ee fa fb x1 x2 x3 ls _ _ u hP hD hS hl h)

/-! RealDeskModel.power(III)I -/
def jX2_power_B36 (th : Int32) (mi : NI) (di : NL) (po : NI) (be : Int32) (mm : Int64) (ee : Int32) (fa : NI) (fb : NI) (x1 : Int32) (x2 : Int32) (x3 : Int32) : Option (Int32 × Int32 × NI × NL × NI × Int32 × Int64 × Int32 × NI × NI) := (if th ≤ 0 then (bM (jX2_raised th mi di po be mm ee fa fb x2 x3) fun r_1 th_1 mi_1 di_1 po_1 be_1 mm_1 ee_1 fa_1 fb_1 => (bM (jX2_keep th_1 mi_1 di_1 po_1 be_1 mm_1 ee_1 fa_1 fb_1 x1 r_1) fun r_2 th_2 mi_2 di_2 po_2 be_2 mm_2 ee_2 fa_2 fb_2 => some (r_2, th_2, mi_2, di_2, po_2, be_2, mm_2, ee_2, fa_2, fb_2))) else some (0, th, mi, di, po, be, mm, ee, fa, fb))
set_option maxHeartbeats 4000000 in
set_option maxRecDepth 100000 in
theorem wX2_power_B36 {p : Program} {l : Launch} {e : Env} {s : State} {m : MethodId} {args : Array Value} {below : List Frame} {meth : Method} {c : Code} {D : va_G} {A : Nat → Prop} {ck : Nat → ClassId} {ad : Nat → Nat} (C : CX p s m args meth c RX2 cX2_power 4 (some .int)) (hA : ∀ q, s.heap.size ≤ q → A q) (hK : va_K D vwCl (tyM ck) s) (hX : XT s) (th : Int32) (mi : NI) (di : NL) (po : NI) (be : Int32) (mm : Int64) (ee : Int32) (fa : NI) (fb : NI) (x1 : Int32) (x2 : Int32) (x3 : Int32) (ls : Array Slot) (H : Heap) (locs : List Loc) (u : Int32 × Int32 × NI × NL × NI × Int32 × Int64 × Int32 × NI × NI) (hP : va_P D vwCl (wM ck ad th mi di po be mm ee fa fb) H) (hD : va_D A (wM ck ad th mi di po be mm ee fa fb)) (hS : va_S A s.heap H locs) (hl : lv_has ls 4 [(0, .ref (ad 0)), (1, .int x1), (2, .int x2), (3, .int x3)]) (h : jX2_power_B36 th mi di po be mm ee fa fb x1 x2 x3 = some u) : W p l e (rmz 5 126) s m args below meth c H locs 0 0 (MQ below (HQ D A (wM ck ad u.2.1 u.2.2.1 u.2.2.2.1 u.2.2.2.2.1 u.2.2.2.2.2.1 u.2.2.2.2.2.2.1 u.2.2.2.2.2.2.2.1 u.2.2.2.2.2.2.2.2.1 u.2.2.2.2.2.2.2.2.2) (some (.int u.1))) args s 0 0 A) (F0 m 36 ls []) := by
  obtain ⟨hx, hb, hml, hown, hg, hr, hlocks⟩ := id C
  unfold jX2_power_B36 at h
  refine lv_aload_n hx hb dX2_power_36 rfl (lv_at hl 0 rfl) ?_
  refine va_get hx hb hg inX2 hown hK hP 0 rfl rfl 0 (by decide) (hg _ tw_326) (fun _ h9 => h9) rfl dX2_power_37 ?_
  refine lv_if_le (tgt := 47) hx hb dX2_power_40 (by decide) (fun c_1 => ?_) (fun c_1 => ?_)
  · rw [if_pos c_1] at h
    refine lv_aload_n hx hb dX2_power_47 rfl (lv_at hl 0 rfl) ?_
    refine lv_iload_n hx hb dX2_power_48 rfl (lv_at hl 1 rfl) ?_
    refine lv_aload_n hx hb dX2_power_49 rfl (lv_at hl 0 rfl) ?_
    refine lv_iload_n hx hb dX2_power_50 rfl (lv_at hl 2 rfl) ?_
    refine lv_iload_n hx hb dX2_power_51 rfl (lv_at hl 3 rfl) ?_
    obtain ⟨r_1, th_1, mi_1, di_1, po_1, be_1, mm_1, ee_1, fa_1, fb_1, h_r_1, h⟩ := of_bM h
    refine callMM C hK hX hP hD hS hA (cX2_raised_met l ck ad _ _ _ _ _ _ _ _ _ _ _ _ h_r_1) vc_X2_raised tw_528 (by decide) rfl hl.1 (rest := [.int x1, .ref (ad 0)]) rfl (Nat.le_of_ble_eq_true rfl) (by decide) dX2_power_52 (fun H locs hP hD hS => ?_)
    have hP : va_P D vwCl (wM ck ad th_1 mi_1 di_1 po_1 be_1 mm_1 ee_1 fa_1 fb_1) H := hP
    have hD : va_D A (wM ck ad th_1 mi_1 di_1 po_1 be_1 mm_1 ee_1 fa_1 fb_1) := hD
    refine W.eq (g2 := F0 m 55 ls [.int r_1, .int x1, .ref (ad 0)]) rfl ?_
    obtain ⟨r_2, th_2, mi_2, di_2, po_2, be_2, mm_2, ee_2, fa_2, fb_2, h_r_2, h⟩ := of_bM h
    refine callMM C hK hX hP hD hS hA (cX2_keep_met l ck ad _ _ _ _ _ _ _ _ _ _ _ _ h_r_2) vc_X2_keep tw_403 (by decide) rfl hl.1 (rest := []) rfl (Nat.le_of_ble_eq_true rfl) (by decide) dX2_power_55 (fun H locs hP hD hS => ?_)
    have hP : va_P D vwCl (wM ck ad th_2 mi_2 di_2 po_2 be_2 mm_2 ee_2 fa_2 fb_2) H := hP
    have hD : va_D A (wM ck ad th_2 mi_2 di_2 po_2 be_2 mm_2 ee_2 fa_2 fb_2) := hD
    refine W.eq (g2 := F0 m 58 ls [.int r_2]) rfl ?_
    cases h
    exact W.iret hx hb hr (fun t ht _ => ⟨rfl, by rw [ht]; exact hP, hD, hS.F ht⟩) hS.2.2 dX2_power_58
  · rw [if_neg c_1] at h
    refine lv_iconst (v := 0) hx hb dX2_power_43 (by decide) ?_
    refine lv_goto (tgt := 58) hx hb dX2_power_44 (by decide) ?_
    cases h
    exact W.iret hx hb hr (fun t ht _ => ⟨rfl, by rw [ht]; exact hP, hD, hS.F ht⟩) hS.2.2 dX2_power_58
def jX2_power (th : Int32) (mi : NI) (di : NL) (po : NI) (be : Int32) (mm : Int64) (ee : Int32) (fa : NI) (fb : NI) (x1 : Int32) (x2 : Int32) (x3 : Int32) : Option (Int32 × Int32 × NI × NL × NI × Int32 × Int64 × Int32 × NI × NI) := jX2_power_B36 (if (jX2_isRegister x1) = 0 then 1 else (if (jX2_isRegister x2) = 0 then 1 else (if (jX2_within x3 (-1024) 1024) = 0 then 1 else 0 : Int32) : Int32) : Int32) mi di po be mm ee fa fb x1 x2 x3
set_option maxHeartbeats 4000000 in
set_option maxRecDepth 100000 in
theorem wX2_power_0 {p : Program} {l : Launch} {e : Env} {s : State} {m : MethodId} {args : Array Value} {below : List Frame} {meth : Method} {c : Code} {D : va_G} {A : Nat → Prop} {ck : Nat → ClassId} {ad : Nat → Nat} (C : CX p s m args meth c RX2 cX2_power 4 (some .int)) (hA : ∀ q, s.heap.size ≤ q → A q) (hK : va_K D vwCl (tyM ck) s) (hX : XT s) (th : Int32) (mi : NI) (di : NL) (po : NI) (be : Int32) (mm : Int64) (ee : Int32) (fa : NI) (fb : NI) (x1 : Int32) (x2 : Int32) (x3 : Int32) (ls : Array Slot) (H : Heap) (locs : List Loc) (u : Int32 × Int32 × NI × NL × NI × Int32 × Int64 × Int32 × NI × NI) (hP : va_P D vwCl (wM ck ad th mi di po be mm ee fa fb) H) (hD : va_D A (wM ck ad th mi di po be mm ee fa fb)) (hS : va_S A s.heap H locs) (hl : lv_has ls 4 [(0, .ref (ad 0)), (1, .int x1), (2, .int x2), (3, .int x3)]) (h : jX2_power th mi di po be mm ee fa fb x1 x2 x3 = some u) : W p l e (rmz 5 126) s m args below meth c H locs 0 0 (MQ below (HQ D A (wM ck ad u.2.1 u.2.2.1 u.2.2.2.1 u.2.2.2.2.1 u.2.2.2.2.2.1 u.2.2.2.2.2.2.1 u.2.2.2.2.2.2.2.1 u.2.2.2.2.2.2.2.2.1 u.2.2.2.2.2.2.2.2.2) (some (.int u.1))) args s 0 0 A) (F0 m 0 ls []) := by
  obtain ⟨hx, hb, hml, hown, hg, hr, hlocks⟩ := id C
  unfold jX2_power at h
  refine lv_aload_n hx hb dX2_power_0 rfl (lv_at hl 0 rfl) ?_
  refine lv_iload_n hx hb dX2_power_1 rfl (lv_at hl 1 rfl) ?_
  refine pcall C (cX2_isRegister_met l _ _ rfl) sc_X2_isRegister tw_362 (by decide) rfl hl.1 (rest := [.ref (ad 0)]) rfl (Nat.le_of_ble_eq_true rfl) (by decide) dX2_power_2 ?_
  refine rg_i (pj := 33) (v := (if (jX2_isRegister x1) = 0 then 1 else (if (jX2_isRegister x2) = 0 then 1 else (if (jX2_within x3 (-1024) 1024) = 0 then 1 else 0 : Int32) : Int32) : Int32)) (ls := ls) (rest := [.ref (ad 0)]) (fun kJ => ?_) ?_
  · refine lv_if_eq (tgt := 32) hx hb dX2_power_5 (by decide) (fun c_1 => ?_) (fun c_1 => ?_)
    · refine lv_iconst (v := 1) hx hb dX2_power_32 (by decide) ?_
      exact kJ _ (by rw [if_pos c_1])
    · refine lv_iload_n hx hb dX2_power_8 rfl (lv_at hl 2 rfl) ?_
      refine pcall C (cX2_isRegister_met l _ _ rfl) sc_X2_isRegister tw_362 (by decide) rfl hl.1 (rest := [.ref (ad 0)]) rfl (Nat.le_of_ble_eq_true rfl) (by decide) dX2_power_9 ?_
      refine lv_if_eq (tgt := 32) hx hb dX2_power_12 (by decide) (fun c_2 => ?_) (fun c_2 => ?_)
      · refine lv_iconst (v := 1) hx hb dX2_power_32 (by decide) ?_
        exact kJ _ (by rw [if_neg c_1, if_pos c_2])
      · refine lv_iload_n hx hb dX2_power_15 rfl (lv_at hl 3 rfl) ?_
        refine lv_sipush (v := (-1024)) hx hb dX2_power_16 (by decide) ?_
        refine lv_sipush (v := 1024) hx hb dX2_power_19 (by decide) ?_
        refine pcall C (cX2_within_met l _ _ _ _ rfl) sc_X2_within tw_367 (by decide) rfl hl.1 (rest := [.ref (ad 0)]) rfl (Nat.le_of_ble_eq_true rfl) (by decide) dX2_power_22 ?_
        refine lv_if_eq (tgt := 32) hx hb dX2_power_25 (by decide) (fun c_3 => ?_) (fun c_3 => ?_)
        · refine lv_iconst (v := 1) hx hb dX2_power_32 (by decide) ?_
          exact kJ _ (by rw [if_neg c_1, if_neg c_2, if_pos c_3])
        · refine lv_iconst (v := 0) hx hb dX2_power_28 (by decide) ?_
          refine lv_goto (tgt := 33) hx hb dX2_power_29 (by decide) ?_
          exact kJ _ (by rw [if_neg c_1, if_neg c_2, if_neg c_3])
  refine va_put hx hb hg inX2 tyX2 tyX2_ok nmX2 hown hK hP hD hS 0 rfl rfl 0 (by decide) (hg _ tw_326) (fun _ h9 => h9) rfl (tyX2_ok 0 (by decide)) rfl rfl (Nat.le_of_ble_eq_true rfl) dX2_power_33 (fun H locs hP hD hS => ?_)
  have hP : va_P D vwCl (wM ck ad (if (jX2_isRegister x1) = 0 then 1 else (if (jX2_isRegister x2) = 0 then 1 else (if (jX2_within x3 (-1024) 1024) = 0 then 1 else 0 : Int32) : Int32) : Int32) mi di po be mm ee fa fb) H := hP
  have hD : va_D A (wM ck ad (if (jX2_isRegister x1) = 0 then 1 else (if (jX2_isRegister x2) = 0 then 1 else (if (jX2_within x3 (-1024) 1024) = 0 then 1 else 0 : Int32) : Int32) : Int32) mi di po be mm ee fa fb) := hD
  exact wX2_power_B36 C hA hK hX _ _ _ _ _ _ _ _ _ _ _ _ _ _ _ _ hP hD hS (lv_sub hl [0, 1, 2, 3] rfl) h
theorem vc_X2_power : VC RX2 yX2_power cX2_power 4 (some .int) 3 := ⟨tw_525, tw_526, tw_2, tw_527, by decide +kernel⟩
theorem cX2_power_met (l : Launch) (ck : Nat → ClassId) (ad : Nat → Nat) (th : Int32) (mi : NI) (di : NL) (po : NI) (be : Int32) (mm : Int64) (ee : Int32) (fa : NI) (fb : NI) (x1 : Int32) (x2 : Int32) (x3 : Int32) (u : Int32 × Int32 × NI × NL × NI × Int32 × Int64 × Int32 × NI × NI) (h : jX2_power th mi di po be mm ee fa fb x1 x2 x3 = some u) : HM l yX2_power cX2_power 4 (some .int) (rmz 5 126) [.ref (ad 0), .int x1, .int x2, .int x3] (tyM ck) (wM ck ad th mi di po be mm ee fa fb) (some (.int u.1)) (wM ck ad u.2.1 u.2.2.1 u.2.2.2.1 u.2.2.2.2.1 u.2.2.2.2.2.1 u.2.2.2.2.2.2.1 u.2.2.2.2.2.2.2.1 u.2.2.2.2.2.2.2.2.1 u.2.2.2.2.2.2.2.2.2) :=
  hm_of (own := RX2) (by decide +kernel) rfl (Nat.le_of_ble_eq_true rfl) (fun D A p e s m below meth c ls C hA hK hX hP hD hS hl => wX2_power_0 C hA hK hX th mi di po be mm ee fa fb x1 x2 x3 ls _ _ u hP hD hS hl h)

/-! RealDeskModel.order(II)I -/
def jX2_order_B23 (th : Int32) (mi : NI) (di : NL) (po : NI) (be : Int32) (mm : Int64) (ee : Int32) (fa : NI) (fb : NI) (x1 : Int32) (x2 : Int32) : Option (Int32 × Int32 × NI × NL × NI × Int32 × Int64 × Int32 × NI × NI) := (if th ≤ 0 then (bM (jX2_compareNumbers th mi di po be mm ee fa fb x1 x2) fun r_1 th_1 mi_1 di_1 po_1 be_1 mm_1 ee_1 fa_1 fb_1 => some (r_1, th_1, mi_1, di_1, po_1, be_1, mm_1, ee_1, fa_1, fb_1)) else some (0, th, mi, di, po, be, mm, ee, fa, fb))
set_option maxHeartbeats 4000000 in
set_option maxRecDepth 100000 in
theorem wX2_order_B23 {p : Program} {l : Launch} {e : Env} {s : State} {m : MethodId} {args : Array Value} {below : List Frame} {meth : Method} {c : Code} {D : va_G} {A : Nat → Prop} {ck : Nat → ClassId} {ad : Nat → Nat} (C : CX p s m args meth c RX2 cX2_order 3 (some .int)) (hA : ∀ q, s.heap.size ≤ q → A q) (hK : va_K D vwCl (tyM ck) s) (hX : XT s) (th : Int32) (mi : NI) (di : NL) (po : NI) (be : Int32) (mm : Int64) (ee : Int32) (fa : NI) (fb : NI) (x1 : Int32) (x2 : Int32) (ls : Array Slot) (H : Heap) (locs : List Loc) (u : Int32 × Int32 × NI × NL × NI × Int32 × Int64 × Int32 × NI × NI) (hP : va_P D vwCl (wM ck ad th mi di po be mm ee fa fb) H) (hD : va_D A (wM ck ad th mi di po be mm ee fa fb)) (hS : va_S A s.heap H locs) (hl : lv_has ls 3 [(0, .ref (ad 0)), (1, .int x1), (2, .int x2)]) (h : jX2_order_B23 th mi di po be mm ee fa fb x1 x2 = some u) : W p l e (rmz 2 45) s m args below meth c H locs 0 0 (MQ below (HQ D A (wM ck ad u.2.1 u.2.2.1 u.2.2.2.1 u.2.2.2.2.1 u.2.2.2.2.2.1 u.2.2.2.2.2.2.1 u.2.2.2.2.2.2.2.1 u.2.2.2.2.2.2.2.2.1 u.2.2.2.2.2.2.2.2.2) (some (.int u.1))) args s 0 0 A) (F0 m 23 ls []) := by
  obtain ⟨hx, hb, hml, hown, hg, hr, hlocks⟩ := id C
  unfold jX2_order_B23 at h
  refine lv_aload_n hx hb dX2_order_23 rfl (lv_at hl 0 rfl) ?_
  refine va_get hx hb hg inX2 hown hK hP 0 rfl rfl 0 (by decide) (hg _ tw_326) (fun _ h9 => h9) rfl dX2_order_24 ?_
  refine lv_if_le (tgt := 34) hx hb dX2_order_27 (by decide) (fun c_1 => ?_) (fun c_1 => ?_)
  · rw [if_pos c_1] at h
    refine lv_aload_n hx hb dX2_order_34 rfl (lv_at hl 0 rfl) ?_
    refine lv_iload_n hx hb dX2_order_35 rfl (lv_at hl 1 rfl) ?_
    refine lv_iload_n hx hb dX2_order_36 rfl (lv_at hl 2 rfl) ?_
    obtain ⟨r_1, th_1, mi_1, di_1, po_1, be_1, mm_1, ee_1, fa_1, fb_1, h_r_1, h⟩ := of_bM h
    refine callMM C hK hX hP hD hS hA (cX2_compareNumbers_met l ck ad _ _ _ _ _ _ _ _ _ _ _ _ h_r_1) vc_X2_compareNumbers tw_474 (by decide) rfl hl.1 (rest := []) rfl (Nat.le_of_ble_eq_true rfl) (by decide) dX2_order_37 (fun H locs hP hD hS => ?_)
    have hP : va_P D vwCl (wM ck ad th_1 mi_1 di_1 po_1 be_1 mm_1 ee_1 fa_1 fb_1) H := hP
    have hD : va_D A (wM ck ad th_1 mi_1 di_1 po_1 be_1 mm_1 ee_1 fa_1 fb_1) := hD
    refine W.eq (g2 := F0 m 40 ls [.int r_1]) rfl ?_
    cases h
    exact W.iret hx hb hr (fun t ht _ => ⟨rfl, by rw [ht]; exact hP, hD, hS.F ht⟩) hS.2.2 dX2_order_40
  · rw [if_neg c_1] at h
    refine lv_iconst (v := 0) hx hb dX2_order_30 (by decide) ?_
    refine lv_goto (tgt := 40) hx hb dX2_order_31 (by decide) ?_
    cases h
    exact W.iret hx hb hr (fun t ht _ => ⟨rfl, by rw [ht]; exact hP, hD, hS.F ht⟩) hS.2.2 dX2_order_40
def jX2_order (th : Int32) (mi : NI) (di : NL) (po : NI) (be : Int32) (mm : Int64) (ee : Int32) (fa : NI) (fb : NI) (x1 : Int32) (x2 : Int32) : Option (Int32 × Int32 × NI × NL × NI × Int32 × Int64 × Int32 × NI × NI) := jX2_order_B23 (if (jX2_isRegister x1) = 0 then 1 else (if (jX2_isRegister x2) = 0 then 1 else 0 : Int32) : Int32) mi di po be mm ee fa fb x1 x2
set_option maxHeartbeats 4000000 in
set_option maxRecDepth 100000 in
theorem wX2_order_0 {p : Program} {l : Launch} {e : Env} {s : State} {m : MethodId} {args : Array Value} {below : List Frame} {meth : Method} {c : Code} {D : va_G} {A : Nat → Prop} {ck : Nat → ClassId} {ad : Nat → Nat} (C : CX p s m args meth c RX2 cX2_order 3 (some .int)) (hA : ∀ q, s.heap.size ≤ q → A q) (hK : va_K D vwCl (tyM ck) s) (hX : XT s) (th : Int32) (mi : NI) (di : NL) (po : NI) (be : Int32) (mm : Int64) (ee : Int32) (fa : NI) (fb : NI) (x1 : Int32) (x2 : Int32) (ls : Array Slot) (H : Heap) (locs : List Loc) (u : Int32 × Int32 × NI × NL × NI × Int32 × Int64 × Int32 × NI × NI) (hP : va_P D vwCl (wM ck ad th mi di po be mm ee fa fb) H) (hD : va_D A (wM ck ad th mi di po be mm ee fa fb)) (hS : va_S A s.heap H locs) (hl : lv_has ls 3 [(0, .ref (ad 0)), (1, .int x1), (2, .int x2)]) (h : jX2_order th mi di po be mm ee fa fb x1 x2 = some u) : W p l e (rmz 2 45) s m args below meth c H locs 0 0 (MQ below (HQ D A (wM ck ad u.2.1 u.2.2.1 u.2.2.2.1 u.2.2.2.2.1 u.2.2.2.2.2.1 u.2.2.2.2.2.2.1 u.2.2.2.2.2.2.2.1 u.2.2.2.2.2.2.2.2.1 u.2.2.2.2.2.2.2.2.2) (some (.int u.1))) args s 0 0 A) (F0 m 0 ls []) := by
  obtain ⟨hx, hb, hml, hown, hg, hr, hlocks⟩ := id C
  unfold jX2_order at h
  refine lv_aload_n hx hb dX2_order_0 rfl (lv_at hl 0 rfl) ?_
  refine lv_iload_n hx hb dX2_order_1 rfl (lv_at hl 1 rfl) ?_
  refine pcall C (cX2_isRegister_met l _ _ rfl) sc_X2_isRegister tw_362 (by decide) rfl hl.1 (rest := [.ref (ad 0)]) rfl (Nat.le_of_ble_eq_true rfl) (by decide) dX2_order_2 ?_
  refine rg_i (pj := 20) (v := (if (jX2_isRegister x1) = 0 then 1 else (if (jX2_isRegister x2) = 0 then 1 else 0 : Int32) : Int32)) (ls := ls) (rest := [.ref (ad 0)]) (fun kJ => ?_) ?_
  · refine lv_if_eq (tgt := 19) hx hb dX2_order_5 (by decide) (fun c_1 => ?_) (fun c_1 => ?_)
    · refine lv_iconst (v := 1) hx hb dX2_order_19 (by decide) ?_
      exact kJ _ (by rw [if_pos c_1])
    · refine lv_iload_n hx hb dX2_order_8 rfl (lv_at hl 2 rfl) ?_
      refine pcall C (cX2_isRegister_met l _ _ rfl) sc_X2_isRegister tw_362 (by decide) rfl hl.1 (rest := [.ref (ad 0)]) rfl (Nat.le_of_ble_eq_true rfl) (by decide) dX2_order_9 ?_
      refine lv_if_eq (tgt := 19) hx hb dX2_order_12 (by decide) (fun c_2 => ?_) (fun c_2 => ?_)
      · refine lv_iconst (v := 1) hx hb dX2_order_19 (by decide) ?_
        exact kJ _ (by rw [if_neg c_1, if_pos c_2])
      · refine lv_iconst (v := 0) hx hb dX2_order_15 (by decide) ?_
        refine lv_goto (tgt := 20) hx hb dX2_order_16 (by decide) ?_
        exact kJ _ (by rw [if_neg c_1, if_neg c_2])
  refine va_put hx hb hg inX2 tyX2 tyX2_ok nmX2 hown hK hP hD hS 0 rfl rfl 0 (by decide) (hg _ tw_326) (fun _ h9 => h9) rfl (tyX2_ok 0 (by decide)) rfl rfl (Nat.le_of_ble_eq_true rfl) dX2_order_20 (fun H locs hP hD hS => ?_)
  have hP : va_P D vwCl (wM ck ad (if (jX2_isRegister x1) = 0 then 1 else (if (jX2_isRegister x2) = 0 then 1 else 0 : Int32) : Int32) mi di po be mm ee fa fb) H := hP
  have hD : va_D A (wM ck ad (if (jX2_isRegister x1) = 0 then 1 else (if (jX2_isRegister x2) = 0 then 1 else 0 : Int32) : Int32) mi di po be mm ee fa fb) := hD
  exact wX2_order_B23 C hA hK hX _ _ _ _ _ _ _ _ _ _ _ _ _ _ _ hP hD hS (lv_sub hl [0, 1, 2] rfl) h
theorem vc_X2_order : VC RX2 yX2_order cX2_order 3 (some .int) 2 := ⟨tw_537, tw_538, tw_2, tw_539, by decide +kernel⟩
theorem cX2_order_met (l : Launch) (ck : Nat → ClassId) (ad : Nat → Nat) (th : Int32) (mi : NI) (di : NL) (po : NI) (be : Int32) (mm : Int64) (ee : Int32) (fa : NI) (fb : NI) (x1 : Int32) (x2 : Int32) (u : Int32 × Int32 × NI × NL × NI × Int32 × Int64 × Int32 × NI × NI) (h : jX2_order th mi di po be mm ee fa fb x1 x2 = some u) : HM l yX2_order cX2_order 3 (some .int) (rmz 2 45) [.ref (ad 0), .int x1, .int x2] (tyM ck) (wM ck ad th mi di po be mm ee fa fb) (some (.int u.1)) (wM ck ad u.2.1 u.2.2.1 u.2.2.2.1 u.2.2.2.2.1 u.2.2.2.2.2.1 u.2.2.2.2.2.2.1 u.2.2.2.2.2.2.2.1 u.2.2.2.2.2.2.2.2.1 u.2.2.2.2.2.2.2.2.2) :=
  hm_of (own := RX2) (by decide +kernel) rfl (Nat.le_of_ble_eq_true rfl) (fun D A p e s m below meth c ls C hA hK hX hP hD hS hl => wX2_order_0 C hA hK hX th mi di po be mm ee fa fb x1 x2 ls _ _ u hP hD hS hl h)

/-! RealDeskModel.digits(I)J -/
def jX2_digits (th : Int32) (mi : NI) (di : NL) (po : NI) (be : Int32) (mm : Int64) (ee : Int32) (fa : NI) (fb : NI) (x1 : Int32) : Option (Int64 × Int32 × NI × NL × NI × Int32 × Int64 × Int32 × NI × NI) := (if (if (jX2_isRegister x1) = 0 then 1 else 0 : Int32) ≤ 0 then (if ok x1 16 = true then (if (mi x1.toNatClampNeg) = 0 then (if ok x1 16 = true then some (di x1.toNatClampNeg, (if (jX2_isRegister x1) = 0 then 1 else 0 : Int32), mi, di, po, be, mm, ee, fa, fb) else none) else (if ok x1 16 = true then some (-(di x1.toNatClampNeg), (if (jX2_isRegister x1) = 0 then 1 else 0 : Int32), mi, di, po, be, mm, ee, fa, fb) else none)) else none) else some (0, (if (jX2_isRegister x1) = 0 then 1 else 0 : Int32), mi, di, po, be, mm, ee, fa, fb))
set_option maxHeartbeats 4000000 in
set_option maxRecDepth 100000 in
theorem wX2_digits_0 {p : Program} {l : Launch} {e : Env} {s : State} {m : MethodId} {args : Array Value} {below : List Frame} {meth : Method} {c : Code} {D : va_G} {A : Nat → Prop} {ck : Nat → ClassId} {ad : Nat → Nat} (C : CX p s m args meth c RX2 cX2_digits 2 (some .long)) (hA : ∀ q, s.heap.size ≤ q → A q) (hK : va_K D vwCl (tyM ck) s) (hX : XT s) (th : Int32) (mi : NI) (di : NL) (po : NI) (be : Int32) (mm : Int64) (ee : Int32) (fa : NI) (fb : NI) (x1 : Int32) (ls : Array Slot) (H : Heap) (locs : List Loc) (u : Int64 × Int32 × NI × NL × NI × Int32 × Int64 × Int32 × NI × NI) (hP : va_P D vwCl (wM ck ad th mi di po be mm ee fa fb) H) (hD : va_D A (wM ck ad th mi di po be mm ee fa fb)) (hS : va_S A s.heap H locs) (hl : lv_has ls 2 [(0, .ref (ad 0)), (1, .int x1)]) (h : jX2_digits th mi di po be mm ee fa fb x1 = some u) : W p l e (rmz 1 20) s m args below meth c H locs 0 0 (MQ below (HQ D A (wM ck ad u.2.1 u.2.2.1 u.2.2.2.1 u.2.2.2.2.1 u.2.2.2.2.2.1 u.2.2.2.2.2.2.1 u.2.2.2.2.2.2.2.1 u.2.2.2.2.2.2.2.2.1 u.2.2.2.2.2.2.2.2.2) (some (.long u.1))) args s 0 0 A) (F0 m 0 ls []) := by
  obtain ⟨hx, hb, hml, hown, hg, hr, hlocks⟩ := id C
  unfold jX2_digits at h
  refine lv_aload_n hx hb dX2_digits_0 rfl (lv_at hl 0 rfl) ?_
  refine lv_iload_n hx hb dX2_digits_1 rfl (lv_at hl 1 rfl) ?_
  refine pcall C (cX2_isRegister_met l _ _ rfl) sc_X2_isRegister tw_362 (by decide) rfl hl.1 (rest := [.ref (ad 0)]) rfl (Nat.le_of_ble_eq_true rfl) (by decide) dX2_digits_2 ?_
  refine rg_i (pj := 13) (v := (if (jX2_isRegister x1) = 0 then 1 else 0 : Int32)) (ls := ls) (rest := [.ref (ad 0)]) (fun kJ => ?_) ?_
  · refine lv_if_eq (tgt := 12) hx hb dX2_digits_5 (by decide) (fun c_1 => ?_) (fun c_1 => ?_)
    · refine lv_iconst (v := 1) hx hb dX2_digits_12 (by decide) ?_
      exact kJ _ (by rw [if_pos c_1])
    · refine lv_iconst (v := 0) hx hb dX2_digits_8 (by decide) ?_
      refine lv_goto (tgt := 13) hx hb dX2_digits_9 (by decide) ?_
      exact kJ _ (by rw [if_neg c_1])
  refine va_put hx hb hg inX2 tyX2 tyX2_ok nmX2 hown hK hP hD hS 0 rfl rfl 0 (by decide) (hg _ tw_326) (fun _ h9 => h9) rfl (tyX2_ok 0 (by decide)) rfl rfl (Nat.le_of_ble_eq_true rfl) dX2_digits_13 (fun H locs hP hD hS => ?_)
  have hP : va_P D vwCl (wM ck ad (if (jX2_isRegister x1) = 0 then 1 else 0 : Int32) mi di po be mm ee fa fb) H := hP
  have hD : va_D A (wM ck ad (if (jX2_isRegister x1) = 0 then 1 else 0 : Int32) mi di po be mm ee fa fb) := hD
  refine lv_aload_n hx hb dX2_digits_16 rfl (lv_at hl 0 rfl) ?_
  refine va_get hx hb hg inX2 hown hK hP 0 rfl rfl 0 (by decide) (hg _ tw_326) (fun _ h9 => h9) rfl dX2_digits_17 ?_
  refine lv_if_le (tgt := 27) hx hb dX2_digits_20 (by decide) (fun c_2 => ?_) (fun c_2 => ?_)
  · rw [if_pos c_2] at h
    refine lv_aload_n hx hb dX2_digits_27 rfl (lv_at hl 0 rfl) ?_
    refine va_get hx hb hg inX2 hown hK hP 0 rfl rfl 1 (by decide) (hg _ tw_327) (fun _ h9 => h9) rfl dX2_digits_28 ?_
    refine lv_iload_n hx hb dX2_digits_31 rfl (lv_at hl 1 rfl) ?_
    obtain ⟨z_32, h⟩ := of_ite h
    refine va_zald hx hb hK hP 1 2 rfl rfl (ok_in z_32) dX2_digits_32 ?_
    refine lv_if_eq (tgt := 46) hx hb dX2_digits_33 (by decide) (fun c_3 => ?_) (fun c_3 => ?_)
    · rw [if_pos c_3] at h
      refine lv_aload_n hx hb dX2_digits_46 rfl (lv_at hl 0 rfl) ?_
      refine va_get hx hb hg inX2 hown hK hP 0 rfl rfl 2 (by decide) (hg _ tw_328) (fun _ h9 => h9) rfl dX2_digits_47 ?_
      refine lv_iload_n hx hb dX2_digits_50 rfl (lv_at hl 1 rfl) ?_
      obtain ⟨z_51, h⟩ := of_ite h
      refine va_lald hx hb hK hP 2 1 rfl rfl (ok_in z_51) dX2_digits_51 ?_
      cases h
      exact W.lret hx hb hr (fun t ht _ => ⟨rfl, by rw [ht]; exact hP, hD, hS.F ht⟩) hS.2.2 dX2_digits_52
    · rw [if_neg c_3] at h
      refine lv_aload_n hx hb dX2_digits_36 rfl (lv_at hl 0 rfl) ?_
      refine va_get hx hb hg inX2 hown hK hP 0 rfl rfl 2 (by decide) (hg _ tw_328) (fun _ h9 => h9) rfl dX2_digits_37 ?_
      refine lv_iload_n hx hb dX2_digits_40 rfl (lv_at hl 1 rfl) ?_
      obtain ⟨z_41, h⟩ := of_ite h
      refine va_lald hx hb hK hP 2 1 rfl rfl (ok_in z_41) dX2_digits_41 ?_
      refine lv_lneg hx hb dX2_digits_42 ?_
      refine lv_goto (tgt := 52) hx hb dX2_digits_43 (by decide) ?_
      cases h
      exact W.lret hx hb hr (fun t ht _ => ⟨rfl, by rw [ht]; exact hP, hD, hS.F ht⟩) hS.2.2 dX2_digits_52
  · rw [if_neg c_2] at h
    refine lv_lconst (v := 0) hx hb dX2_digits_23 (by decide) ?_
    refine lv_goto (tgt := 52) hx hb dX2_digits_24 (by decide) ?_
    cases h
    exact W.lret hx hb hr (fun t ht _ => ⟨rfl, by rw [ht]; exact hP, hD, hS.F ht⟩) hS.2.2 dX2_digits_52
theorem vc_X2_digits : VC RX2 yX2_digits cX2_digits 2 (some .long) 1 := ⟨tw_541, tw_542, tw_2, tw_543, by decide +kernel⟩
theorem cX2_digits_met (l : Launch) (ck : Nat → ClassId) (ad : Nat → Nat) (th : Int32) (mi : NI) (di : NL) (po : NI) (be : Int32) (mm : Int64) (ee : Int32) (fa : NI) (fb : NI) (x1 : Int32) (u : Int64 × Int32 × NI × NL × NI × Int32 × Int64 × Int32 × NI × NI) (h : jX2_digits th mi di po be mm ee fa fb x1 = some u) : HM l yX2_digits cX2_digits 2 (some .long) (rmz 1 20) [.ref (ad 0), .int x1] (tyM ck) (wM ck ad th mi di po be mm ee fa fb) (some (.long u.1)) (wM ck ad u.2.1 u.2.2.1 u.2.2.2.1 u.2.2.2.2.1 u.2.2.2.2.2.1 u.2.2.2.2.2.2.1 u.2.2.2.2.2.2.2.1 u.2.2.2.2.2.2.2.2.1 u.2.2.2.2.2.2.2.2.2) :=
  hm_of (own := RX2) (by decide +kernel) rfl (Nat.le_of_ble_eq_true rfl) (fun D A p e s m below meth c ls C hA hK hX hP hD hS hl => wX2_digits_0 C hA hK hX th mi di po be mm ee fa fb x1 ls _ _ u hP hD hS hl h)

/-! RealDeskModel.exponent(I)I -/
def jX2_exponent (th : Int32) (mi : NI) (di : NL) (po : NI) (be : Int32) (mm : Int64) (ee : Int32) (fa : NI) (fb : NI) (x1 : Int32) : Option (Int32 × Int32 × NI × NL × NI × Int32 × Int64 × Int32 × NI × NI) := (if (if (jX2_isRegister x1) = 0 then 1 else 0 : Int32) ≤ 0 then (if ok x1 16 = true then some (po x1.toNatClampNeg, (if (jX2_isRegister x1) = 0 then 1 else 0 : Int32), mi, di, po, be, mm, ee, fa, fb) else none) else some (0, (if (jX2_isRegister x1) = 0 then 1 else 0 : Int32), mi, di, po, be, mm, ee, fa, fb))
set_option maxHeartbeats 4000000 in
set_option maxRecDepth 100000 in
theorem wX2_exponent_0 {p : Program} {l : Launch} {e : Env} {s : State} {m : MethodId} {args : Array Value} {below : List Frame} {meth : Method} {c : Code} {D : va_G} {A : Nat → Prop} {ck : Nat → ClassId} {ad : Nat → Nat} (C : CX p s m args meth c RX2 cX2_exponent 2 (some .int)) (hA : ∀ q, s.heap.size ≤ q → A q) (hK : va_K D vwCl (tyM ck) s) (hX : XT s) (th : Int32) (mi : NI) (di : NL) (po : NI) (be : Int32) (mm : Int64) (ee : Int32) (fa : NI) (fb : NI) (x1 : Int32) (ls : Array Slot) (H : Heap) (locs : List Loc) (u : Int32 × Int32 × NI × NL × NI × Int32 × Int64 × Int32 × NI × NI) (hP : va_P D vwCl (wM ck ad th mi di po be mm ee fa fb) H) (hD : va_D A (wM ck ad th mi di po be mm ee fa fb)) (hS : va_S A s.heap H locs) (hl : lv_has ls 2 [(0, .ref (ad 0)), (1, .int x1)]) (h : jX2_exponent th mi di po be mm ee fa fb x1 = some u) : W p l e (rmz 1 20) s m args below meth c H locs 0 0 (MQ below (HQ D A (wM ck ad u.2.1 u.2.2.1 u.2.2.2.1 u.2.2.2.2.1 u.2.2.2.2.2.1 u.2.2.2.2.2.2.1 u.2.2.2.2.2.2.2.1 u.2.2.2.2.2.2.2.2.1 u.2.2.2.2.2.2.2.2.2) (some (.int u.1))) args s 0 0 A) (F0 m 0 ls []) := by
  obtain ⟨hx, hb, hml, hown, hg, hr, hlocks⟩ := id C
  unfold jX2_exponent at h
  refine lv_aload_n hx hb dX2_exponent_0 rfl (lv_at hl 0 rfl) ?_
  refine lv_iload_n hx hb dX2_exponent_1 rfl (lv_at hl 1 rfl) ?_
  refine pcall C (cX2_isRegister_met l _ _ rfl) sc_X2_isRegister tw_362 (by decide) rfl hl.1 (rest := [.ref (ad 0)]) rfl (Nat.le_of_ble_eq_true rfl) (by decide) dX2_exponent_2 ?_
  refine rg_i (pj := 13) (v := (if (jX2_isRegister x1) = 0 then 1 else 0 : Int32)) (ls := ls) (rest := [.ref (ad 0)]) (fun kJ => ?_) ?_
  · refine lv_if_eq (tgt := 12) hx hb dX2_exponent_5 (by decide) (fun c_1 => ?_) (fun c_1 => ?_)
    · refine lv_iconst (v := 1) hx hb dX2_exponent_12 (by decide) ?_
      exact kJ _ (by rw [if_pos c_1])
    · refine lv_iconst (v := 0) hx hb dX2_exponent_8 (by decide) ?_
      refine lv_goto (tgt := 13) hx hb dX2_exponent_9 (by decide) ?_
      exact kJ _ (by rw [if_neg c_1])
  refine va_put hx hb hg inX2 tyX2 tyX2_ok nmX2 hown hK hP hD hS 0 rfl rfl 0 (by decide) (hg _ tw_326) (fun _ h9 => h9) rfl (tyX2_ok 0 (by decide)) rfl rfl (Nat.le_of_ble_eq_true rfl) dX2_exponent_13 (fun H locs hP hD hS => ?_)
  have hP : va_P D vwCl (wM ck ad (if (jX2_isRegister x1) = 0 then 1 else 0 : Int32) mi di po be mm ee fa fb) H := hP
  have hD : va_D A (wM ck ad (if (jX2_isRegister x1) = 0 then 1 else 0 : Int32) mi di po be mm ee fa fb) := hD
  refine lv_aload_n hx hb dX2_exponent_16 rfl (lv_at hl 0 rfl) ?_
  refine va_get hx hb hg inX2 hown hK hP 0 rfl rfl 0 (by decide) (hg _ tw_326) (fun _ h9 => h9) rfl dX2_exponent_17 ?_
  refine lv_if_le (tgt := 27) hx hb dX2_exponent_20 (by decide) (fun c_2 => ?_) (fun c_2 => ?_)
  · rw [if_pos c_2] at h
    refine lv_aload_n hx hb dX2_exponent_27 rfl (lv_at hl 0 rfl) ?_
    refine va_get hx hb hg inX2 hown hK hP 0 rfl rfl 3 (by decide) (hg _ tw_329) (fun _ h9 => h9) rfl dX2_exponent_28 ?_
    refine lv_iload_n hx hb dX2_exponent_31 rfl (lv_at hl 1 rfl) ?_
    obtain ⟨z_32, h⟩ := of_ite h
    refine va_iald hx hb hK hP 3 0 rfl rfl (ok_in z_32) dX2_exponent_32 ?_
    cases h
    exact W.iret hx hb hr (fun t ht _ => ⟨rfl, by rw [ht]; exact hP, hD, hS.F ht⟩) hS.2.2 dX2_exponent_33
  · rw [if_neg c_2] at h
    refine lv_iconst (v := 0) hx hb dX2_exponent_23 (by decide) ?_
    refine lv_goto (tgt := 33) hx hb dX2_exponent_24 (by decide) ?_
    cases h
    exact W.iret hx hb hr (fun t ht _ => ⟨rfl, by rw [ht]; exact hP, hD, hS.F ht⟩) hS.2.2 dX2_exponent_33
theorem vc_X2_exponent : VC RX2 yX2_exponent cX2_exponent 2 (some .int) 1 := ⟨tw_545, tw_546, tw_2, tw_547, by decide +kernel⟩
theorem cX2_exponent_met (l : Launch) (ck : Nat → ClassId) (ad : Nat → Nat) (th : Int32) (mi : NI) (di : NL) (po : NI) (be : Int32) (mm : Int64) (ee : Int32) (fa : NI) (fb : NI) (x1 : Int32) (u : Int32 × Int32 × NI × NL × NI × Int32 × Int64 × Int32 × NI × NI) (h : jX2_exponent th mi di po be mm ee fa fb x1 = some u) : HM l yX2_exponent cX2_exponent 2 (some .int) (rmz 1 20) [.ref (ad 0), .int x1] (tyM ck) (wM ck ad th mi di po be mm ee fa fb) (some (.int u.1)) (wM ck ad u.2.1 u.2.2.1 u.2.2.2.1 u.2.2.2.2.1 u.2.2.2.2.2.1 u.2.2.2.2.2.2.1 u.2.2.2.2.2.2.2.1 u.2.2.2.2.2.2.2.2.1 u.2.2.2.2.2.2.2.2.2) :=
  hm_of (own := RX2) (by decide +kernel) rfl (Nat.le_of_ble_eq_true rfl) (fun D A p e s m below meth c ls C hA hK hX hP hD hS hl => wX2_exponent_0 C hA hK hX th mi di po be mm ee fa fb x1 ls _ _ u hP hD hS hl h)

/-! RealDeskModel.value(I)D -/
def jX2_value_L62 : Nat → Int32 → NI → NL → NI → Int32 → Int64 → Int32 → NI → NI → Int32 → UInt64 → Int32 → Option (UInt64 × Int32 × NI × NL × NI × Int32 × Int64 × Int32 × NI × NI)
  | 0, _, _, _, _, _, _, _, _, _, _, _, _ => none
  | k + 1, th, mi, di, po, be, mm, ee, fa, fb, x1, x2, x4 => (if ok x1 16 = true then (if (-(po x1.toNatClampNeg)) ≤ x4 then (if ok x1 16 = true then (if (mi x1.toNatClampNeg) = 0 then some (x2, th, mi, di, po, be, mm, ee, fa, fb) else some (FP.dneg x2, th, mi, di, po, be, mm, ee, fa, fb)) else none) else (if nn (FP.dmul x2 (4602678819172646912 : UInt64)) = true then jX2_value_L62 k th mi di po be mm ee fa fb x1 (FP.dmul x2 (4602678819172646912 : UInt64)) (x4 + 1) else none)) else none)
set_option maxHeartbeats 4000000 in
set_option maxRecDepth 100000 in
theorem wX2_value_L62 {p : Program} {l : Launch} {e : Env} {s : State} {m : MethodId} {args : Array Value} {below : List Frame} {meth : Method} {c : Code} {D : va_G} {A : Nat → Prop} {ck : Nat → ClassId} {ad : Nat → Nat} (C : CX p s m args meth c RX2 cX2_value 5 (some .double)) (hA : ∀ q, s.heap.size ≤ q → A q) (hK : va_K D vwCl (tyM ck) s) (hX : XT s) : ∀ (k : Nat) (th : Int32) (mi : NI) (di : NL) (po : NI) (be : Int32) (mm : Int64) (ee : Int32) (fa : NI) (fb : NI) (x1 : Int32) (x2 : UInt64) (x4 : Int32) (ls : Array Slot) (H : Heap) (locs : List Loc) (u : UInt64 × Int32 × NI × NL × NI × Int32 × Int64 × Int32 × NI × NI), va_P D vwCl (wM ck ad th mi di po be mm ee fa fb) H → va_D A (wM ck ad th mi di po be mm ee fa fb) → va_S A s.heap H locs → lv_has ls 5 [(0, .ref (ad 0)), (1, .int x1), (2, .double x2), (4, .int x4)] → jX2_value_L62 k th mi di po be mm ee fa fb x1 x2 x4 = some u → W p l e (rmz 1 20) s m args below meth c H locs 0 0 (MQ below (HQ D A (wM ck ad u.2.1 u.2.2.1 u.2.2.2.1 u.2.2.2.2.1 u.2.2.2.2.2.1 u.2.2.2.2.2.2.1 u.2.2.2.2.2.2.2.1 u.2.2.2.2.2.2.2.2.1 u.2.2.2.2.2.2.2.2.2) (some (.double u.1))) args s 0 0 A) (F0 m 62 ls []) := by
  obtain ⟨hx, hb, hml, hown, hg, hr, hlocks⟩ := id C
  intro k
  induction k with
  | zero => intro th mi di po be mm ee fa fb x1 x2 x4 ls H locs u hP hD hS hl h; cases h
  | succ k ih =>
    intro th mi di po be mm ee fa fb x1 x2 x4 ls H locs u hP hD hS hl h
    unfold jX2_value_L62 at h
    refine lv_iload hx hb dX2_value_62 (lv_at hl 3 rfl) ?_
    refine lv_aload_n hx hb dX2_value_64 rfl (lv_at hl 0 rfl) ?_
    refine va_get hx hb hg inX2 hown hK hP 0 rfl rfl 3 (by decide) (hg _ tw_329) (fun _ h9 => h9) rfl dX2_value_65 ?_
    refine lv_iload_n hx hb dX2_value_68 rfl (lv_at hl 1 rfl) ?_
    obtain ⟨z_69, h⟩ := of_ite h
    refine va_iald hx hb hK hP 3 0 rfl rfl (ok_in z_69) dX2_value_69 ?_
    refine lv_ineg hx hb dX2_value_70 ?_
    refine lv_icmp_ge (tgt := 86) hx hb dX2_value_71 (by decide) (fun c_1 => ?_) (fun c_1 => ?_)
    · rw [if_pos c_1] at h
      refine lv_aload_n hx hb dX2_value_86 rfl (lv_at hl 0 rfl) ?_
      refine va_get hx hb hg inX2 hown hK hP 0 rfl rfl 1 (by decide) (hg _ tw_327) (fun _ h9 => h9) rfl dX2_value_87 ?_
      refine lv_iload_n hx hb dX2_value_90 rfl (lv_at hl 1 rfl) ?_
      obtain ⟨z_91, h⟩ := of_ite h
      refine va_zald hx hb hK hP 1 2 rfl rfl (ok_in z_91) dX2_value_91 ?_
      refine lv_if_eq (tgt := 100) hx hb dX2_value_92 (by decide) (fun c_2 => ?_) (fun c_2 => ?_)
      · rw [if_pos c_2] at h
        refine lv_dload_n hx hb dX2_value_100 rfl (lv_at hl 2 rfl) ?_
        cases h
        exact W.dret hx hb hr (fun t ht _ => ⟨rfl, by rw [ht]; exact hP, hD, hS.F ht⟩) hS.2.2 dX2_value_101
      · rw [if_neg c_2] at h
        refine lv_dload_n hx hb dX2_value_95 rfl (lv_at hl 2 rfl) ?_
        refine lv_dneg hx hb dX2_value_96 ?_
        refine lv_goto (tgt := 101) hx hb dX2_value_97 (by decide) ?_
        cases h
        exact W.dret hx hb hr (fun t ht _ => ⟨rfl, by rw [ht]; exact hP, hD, hS.F ht⟩) hS.2.2 dX2_value_101
    · rw [if_neg c_1] at h
      refine lv_dload_n hx hb dX2_value_74 rfl (lv_at hl 2 rfl) ?_
      refine lv_ldc2d hx hb hown (hg _ tw_553) dX2_value_75 ?_
      obtain ⟨z_78, h⟩ := of_ite h
      refine lv_dmul hx hb dX2_value_78 (nn_of z_78) ?_
      refine lv_dstore_n (lv' := [(2, .double (FP.dmul x2 (4602678819172646912 : UInt64))), (0, .ref (ad 0)), (1, .int x1), (4, .int x4)]) hx hb dX2_value_79 rfl hl (by decide) rfl (fun ls hl => ?_)
      refine lv_iinc (v := x4 + 1) (lv' := [(4, .int (x4 + 1)), (2, .double (FP.dmul x2 (4602678819172646912 : UInt64))), (0, .ref (ad 0)), (1, .int x1)]) hx hb dX2_value_80 hl (k := 3) rfl rfl (by decide) rfl (fun ls hl => ?_)
      refine lv_goto (tgt := 62) hx hb dX2_value_83 (by decide) ?_
      exact ih _ _ _ _ _ _ _ _ _ _ _ _ _ _ _ _ hP hD hS (lv_sub hl [2, 3, 1, 0] rfl) h
def jX2_value_L36 : Nat → Int32 → NI → NL → NI → Int32 → Int64 → Int32 → NI → NI → Int32 → UInt64 → Int32 → Option (UInt64 × Int32 × NI × NL × NI × Int32 × Int64 × Int32 × NI × NI)
  | 0, _, _, _, _, _, _, _, _, _, _, _, _ => none
  | k + 1, th, mi, di, po, be, mm, ee, fa, fb, x1, x2, x4 => (if ok x1 16 = true then (if (po x1.toNatClampNeg) ≤ x4 then jX2_value_L62 FU th mi di po be mm ee fa fb x1 x2 0 else (if nn (FP.dmul x2 (4611686018427387904 : UInt64)) = true then jX2_value_L36 k th mi di po be mm ee fa fb x1 (FP.dmul x2 (4611686018427387904 : UInt64)) (x4 + 1) else none)) else none)
set_option maxHeartbeats 4000000 in
set_option maxRecDepth 100000 in
theorem wX2_value_L36 {p : Program} {l : Launch} {e : Env} {s : State} {m : MethodId} {args : Array Value} {below : List Frame} {meth : Method} {c : Code} {D : va_G} {A : Nat → Prop} {ck : Nat → ClassId} {ad : Nat → Nat} (C : CX p s m args meth c RX2 cX2_value 5 (some .double)) (hA : ∀ q, s.heap.size ≤ q → A q) (hK : va_K D vwCl (tyM ck) s) (hX : XT s) : ∀ (k : Nat) (th : Int32) (mi : NI) (di : NL) (po : NI) (be : Int32) (mm : Int64) (ee : Int32) (fa : NI) (fb : NI) (x1 : Int32) (x2 : UInt64) (x4 : Int32) (ls : Array Slot) (H : Heap) (locs : List Loc) (u : UInt64 × Int32 × NI × NL × NI × Int32 × Int64 × Int32 × NI × NI), va_P D vwCl (wM ck ad th mi di po be mm ee fa fb) H → va_D A (wM ck ad th mi di po be mm ee fa fb) → va_S A s.heap H locs → lv_has ls 5 [(0, .ref (ad 0)), (1, .int x1), (2, .double x2), (4, .int x4)] → jX2_value_L36 k th mi di po be mm ee fa fb x1 x2 x4 = some u → W p l e (rmz 1 20) s m args below meth c H locs 0 0 (MQ below (HQ D A (wM ck ad u.2.1 u.2.2.1 u.2.2.2.1 u.2.2.2.2.1 u.2.2.2.2.2.1 u.2.2.2.2.2.2.1 u.2.2.2.2.2.2.2.1 u.2.2.2.2.2.2.2.2.1 u.2.2.2.2.2.2.2.2.2) (some (.double u.1))) args s 0 0 A) (F0 m 36 ls []) := by
  obtain ⟨hx, hb, hml, hown, hg, hr, hlocks⟩ := id C
  intro k
  induction k with
  | zero => intro th mi di po be mm ee fa fb x1 x2 x4 ls H locs u hP hD hS hl h; cases h
  | succ k ih =>
    intro th mi di po be mm ee fa fb x1 x2 x4 ls H locs u hP hD hS hl h
    unfold jX2_value_L36 at h
    refine lv_iload hx hb dX2_value_36 (lv_at hl 3 rfl) ?_
    refine lv_aload_n hx hb dX2_value_38 rfl (lv_at hl 0 rfl) ?_
    refine va_get hx hb hg inX2 hown hK hP 0 rfl rfl 3 (by decide) (hg _ tw_329) (fun _ h9 => h9) rfl dX2_value_39 ?_
    refine lv_iload_n hx hb dX2_value_42 rfl (lv_at hl 1 rfl) ?_
    obtain ⟨z_43, h⟩ := of_ite h
    refine va_iald hx hb hK hP 3 0 rfl rfl (ok_in z_43) dX2_value_43 ?_
    refine lv_icmp_ge (tgt := 59) hx hb dX2_value_44 (by decide) (fun c_1 => ?_) (fun c_1 => ?_)
    · rw [if_pos c_1] at h
      refine lv_iconst (v := 0) hx hb dX2_value_59 (by decide) ?_
      refine lv_istore (lv' := [(4, .int 0), (0, .ref (ad 0)), (1, .int x1), (2, .double x2)]) hx hb dX2_value_60 hl (by decide) rfl (fun ls hl => ?_)
      exact wX2_value_L62 C hA hK hX FU _ _ _ _ _ _ _ _ _ _ _ _ _ _ _ _ hP hD hS (lv_sub hl [1, 2, 3, 0] rfl) h
    · rw [if_neg c_1] at h
      refine lv_dload_n hx hb dX2_value_47 rfl (lv_at hl 2 rfl) ?_
      refine lv_ldc2d hx hb hown (hg _ tw_552) dX2_value_48 ?_
      obtain ⟨z_51, h⟩ := of_ite h
      refine lv_dmul hx hb dX2_value_51 (nn_of z_51) ?_
      refine lv_dstore_n (lv' := [(2, .double (FP.dmul x2 (4611686018427387904 : UInt64))), (0, .ref (ad 0)), (1, .int x1), (4, .int x4)]) hx hb dX2_value_52 rfl hl (by decide) rfl (fun ls hl => ?_)
      refine lv_iinc (v := x4 + 1) (lv' := [(4, .int (x4 + 1)), (2, .double (FP.dmul x2 (4611686018427387904 : UInt64))), (0, .ref (ad 0)), (1, .int x1)]) hx hb dX2_value_53 hl (k := 3) rfl rfl (by decide) rfl (fun ls hl => ?_)
      refine lv_goto (tgt := 36) hx hb dX2_value_56 (by decide) ?_
      exact ih _ _ _ _ _ _ _ _ _ _ _ _ _ _ _ _ hP hD hS (lv_sub hl [2, 3, 1, 0] rfl) h
def jX2_value (th : Int32) (mi : NI) (di : NL) (po : NI) (be : Int32) (mm : Int64) (ee : Int32) (fa : NI) (fb : NI) (x1 : Int32) : Option (UInt64 × Int32 × NI × NL × NI × Int32 × Int64 × Int32 × NI × NI) := (if (if (jX2_isRegister x1) = 0 then 1 else 0 : Int32) ≤ 0 then (if ok x1 16 = true then jX2_value_L36 FU (if (jX2_isRegister x1) = 0 then 1 else 0 : Int32) mi di po be mm ee fa fb x1 (FP.l2d (di x1.toNatClampNeg)) 0 else none) else some (FP.dconst0, (if (jX2_isRegister x1) = 0 then 1 else 0 : Int32), mi, di, po, be, mm, ee, fa, fb))
set_option maxHeartbeats 4000000 in
set_option maxRecDepth 100000 in
theorem wX2_value_0 {p : Program} {l : Launch} {e : Env} {s : State} {m : MethodId} {args : Array Value} {below : List Frame} {meth : Method} {c : Code} {D : va_G} {A : Nat → Prop} {ck : Nat → ClassId} {ad : Nat → Nat} (C : CX p s m args meth c RX2 cX2_value 5 (some .double)) (hA : ∀ q, s.heap.size ≤ q → A q) (hK : va_K D vwCl (tyM ck) s) (hX : XT s) (th : Int32) (mi : NI) (di : NL) (po : NI) (be : Int32) (mm : Int64) (ee : Int32) (fa : NI) (fb : NI) (x1 : Int32) (ls : Array Slot) (H : Heap) (locs : List Loc) (u : UInt64 × Int32 × NI × NL × NI × Int32 × Int64 × Int32 × NI × NI) (hP : va_P D vwCl (wM ck ad th mi di po be mm ee fa fb) H) (hD : va_D A (wM ck ad th mi di po be mm ee fa fb)) (hS : va_S A s.heap H locs) (hl : lv_has ls 5 [(0, .ref (ad 0)), (1, .int x1)]) (h : jX2_value th mi di po be mm ee fa fb x1 = some u) : W p l e (rmz 1 20) s m args below meth c H locs 0 0 (MQ below (HQ D A (wM ck ad u.2.1 u.2.2.1 u.2.2.2.1 u.2.2.2.2.1 u.2.2.2.2.2.1 u.2.2.2.2.2.2.1 u.2.2.2.2.2.2.2.1 u.2.2.2.2.2.2.2.2.1 u.2.2.2.2.2.2.2.2.2) (some (.double u.1))) args s 0 0 A) (F0 m 0 ls []) := by
  obtain ⟨hx, hb, hml, hown, hg, hr, hlocks⟩ := id C
  unfold jX2_value at h
  refine lv_aload_n hx hb dX2_value_0 rfl (lv_at hl 0 rfl) ?_
  refine lv_iload_n hx hb dX2_value_1 rfl (lv_at hl 1 rfl) ?_
  refine pcall C (cX2_isRegister_met l _ _ rfl) sc_X2_isRegister tw_362 (by decide) rfl hl.1 (rest := [.ref (ad 0)]) rfl (Nat.le_of_ble_eq_true rfl) (by decide) dX2_value_2 ?_
  refine rg_i (pj := 13) (v := (if (jX2_isRegister x1) = 0 then 1 else 0 : Int32)) (ls := ls) (rest := [.ref (ad 0)]) (fun kJ => ?_) ?_
  · refine lv_if_eq (tgt := 12) hx hb dX2_value_5 (by decide) (fun c_1 => ?_) (fun c_1 => ?_)
    · refine lv_iconst (v := 1) hx hb dX2_value_12 (by decide) ?_
      exact kJ _ (by rw [if_pos c_1])
    · refine lv_iconst (v := 0) hx hb dX2_value_8 (by decide) ?_
      refine lv_goto (tgt := 13) hx hb dX2_value_9 (by decide) ?_
      exact kJ _ (by rw [if_neg c_1])
  refine va_put hx hb hg inX2 tyX2 tyX2_ok nmX2 hown hK hP hD hS 0 rfl rfl 0 (by decide) (hg _ tw_326) (fun _ h9 => h9) rfl (tyX2_ok 0 (by decide)) rfl rfl (Nat.le_of_ble_eq_true rfl) dX2_value_13 (fun H locs hP hD hS => ?_)
  have hP : va_P D vwCl (wM ck ad (if (jX2_isRegister x1) = 0 then 1 else 0 : Int32) mi di po be mm ee fa fb) H := hP
  have hD : va_D A (wM ck ad (if (jX2_isRegister x1) = 0 then 1 else 0 : Int32) mi di po be mm ee fa fb) := hD
  refine lv_aload_n hx hb dX2_value_16 rfl (lv_at hl 0 rfl) ?_
  refine va_get hx hb hg inX2 hown hK hP 0 rfl rfl 0 (by decide) (hg _ tw_326) (fun _ h9 => h9) rfl dX2_value_17 ?_
  refine lv_if_le (tgt := 25) hx hb dX2_value_20 (by decide) (fun c_2 => ?_) (fun c_2 => ?_)
  · rw [if_pos c_2] at h
    refine lv_aload_n hx hb dX2_value_25 rfl (lv_at hl 0 rfl) ?_
    refine va_get hx hb hg inX2 hown hK hP 0 rfl rfl 2 (by decide) (hg _ tw_328) (fun _ h9 => h9) rfl dX2_value_26 ?_
    refine lv_iload_n hx hb dX2_value_29 rfl (lv_at hl 1 rfl) ?_
    obtain ⟨z_30, h⟩ := of_ite h
    refine va_lald hx hb hK hP 2 1 rfl rfl (ok_in z_30) dX2_value_30 ?_
    refine lv_l2d hx hb dX2_value_31 ?_
    refine lv_dstore_n (lv' := [(2, .double (FP.l2d (di x1.toNatClampNeg))), (0, .ref (ad 0)), (1, .int x1)]) hx hb dX2_value_32 rfl hl (by decide) rfl (fun ls hl => ?_)
    refine lv_iconst (v := 0) hx hb dX2_value_33 (by decide) ?_
    refine lv_istore (lv' := [(4, .int 0), (2, .double (FP.l2d (di x1.toNatClampNeg))), (0, .ref (ad 0)), (1, .int x1)]) hx hb dX2_value_34 hl (by decide) rfl (fun ls hl => ?_)
    exact wX2_value_L36 C hA hK hX FU _ _ _ _ _ _ _ _ _ _ _ _ _ _ _ _ hP hD hS (lv_sub hl [2, 3, 1, 0] rfl) h
  · rw [if_neg c_2] at h
    refine lv_dconst0 hx hb dX2_value_23 ?_
    cases h
    exact W.dret hx hb hr (fun t ht _ => ⟨rfl, by rw [ht]; exact hP, hD, hS.F ht⟩) hS.2.2 dX2_value_24
theorem vc_X2_value : VC RX2 yX2_value cX2_value 5 (some .double) 1 := ⟨tw_549, tw_550, tw_2, tw_551, by decide +kernel⟩
theorem cX2_value_met (l : Launch) (ck : Nat → ClassId) (ad : Nat → Nat) (th : Int32) (mi : NI) (di : NL) (po : NI) (be : Int32) (mm : Int64) (ee : Int32) (fa : NI) (fb : NI) (x1 : Int32) (u : UInt64 × Int32 × NI × NL × NI × Int32 × Int64 × Int32 × NI × NI) (h : jX2_value th mi di po be mm ee fa fb x1 = some u) : HM l yX2_value cX2_value 5 (some .double) (rmz 1 20) [.ref (ad 0), .int x1] (tyM ck) (wM ck ad th mi di po be mm ee fa fb) (some (.double u.1)) (wM ck ad u.2.1 u.2.2.1 u.2.2.2.1 u.2.2.2.2.1 u.2.2.2.2.2.1 u.2.2.2.2.2.2.1 u.2.2.2.2.2.2.2.1 u.2.2.2.2.2.2.2.2.1 u.2.2.2.2.2.2.2.2.2) :=
  hm_of (own := RX2) (by decide +kernel) rfl (Nat.le_of_ble_eq_true rfl) (fun D A p e s m below meth c ls C hA hK hX hP hD hS hl => wX2_value_0 C hA hK hX th mi di po be mm ee fa fb x1 ls _ _ u hP hD hS hl h)

/-! RealDeskModel.whole(I)J -/
def jX2_whole_B161 (th : Int32) (mi : NI) (di : NL) (po : NI) (be : Int32) (mm : Int64) (ee : Int32) (fa : NI) (fb : NI) (x1 : Int32) (x2 : Int32) (x3 : Int64) : Option (Int64 × Int32 × NI × NL × NI × Int32 × Int64 × Int32 × NI × NI) := (if x2 = 0 then (bM (jX2_refuse th mi di po be mm ee fa fb 2) fun r_1 th_1 mi_1 di_1 po_1 be_1 mm_1 ee_1 fa_1 fb_1 => some (r_1.toInt64, th_1, mi_1, di_1, po_1, be_1, mm_1, ee_1, fa_1, fb_1)) else (if ok x1 16 = true then some ((if (mi x1.toNatClampNeg) = 0 then x3 else -x3 : Int64), th, mi, di, po, be, mm, ee, fa, fb) else none))
set_option maxHeartbeats 4000000 in
set_option maxRecDepth 100000 in
theorem wX2_whole_B161 {p : Program} {l : Launch} {e : Env} {s : State} {m : MethodId} {args : Array Value} {below : List Frame} {meth : Method} {c : Code} {D : va_G} {A : Nat → Prop} {ck : Nat → ClassId} {ad : Nat → Nat} (C : CX p s m args meth c RX2 cX2_whole 6 (some .long)) (hA : ∀ q, s.heap.size ≤ q → A q) (hK : va_K D vwCl (tyM ck) s) (hX : XT s) (th : Int32) (mi : NI) (di : NL) (po : NI) (be : Int32) (mm : Int64) (ee : Int32) (fa : NI) (fb : NI) (x1 : Int32) (x2 : Int32) (x3 : Int64) (ls : Array Slot) (H : Heap) (locs : List Loc) (u : Int64 × Int32 × NI × NL × NI × Int32 × Int64 × Int32 × NI × NI) (hP : va_P D vwCl (wM ck ad th mi di po be mm ee fa fb) H) (hD : va_D A (wM ck ad th mi di po be mm ee fa fb)) (hS : va_S A s.heap H locs) (hl : lv_has ls 6 [(0, .ref (ad 0)), (1, .int x1), (2, .int x2), (3, .long x3)]) (h : jX2_whole_B161 th mi di po be mm ee fa fb x1 x2 x3 = some u) : W p l e (rmz 1 21) s m args below meth c H locs 0 0 (MQ below (HQ D A (wM ck ad u.2.1 u.2.2.1 u.2.2.2.1 u.2.2.2.2.1 u.2.2.2.2.2.1 u.2.2.2.2.2.2.1 u.2.2.2.2.2.2.2.1 u.2.2.2.2.2.2.2.2.1 u.2.2.2.2.2.2.2.2.2) (some (.long u.1))) args s 0 0 A) (F0 m 161 ls []) := by
  obtain ⟨hx, hb, hml, hown, hg, hr, hlocks⟩ := id C
  unfold jX2_whole_B161 at h
  refine lv_iload_n hx hb dX2_whole_161 rfl (lv_at hl 2 rfl) ?_
  refine lv_if_ne (tgt := 172) hx hb dX2_whole_162 (by decide) (fun c_1 => ?_) (fun c_1 => ?_)
  · rw [if_neg c_1] at h
    refine lv_aload_n hx hb dX2_whole_172 rfl (lv_at hl 0 rfl) ?_
    refine va_get hx hb hg inX2 hown hK hP 0 rfl rfl 1 (by decide) (hg _ tw_327) (fun _ h9 => h9) rfl dX2_whole_173 ?_
    refine lv_iload_n hx hb dX2_whole_176 rfl (lv_at hl 1 rfl) ?_
    obtain ⟨z_177, h⟩ := of_ite h
    refine va_zald hx hb hK hP 1 2 rfl rfl (ok_in z_177) dX2_whole_177 ?_
    refine rg_l (pj := 187) (v := (if (mi x1.toNatClampNeg) = 0 then x3 else -x3 : Int64)) (ls := ls) (rest := []) (fun kJ => ?_) ?_
    · refine lv_if_eq (tgt := 186) hx hb dX2_whole_178 (by decide) (fun c_2 => ?_) (fun c_2 => ?_)
      · refine lv_lload_n hx hb dX2_whole_186 rfl (lv_at hl 3 rfl) ?_
        exact kJ _ (by rw [if_pos c_2])
      · refine lv_lload_n hx hb dX2_whole_181 rfl (lv_at hl 3 rfl) ?_
        refine lv_lneg hx hb dX2_whole_182 ?_
        refine lv_goto (tgt := 187) hx hb dX2_whole_183 (by decide) ?_
        exact kJ _ (by rw [if_neg c_2])
    cases h
    exact W.lret hx hb hr (fun t ht _ => ⟨rfl, by rw [ht]; exact hP, hD, hS.F ht⟩) hS.2.2 dX2_whole_187
  · rw [if_pos c_1] at h
    refine lv_aload_n hx hb dX2_whole_165 rfl (lv_at hl 0 rfl) ?_
    refine lv_iconst (v := 2) hx hb dX2_whole_166 (by decide) ?_
    obtain ⟨r_1, th_1, mi_1, di_1, po_1, be_1, mm_1, ee_1, fa_1, fb_1, h_r_1, h⟩ := of_bM h
    refine callMM C hK hX hP hD hS hA (cX2_refuse_met l ck ad _ _ _ _ _ _ _ _ _ _ _ h_r_1) vc_X2_refuse tw_559 (by decide) rfl hl.1 (rest := []) rfl (Nat.le_of_ble_eq_true rfl) (by decide) dX2_whole_167 (fun H locs hP hD hS => ?_)
    have hP : va_P D vwCl (wM ck ad th_1 mi_1 di_1 po_1 be_1 mm_1 ee_1 fa_1 fb_1) H := hP
    have hD : va_D A (wM ck ad th_1 mi_1 di_1 po_1 be_1 mm_1 ee_1 fa_1 fb_1) := hD
    refine W.eq (g2 := F0 m 170 ls [.int r_1]) rfl ?_
    refine lv_i2l hx hb dX2_whole_170 rfl ?_
    cases h
    exact W.lret hx hb hr (fun t ht _ => ⟨rfl, by rw [ht]; exact hP, hD, hS.F ht⟩) hS.2.2 dX2_whole_171
def jX2_whole_L103 : Nat → Int32 → NI → NL → NI → Int32 → Int64 → Int32 → NI → NI → Int32 → Int32 → Int64 → Int32 → Option (Int64 × Int32 × NI × NL × NI × Int32 × Int64 × Int32 × NI × NI)
  | 0, _, _, _, _, _, _, _, _, _, _, _, _, _ => none
  | k + 1, th, mi, di, po, be, mm, ee, fa, fb, x1, x2, x3, x5 => (if ok x1 16 = true then (if (po x1.toNatClampNeg) ≤ x5 then jX2_whole_B161 th mi di po be mm ee fa fb x1 x2 x3 else (if x2 = 0 then jX2_whole_B161 th mi di po be mm ee fa fb x1 x2 x3 else (if x3 < 4611686018427387904 then jX2_whole_L103 k th mi di po be mm ee fa fb x1 1 (2 * x3) (x5 + 1) else (if ok x1 16 = true then jX2_whole_L103 k th mi di po be mm ee fa fb x1 (if (mi x1.toNatClampNeg) = 0 then 0 else (if x3 = 4611686018427387904 then 1 else 0 : Int32) : Int32) (2 * x3) (x5 + 1) else none)))) else none)
set_option maxHeartbeats 4000000 in
set_option maxRecDepth 100000 in
theorem wX2_whole_L103 {p : Program} {l : Launch} {e : Env} {s : State} {m : MethodId} {args : Array Value} {below : List Frame} {meth : Method} {c : Code} {D : va_G} {A : Nat → Prop} {ck : Nat → ClassId} {ad : Nat → Nat} (C : CX p s m args meth c RX2 cX2_whole 6 (some .long)) (hA : ∀ q, s.heap.size ≤ q → A q) (hK : va_K D vwCl (tyM ck) s) (hX : XT s) : ∀ (k : Nat) (th : Int32) (mi : NI) (di : NL) (po : NI) (be : Int32) (mm : Int64) (ee : Int32) (fa : NI) (fb : NI) (x1 : Int32) (x2 : Int32) (x3 : Int64) (x5 : Int32) (ls : Array Slot) (H : Heap) (locs : List Loc) (u : Int64 × Int32 × NI × NL × NI × Int32 × Int64 × Int32 × NI × NI), va_P D vwCl (wM ck ad th mi di po be mm ee fa fb) H → va_D A (wM ck ad th mi di po be mm ee fa fb) → va_S A s.heap H locs → lv_has ls 6 [(0, .ref (ad 0)), (1, .int x1), (2, .int x2), (3, .long x3), (5, .int x5)] → jX2_whole_L103 k th mi di po be mm ee fa fb x1 x2 x3 x5 = some u → W p l e (rmz 1 21) s m args below meth c H locs 0 0 (MQ below (HQ D A (wM ck ad u.2.1 u.2.2.1 u.2.2.2.1 u.2.2.2.2.1 u.2.2.2.2.2.1 u.2.2.2.2.2.2.1 u.2.2.2.2.2.2.2.1 u.2.2.2.2.2.2.2.2.1 u.2.2.2.2.2.2.2.2.2) (some (.long u.1))) args s 0 0 A) (F0 m 103 ls []) := by
  obtain ⟨hx, hb, hml, hown, hg, hr, hlocks⟩ := id C
  intro k
  induction k with
  | zero => intro th mi di po be mm ee fa fb x1 x2 x3 x5 ls H locs u hP hD hS hl h; cases h
  | succ k ih =>
    intro th mi di po be mm ee fa fb x1 x2 x3 x5 ls H locs u hP hD hS hl h
    unfold jX2_whole_L103 at h
    refine lv_iload hx hb dX2_whole_103 (lv_at hl 4 rfl) ?_
    refine lv_aload_n hx hb dX2_whole_105 rfl (lv_at hl 0 rfl) ?_
    refine va_get hx hb hg inX2 hown hK hP 0 rfl rfl 3 (by decide) (hg _ tw_329) (fun _ h9 => h9) rfl dX2_whole_106 ?_
    refine lv_iload_n hx hb dX2_whole_109 rfl (lv_at hl 1 rfl) ?_
    obtain ⟨z_110, h⟩ := of_ite h
    refine va_iald hx hb hK hP 3 0 rfl rfl (ok_in z_110) dX2_whole_110 ?_
    refine lv_icmp_ge (tgt := 161) hx hb dX2_whole_111 (by decide) (fun c_1 => ?_) (fun c_1 => ?_)
    · rw [if_pos c_1] at h
      exact wX2_whole_B161 C hA hK hX _ _ _ _ _ _ _ _ _ _ _ _ _ _ _ _ hP hD hS (lv_sub hl [0, 1, 2, 3] rfl) h
    · rw [if_neg c_1] at h
      refine lv_iload_n hx hb dX2_whole_114 rfl (lv_at hl 2 rfl) ?_
      refine lv_if_eq (tgt := 161) hx hb dX2_whole_115 (by decide) (fun c_2 => ?_) (fun c_2 => ?_)
      · rw [if_pos c_2] at h
        exact wX2_whole_B161 C hA hK hX _ _ _ _ _ _ _ _ _ _ _ _ _ _ _ _ hP hD hS (lv_sub hl [0, 1, 2, 3] rfl) h
      · rw [if_neg c_2] at h
        refine lv_lload_n hx hb dX2_whole_118 rfl (lv_at hl 3 rfl) ?_
        refine lv_ldc2 hx hb hown (hg _ tw_558) dX2_whole_119 ?_
        refine lc_lt (tgt := 143) hx hb dX2_whole_122 dX2_whole_123 (by decide) (fun c_3 => ?_) (fun c_3 => ?_)
        · rw [if_pos c_3] at h
          refine lv_iconst (v := 1) hx hb dX2_whole_143 (by decide) ?_
          refine lv_goto (tgt := 148) hx hb dX2_whole_144 (by decide) ?_
          refine lv_istore_n (lv' := [(2, .int 1), (0, .ref (ad 0)), (1, .int x1), (3, .long x3), (5, .int x5)]) hx hb dX2_whole_148 rfl hl (by decide) rfl (fun ls hl => ?_)
          refine lv_ldc2 hx hb hown (hg _ tw_397) dX2_whole_149 ?_
          refine lv_lload_n hx hb dX2_whole_152 rfl (lv_at hl 3 rfl) ?_
          refine lv_lmul hx hb dX2_whole_153 ?_
          refine lv_lstore_n (lv' := [(3, .long (2 * x3)), (2, .int 1), (0, .ref (ad 0)), (1, .int x1), (5, .int x5)]) hx hb dX2_whole_154 rfl hl (by decide) rfl (fun ls hl => ?_)
          refine lv_iinc (v := x5 + 1) (lv' := [(5, .int (x5 + 1)), (3, .long (2 * x3)), (2, .int 1), (0, .ref (ad 0)), (1, .int x1)]) hx hb dX2_whole_155 hl (k := 4) rfl rfl (by decide) rfl (fun ls hl => ?_)
          refine lv_goto (tgt := 103) hx hb dX2_whole_158 (by decide) ?_
          exact ih _ _ _ _ _ _ _ _ _ _ _ _ _ _ _ _ _ hP hD hS (lv_sub hl [3, 4, 2, 1, 0] rfl) h
        · rw [if_neg c_3] at h
          refine lv_aload_n hx hb dX2_whole_126 rfl (lv_at hl 0 rfl) ?_
          refine va_get hx hb hg inX2 hown hK hP 0 rfl rfl 1 (by decide) (hg _ tw_327) (fun _ h9 => h9) rfl dX2_whole_127 ?_
          refine lv_iload_n hx hb dX2_whole_130 rfl (lv_at hl 1 rfl) ?_
          obtain ⟨z_131, h⟩ := of_ite h
          refine va_zald hx hb hK hP 1 2 rfl rfl (ok_in z_131) dX2_whole_131 ?_
          refine rg_i (pj := 148) (v := (if (mi x1.toNatClampNeg) = 0 then 0 else (if x3 = 4611686018427387904 then 1 else 0 : Int32) : Int32)) (ls := ls) (rest := []) (fun kJ => ?_) ?_
          · refine lv_if_eq (tgt := 147) hx hb dX2_whole_132 (by decide) (fun c_4 => ?_) (fun c_4 => ?_)
            · refine lv_iconst (v := 0) hx hb dX2_whole_147 (by decide) ?_
              exact kJ _ (by rw [if_pos c_4])
            · refine lv_lload_n hx hb dX2_whole_135 rfl (lv_at hl 3 rfl) ?_
              refine lv_ldc2 hx hb hown (hg _ tw_558) dX2_whole_136 ?_
              refine lc_ne (tgt := 147) hx hb dX2_whole_139 dX2_whole_140 (by decide) (fun c_5 => ?_) (fun c_5 => ?_)
              · refine lv_iconst (v := 0) hx hb dX2_whole_147 (by decide) ?_
                exact kJ _ (by rw [if_neg c_4, if_neg c_5])
              · refine lv_iconst (v := 1) hx hb dX2_whole_143 (by decide) ?_
                refine lv_goto (tgt := 148) hx hb dX2_whole_144 (by decide) ?_
                exact kJ _ (by rw [if_neg c_4, if_pos c_5])
          refine lv_istore_n (lv' := [(2, .int (if (mi x1.toNatClampNeg) = 0 then 0 else (if x3 = 4611686018427387904 then 1 else 0 : Int32) : Int32)), (0, .ref (ad 0)), (1, .int x1), (3, .long x3), (5, .int x5)]) hx hb dX2_whole_148 rfl hl (by decide) rfl (fun ls hl => ?_)
          refine lv_ldc2 hx hb hown (hg _ tw_397) dX2_whole_149 ?_
          refine lv_lload_n hx hb dX2_whole_152 rfl (lv_at hl 3 rfl) ?_
          refine lv_lmul hx hb dX2_whole_153 ?_
          refine lv_lstore_n (lv' := [(3, .long (2 * x3)), (2, .int (if (mi x1.toNatClampNeg) = 0 then 0 else (if x3 = 4611686018427387904 then 1 else 0 : Int32) : Int32)), (0, .ref (ad 0)), (1, .int x1), (5, .int x5)]) hx hb dX2_whole_154 rfl hl (by decide) rfl (fun ls hl => ?_)
          refine lv_iinc (v := x5 + 1) (lv' := [(5, .int (x5 + 1)), (3, .long (2 * x3)), (2, .int (if (mi x1.toNatClampNeg) = 0 then 0 else (if x3 = 4611686018427387904 then 1 else 0 : Int32) : Int32)), (0, .ref (ad 0)), (1, .int x1)]) hx hb dX2_whole_155 hl (k := 4) rfl rfl (by decide) rfl (fun ls hl => ?_)
          refine lv_goto (tgt := 103) hx hb dX2_whole_158 (by decide) ?_
          exact ih _ _ _ _ _ _ _ _ _ _ _ _ _ _ _ _ _ hP hD hS (lv_sub hl [3, 4, 2, 1, 0] rfl) h
def jX2_whole_L57 : Nat → Int32 → NI → NL → NI → Int32 → Int64 → Int32 → NI → NI → Int32 → Int32 → Int64 → Int32 → Option (Int64 × Int32 × NI × NL × NI × Int32 × Int64 × Int32 × NI × NI)
  | 0, _, _, _, _, _, _, _, _, _, _, _, _, _ => none
  | k + 1, th, mi, di, po, be, mm, ee, fa, fb, x1, x2, x3, x5 => (if 0 ≤ x5 then jX2_whole_L103 FU th mi di po be mm ee fa fb x1 x2 x3 0 else (if x2 = 0 then jX2_whole_L103 FU th mi di po be mm ee fa fb x1 x2 x3 0 else (if x3 ≤ 0 then jX2_whole_L103 FU th mi di po be mm ee fa fb x1 x2 x3 0 else jX2_whole_L57 k th mi di po be mm ee fa fb x1 (if (x3 - x3 / 2 * 2) = 0 then 1 else 0 : Int32) (x3 / 2) (x5 + 1))))
set_option maxHeartbeats 4000000 in
set_option maxRecDepth 100000 in
theorem wX2_whole_L57 {p : Program} {l : Launch} {e : Env} {s : State} {m : MethodId} {args : Array Value} {below : List Frame} {meth : Method} {c : Code} {D : va_G} {A : Nat → Prop} {ck : Nat → ClassId} {ad : Nat → Nat} (C : CX p s m args meth c RX2 cX2_whole 6 (some .long)) (hA : ∀ q, s.heap.size ≤ q → A q) (hK : va_K D vwCl (tyM ck) s) (hX : XT s) : ∀ (k : Nat) (th : Int32) (mi : NI) (di : NL) (po : NI) (be : Int32) (mm : Int64) (ee : Int32) (fa : NI) (fb : NI) (x1 : Int32) (x2 : Int32) (x3 : Int64) (x5 : Int32) (ls : Array Slot) (H : Heap) (locs : List Loc) (u : Int64 × Int32 × NI × NL × NI × Int32 × Int64 × Int32 × NI × NI), va_P D vwCl (wM ck ad th mi di po be mm ee fa fb) H → va_D A (wM ck ad th mi di po be mm ee fa fb) → va_S A s.heap H locs → lv_has ls 6 [(0, .ref (ad 0)), (1, .int x1), (2, .int x2), (3, .long x3), (5, .int x5)] → jX2_whole_L57 k th mi di po be mm ee fa fb x1 x2 x3 x5 = some u → W p l e (rmz 1 21) s m args below meth c H locs 0 0 (MQ below (HQ D A (wM ck ad u.2.1 u.2.2.1 u.2.2.2.1 u.2.2.2.2.1 u.2.2.2.2.2.1 u.2.2.2.2.2.2.1 u.2.2.2.2.2.2.2.1 u.2.2.2.2.2.2.2.2.1 u.2.2.2.2.2.2.2.2.2) (some (.long u.1))) args s 0 0 A) (F0 m 57 ls []) := by
  obtain ⟨hx, hb, hml, hown, hg, hr, hlocks⟩ := id C
  intro k
  induction k with
  | zero => intro th mi di po be mm ee fa fb x1 x2 x3 x5 ls H locs u hP hD hS hl h; cases h
  | succ k ih =>
    intro th mi di po be mm ee fa fb x1 x2 x3 x5 ls H locs u hP hD hS hl h
    unfold jX2_whole_L57 at h
    refine lv_iload hx hb dX2_whole_57 (lv_at hl 4 rfl) ?_
    refine lv_if_ge (tgt := 100) hx hb dX2_whole_59 (by decide) (fun c_1 => ?_) (fun c_1 => ?_)
    · rw [if_pos c_1] at h
      refine lv_iconst (v := 0) hx hb dX2_whole_100 (by decide) ?_
      refine lv_istore (lv' := [(5, .int 0), (0, .ref (ad 0)), (1, .int x1), (2, .int x2), (3, .long x3)]) hx hb dX2_whole_101 hl (by decide) rfl (fun ls hl => ?_)
      exact wX2_whole_L103 C hA hK hX FU _ _ _ _ _ _ _ _ _ _ _ _ _ _ _ _ _ hP hD hS (lv_sub hl [1, 2, 3, 4, 0] rfl) h
    · rw [if_neg c_1] at h
      refine lv_iload_n hx hb dX2_whole_62 rfl (lv_at hl 2 rfl) ?_
      refine lv_if_eq (tgt := 100) hx hb dX2_whole_63 (by decide) (fun c_2 => ?_) (fun c_2 => ?_)
      · rw [if_pos c_2] at h
        refine lv_iconst (v := 0) hx hb dX2_whole_100 (by decide) ?_
        refine lv_istore (lv' := [(5, .int 0), (0, .ref (ad 0)), (1, .int x1), (2, .int x2), (3, .long x3)]) hx hb dX2_whole_101 hl (by decide) rfl (fun ls hl => ?_)
        exact wX2_whole_L103 C hA hK hX FU _ _ _ _ _ _ _ _ _ _ _ _ _ _ _ _ _ hP hD hS (lv_sub hl [1, 2, 3, 4, 0] rfl) h
      · rw [if_neg c_2] at h
        refine lv_lload_n hx hb dX2_whole_66 rfl (lv_at hl 3 rfl) ?_
        refine lv_lconst (v := 0) hx hb dX2_whole_67 (by decide) ?_
        refine lc_le (tgt := 100) hx hb dX2_whole_68 dX2_whole_69 (by decide) (fun c_3 => ?_) (fun c_3 => ?_)
        · rw [if_pos c_3] at h
          refine lv_iconst (v := 0) hx hb dX2_whole_100 (by decide) ?_
          refine lv_istore (lv' := [(5, .int 0), (0, .ref (ad 0)), (1, .int x1), (2, .int x2), (3, .long x3)]) hx hb dX2_whole_101 hl (by decide) rfl (fun ls hl => ?_)
          exact wX2_whole_L103 C hA hK hX FU _ _ _ _ _ _ _ _ _ _ _ _ _ _ _ _ _ hP hD hS (lv_sub hl [1, 2, 3, 4, 0] rfl) h
        · rw [if_neg c_3] at h
          refine lv_lload_n hx hb dX2_whole_72 rfl (lv_at hl 3 rfl) ?_
          refine lv_ldc2 hx hb hown (hg _ tw_397) dX2_whole_73 ?_
          refine lv_lrem hx hb dX2_whole_76 (by decide) ?_
          refine lv_lconst (v := 0) hx hb dX2_whole_77 (by decide) ?_
          refine rg_i (pj := 87) (v := (if (x3 - x3 / 2 * 2) = 0 then 1 else 0 : Int32)) (ls := ls) (rest := []) (fun kJ => ?_) ?_
          · refine lc_ne (tgt := 86) hx hb dX2_whole_78 dX2_whole_79 (by decide) (fun c_4 => ?_) (fun c_4 => ?_)
            · refine lv_iconst (v := 0) hx hb dX2_whole_86 (by decide) ?_
              exact kJ _ (by rw [if_neg c_4])
            · refine lv_iconst (v := 1) hx hb dX2_whole_82 (by decide) ?_
              refine lv_goto (tgt := 87) hx hb dX2_whole_83 (by decide) ?_
              exact kJ _ (by rw [if_pos c_4])
          refine lv_istore_n (lv' := [(2, .int (if (x3 - x3 / 2 * 2) = 0 then 1 else 0 : Int32)), (0, .ref (ad 0)), (1, .int x1), (3, .long x3), (5, .int x5)]) hx hb dX2_whole_87 rfl hl (by decide) rfl (fun ls hl => ?_)
          refine lv_lload_n hx hb dX2_whole_88 rfl (lv_at hl 3 rfl) ?_
          refine lv_ldc2 hx hb hown (hg _ tw_397) dX2_whole_89 ?_
          refine lv_ldiv hx hb dX2_whole_92 (by decide) ?_
          refine lv_lstore_n (lv' := [(3, .long (x3 / 2)), (2, .int (if (x3 - x3 / 2 * 2) = 0 then 1 else 0 : Int32)), (0, .ref (ad 0)), (1, .int x1), (5, .int x5)]) hx hb dX2_whole_93 rfl hl (by decide) rfl (fun ls hl => ?_)
          refine lv_iinc (v := x5 + 1) (lv' := [(5, .int (x5 + 1)), (3, .long (x3 / 2)), (2, .int (if (x3 - x3 / 2 * 2) = 0 then 1 else 0 : Int32)), (0, .ref (ad 0)), (1, .int x1)]) hx hb dX2_whole_94 hl (k := 4) rfl rfl (by decide) rfl (fun ls hl => ?_)
          refine lv_goto (tgt := 57) hx hb dX2_whole_97 (by decide) ?_
          exact ih _ _ _ _ _ _ _ _ _ _ _ _ _ _ _ _ _ hP hD hS (lv_sub hl [3, 4, 2, 1, 0] rfl) h
def jX2_whole (th : Int32) (mi : NI) (di : NL) (po : NI) (be : Int32) (mm : Int64) (ee : Int32) (fa : NI) (fb : NI) (x1 : Int32) : Option (Int64 × Int32 × NI × NL × NI × Int32 × Int64 × Int32 × NI × NI) := (if (if (jX2_isRegister x1) = 0 then 1 else 0 : Int32) ≤ 0 then (if ok x1 16 = true then (if ok x1 16 = true then (if ok x1 16 = true then jX2_whole_L57 FU (if (jX2_isRegister x1) = 0 then 1 else 0 : Int32) mi di po be mm ee fa fb x1 (if 11 < (po x1.toNatClampNeg) then 0 else 1 : Int32) (di x1.toNatClampNeg) (po x1.toNatClampNeg) else none) else none) else none) else some (0, (if (jX2_isRegister x1) = 0 then 1 else 0 : Int32), mi, di, po, be, mm, ee, fa, fb))
set_option maxHeartbeats 4000000 in
set_option maxRecDepth 100000 in
theorem wX2_whole_0 {p : Program} {l : Launch} {e : Env} {s : State} {m : MethodId} {args : Array Value} {below : List Frame} {meth : Method} {c : Code} {D : va_G} {A : Nat → Prop} {ck : Nat → ClassId} {ad : Nat → Nat} (C : CX p s m args meth c RX2 cX2_whole 6 (some .long)) (hA : ∀ q, s.heap.size ≤ q → A q) (hK : va_K D vwCl (tyM ck) s) (hX : XT s) (th : Int32) (mi : NI) (di : NL) (po : NI) (be : Int32) (mm : Int64) (ee : Int32) (fa : NI) (fb : NI) (x1 : Int32) (ls : Array Slot) (H : Heap) (locs : List Loc) (u : Int64 × Int32 × NI × NL × NI × Int32 × Int64 × Int32 × NI × NI) (hP : va_P D vwCl (wM ck ad th mi di po be mm ee fa fb) H) (hD : va_D A (wM ck ad th mi di po be mm ee fa fb)) (hS : va_S A s.heap H locs) (hl : lv_has ls 6 [(0, .ref (ad 0)), (1, .int x1)]) (h : jX2_whole th mi di po be mm ee fa fb x1 = some u) : W p l e (rmz 1 21) s m args below meth c H locs 0 0 (MQ below (HQ D A (wM ck ad u.2.1 u.2.2.1 u.2.2.2.1 u.2.2.2.2.1 u.2.2.2.2.2.1 u.2.2.2.2.2.2.1 u.2.2.2.2.2.2.2.1 u.2.2.2.2.2.2.2.2.1 u.2.2.2.2.2.2.2.2.2) (some (.long u.1))) args s 0 0 A) (F0 m 0 ls []) := by
  obtain ⟨hx, hb, hml, hown, hg, hr, hlocks⟩ := id C
  unfold jX2_whole at h
  refine lv_aload_n hx hb dX2_whole_0 rfl (lv_at hl 0 rfl) ?_
  refine lv_iload_n hx hb dX2_whole_1 rfl (lv_at hl 1 rfl) ?_
  refine pcall C (cX2_isRegister_met l _ _ rfl) sc_X2_isRegister tw_362 (by decide) rfl hl.1 (rest := [.ref (ad 0)]) rfl (Nat.le_of_ble_eq_true rfl) (by decide) dX2_whole_2 ?_
  refine rg_i (pj := 13) (v := (if (jX2_isRegister x1) = 0 then 1 else 0 : Int32)) (ls := ls) (rest := [.ref (ad 0)]) (fun kJ => ?_) ?_
  · refine lv_if_eq (tgt := 12) hx hb dX2_whole_5 (by decide) (fun c_1 => ?_) (fun c_1 => ?_)
    · refine lv_iconst (v := 1) hx hb dX2_whole_12 (by decide) ?_
      exact kJ _ (by rw [if_pos c_1])
    · refine lv_iconst (v := 0) hx hb dX2_whole_8 (by decide) ?_
      refine lv_goto (tgt := 13) hx hb dX2_whole_9 (by decide) ?_
      exact kJ _ (by rw [if_neg c_1])
  refine va_put hx hb hg inX2 tyX2 tyX2_ok nmX2 hown hK hP hD hS 0 rfl rfl 0 (by decide) (hg _ tw_326) (fun _ h9 => h9) rfl (tyX2_ok 0 (by decide)) rfl rfl (Nat.le_of_ble_eq_true rfl) dX2_whole_13 (fun H locs hP hD hS => ?_)
  have hP : va_P D vwCl (wM ck ad (if (jX2_isRegister x1) = 0 then 1 else 0 : Int32) mi di po be mm ee fa fb) H := hP
  have hD : va_D A (wM ck ad (if (jX2_isRegister x1) = 0 then 1 else 0 : Int32) mi di po be mm ee fa fb) := hD
  refine lv_aload_n hx hb dX2_whole_16 rfl (lv_at hl 0 rfl) ?_
  refine va_get hx hb hg inX2 hown hK hP 0 rfl rfl 0 (by decide) (hg _ tw_326) (fun _ h9 => h9) rfl dX2_whole_17 ?_
  refine lv_if_le (tgt := 25) hx hb dX2_whole_20 (by decide) (fun c_2 => ?_) (fun c_2 => ?_)
  · rw [if_pos c_2] at h
    refine lv_aload_n hx hb dX2_whole_25 rfl (lv_at hl 0 rfl) ?_
    refine va_get hx hb hg inX2 hown hK hP 0 rfl rfl 3 (by decide) (hg _ tw_329) (fun _ h9 => h9) rfl dX2_whole_26 ?_
    refine lv_iload_n hx hb dX2_whole_29 rfl (lv_at hl 1 rfl) ?_
    obtain ⟨z_30, h⟩ := of_ite h
    refine va_iald hx hb hK hP 3 0 rfl rfl (ok_in z_30) dX2_whole_30 ?_
    refine lv_bipush (v := 11) hx hb dX2_whole_31 (by decide) ?_
    refine rg_i (pj := 41) (v := (if 11 < (po x1.toNatClampNeg) then 0 else 1 : Int32)) (ls := ls) (rest := []) (fun kJ => ?_) ?_
    · refine lv_icmp_gt (tgt := 40) hx hb dX2_whole_33 (by decide) (fun c_3 => ?_) (fun c_3 => ?_)
      · refine lv_iconst (v := 0) hx hb dX2_whole_40 (by decide) ?_
        exact kJ _ (by rw [if_pos c_3])
      · refine lv_iconst (v := 1) hx hb dX2_whole_36 (by decide) ?_
        refine lv_goto (tgt := 41) hx hb dX2_whole_37 (by decide) ?_
        exact kJ _ (by rw [if_neg c_3])
    refine lv_istore_n (lv' := [(2, .int (if 11 < (po x1.toNatClampNeg) then 0 else 1 : Int32)), (0, .ref (ad 0)), (1, .int x1)]) hx hb dX2_whole_41 rfl hl (by decide) rfl (fun ls hl => ?_)
    refine lv_aload_n hx hb dX2_whole_42 rfl (lv_at hl 1 rfl) ?_
    refine va_get hx hb hg inX2 hown hK hP 0 rfl rfl 2 (by decide) (hg _ tw_328) (fun _ h9 => h9) rfl dX2_whole_43 ?_
    refine lv_iload_n hx hb dX2_whole_46 rfl (lv_at hl 2 rfl) ?_
    obtain ⟨z_47, h⟩ := of_ite h
    refine va_lald hx hb hK hP 2 1 rfl rfl (ok_in z_47) dX2_whole_47 ?_
    refine lv_lstore_n (lv' := [(3, .long (di x1.toNatClampNeg)), (2, .int (if 11 < (po x1.toNatClampNeg) then 0 else 1 : Int32)), (0, .ref (ad 0)), (1, .int x1)]) hx hb dX2_whole_48 rfl hl (by decide) rfl (fun ls hl => ?_)
    refine lv_aload_n hx hb dX2_whole_49 rfl (lv_at hl 2 rfl) ?_
    refine va_get hx hb hg inX2 hown hK hP 0 rfl rfl 3 (by decide) (hg _ tw_329) (fun _ h9 => h9) rfl dX2_whole_50 ?_
    refine lv_iload_n hx hb dX2_whole_53 rfl (lv_at hl 3 rfl) ?_
    obtain ⟨z_54, h⟩ := of_ite h
    refine va_iald hx hb hK hP 3 0 rfl rfl (ok_in z_54) dX2_whole_54 ?_
    refine lv_istore (lv' := [(5, .int (po x1.toNatClampNeg)), (3, .long (di x1.toNatClampNeg)), (2, .int (if 11 < (po x1.toNatClampNeg) then 0 else 1 : Int32)), (0, .ref (ad 0)), (1, .int x1)]) hx hb dX2_whole_55 hl (by decide) rfl (fun ls hl => ?_)
    exact wX2_whole_L57 C hA hK hX FU _ _ _ _ _ _ _ _ _ _ _ _ _ _ _ _ _ hP hD hS (lv_sub hl [3, 4, 2, 1, 0] rfl) h
  · rw [if_neg c_2] at h
    refine lv_lconst (v := 0) hx hb dX2_whole_23 (by decide) ?_
    cases h
    exact W.lret hx hb hr (fun t ht _ => ⟨rfl, by rw [ht]; exact hP, hD, hS.F ht⟩) hS.2.2 dX2_whole_24
theorem vc_X2_whole : VC RX2 yX2_whole cX2_whole 6 (some .long) 1 := ⟨tw_555, tw_556, tw_2, tw_557, by decide +kernel⟩
theorem cX2_whole_met (l : Launch) (ck : Nat → ClassId) (ad : Nat → Nat) (th : Int32) (mi : NI) (di : NL) (po : NI) (be : Int32) (mm : Int64) (ee : Int32) (fa : NI) (fb : NI) (x1 : Int32) (u : Int64 × Int32 × NI × NL × NI × Int32 × Int64 × Int32 × NI × NI) (h : jX2_whole th mi di po be mm ee fa fb x1 = some u) : HM l yX2_whole cX2_whole 6 (some .long) (rmz 1 21) [.ref (ad 0), .int x1] (tyM ck) (wM ck ad th mi di po be mm ee fa fb) (some (.long u.1)) (wM ck ad u.2.1 u.2.2.1 u.2.2.2.1 u.2.2.2.2.1 u.2.2.2.2.2.1 u.2.2.2.2.2.2.1 u.2.2.2.2.2.2.2.1 u.2.2.2.2.2.2.2.2.1 u.2.2.2.2.2.2.2.2.2) :=
  hm_of (own := RX2) (by decide +kernel) rfl (Nat.le_of_ble_eq_true rfl) (fun D A p e s m below meth c ls C hA hK hX hP hD hS hl => wX2_whole_0 C hA hK hX th mi di po be mm ee fa fb x1 ls _ _ u hP hD hS hl h)
