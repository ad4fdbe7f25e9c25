/-! RealDesk.wholeNear(IJ)J -/
def jX0_wholeNear_B140 (x1 : Int64) (x11 : Int64) : Int64 := jX0_withSignOf (jX0_nearest x11 0) x1
set_option maxHeartbeats 4000000 in
set_option maxRecDepth 100000 in
theorem wX0_wholeNear_B140 {p : Program} {l : Launch} {e : Env} {s : State} {m : MethodId} {args : Array Value} {below : List Frame} {meth : Method} {c : Code} (C : CX p s m args meth c RX0 cX0_wholeNear 13 (some .long)) (x1 : Int64) (x11 : Int64) (ls : Array Slot) (v : Int64) (hl : lv_has ls 13 [(1, .long x1), (11, .long x11)]) (h : jX0_wholeNear_B140 x1 x11 = v) : W p l e (rmz 3 78) s m args below meth c s.heap [] 0 0 (MQ below (k2_QcV (.long v)) args s 0 0 (fun _ => False)) (F0 m 140 ls []) := by
  obtain ⟨hx, hb, hml, hown, hg, hr, hlocks⟩ := id C
  unfold jX0_wholeNear_B140 at h
  refine lv_lload hx hb dX0_wholeNear_140 (lv_at hl 1 rfl) ?_
  refine lv_iconst (v := 0) hx hb dX0_wholeNear_142 (by decide) ?_
  refine pcall C (cX0_nearest_met l _ _ _ rfl) sc_X0_nearest tw_110 (by decide) rfl hl.1 (rest := []) rfl (Nat.le_of_ble_eq_true rfl) (by decide) dX0_wholeNear_143 ?_
  refine lv_lload_n hx hb dX0_wholeNear_146 rfl (lv_at hl 0 rfl) ?_
  refine pcall C (cX0_withSignOf_met l _ _ _ rfl) sc_X0_withSignOf tw_130 (by decide) rfl hl.1 (rest := []) rfl (Nat.le_of_ble_eq_true rfl) (by decide) dX0_wholeNear_147 ?_
  exact W.lret hx hb hr (fun t ht _ => ⟨by rw [← h], ht⟩) (fun q h9 => nomatch h9) dX0_wholeNear_150
def jX0_wholeNear_B56 (x0 : Int32) (x1 : Int64) (x4 : Int64) (x6 : Int32) (x7 : Int64) (x9 : Int64) : Int64 := (if x0 = 3 then jX0_wholeNear_B140 x1 (if 0 ≤ x1 then x7 else x9 : Int64) else (if x0 = 4 then jX0_wholeNear_B140 x1 (if 0 ≤ x1 then x9 else x7 : Int64) else (if x0 = 5 then jX0_wholeNear_B140 x1 x7 else jX0_wholeNear_B140 x1 (jX0_nearestWhole x4 x6))))
set_option maxHeartbeats 4000000 in
set_option maxRecDepth 100000 in
theorem wX0_wholeNear_B56 {p : Program} {l : Launch} {e : Env} {s : State} {m : MethodId} {args : Array Value} {below : List Frame} {meth : Method} {c : Code} (C : CX p s m args meth c RX0 cX0_wholeNear 13 (some .long)) (x0 : Int32) (x1 : Int64) (x4 : Int64) (x6 : Int32) (x7 : Int64) (x9 : Int64) (ls : Array Slot) (v : Int64) (hl : lv_has ls 13 [(0, .int x0), (1, .long x1), (4, .long x4), (6, .int x6), (7, .long x7), (9, .long x9)]) (h : jX0_wholeNear_B56 x0 x1 x4 x6 x7 x9 = v) : W p l e (rmz 3 78) s m args below meth c s.heap [] 0 0 (MQ below (k2_QcV (.long v)) args s 0 0 (fun _ => False)) (F0 m 56 ls []) := by
  obtain ⟨hx, hb, hml, hown, hg, hr, hlocks⟩ := id C
  unfold jX0_wholeNear_B56 at h
  refine lv_iload_n hx hb dX0_wholeNear_56 rfl (lv_at hl 0 rfl) ?_
  by_cases c_1 : x0 = 3
  · rw [if_pos c_1] at h
    refine sw_in hx hb 3 88 dX0_wholeNear_57 c_1 (by decide) (by decide) (by decide) ?_
    refine lv_lload_n hx hb dX0_wholeNear_88 rfl (lv_at hl 1 rfl) ?_
    refine lv_lconst (v := 0) hx hb dX0_wholeNear_89 (by decide) ?_
    refine rg_l (pj := 101) (v := (if 0 ≤ x1 then x7 else x9 : Int64)) (ls := ls) (rest := []) (fun kJ => ?_) ?_
    · refine lc_ge (tgt := 99) hx hb dX0_wholeNear_90 dX0_wholeNear_91 (by decide) (fun c_2 => ?_) (fun c_2 => ?_)
      · refine lv_lload hx hb dX0_wholeNear_99 (lv_at hl 4 rfl) ?_
        exact kJ _ (by rw [if_pos c_2])
      · refine lv_lload hx hb dX0_wholeNear_94 (lv_at hl 5 rfl) ?_
        refine lv_goto (tgt := 101) hx hb dX0_wholeNear_96 (by decide) ?_
        exact kJ _ (by rw [if_neg c_2])
    refine lv_lstore (lv' := [(11, .long (if 0 ≤ x1 then x7 else x9 : Int64)), (0, .int x0), (1, .long x1), (4, .long x4), (6, .int x6), (7, .long x7), (9, .long x9)]) hx hb dX0_wholeNear_101 hl (by decide) rfl (fun ls hl => ?_)
    refine lv_goto (tgt := 140) hx hb dX0_wholeNear_103 (by decide) ?_
    exact wX0_wholeNear_B140 C _ _ _ _ (lv_sub hl [2, 0] rfl) h
  rw [if_neg c_1] at h
  by_cases c_3 : x0 = 4
  · rw [if_pos c_3] at h
    refine sw_in hx hb 4 106 dX0_wholeNear_57 c_3 (by decide) (by decide) (by decide) ?_
    refine lv_lload_n hx hb dX0_wholeNear_106 rfl (lv_at hl 1 rfl) ?_
    refine lv_lconst (v := 0) hx hb dX0_wholeNear_107 (by decide) ?_
    refine rg_l (pj := 119) (v := (if 0 ≤ x1 then x9 else x7 : Int64)) (ls := ls) (rest := []) (fun kJ => ?_) ?_
    · refine lc_ge (tgt := 117) hx hb dX0_wholeNear_108 dX0_wholeNear_109 (by decide) (fun c_4 => ?_) (fun c_4 => ?_)
      · refine lv_lload hx hb dX0_wholeNear_117 (lv_at hl 5 rfl) ?_
        exact kJ _ (by rw [if_pos c_4])
      · refine lv_lload hx hb dX0_wholeNear_112 (lv_at hl 4 rfl) ?_
        refine lv_goto (tgt := 119) hx hb dX0_wholeNear_114 (by decide) ?_
        exact kJ _ (by rw [if_neg c_4])
    refine lv_lstore (lv' := [(11, .long (if 0 ≤ x1 then x9 else x7 : Int64)), (0, .int x0), (1, .long x1), (4, .long x4), (6, .int x6), (7, .long x7), (9, .long x9)]) hx hb dX0_wholeNear_119 hl (by decide) rfl (fun ls hl => ?_)
    refine lv_goto (tgt := 140) hx hb dX0_wholeNear_121 (by decide) ?_
    exact wX0_wholeNear_B140 C _ _ _ _ (lv_sub hl [2, 0] rfl) h
  rw [if_neg c_3] at h
  by_cases c_5 : x0 = 5
  · rw [if_pos c_5] at h
    refine sw_in hx hb 5 124 dX0_wholeNear_57 c_5 (by decide) (by decide) (by decide) ?_
    refine lv_lload hx hb dX0_wholeNear_124 (lv_at hl 4 rfl) ?_
    refine lv_lstore (lv' := [(11, .long x7), (0, .int x0), (1, .long x1), (4, .long x4), (6, .int x6), (7, .long x7), (9, .long x9)]) hx hb dX0_wholeNear_126 hl (by decide) rfl (fun ls hl => ?_)
    refine lv_goto (tgt := 140) hx hb dX0_wholeNear_128 (by decide) ?_
    exact wX0_wholeNear_B140 C _ _ _ _ (lv_sub hl [2, 0] rfl) h
  rw [if_neg c_5] at h
  refine sw_def hx hb (tgt := 131) (n := 4) [3, 4, 5] dX0_wholeNear_57 (by decide) (by decide) (by decide) (List.forall_mem_cons.mpr ⟨c_1, List.forall_mem_cons.mpr ⟨c_3, List.forall_mem_cons.mpr ⟨c_5, fun _ h9 => nomatch h9⟩⟩⟩) ?_
  refine lv_lload hx hb dX0_wholeNear_131 (lv_at hl 2 rfl) ?_
  refine lv_iload hx hb dX0_wholeNear_133 (lv_at hl 3 rfl) ?_
  refine pcall C (cX0_nearestWhole_met l _ _ _ rfl) sc_X0_nearestWhole tw_124 (by decide) rfl hl.1 (rest := []) rfl (Nat.le_of_ble_eq_true rfl) (by decide) dX0_wholeNear_135 ?_
  refine lv_lstore (lv' := [(11, .long (jX0_nearestWhole x4 x6)), (0, .int x0), (1, .long x1), (4, .long x4), (6, .int x6), (7, .long x7), (9, .long x9)]) hx hb dX0_wholeNear_138 hl (by decide) rfl (fun ls hl => ?_)
  exact wX0_wholeNear_B140 C _ _ _ _ (lv_sub hl [2, 0] rfl) h
def jX0_wholeNear_B26 (x0 : Int32) (x1 : Int64) (x4 : Int64) (x6 : Int32) : Int64 := jX0_wholeNear_B56 x0 x1 x4 x6 (su x4 x6) (if (jX0_lowPlaces x4 x6) = 0 then su x4 x6 else (su x4 x6) + 1 : Int64)
set_option maxHeartbeats 4000000 in
set_option maxRecDepth 100000 in
theorem wX0_wholeNear_B26 {p : Program} {l : Launch} {e : Env} {s : State} {m : MethodId} {args : Array Value} {below : List Frame} {meth : Method} {c : Code} (C : CX p s m args meth c RX0 cX0_wholeNear 13 (some .long)) (x0 : Int32) (x1 : Int64) (x4 : Int64) (x6 : Int32) (ls : Array Slot) (v : Int64) (hl : lv_has ls 13 [(0, .int x0), (1, .long x1), (4, .long x4), (6, .int x6)]) (h : jX0_wholeNear_B26 x0 x1 x4 x6 = v) : W p l e (rmz 3 78) s m args below meth c s.heap [] 0 0 (MQ below (k2_QcV (.long v)) args s 0 0 (fun _ => False)) (F0 m 26 ls []) := by
  obtain ⟨hx, hb, hml, hown, hg, hr, hlocks⟩ := id C
  unfold jX0_wholeNear_B26 at h
  refine lv_lload hx hb dX0_wholeNear_26 (lv_at hl 2 rfl) ?_
  refine lv_iload hx hb dX0_wholeNear_28 (lv_at hl 3 rfl) ?_
  refine lv_lushr (v := su x4 x6) hx hb dX0_wholeNear_30 rfl ?_
  refine lv_lstore (lv' := [(7, .long (su x4 x6)), (0, .int x0), (1, .long x1), (4, .long x4), (6, .int x6)]) hx hb dX0_wholeNear_31 hl (by decide) rfl (fun ls hl => ?_)
  refine lv_lload hx hb dX0_wholeNear_33 (lv_at hl 3 rfl) ?_
  refine lv_iload hx hb dX0_wholeNear_35 (lv_at hl 4 rfl) ?_
  refine pcall C (cX0_lowPlaces_met l _ _ _ rfl) sc_X0_lowPlaces tw_127 (by decide) rfl hl.1 (rest := []) rfl (Nat.le_of_ble_eq_true rfl) (by decide) dX0_wholeNear_37 ?_
  refine lv_lconst (v := 0) hx hb dX0_wholeNear_40 (by decide) ?_
  refine rg_l (pj := 54) (v := (if (jX0_lowPlaces x4 x6) = 0 then su x4 x6 else (su x4 x6) + 1 : Int64)) (ls := ls) (rest := []) (fun kJ => ?_) ?_
  · refine lc_ne (tgt := 50) hx hb dX0_wholeNear_41 dX0_wholeNear_42 (by decide) (fun c_1 => ?_) (fun c_1 => ?_)
    · refine lv_lload hx hb dX0_wholeNear_50 (lv_at hl 0 rfl) ?_
      refine lv_lconst (v := 1) hx hb dX0_wholeNear_52 (by decide) ?_
      refine lv_ladd hx hb dX0_wholeNear_53 ?_
      exact kJ _ (by rw [if_neg c_1])
    · refine lv_lload hx hb dX0_wholeNear_45 (lv_at hl 0 rfl) ?_
      refine lv_goto (tgt := 54) hx hb dX0_wholeNear_47 (by decide) ?_
      exact kJ _ (by rw [if_pos c_1])
  refine lv_lstore (lv' := [(9, .long (if (jX0_lowPlaces x4 x6) = 0 then su x4 x6 else (su x4 x6) + 1 : Int64)), (7, .long (su x4 x6)), (0, .int x0), (1, .long x1), (4, .long x4), (6, .int x6)]) hx hb dX0_wholeNear_54 hl (by decide) rfl (fun ls hl => ?_)
  exact wX0_wholeNear_B56 C _ _ _ _ _ _ _ _ (lv_sub hl [2, 3, 4, 5, 1, 0] rfl) h
def jX0_wholeNear_B17 (x0 : Int32) (x1 : Int64) (x3 : Int32) (x4 : Int64) : Int64 := jX0_wholeNear_B26 x0 x1 x4 (jmin (-x3) 62)
set_option maxHeartbeats 4000000 in
set_option maxRecDepth 100000 in
theorem wX0_wholeNear_B17 {p : Program} {l : Launch} {e : Env} {s : State} {m : MethodId} {args : Array Value} {below : List Frame} {meth : Method} {c : Code} (C : CX p s m args meth c RX0 cX0_wholeNear 13 (some .long)) (x0 : Int32) (x1 : Int64) (x3 : Int32) (x4 : Int64) (ls : Array Slot) (v : Int64) (hl : lv_has ls 13 [(0, .int x0), (1, .long x1), (3, .int x3), (4, .long x4)]) (h : jX0_wholeNear_B17 x0 x1 x3 x4 = v) : W p l e (rmz 3 78) s m args below meth c s.heap [] 0 0 (MQ below (k2_QcV (.long v)) args s 0 0 (fun _ => False)) (F0 m 17 ls []) := by
  obtain ⟨hx, hb, hml, hown, hg, hr, hlocks⟩ := id C
  unfold jX0_wholeNear_B17 at h
  refine lv_iload_n hx hb dX0_wholeNear_17 rfl (lv_at hl 2 rfl) ?_
  refine lv_ineg hx hb dX0_wholeNear_18 ?_
  refine lv_bipush (v := 62) hx hb dX0_wholeNear_19 (by decide) ?_
  refine q_min C tw_168 (by decide) (Nat.le_of_ble_eq_true rfl) (by decide) hl.1 dX0_wholeNear_21 ?_
  refine lv_istore (lv' := [(6, .int (jmin (-x3) 62)), (0, .int x0), (1, .long x1), (3, .int x3), (4, .long x4)]) hx hb dX0_wholeNear_24 hl (by decide) rfl (fun ls hl => ?_)
  exact wX0_wholeNear_B26 C _ _ _ _ _ _ (lv_sub hl [1, 2, 4, 0] rfl) h
def jX0_wholeNear (x0 : Int32) (x1 : Int64) : Int64 := (if (jX0_eOf x1) < 0 then jX0_wholeNear_B17 x0 x1 (jX0_eOf x1) (jX0_mOf x1) else x1)
set_option maxHeartbeats 4000000 in
set_option maxRecDepth 100000 in
theorem wX0_wholeNear_0 {p : Program} {l : Launch} {e : Env} {s : State} {m : MethodId} {args : Array Value} {below : List Frame} {meth : Method} {c : Code} (C : CX p s m args meth c RX0 cX0_wholeNear 13 (some .long)) (x0 : Int32) (x1 : Int64) (ls : Array Slot) (v : Int64) (hl : lv_has ls 13 [(0, .int x0), (1, .long x1)]) (h : jX0_wholeNear x0 x1 = v) : W p l e (rmz 3 78) s m args below meth c s.heap [] 0 0 (MQ below (k2_QcV (.long v)) args s 0 0 (fun _ => False)) (F0 m 0 ls []) := by
  obtain ⟨hx, hb, hml, hown, hg, hr, hlocks⟩ := id C
  unfold jX0_wholeNear at h
  refine lv_lload_n hx hb dX0_wholeNear_0 rfl (lv_at hl 1 rfl) ?_
  refine pcall C (cX0_eOf_met l _ _ rfl) sc_X0_eOf tw_165 (by decide) rfl hl.1 (rest := []) rfl (Nat.le_of_ble_eq_true rfl) (by decide) dX0_wholeNear_1 ?_
  refine lv_istore_n (lv' := [(3, .int (jX0_eOf x1)), (0, .int x0), (1, .long x1)]) hx hb dX0_wholeNear_4 rfl hl (by decide) rfl (fun ls hl => ?_)
  refine lv_iload_n hx hb dX0_wholeNear_5 rfl (lv_at hl 0 rfl) ?_
  refine lv_if_lt (tgt := 11) hx hb dX0_wholeNear_6 (by decide) (fun c_1 => ?_) (fun c_1 => ?_)
  · rw [if_pos c_1] at h
    refine lv_lload_n hx hb dX0_wholeNear_11 rfl (lv_at hl 2 rfl) ?_
    refine pcall C (cX0_mOf_met l _ _ rfl) sc_X0_mOf tw_171 (by decide) rfl hl.1 (rest := []) rfl (Nat.le_of_ble_eq_true rfl) (by decide) dX0_wholeNear_12 ?_
    refine lv_lstore (lv' := [(4, .long (jX0_mOf x1)), (3, .int (jX0_eOf x1)), (0, .int x0), (1, .long x1)]) hx hb dX0_wholeNear_15 hl (by decide) rfl (fun ls hl => ?_)
    exact wX0_wholeNear_B17 C _ _ _ _ _ _ (lv_sub hl [2, 3, 1, 0] rfl) h
  · rw [if_neg c_1] at h
    refine lv_lload_n hx hb dX0_wholeNear_9 rfl (lv_at hl 2 rfl) ?_
    exact W.lret hx hb hr (fun t ht _ => ⟨by rw [← h], ht⟩) (fun q h9 => nomatch h9) dX0_wholeNear_10
theorem sc_X0_wholeNear : SC yX0_wholeNear cX0_wholeNear 13 (some .long) 2 := ⟨tw_229, tw_1, tw_230, by decide +kernel⟩
theorem cX0_wholeNear_met (l : Launch) (x0 : Int32) (x1 : Int64) (v : Int64) (h : jX0_wholeNear x0 x1 = v) : PM l yX0_wholeNear cX0_wholeNear 13 (some .long) (rmz 3 78) [.int x0, .long x1] (.long v) :=
  pm_of (own := RX0) (by decide +kernel) rfl (Nat.le_of_ble_eq_true rfl) (fun p e s m below meth c ls C hl => wX0_wholeNear_0 C x0 x1 ls v hl h)

/-! RealDesk.quotient(JJ)J -/
def jX0_quotient_B96 (x0 : Int64) (x2 : Int64) (x10 : Int64) : Option Int64 := some (jX0_withSignOf (jX0_nearest x10 (((jX0_liftedE x0) - (jX0_liftedE x2)) - 60)) (x0 ^^^ x2))
set_option maxHeartbeats 4000000 in
set_option maxRecDepth 100000 in
theorem wX0_quotient_B96 {p : Program} {l : Launch} {e : Env} {s : State} {m : MethodId} {args : Array Value} {below : List Frame} {meth : Method} {c : Code} (C : CX p s m args meth c RX0 cX0_quotient 13 (some .long)) (x0 : Int64) (x2 : Int64) (x10 : Int64) (ls : Array Slot) (v : Int64) (hl : lv_has ls 13 [(0, .long x0), (2, .long x2), (10, .long x10)]) (h : jX0_quotient_B96 x0 x2 x10 = some v) : W p l e (rmz 4 87) s m args below meth c s.heap [] 0 0 (MQ below (k2_QcV (.long v)) args s 0 0 (fun _ => False)) (F0 m 96 ls []) := by
  obtain ⟨hx, hb, hml, hown, hg, hr, hlocks⟩ := id C
  unfold jX0_quotient_B96 at h
  refine lv_lload_n hx hb dX0_quotient_96 rfl (lv_at hl 0 rfl) ?_
  refine pcall C (cX0_liftedE_met l _ _ rfl) sc_X0_liftedE tw_181 (by decide) rfl hl.1 (rest := []) rfl (Nat.le_of_ble_eq_true rfl) (by decide) dX0_quotient_97 ?_
  refine lv_lload_n hx hb dX0_quotient_100 rfl (lv_at hl 1 rfl) ?_
  refine pcall C (cX0_liftedE_met l _ _ rfl) sc_X0_liftedE tw_181 (by decide) rfl hl.1 (rest := [.int (jX0_liftedE x0)]) rfl (Nat.le_of_ble_eq_true rfl) (by decide) dX0_quotient_101 ?_
  refine lv_isub hx hb dX0_quotient_104 ?_
  refine lv_bipush (v := 60) hx hb dX0_quotient_105 (by decide) ?_
  refine lv_isub hx hb dX0_quotient_107 ?_
  refine lv_istore (lv' := [(12, .int (((jX0_liftedE x0) - (jX0_liftedE x2)) - 60)), (0, .long x0), (2, .long x2), (10, .long x10)]) hx hb dX0_quotient_108 hl (by decide) rfl (fun ls hl => ?_)
  refine lv_lload hx hb dX0_quotient_110 (lv_at hl 3 rfl) ?_
  refine lv_iload hx hb dX0_quotient_112 (lv_at hl 0 rfl) ?_
  refine pcall C (cX0_nearest_met l _ _ _ rfl) sc_X0_nearest tw_110 (by decide) rfl hl.1 (rest := []) rfl (Nat.le_of_ble_eq_true rfl) (by decide) dX0_quotient_114 ?_
  refine lv_lload_n hx hb dX0_quotient_117 rfl (lv_at hl 1 rfl) ?_
  refine lv_lload_n hx hb dX0_quotient_118 rfl (lv_at hl 2 rfl) ?_
  refine lv_lxor hx hb dX0_quotient_119 ?_
  refine pcall C (cX0_withSignOf_met l _ _ _ rfl) sc_X0_withSignOf tw_130 (by decide) rfl hl.1 (rest := []) rfl (Nat.le_of_ble_eq_true rfl) (by decide) dX0_quotient_120 ?_
  exact W.lret hx hb hr (fun t ht _ => ⟨by cases h; rfl, ht⟩) (fun q h9 => nomatch h9) dX0_quotient_123
def jX0_quotient_L38 : Nat → Int64 → Int64 → Int64 → Int64 → Int64 → Int32 → Option Int64
  | 0, _, _, _, _, _, _ => none
  | k + 1, x0, x2, x4, x6, x8, x10 => (if 6 ≤ x10 then jX0_quotient_B96 x0 x2 (if x8 = 0 then x6 else x6 ||| 1 : Int64) else (if x4 = 0 then none else (if x4 = 0 then none else jX0_quotient_L38 k x0 x2 x4 ((sl x6 10) ||| ((sl x8 10) / x4)) ((sl x8 10) - (sl x8 10) / x4 * x4) (x10 + 1))))
set_option maxHeartbeats 4000000 in
set_option maxRecDepth 100000 in
theorem wX0_quotient_L38 {p : Program} {l : Launch} {e : Env} {s : State} {m : MethodId} {args : Array Value} {below : List Frame} {meth : Method} {c : Code} (C : CX p s m args meth c RX0 cX0_quotient 13 (some .long)) : ∀ (k : Nat) (x0 : Int64) (x2 : Int64) (x4 : Int64) (x6 : Int64) (x8 : Int64) (x10 : Int32) (ls : Array Slot) (v : Int64), lv_has ls 13 [(0, .long x0), (2, .long x2), (4, .long x4), (6, .long x6), (8, .long x8), (10, .int x10)] → jX0_quotient_L38 k x0 x2 x4 x6 x8 x10 = some v → W p l e (rmz 4 87) s m args below meth c s.heap [] 0 0 (MQ below (k2_QcV (.long v)) args s 0 0 (fun _ => False)) (F0 m 38 ls []) := by
  obtain ⟨hx, hb, hml, hown, hg, hr, hlocks⟩ := id C
  intro k
  induction k with
  | zero => intro x0 x2 x4 x6 x8 x10 ls v hl h; cases h
  | succ k ih =>
    intro x0 x2 x4 x6 x8 x10 ls v hl h
    unfold jX0_quotient_L38 at h
    refine lv_iload hx hb dX0_quotient_38 (lv_at hl 5 rfl) ?_
    refine lv_bipush (v := 6) hx hb dX0_quotient_40 (by decide) ?_
    refine lv_icmp_ge (tgt := 78) hx hb dX0_quotient_42 (by decide) (fun c_1 => ?_) (fun c_1 => ?_)
    · rw [if_pos c_1] at h
      refine lv_lload hx hb dX0_quotient_78 (lv_at hl 4 rfl) ?_
      refine lv_lconst (v := 0) hx hb dX0_quotient_80 (by decide) ?_
      refine rg_l (pj := 94) (v := (if x8 = 0 then x6 else x6 ||| 1 : Int64)) (ls := ls) (rest := []) (fun kJ => ?_) ?_
      · refine lc_ne (tgt := 90) hx hb dX0_quotient_81 dX0_quotient_82 (by decide) (fun c_2 => ?_) (fun c_2 => ?_)
        · refine lv_lload hx hb dX0_quotient_90 (lv_at hl 3 rfl) ?_
          refine lv_lconst (v := 1) hx hb dX0_quotient_92 (by decide) ?_
          refine lv_lor hx hb dX0_quotient_93 ?_
          exact kJ _ (by rw [if_neg c_2])
        · refine lv_lload hx hb dX0_quotient_85 (lv_at hl 3 rfl) ?_
          refine lv_goto (tgt := 94) hx hb dX0_quotient_87 (by decide) ?_
          exact kJ _ (by rw [if_pos c_2])
      refine lv_lstore (lv' := [(10, .long (if x8 = 0 then x6 else x6 ||| 1 : Int64)), (0, .long x0), (2, .long x2), (4, .long x4), (6, .long x6), (8, .long x8)]) hx hb dX0_quotient_94 hl (by decide) rfl (fun ls hl => ?_)
      exact wX0_quotient_B96 C _ _ _ _ _ (lv_sub hl [1, 2, 0] rfl) h
    · rw [if_neg c_1] at h
      refine lv_lload hx hb dX0_quotient_45 (lv_at hl 4 rfl) ?_
      refine lv_bipush (v := 10) hx hb dX0_quotient_47 (by decide) ?_
      refine lv_lshl (v := sl x8 10) hx hb dX0_quotient_49 rfl ?_
      refine lv_lstore (lv' := [(8, .long (sl x8 10)), (0, .long x0), (2, .long x2), (4, .long x4), (6, .long x6), (10, .int x10)]) hx hb dX0_quotient_50 hl (by decide) rfl (fun ls hl => ?_)
      refine lv_lload hx hb dX0_quotient_52 (lv_at hl 4 rfl) ?_
      refine lv_bipush (v := 10) hx hb dX0_quotient_54 (by decide) ?_
      refine lv_lshl (v := sl x6 10) hx hb dX0_quotient_56 rfl ?_
      refine lv_lload hx hb dX0_quotient_57 (lv_at hl 0 rfl) ?_
      refine lv_lload hx hb dX0_quotient_59 (lv_at hl 3 rfl) ?_
      obtain ⟨z_61, h⟩ := of_ite2 h
      refine lv_ldiv hx hb dX0_quotient_61 z_61 ?_
      refine lv_lor hx hb dX0_quotient_62 ?_
      refine lv_lstore (lv' := [(6, .long ((sl x6 10) ||| ((sl x8 10) / x4))), (8, .long (sl x8 10)), (0, .long x0), (2, .long x2), (4, .long x4), (10, .int x10)]) hx hb dX0_quotient_63 hl (by decide) rfl (fun ls hl => ?_)
      refine lv_lload hx hb dX0_quotient_65 (lv_at hl 1 rfl) ?_
      refine lv_lload hx hb dX0_quotient_67 (lv_at hl 4 rfl) ?_
      obtain ⟨z_69, h⟩ := of_ite2 h
      refine lv_lrem hx hb dX0_quotient_69 z_69 ?_
      refine lv_lstore (lv' := [(8, .long ((sl x8 10) - (sl x8 10) / x4 * x4)), (6, .long ((sl x6 10) ||| ((sl x8 10) / x4))), (0, .long x0), (2, .long x2), (4, .long x4), (10, .int x10)]) hx hb dX0_quotient_70 hl (by decide) rfl (fun ls hl => ?_)
      refine lv_iinc (v := x10 + 1) (lv' := [(10, .int (x10 + 1)), (8, .long ((sl x8 10) - (sl x8 10) / x4 * x4)), (6, .long ((sl x6 10) ||| ((sl x8 10) / x4))), (0, .long x0), (2, .long x2), (4, .long x4)]) hx hb dX0_quotient_72 hl (k := 5) rfl rfl (by decide) rfl (fun ls hl => ?_)
      refine lv_goto (tgt := 38) hx hb dX0_quotient_75 (by decide) ?_
      exact ih _ _ _ _ _ _ _ _ (lv_sub hl [3, 4, 5, 2, 1, 0] rfl) h
def jX0_quotient (x0 : Int64) (x2 : Int64) : Option Int64 := (if (jX0_liftedM x2) = 0 then some 9218868437227405312 else (if (jX0_liftedM x2) = 0 then none else (if (jX0_liftedM x2) = 0 then none else jX0_quotient_L38 FU x0 x2 (jX0_liftedM x2) ((jX0_liftedM x0) / (jX0_liftedM x2)) ((jX0_liftedM x0) - (jX0_liftedM x0) / (jX0_liftedM x2) * (jX0_liftedM x2)) 0)))
set_option maxHeartbeats 4000000 in
set_option maxRecDepth 100000 in
theorem wX0_quotient_0 {p : Program} {l : Launch} {e : Env} {s : State} {m : MethodId} {args : Array Value} {below : List Frame} {meth : Method} {c : Code} (C : CX p s m args meth c RX0 cX0_quotient 13 (some .long)) (x0 : Int64) (x2 : Int64) (ls : Array Slot) (v : Int64) (hl : lv_has ls 13 [(0, .long x0), (2, .long x2)]) (h : jX0_quotient x0 x2 = some v) : W p l e (rmz 4 87) s m args below meth c s.heap [] 0 0 (MQ below (k2_QcV (.long v)) args s 0 0 (fun _ => False)) (F0 m 0 ls []) := by
  obtain ⟨hx, hb, hml, hown, hg, hr, hlocks⟩ := id C
  unfold jX0_quotient at h
  refine lv_lload_n hx hb dX0_quotient_0 rfl (lv_at hl 1 rfl) ?_
  refine pcall C (cX0_liftedM_met l _ _ rfl) sc_X0_liftedM tw_187 (by decide) rfl hl.1 (rest := []) rfl (Nat.le_of_ble_eq_true rfl) (by decide) dX0_quotient_1 ?_
  refine lv_lstore (lv' := [(4, .long (jX0_liftedM x2)), (0, .long x0), (2, .long x2)]) hx hb dX0_quotient_4 hl (by decide) rfl (fun ls hl => ?_)
  refine lv_lload hx hb dX0_quotient_6 (lv_at hl 0 rfl) ?_
  refine lv_lconst (v := 0) hx hb dX0_quotient_8 (by decide) ?_
  refine lc_ne (tgt := 17) hx hb dX0_quotient_9 dX0_quotient_10 (by decide) (fun c_1 => ?_) (fun c_1 => ?_)
  · rw [if_neg c_1] at h
    refine lv_lload_n hx hb dX0_quotient_17 rfl (lv_at hl 1 rfl) ?_
    refine pcall C (cX0_liftedM_met l _ _ rfl) sc_X0_liftedM tw_187 (by decide) rfl hl.1 (rest := []) rfl (Nat.le_of_ble_eq_true rfl) (by decide) dX0_quotient_18 ?_
    refine lv_lload hx hb dX0_quotient_21 (lv_at hl 0 rfl) ?_
    obtain ⟨z_23, h⟩ := of_ite2 h
    refine lv_ldiv hx hb dX0_quotient_23 z_23 ?_
    refine lv_lstore (lv' := [(6, .long ((jX0_liftedM x0) / (jX0_liftedM x2))), (4, .long (jX0_liftedM x2)), (0, .long x0), (2, .long x2)]) hx hb dX0_quotient_24 hl (by decide) rfl (fun ls hl => ?_)
    refine lv_lload_n hx hb dX0_quotient_26 rfl (lv_at hl 2 rfl) ?_
    refine pcall C (cX0_liftedM_met l _ _ rfl) sc_X0_liftedM tw_187 (by decide) rfl hl.1 (rest := []) rfl (Nat.le_of_ble_eq_true rfl) (by decide) dX0_quotient_27 ?_
    refine lv_lload hx hb dX0_quotient_30 (lv_at hl 1 rfl) ?_
    obtain ⟨z_32, h⟩ := of_ite2 h
    refine lv_lrem hx hb dX0_quotient_32 z_32 ?_
    refine lv_lstore (lv' := [(8, .long ((jX0_liftedM x0) - (jX0_liftedM x0) / (jX0_liftedM x2) * (jX0_liftedM x2))), (6, .long ((jX0_liftedM x0) / (jX0_liftedM x2))), (4, .long (jX0_liftedM x2)), (0, .long x0), (2, .long x2)]) hx hb dX0_quotient_33 hl (by decide) rfl (fun ls hl => ?_)
    refine lv_iconst (v := 0) hx hb dX0_quotient_35 (by decide) ?_
    refine lv_istore (lv' := [(10, .int 0), (8, .long ((jX0_liftedM x0) - (jX0_liftedM x0) / (jX0_liftedM x2) * (jX0_liftedM x2))), (6, .long ((jX0_liftedM x0) / (jX0_liftedM x2))), (4, .long (jX0_liftedM x2)), (0, .long x0), (2, .long x2)]) hx hb dX0_quotient_36 hl (by decide) rfl (fun ls hl => ?_)
    exact wX0_quotient_L38 C FU _ _ _ _ _ _ _ _ (lv_sub hl [4, 5, 3, 2, 1, 0] rfl) h
  · rw [if_pos c_1] at h
    refine lv_ldc2 hx hb hown (hg _ tw_123) dX0_quotient_13 ?_
    exact W.lret hx hb hr (fun t ht _ => ⟨by cases h; rfl, ht⟩) (fun q h9 => nomatch h9) dX0_quotient_16
theorem sc_X0_quotient : SC yX0_quotient cX0_quotient 13 (some .long) 2 := ⟨tw_194, tw_1, tw_195, by decide +kernel⟩
theorem cX0_quotient_met (l : Launch) (x0 : Int64) (x2 : Int64) (v : Int64) (h : jX0_quotient x0 x2 = some v) : PM l yX0_quotient cX0_quotient 13 (some .long) (rmz 4 87) [.long x0, .long x2] (.long v) :=
  pm_of (own := RX0) (by decide +kernel) rfl (Nat.le_of_ble_eq_true rfl) (fun p e s m below meth c ls C hl => wX0_quotient_0 C x0 x2 ls v hl h)

/-! RealDesk.rest(JJ)J -/
def jX0_rest_L47 : Nat → Int64 → Int64 → Int64 → Int64 → Int32 → Option Int64
  | 0, _, _, _, _, _ => none
  | k + 1, x0, x2, x4, x6, x8 => (if x8 ≤ 0 then some (jX0_withSignOf (jX0_nearest x6 (jX0_eOf x2)) x0) else (if x4 = 0 then none else jX0_rest_L47 k x0 x2 x4 ((sl x6 (jmin x8 10)) - (sl x6 (jmin x8 10)) / x4 * x4) (x8 + (-10))))
set_option maxHeartbeats 4000000 in
set_option maxRecDepth 100000 in
theorem wX0_rest_L47 {p : Program} {l : Launch} {e : Env} {s : State} {m : MethodId} {args : Array Value} {below : List Frame} {meth : Method} {c : Code} (C : CX p s m args meth c RX0 cX0_rest 9 (some .long)) : ∀ (k : Nat) (x0 : Int64) (x2 : Int64) (x4 : Int64) (x6 : Int64) (x8 : Int32) (ls : Array Slot) (v : Int64), lv_has ls 9 [(0, .long x0), (2, .long x2), (4, .long x4), (6, .long x6), (8, .int x8)] → jX0_rest_L47 k x0 x2 x4 x6 x8 = some v → W p l e (rmz 3 78) s m args below meth c s.heap [] 0 0 (MQ below (k2_QcV (.long v)) args s 0 0 (fun _ => False)) (F0 m 47 ls []) := by
  obtain ⟨hx, hb, hml, hown, hg, hr, hlocks⟩ := id C
  intro k
  induction k with
  | zero => intro x0 x2 x4 x6 x8 ls v hl h; cases h
  | succ k ih =>
    intro x0 x2 x4 x6 x8 ls v hl h
    unfold jX0_rest_L47 at h
    refine lv_iload hx hb dX0_rest_47 (lv_at hl 4 rfl) ?_
    refine lv_if_le (tgt := 73) hx hb dX0_rest_49 (by decide) (fun c_1 => ?_) (fun c_1 => ?_)
    · rw [if_pos c_1] at h
      refine lv_lload hx hb dX0_rest_73 (lv_at hl 3 rfl) ?_
      refine lv_lload_n hx hb dX0_rest_75 rfl (lv_at hl 1 rfl) ?_
      refine pcall C (cX0_eOf_met l _ _ rfl) sc_X0_eOf tw_165 (by decide) rfl hl.1 (rest := [.long x6]) rfl (Nat.le_of_ble_eq_true rfl) (by decide) dX0_rest_76 ?_
      refine pcall C (cX0_nearest_met l _ _ _ rfl) sc_X0_nearest tw_110 (by decide) rfl hl.1 (rest := []) rfl (Nat.le_of_ble_eq_true rfl) (by decide) dX0_rest_79 ?_
      refine lv_lload_n hx hb dX0_rest_82 rfl (lv_at hl 0 rfl) ?_
      refine pcall C (cX0_withSignOf_met l _ _ _ rfl) sc_X0_withSignOf tw_130 (by decide) rfl hl.1 (rest := []) rfl (Nat.le_of_ble_eq_true rfl) (by decide) dX0_rest_83 ?_
      exact W.lret hx hb hr (fun t ht _ => ⟨by cases h; rfl, ht⟩) (fun q h9 => nomatch h9) dX0_rest_86
    · rw [if_neg c_1] at h
      refine lv_lload hx hb dX0_rest_52 (lv_at hl 3 rfl) ?_
      refine lv_iload hx hb dX0_rest_54 (lv_at hl 4 rfl) ?_
      refine lv_bipush (v := 10) hx hb dX0_rest_56 (by decide) ?_
      refine q_min C tw_168 (by decide) (Nat.le_of_ble_eq_true rfl) (by decide) hl.1 dX0_rest_58 ?_
      refine lv_lshl (v := sl x6 (jmin x8 10)) hx hb dX0_rest_61 rfl ?_
      refine lv_lload hx hb dX0_rest_62 (lv_at hl 2 rfl) ?_
      obtain ⟨z_64, h⟩ := of_ite2 h
      refine lv_lrem hx hb dX0_rest_64 z_64 ?_
      refine lv_lstore (lv' := [(6, .long ((sl x6 (jmin x8 10)) - (sl x6 (jmin x8 10)) / x4 * x4)), (0, .long x0), (2, .long x2), (4, .long x4), (8, .int x8)]) hx hb dX0_rest_65 hl (by decide) rfl (fun ls hl => ?_)
      refine lv_iinc (v := x8 + (-10)) (lv' := [(8, .int (x8 + (-10))), (6, .long ((sl x6 (jmin x8 10)) - (sl x6 (jmin x8 10)) / x4 * x4)), (0, .long x0), (2, .long x2), (4, .long x4)]) hx hb dX0_rest_67 hl (k := 4) rfl rfl (by decide) rfl (fun ls hl => ?_)
      refine lv_goto (tgt := 47) hx hb dX0_rest_70 (by decide) ?_
      exact ih _ _ _ _ _ _ _ (lv_sub hl [2, 3, 4, 1, 0] rfl) h
def jX0_rest (x0 : Int64) (x2 : Int64) : Option Int64 := (if (jX0_mOf x2) = 0 then some x0 else (if (jabsl x2) ≤ (jabsl x0) then (if (jX0_mOf x2) = 0 then none else jX0_rest_L47 FU x0 x2 (jX0_mOf x2) ((jX0_mOf x0) - (jX0_mOf x0) / (jX0_mOf x2) * (jX0_mOf x2)) ((jX0_eOf x0) - (jX0_eOf x2))) else some x0))
set_option maxHeartbeats 4000000 in
set_option maxRecDepth 100000 in
theorem wX0_rest_0 {p : Program} {l : Launch} {e : Env} {s : State} {m : MethodId} {args : Array Value} {below : List Frame} {meth : Method} {c : Code} (C : CX p s m args meth c RX0 cX0_rest 9 (some .long)) (x0 : Int64) (x2 : Int64) (ls : Array Slot) (v : Int64) (hl : lv_has ls 9 [(0, .long x0), (2, .long x2)]) (h : jX0_rest x0 x2 = some v) : W p l e (rmz 3 78) s m args below meth c s.heap [] 0 0 (MQ below (k2_QcV (.long v)) args s 0 0 (fun _ => False)) (F0 m 0 ls []) := by
  obtain ⟨hx, hb, hml, hown, hg, hr, hlocks⟩ := id C
  unfold jX0_rest at h
  refine lv_lload_n hx hb dX0_rest_0 rfl (lv_at hl 1 rfl) ?_
  refine pcall C (cX0_mOf_met l _ _ rfl) sc_X0_mOf tw_171 (by decide) rfl hl.1 (rest := []) rfl (Nat.le_of_ble_eq_true rfl) (by decide) dX0_rest_1 ?_
  refine lv_lstore (lv' := [(4, .long (jX0_mOf x2)), (0, .long x0), (2, .long x2)]) hx hb dX0_rest_4 hl (by decide) rfl (fun ls hl => ?_)
  refine lv_lload hx hb dX0_rest_6 (lv_at hl 0 rfl) ?_
  refine lv_lconst (v := 0) hx hb dX0_rest_8 (by decide) ?_
  refine lc_eq (tgt := 25) hx hb dX0_rest_9 dX0_rest_10 (by decide) (fun c_1 => ?_) (fun c_1 => ?_)
  · rw [if_pos c_1] at h
    refine lv_lload_n hx hb dX0_rest_25 rfl (lv_at hl 1 rfl) ?_
    exact W.lret hx hb hr (fun t ht _ => ⟨by cases h; rfl, ht⟩) (fun q h9 => nomatch h9) dX0_rest_26
  · rw [if_neg c_1] at h
    refine lv_lload_n hx hb dX0_rest_13 rfl (lv_at hl 1 rfl) ?_
    refine q_absl C tw_107 (by decide) (Nat.le_of_ble_eq_true rfl) (by decide) hl.1 dX0_rest_14 ?_
    refine lv_lload_n hx hb dX0_rest_17 rfl (lv_at hl 2 rfl) ?_
    refine q_absl C tw_107 (by decide) (Nat.le_of_ble_eq_true rfl) (by decide) hl.1 dX0_rest_18 ?_
    refine lc_ge (tgt := 27) hx hb dX0_rest_21 dX0_rest_22 (by decide) (fun c_2 => ?_) (fun c_2 => ?_)
    · rw [if_pos c_2] at h
      refine lv_lload_n hx hb dX0_rest_27 rfl (lv_at hl 1 rfl) ?_
      refine pcall C (cX0_mOf_met l _ _ rfl) sc_X0_mOf tw_171 (by decide) rfl hl.1 (rest := []) rfl (Nat.le_of_ble_eq_true rfl) (by decide) dX0_rest_28 ?_
      refine lv_lload hx hb dX0_rest_31 (lv_at hl 0 rfl) ?_
      obtain ⟨z_33, h⟩ := of_ite2 h
      refine lv_lrem hx hb dX0_rest_33 z_33 ?_
      refine lv_lstore (lv' := [(6, .long ((jX0_mOf x0) - (jX0_mOf x0) / (jX0_mOf x2) * (jX0_mOf x2))), (4, .long (jX0_mOf x2)), (0, .long x0), (2, .long x2)]) hx hb dX0_rest_34 hl (by decide) rfl (fun ls hl => ?_)
      refine lv_lload_n hx hb dX0_rest_36 rfl (lv_at hl 2 rfl) ?_
      refine pcall C (cX0_eOf_met l _ _ rfl) sc_X0_eOf tw_165 (by decide) rfl hl.1 (rest := []) rfl (Nat.le_of_ble_eq_true rfl) (by decide) dX0_rest_37 ?_
      refine lv_lload_n hx hb dX0_rest_40 rfl (lv_at hl 3 rfl) ?_
      refine pcall C (cX0_eOf_met l _ _ rfl) sc_X0_eOf tw_165 (by decide) rfl hl.1 (rest := [.int (jX0_eOf x0)]) rfl (Nat.le_of_ble_eq_true rfl) (by decide) dX0_rest_41 ?_
      refine lv_isub hx hb dX0_rest_44 ?_
      refine lv_istore (lv' := [(8, .int ((jX0_eOf x0) - (jX0_eOf x2))), (6, .long ((jX0_mOf x0) - (jX0_mOf x0) / (jX0_mOf x2) * (jX0_mOf x2))), (4, .long (jX0_mOf x2)), (0, .long x0), (2, .long x2)]) hx hb dX0_rest_45 hl (by decide) rfl (fun ls hl => ?_)
      exact wX0_rest_L47 C FU _ _ _ _ _ _ _ (lv_sub hl [3, 4, 2, 1, 0] rfl) h
    · rw [if_neg c_2] at h
      refine lv_lload_n hx hb dX0_rest_25 rfl (lv_at hl 1 rfl) ?_
      exact W.lret hx hb hr (fun t ht _ => ⟨by cases h; rfl, ht⟩) (fun q h9 => nomatch h9) dX0_rest_26
theorem sc_X0_rest : SC yX0_rest cX0_rest 9 (some .long) 2 := ⟨tw_197, tw_1, tw_198, by decide +kernel⟩
theorem cX0_rest_met (l : Launch) (x0 : Int64) (x2 : Int64) (v : Int64) (h : jX0_rest x0 x2 = some v) : PM l yX0_rest cX0_rest 9 (some .long) (rmz 3 78) [.long x0, .long x2] (.long v) :=
  pm_of (own := RX0) (by decide +kernel) rfl (Nat.le_of_ble_eq_true rfl) (fun p e s m below meth c ls C hl => wX0_rest_0 C x0 x2 ls v hl h)

/-! RealDesk.root(J)J -/
def jX0_root_B140 (x5 : Int32) (x10 : Int64) : Option Int64 := some (jX0_nearest x10 ((x5 / 2) - 29))
set_option maxHeartbeats 4000000 in
set_option maxRecDepth 100000 in
theorem wX0_root_B140 {p : Program} {l : Launch} {e : Env} {s : State} {m : MethodId} {args : Array Value} {below : List Frame} {meth : Method} {c : Code} (C : CX p s m args meth c RX0 cX0_root 15 (some .long)) (x5 : Int32) (x10 : Int64) (ls : Array Slot) (v : Int64) (hl : lv_has ls 15 [(5, .int x5), (10, .long x10)]) (h : jX0_root_B140 x5 x10 = some v) : W p l e (rmz 4 87) s m args below meth c s.heap [] 0 0 (MQ below (k2_QcV (.long v)) args s 0 0 (fun _ => False)) (F0 m 140 ls []) := by
  obtain ⟨hx, hb, hml, hown, hg, hr, hlocks⟩ := id C
  unfold jX0_root_B140 at h
  refine lv_lload hx hb dX0_root_140 (lv_at hl 1 rfl) ?_
  refine lv_iload hx hb dX0_root_142 (lv_at hl 0 rfl) ?_
  refine lv_iconst (v := 2) hx hb dX0_root_144 (by decide) ?_
  refine lv_idiv hx hb dX0_root_145 (by decide) ?_
  refine lv_bipush (v := 29) hx hb dX0_root_146 (by decide) ?_
  refine lv_isub hx hb dX0_root_148 ?_
  refine pcall C (cX0_nearest_met l _ _ _ rfl) sc_X0_nearest tw_110 (by decide) rfl hl.1 (rest := []) rfl (Nat.le_of_ble_eq_true rfl) (by decide) dX0_root_149 ?_
  exact W.lret hx hb hr (fun t ht _ => ⟨by cases h; rfl, ht⟩) (fun q h9 => nomatch h9) dX0_root_152
def jX0_root_L39 : Nat → Int64 → Int32 → Int64 → Int64 → Int32 → Option Int64
  | 0, _, _, _, _, _ => none
  | k + 1, x3, x5, x6, x8, x10 => (if 56 < x10 then jX0_root_B140 x5 (if x8 = 0 then x6 else x6 ||| 1 : Int64) else (if ((sl x8 2) ||| (if 27 < x10 then 0 else jX0_lowPlaces (su x3 (2 * (27 - x10))) 2 : Int64)) < ((sl x6 2) ||| 1) then jX0_root_L39 k x3 x5 (sl x6 1) ((sl x8 2) ||| (if 27 < x10 then 0 else jX0_lowPlaces (su x3 (2 * (27 - x10))) 2 : Int64)) (x10 + 1) else jX0_root_L39 k x3 x5 ((sl x6 1) ||| 1) (((sl x8 2) ||| (if 27 < x10 then 0 else jX0_lowPlaces (su x3 (2 * (27 - x10))) 2 : Int64)) - ((sl x6 2) ||| 1)) (x10 + 1)))
set_option maxHeartbeats 4000000 in
set_option maxRecDepth 100000 in
theorem wX0_root_L39 {p : Program} {l : Launch} {e : Env} {s : State} {m : MethodId} {args : Array Value} {below : List Frame} {meth : Method} {c : Code} (C : CX p s m args meth c RX0 cX0_root 15 (some .long)) : ∀ (k : Nat) (x3 : Int64) (x5 : Int32) (x6 : Int64) (x8 : Int64) (x10 : Int32) (ls : Array Slot) (v : Int64), lv_has ls 15 [(3, .long x3), (5, .int x5), (6, .long x6), (8, .long x8), (10, .int x10)] → jX0_root_L39 k x3 x5 x6 x8 x10 = some v → W p l e (rmz 4 87) s m args below meth c s.heap [] 0 0 (MQ below (k2_QcV (.long v)) args s 0 0 (fun _ => False)) (F0 m 39 ls []) := by
  obtain ⟨hx, hb, hml, hown, hg, hr, hlocks⟩ := id C
  intro k
  induction k with
  | zero => intro x3 x5 x6 x8 x10 ls v hl h; cases h
  | succ k ih =>
    intro x3 x5 x6 x8 x10 ls v hl h
    unfold jX0_root_L39 at h
    refine lv_iload hx hb dX0_root_39 (lv_at hl 4 rfl) ?_
    refine lv_bipush (v := 56) hx hb dX0_root_41 (by decide) ?_
    refine lv_icmp_gt (tgt := 122) hx hb dX0_root_43 (by decide) (fun c_1 => ?_) (fun c_1 => ?_)
    · rw [if_pos c_1] at h
      refine lv_lload hx hb dX0_root_122 (lv_at hl 3 rfl) ?_
      refine lv_lconst (v := 0) hx hb dX0_root_124 (by decide) ?_
      refine rg_l (pj := 138) (v := (if x8 = 0 then x6 else x6 ||| 1 : Int64)) (ls := ls) (rest := []) (fun kJ => ?_) ?_
      · refine lc_ne (tgt := 134) hx hb dX0_root_125 dX0_root_126 (by decide) (fun c_2 => ?_) (fun c_2 => ?_)
        · refine lv_lload hx hb dX0_root_134 (lv_at hl 2 rfl) ?_
          refine lv_lconst (v := 1) hx hb dX0_root_136 (by decide) ?_
          refine lv_lor hx hb dX0_root_137 ?_
          exact kJ _ (by rw [if_neg c_2])
        · refine lv_lload hx hb dX0_root_129 (lv_at hl 2 rfl) ?_
          refine lv_goto (tgt := 138) hx hb dX0_root_131 (by decide) ?_
          exact kJ _ (by rw [if_pos c_2])
      refine lv_lstore (lv' := [(10, .long (if x8 = 0 then x6 else x6 ||| 1 : Int64)), (3, .long x3), (5, .int x5), (6, .long x6), (8, .long x8)]) hx hb dX0_root_138 hl (by decide) rfl (fun ls hl => ?_)
      exact wX0_root_B140 C _ _ _ _ (lv_sub hl [2, 0] rfl) h
    · rw [if_neg c_1] at h
      refine lv_iload hx hb dX0_root_46 (lv_at hl 4 rfl) ?_
      refine lv_bipush (v := 27) hx hb dX0_root_48 (by decide) ?_
      refine rg_l (pj := 70) (v := (if 27 < x10 then 0 else jX0_lowPlaces (su x3 (2 * (27 - x10))) 2 : Int64)) (ls := ls) (rest := []) (fun kJ => ?_) ?_
      · refine lv_icmp_gt (tgt := 69) hx hb dX0_root_50 (by decide) (fun c_3 => ?_) (fun c_3 => ?_)
        · refine lv_lconst (v := 0) hx hb dX0_root_69 (by decide) ?_
          exact kJ _ (by rw [if_pos c_3])
        · refine lv_lload_n hx hb dX0_root_53 rfl (lv_at hl 0 rfl) ?_
          refine lv_iconst (v := 2) hx hb dX0_root_54 (by decide) ?_
          refine lv_bipush (v := 27) hx hb dX0_root_55 (by decide) ?_
          refine lv_iload hx hb dX0_root_57 (lv_at hl 4 rfl) ?_
          refine lv_isub hx hb dX0_root_59 ?_
          refine lv_imul hx hb dX0_root_60 ?_
          refine lv_lushr (v := su x3 (2 * (27 - x10))) hx hb dX0_root_61 rfl ?_
          refine lv_iconst (v := 2) hx hb dX0_root_62 (by decide) ?_
          refine pcall C (cX0_lowPlaces_met l _ _ _ rfl) sc_X0_lowPlaces tw_127 (by decide) rfl hl.1 (rest := []) rfl (Nat.le_of_ble_eq_true rfl) (by decide) dX0_root_63 ?_
          refine lv_goto (tgt := 70) hx hb dX0_root_66 (by decide) ?_
          exact kJ _ (by rw [if_neg c_3])
      refine lv_lstore (lv' := [(11, .long (if 27 < x10 then 0 else jX0_lowPlaces (su x3 (2 * (27 - x10))) 2 : Int64)), (3, .long x3), (5, .int x5), (6, .long x6), (8, .long x8), (10, .int x10)]) hx hb dX0_root_70 hl (by decide) rfl (fun ls hl => ?_)
      refine lv_lload hx hb dX0_root_72 (lv_at hl 4 rfl) ?_
      refine lv_iconst (v := 2) hx hb dX0_root_74 (by decide) ?_
      refine lv_lshl (v := sl x8 2) hx hb dX0_root_75 rfl ?_
      refine lv_lload hx hb dX0_root_76 (lv_at hl 0 rfl) ?_
      refine lv_lor hx hb dX0_root_78 ?_
      refine lv_lstore (lv' := [(8, .long ((sl x8 2) ||| (if 27 < x10 then 0 else jX0_lowPlaces (su x3 (2 * (27 - x10))) 2 : Int64))), (11, .long (if 27 < x10 then 0 else jX0_lowPlaces (su x3 (2 * (27 - x10))) 2 : Int64)), (3, .long x3), (5, .int x5), (6, .long x6), (10, .int x10)]) hx hb dX0_root_79 hl (by decide) rfl (fun ls hl => ?_)
      refine lv_lload hx hb dX0_root_81 (lv_at hl 4 rfl) ?_
      refine lv_iconst (v := 2) hx hb dX0_root_83 (by decide) ?_
      refine lv_lshl (v := sl x6 2) hx hb dX0_root_84 rfl ?_
      refine lv_lconst (v := 1) hx hb dX0_root_85 (by decide) ?_
      refine lv_lor hx hb dX0_root_86 ?_
      refine lv_lstore (lv' := [(13, .long ((sl x6 2) ||| 1)), (8, .long ((sl x8 2) ||| (if 27 < x10 then 0 else jX0_lowPlaces (su x3 (2 * (27 - x10))) 2 : Int64))), (11, .long (if 27 < x10 then 0 else jX0_lowPlaces (su x3 (2 * (27 - x10))) 2 : Int64)), (3, .long x3), (5, .int x5), (6, .long x6), (10, .int x10)]) hx hb dX0_root_87 hl (by decide) rfl (fun ls hl => ?_)
      refine lv_lload hx hb dX0_root_89 (lv_at hl 5 rfl) ?_
      refine lv_iconst (v := 1) hx hb dX0_root_91 (by decide) ?_
      refine lv_lshl (v := sl x6 1) hx hb dX0_root_92 rfl ?_
      refine lv_lstore (lv' := [(6, .long (sl x6 1)), (13, .long ((sl x6 2) ||| 1)), (8, .long ((sl x8 2) ||| (if 27 < x10 then 0 else jX0_lowPlaces (su x3 (2 * (27 - x10))) 2 : Int64))), (11, .long (if 27 < x10 then 0 else jX0_lowPlaces (su x3 (2 * (27 - x10))) 2 : Int64)), (3, .long x3), (5, .int x5), (10, .int x10)]) hx hb dX0_root_93 hl (by decide) rfl (fun ls hl => ?_)
      refine lv_lload hx hb dX0_root_95 (lv_at hl 2 rfl) ?_
      refine lv_lload hx hb dX0_root_97 (lv_at hl 1 rfl) ?_
      refine lc_lt (tgt := 116) hx hb dX0_root_99 dX0_root_100 (by decide) (fun c_4 => ?_) (fun c_4 => ?_)
      · rw [if_pos c_4] at h
        refine lv_iinc (v := x10 + 1) (lv' := [(10, .int (x10 + 1)), (6, .long (sl x6 1)), (13, .long ((sl x6 2) ||| 1)), (8, .long ((sl x8 2) ||| (if 27 < x10 then 0 else jX0_lowPlaces (su x3 (2 * (27 - x10))) 2 : Int64))), (11, .long (if 27 < x10 then 0 else jX0_lowPlaces (su x3 (2 * (27 - x10))) 2 : Int64)), (3, .long x3), (5, .int x5)]) hx hb dX0_root_116 hl (k := 6) rfl rfl (by decide) rfl (fun ls hl => ?_)
        refine lv_goto (tgt := 39) hx hb dX0_root_119 (by decide) ?_
        exact ih _ _ _ _ _ _ _ (lv_sub hl [5, 6, 1, 3, 0] rfl) h
      · rw [if_neg c_4] at h
        refine lv_lload hx hb dX0_root_103 (lv_at hl 2 rfl) ?_
        refine lv_lload hx hb dX0_root_105 (lv_at hl 1 rfl) ?_
        refine lv_lsub hx hb dX0_root_107 ?_
        refine lv_lstore (lv' := [(8, .long (((sl x8 2) ||| (if 27 < x10 then 0 else jX0_lowPlaces (su x3 (2 * (27 - x10))) 2 : Int64)) - ((sl x6 2) ||| 1))), (6, .long (sl x6 1)), (13, .long ((sl x6 2) ||| 1)), (11, .long (if 27 < x10 then 0 else jX0_lowPlaces (su x3 (2 * (27 - x10))) 2 : Int64)), (3, .long x3), (5, .int x5), (10, .int x10)]) hx hb dX0_root_108 hl (by decide) rfl (fun ls hl => ?_)
        refine lv_lload hx hb dX0_root_110 (lv_at hl 1 rfl) ?_
        refine lv_lconst (v := 1) hx hb dX0_root_112 (by decide) ?_
        refine lv_lor hx hb dX0_root_113 ?_
        refine lv_lstore (lv' := [(6, .long ((sl x6 1) ||| 1)), (8, .long (((sl x8 2) ||| (if 27 < x10 then 0 else jX0_lowPlaces (su x3 (2 * (27 - x10))) 2 : Int64)) - ((sl x6 2) ||| 1))), (13, .long ((sl x6 2) ||| 1)), (11, .long (if 27 < x10 then 0 else jX0_lowPlaces (su x3 (2 * (27 - x10))) 2 : Int64)), (3, .long x3), (5, .int x5), (10, .int x10)]) hx hb dX0_root_114 hl (by decide) rfl (fun ls hl => ?_)
        refine lv_iinc (v := x10 + 1) (lv' := [(10, .int (x10 + 1)), (6, .long ((sl x6 1) ||| 1)), (8, .long (((sl x8 2) ||| (if 27 < x10 then 0 else jX0_lowPlaces (su x3 (2 * (27 - x10))) 2 : Int64)) - ((sl x6 2) ||| 1))), (13, .long ((sl x6 2) ||| 1)), (11, .long (if 27 < x10 then 0 else jX0_lowPlaces (su x3 (2 * (27 - x10))) 2 : Int64)), (3, .long x3), (5, .int x5)]) hx hb dX0_root_116 hl (k := 6) rfl rfl (by decide) rfl (fun ls hl => ?_)
        refine lv_goto (tgt := 39) hx hb dX0_root_119 (by decide) ?_
        exact ih _ _ _ _ _ _ _ (lv_sub hl [5, 6, 1, 2, 0] rfl) h
def jX0_root (x0 : Int64) : Option Int64 := (if x0 = 0 then some 0 else jX0_root_L39 FU (sl (jX0_liftedM x0) ((jX0_liftedE x0) &&& 1)) ((jX0_liftedE x0) - ((jX0_liftedE x0) &&& 1)) 0 0 1)
set_option maxHeartbeats 4000000 in
set_option maxRecDepth 100000 in
theorem wX0_root_0 {p : Program} {l : Launch} {e : Env} {s : State} {m : MethodId} {args : Array Value} {below : List Frame} {meth : Method} {c : Code} (C : CX p s m args meth c RX0 cX0_root 15 (some .long)) (x0 : Int64) (ls : Array Slot) (v : Int64) (hl : lv_has ls 15 [(0, .long x0)]) (h : jX0_root x0 = some v) : W p l e (rmz 4 87) s m args below meth c s.heap [] 0 0 (MQ below (k2_QcV (.long v)) args s 0 0 (fun _ => False)) (F0 m 0 ls []) := by
  obtain ⟨hx, hb, hml, hown, hg, hr, hlocks⟩ := id C
  unfold jX0_root at h
  refine lv_lload_n hx hb dX0_root_0 rfl (lv_at hl 0 rfl) ?_
  refine lv_lconst (v := 0) hx hb dX0_root_1 (by decide) ?_
  refine lc_ne (tgt := 8) hx hb dX0_root_2 dX0_root_3 (by decide) (fun c_1 => ?_) (fun c_1 => ?_)
  · rw [if_neg c_1] at h
    refine lv_lload_n hx hb dX0_root_8 rfl (lv_at hl 0 rfl) ?_
    refine pcall C (cX0_liftedE_met l _ _ rfl) sc_X0_liftedE tw_181 (by decide) rfl hl.1 (rest := []) rfl (Nat.le_of_ble_eq_true rfl) (by decide) dX0_root_9 ?_
    refine lv_iconst (v := 1) hx hb dX0_root_12 (by decide) ?_
    refine lv_iand hx hb dX0_root_13 ?_
    refine lv_istore_n (lv' := [(2, .int ((jX0_liftedE x0) &&& 1)), (0, .long x0)]) hx hb dX0_root_14 rfl hl (by decide) rfl (fun ls hl => ?_)
    refine lv_lload_n hx hb dX0_root_15 rfl (lv_at hl 1 rfl) ?_
    refine pcall C (cX0_liftedM_met l _ _ rfl) sc_X0_liftedM tw_187 (by decide) rfl hl.1 (rest := []) rfl (Nat.le_of_ble_eq_true rfl) (by decide) dX0_root_16 ?_
    refine lv_iload_n hx hb dX0_root_19 rfl (lv_at hl 0 rfl) ?_
    refine lv_lshl (v := sl (jX0_liftedM x0) ((jX0_liftedE x0) &&& 1)) hx hb dX0_root_20 rfl ?_
    refine lv_lstore_n (lv' := [(3, .long (sl (jX0_liftedM x0) ((jX0_liftedE x0) &&& 1))), (2, .int ((jX0_liftedE x0) &&& 1)), (0, .long x0)]) hx hb dX0_root_21 rfl hl (by decide) rfl (fun ls hl => ?_)
    refine lv_lload_n hx hb dX0_root_22 rfl (lv_at hl 2 rfl) ?_
    refine pcall C (cX0_liftedE_met l _ _ rfl) sc_X0_liftedE tw_181 (by decide) rfl hl.1 (rest := []) rfl (Nat.le_of_ble_eq_true rfl) (by decide) dX0_root_23 ?_
    refine lv_iload_n hx hb dX0_root_26 rfl (lv_at hl 1 rfl) ?_
    refine lv_isub hx hb dX0_root_27 ?_
    refine lv_istore (lv' := [(5, .int ((jX0_liftedE x0) - ((jX0_liftedE x0) &&& 1))), (3, .long (sl (jX0_liftedM x0) ((jX0_liftedE x0) &&& 1))), (2, .int ((jX0_liftedE x0) &&& 1)), (0, .long x0)]) hx hb dX0_root_28 hl (by decide) rfl (fun ls hl => ?_)
    refine lv_lconst (v := 0) hx hb dX0_root_30 (by decide) ?_
    refine lv_lstore (lv' := [(6, .long 0), (5, .int ((jX0_liftedE x0) - ((jX0_liftedE x0) &&& 1))), (3, .long (sl (jX0_liftedM x0) ((jX0_liftedE x0) &&& 1))), (2, .int ((jX0_liftedE x0) &&& 1)), (0, .long x0)]) hx hb dX0_root_31 hl (by decide) rfl (fun ls hl => ?_)
    refine lv_lconst (v := 0) hx hb dX0_root_33 (by decide) ?_
    refine lv_lstore (lv' := [(8, .long 0), (6, .long 0), (5, .int ((jX0_liftedE x0) - ((jX0_liftedE x0) &&& 1))), (3, .long (sl (jX0_liftedM x0) ((jX0_liftedE x0) &&& 1))), (2, .int ((jX0_liftedE x0) &&& 1)), (0, .long x0)]) hx hb dX0_root_34 hl (by decide) rfl (fun ls hl => ?_)
    refine lv_iconst (v := 1) hx hb dX0_root_36 (by decide) ?_
    refine lv_istore (lv' := [(10, .int 1), (8, .long 0), (6, .long 0), (5, .int ((jX0_liftedE x0) - ((jX0_liftedE x0) &&& 1))), (3, .long (sl (jX0_liftedM x0) ((jX0_liftedE x0) &&& 1))), (2, .int ((jX0_liftedE x0) &&& 1)), (0, .long x0)]) hx hb dX0_root_37 hl (by decide) rfl (fun ls hl => ?_)
    exact wX0_root_L39 C FU _ _ _ _ _ _ _ (lv_sub hl [4, 3, 2, 1, 0] rfl) h
  · rw [if_pos c_1] at h
    refine lv_lconst (v := 0) hx hb dX0_root_6 (by decide) ?_
    exact W.lret hx hb hr (fun t ht _ => ⟨by cases h; rfl, ht⟩) (fun q h9 => nomatch h9) dX0_root_7
theorem sc_X0_root : SC yX0_root cX0_root 15 (some .long) 1 := ⟨tw_226, tw_1, tw_227, by decide +kernel⟩
theorem cX0_root_met (l : Launch) (x0 : Int64) (v : Int64) (h : jX0_root x0 = some v) : PM l yX0_root cX0_root 15 (some .long) (rmz 4 87) [.long x0] (.long v) :=
  pm_of (own := RX0) (by decide +kernel) rfl (Nat.le_of_ble_eq_true rfl) (fun p e s m below meth c ls C hl => wX0_root_0 C x0 ls v hl h)

/-! RealDesk.raise(JI)J -/
def jX0_raise_L25 : Nat → Int64 → Int32 → Int64 → Int32 → Option Int64
  | 0, _, _, _, _ => none
  | k + 1, x0, x2, x3, x6 => (if x6 < 0 then some x3 else (if (jX0_isOver x3) = 0 then (if ((iu x2 x6) &&& 1) = 1 then (if (jX0_isOver (jX0_product x3 x3)) = 0 then jX0_raise_L25 k x0 x2 (jX0_product (jX0_product x3 x3) x0) (x6 + (-1)) else jX0_raise_L25 k x0 x2 (jX0_product x3 x3) (x6 + (-1))) else jX0_raise_L25 k x0 x2 (jX0_product x3 x3) (x6 + (-1))) else some x3))
set_option maxHeartbeats 4000000 in
set_option maxRecDepth 100000 in
theorem wX0_raise_L25 {p : Program} {l : Launch} {e : Env} {s : State} {m : MethodId} {args : Array Value} {below : List Frame} {meth : Method} {c : Code} (C : CX p s m args meth c RX0 cX0_raise 7 (some .long)) : ∀ (k : Nat) (x0 : Int64) (x2 : Int32) (x3 : Int64) (x6 : Int32) (ls : Array Slot) (v : Int64), lv_has ls 7 [(0, .long x0), (2, .int x2), (3, .long x3), (6, .int x6)] → jX0_raise_L25 k x0 x2 x3 x6 = some v → W p l e (rmz 5 111) s m args below meth c s.heap [] 0 0 (MQ below (k2_QcV (.long v)) args s 0 0 (fun _ => False)) (F0 m 25 ls []) := by
  obtain ⟨hx, hb, hml, hown, hg, hr, hlocks⟩ := id C
  intro k
  induction k with
  | zero => intro x0 x2 x3 x6 ls v hl h; cases h
  | succ k ih =>
    intro x0 x2 x3 x6 ls v hl h
    unfold jX0_raise_L25 at h
    refine lv_iload hx hb dX0_raise_25 (lv_at hl 3 rfl) ?_
    refine lv_if_lt (tgt := 72) hx hb dX0_raise_27 (by decide) (fun c_1 => ?_) (fun c_1 => ?_)
    · rw [if_pos c_1] at h
      refine lv_lload_n hx hb dX0_raise_72 rfl (lv_at hl 2 rfl) ?_
      exact W.lret hx hb hr (fun t ht _ => ⟨by cases h; rfl, ht⟩) (fun q h9 => nomatch h9) dX0_raise_73
    · rw [if_neg c_1] at h
      refine lv_lload_n hx hb dX0_raise_30 rfl (lv_at hl 2 rfl) ?_
      refine pcall C (cX0_isOver_met l _ _ rfl) sc_X0_isOver tw_137 (by decide) rfl hl.1 (rest := []) rfl (Nat.le_of_ble_eq_true rfl) (by decide) dX0_raise_31 ?_
      refine lv_if_ne (tgt := 72) hx hb dX0_raise_34 (by decide) (fun c_2 => ?_) (fun c_2 => ?_)
      · rw [if_neg c_2] at h
        refine lv_lload_n hx hb dX0_raise_72 rfl (lv_at hl 2 rfl) ?_
        exact W.lret hx hb hr (fun t ht _ => ⟨by cases h; rfl, ht⟩) (fun q h9 => nomatch h9) dX0_raise_73
      · rw [if_pos c_2] at h
        refine lv_lload_n hx hb dX0_raise_37 rfl (lv_at hl 2 rfl) ?_
        refine lv_lload_n hx hb dX0_raise_38 rfl (lv_at hl 2 rfl) ?_
        refine pcall C (cX0_product_met l _ _ _ rfl) sc_X0_product tw_178 (by decide) rfl hl.1 (rest := []) rfl (Nat.le_of_ble_eq_true rfl) (by decide) dX0_raise_39 ?_
        refine lv_lstore_n (lv' := [(3, .long (jX0_product x3 x3)), (0, .long x0), (2, .int x2), (6, .int x6)]) hx hb dX0_raise_42 rfl hl (by decide) rfl (fun ls hl => ?_)
        refine lv_iload_n hx hb dX0_raise_43 rfl (lv_at hl 2 rfl) ?_
        refine lv_iload hx hb dX0_raise_44 (lv_at hl 3 rfl) ?_
        refine lv_iushr (v := iu x2 x6) hx hb dX0_raise_46 rfl ?_
        refine lv_iconst (v := 1) hx hb dX0_raise_47 (by decide) ?_
        refine lv_iand hx hb dX0_raise_48 ?_
        refine lv_iconst (v := 1) hx hb dX0_raise_49 (by decide) ?_
        refine lv_icmp_ne (tgt := 66) hx hb dX0_raise_50 (by decide) (fun c_3 => ?_) (fun c_3 => ?_)
        · rw [if_neg c_3] at h
          refine lv_iinc (v := x6 + (-1)) (lv' := [(6, .int (x6 + (-1))), (3, .long (jX0_product x3 x3)), (0, .long x0), (2, .int x2)]) hx hb dX0_raise_66 hl (k := 3) rfl rfl (by decide) rfl (fun ls hl => ?_)
          refine lv_goto (tgt := 25) hx hb dX0_raise_69 (by decide) ?_
          exact ih _ _ _ _ _ _ (lv_sub hl [2, 3, 1, 0] rfl) h
        · rw [if_pos c_3] at h
          refine lv_lload_n hx hb dX0_raise_53 rfl (lv_at hl 0 rfl) ?_
          refine pcall C (cX0_isOver_met l _ _ rfl) sc_X0_isOver tw_137 (by decide) rfl hl.1 (rest := []) rfl (Nat.le_of_ble_eq_true rfl) (by decide) dX0_raise_54 ?_
          refine lv_if_ne (tgt := 66) hx hb dX0_raise_57 (by decide) (fun c_4 => ?_) (fun c_4 => ?_)
          · rw [if_neg c_4] at h
            refine lv_iinc (v := x6 + (-1)) (lv' := [(6, .int (x6 + (-1))), (3, .long (jX0_product x3 x3)), (0, .long x0), (2, .int x2)]) hx hb dX0_raise_66 hl (k := 3) rfl rfl (by decide) rfl (fun ls hl => ?_)
            refine lv_goto (tgt := 25) hx hb dX0_raise_69 (by decide) ?_
            exact ih _ _ _ _ _ _ (lv_sub hl [2, 3, 1, 0] rfl) h
          · rw [if_pos c_4] at h
            refine lv_lload_n hx hb dX0_raise_60 rfl (lv_at hl 0 rfl) ?_
            refine lv_lload_n hx hb dX0_raise_61 rfl (lv_at hl 1 rfl) ?_
            refine pcall C (cX0_product_met l _ _ _ rfl) sc_X0_product tw_178 (by decide) rfl hl.1 (rest := []) rfl (Nat.le_of_ble_eq_true rfl) (by decide) dX0_raise_62 ?_
            refine lv_lstore_n (lv' := [(3, .long (jX0_product (jX0_product x3 x3) x0)), (0, .long x0), (2, .int x2), (6, .int x6)]) hx hb dX0_raise_65 rfl hl (by decide) rfl (fun ls hl => ?_)
            refine lv_iinc (v := x6 + (-1)) (lv' := [(6, .int (x6 + (-1))), (3, .long (jX0_product (jX0_product x3 x3) x0)), (0, .long x0), (2, .int x2)]) hx hb dX0_raise_66 hl (k := 3) rfl rfl (by decide) rfl (fun ls hl => ?_)
            refine lv_goto (tgt := 25) hx hb dX0_raise_69 (by decide) ?_
            exact ih _ _ _ _ _ _ (lv_sub hl [2, 3, 1, 0] rfl) h
def jX0_raise (x0 : Int64) (x2 : Int32) : Option Int64 := (if x2 = 0 then some 4607182418800017408 else jX0_raise_L25 FU x0 x2 x0 ((31 - (jJ6_numberOfLeadingZeros_0f7a4 x2)) - 1))
set_option maxHeartbeats 4000000 in
set_option maxRecDepth 100000 in
theorem wX0_raise_0 {p : Program} {l : Launch} {e : Env} {s : State} {m : MethodId} {args : Array Value} {below : List Frame} {meth : Method} {c : Code} (C : CX p s m args meth c RX0 cX0_raise 7 (some .long)) (x0 : Int64) (x2 : Int32) (ls : Array Slot) (v : Int64) (hl : lv_has ls 7 [(0, .long x0), (2, .int x2)]) (h : jX0_raise x0 x2 = some v) : W p l e (rmz 5 111) s m args below meth c s.heap [] 0 0 (MQ below (k2_QcV (.long v)) args s 0 0 (fun _ => False)) (F0 m 0 ls []) := by
  obtain ⟨hx, hb, hml, hown, hg, hr, hlocks⟩ := id C
  unfold jX0_raise at h
  refine lv_iload_n hx hb dX0_raise_0 rfl (lv_at hl 1 rfl) ?_
  refine lv_if_ne (tgt := 8) hx hb dX0_raise_1 (by decide) (fun c_1 => ?_) (fun c_1 => ?_)
  · rw [if_neg c_1] at h
    refine lv_lload_n hx hb dX0_raise_8 rfl (lv_at hl 0 rfl) ?_
    refine lv_lstore_n (lv' := [(3, .long x0), (0, .long x0), (2, .int x2)]) hx hb dX0_raise_9 rfl hl (by decide) rfl (fun ls hl => ?_)
    refine lv_bipush (v := 31) hx hb dX0_raise_10 (by decide) ?_
    refine lv_iload_n hx hb dX0_raise_12 rfl (lv_at hl 2 rfl) ?_
    refine pcall C (cJ6_numberOfLeadingZeros_0f7a4_met l _ _ rfl) sc_J6_numberOfLeadingZeros_0f7a4 tw_246 (by decide) rfl hl.1 (rest := [.int 31]) rfl (Nat.le_of_ble_eq_true rfl) (by decide) dX0_raise_13 ?_
    refine lv_isub hx hb dX0_raise_16 ?_
    refine lv_istore (lv' := [(5, .int (31 - (jJ6_numberOfLeadingZeros_0f7a4 x2))), (3, .long x0), (0, .long x0), (2, .int x2)]) hx hb dX0_raise_17 hl (by decide) rfl (fun ls hl => ?_)
    refine lv_iload hx hb dX0_raise_19 (lv_at hl 0 rfl) ?_
    refine lv_iconst (v := 1) hx hb dX0_raise_21 (by decide) ?_
    refine lv_isub hx hb dX0_raise_22 ?_
    refine lv_istore (lv' := [(6, .int ((31 - (jJ6_numberOfLeadingZeros_0f7a4 x2)) - 1)), (5, .int (31 - (jJ6_numberOfLeadingZeros_0f7a4 x2))), (3, .long x0), (0, .long x0), (2, .int x2)]) hx hb dX0_raise_23 hl (by decide) rfl (fun ls hl => ?_)
    exact wX0_raise_L25 C FU _ _ _ _ _ _ (lv_sub hl [3, 4, 2, 0] rfl) h
  · rw [if_pos c_1] at h
    refine lv_ldc2 hx hb hown (hg _ tw_245) dX0_raise_4 ?_
    exact W.lret hx hb hr (fun t ht _ => ⟨by cases h; rfl, ht⟩) (fun q h9 => nomatch h9) dX0_raise_7
theorem sc_X0_raise : SC yX0_raise cX0_raise 7 (some .long) 2 := ⟨tw_243, tw_1, tw_244, by decide +kernel⟩
theorem cX0_raise_met (l : Launch) (x0 : Int64) (x2 : Int32) (v : Int64) (h : jX0_raise x0 x2 = some v) : PM l yX0_raise cX0_raise 7 (some .long) (rmz 5 111) [.long x0, .int x2] (.long v) :=
  pm_of (own := RX0) (by decide +kernel) rfl (Nat.le_of_ble_eq_true rfl) (fun p e s m below meth c ls C hl => wX0_raise_0 C x0 x2 ls v hl h)

/-! RealDesk.powerOfTwo(I)D -/
def jX0_powerOfTwo_L22 : Nat → UInt64 → UInt64 → Int32 → Option UInt64
  | 0, _, _, _ => none
  | k + 1, x1, x3, x5 => (if x5 ≤ 0 then some x1 else (if (x5 &&& 1) = 1 then (if nn (FP.dmul x1 x3) = true then (if x5 ≤ 1 then jX0_powerOfTwo_L22 k (FP.dmul x1 x3) x3 (iu x5 1) else (if nn (FP.dmul x3 x3) = true then jX0_powerOfTwo_L22 k (FP.dmul x1 x3) (FP.dmul x3 x3) (iu x5 1) else none)) else none) else (if x5 ≤ 1 then jX0_powerOfTwo_L22 k x1 x3 (iu x5 1) else (if nn (FP.dmul x3 x3) = true then jX0_powerOfTwo_L22 k x1 (FP.dmul x3 x3) (iu x5 1) else none))))
set_option maxHeartbeats 4000000 in
set_option maxRecDepth 100000 in
theorem wX0_powerOfTwo_L22 {p : Program} {l : Launch} {e : Env} {s : State} {m : MethodId} {args : Array Value} {below : List Frame} {meth : Method} {c : Code} (C : CX p s m args meth c RX0 cX0_powerOfTwo 6 (some .double)) : ∀ (k : Nat) (x1 : UInt64) (x3 : UInt64) (x5 : Int32) (ls : Array Slot) (v : UInt64), lv_has ls 6 [(1, .double x1), (3, .double x3), (5, .int x5)] → jX0_powerOfTwo_L22 k x1 x3 x5 = some v → W p l e (rmz 1 21) s m args below meth c s.heap [] 0 0 (MQ below (k2_QcV (.double v)) args s 0 0 (fun _ => False)) (F0 m 22 ls []) := by
  obtain ⟨hx, hb, hml, hown, hg, hr, hlocks⟩ := id C
  intro k
  induction k with
  | zero => intro x1 x3 x5 ls v hl h; cases h
  | succ k ih =>
    intro x1 x3 x5 ls v hl h
    unfold jX0_powerOfTwo_L22 at h
    refine lv_iload hx hb dX0_powerOfTwo_22 (lv_at hl 2 rfl) ?_
    refine lv_if_le (tgt := 58) hx hb dX0_powerOfTwo_24 (by decide) (fun c_1 => ?_) (fun c_1 => ?_)
    · rw [if_pos c_1] at h
      refine lv_dload_n hx hb dX0_powerOfTwo_58 rfl (lv_at hl 0 rfl) ?_
      exact W.dret hx hb hr (fun t ht _ => ⟨by cases h; rfl, ht⟩) (fun q h9 => nomatch h9) dX0_powerOfTwo_59
    · rw [if_neg c_1] at h
      refine lv_iload hx hb dX0_powerOfTwo_27 (lv_at hl 2 rfl) ?_
      refine lv_iconst (v := 1) hx hb dX0_powerOfTwo_29 (by decide) ?_
      refine lv_iand hx hb dX0_powerOfTwo_30 ?_
      refine lv_iconst (v := 1) hx hb dX0_powerOfTwo_31 (by decide) ?_
      refine lv_icmp_ne (tgt := 39) hx hb dX0_powerOfTwo_32 (by decide) (fun c_2 => ?_) (fun c_2 => ?_)
      · rw [if_neg c_2] at h
        refine lv_iload hx hb dX0_powerOfTwo_39 (lv_at hl 2 rfl) ?_
        refine lv_iconst (v := 1) hx hb dX0_powerOfTwo_41 (by decide) ?_
        refine lv_icmp_le (tgt := 49) hx hb dX0_powerOfTwo_42 (by decide) (fun c_3 => ?_) (fun c_3 => ?_)
        · rw [if_pos c_3] at h
          refine lv_iload hx hb dX0_powerOfTwo_49 (lv_at hl 2 rfl) ?_
          refine lv_iconst (v := 1) hx hb dX0_powerOfTwo_51 (by decide) ?_
          refine lv_iushr (v := iu x5 1) hx hb dX0_powerOfTwo_52 rfl ?_
          refine lv_istore (lv' := [(5, .int (iu x5 1)), (1, .double x1), (3, .double x3)]) hx hb dX0_powerOfTwo_53 hl (by decide) rfl (fun ls hl => ?_)
          refine lv_goto (tgt := 22) hx hb dX0_powerOfTwo_55 (by decide) ?_
          exact ih _ _ _ _ _ (lv_sub hl [1, 2, 0] rfl) h
        · rw [if_neg c_3] at h
          refine lv_dload_n hx hb dX0_powerOfTwo_45 rfl (lv_at hl 1 rfl) ?_
          refine lv_dload_n hx hb dX0_powerOfTwo_46 rfl (lv_at hl 1 rfl) ?_
          obtain ⟨z_47, h⟩ := of_ite h
          refine lv_dmul hx hb dX0_powerOfTwo_47 (nn_of z_47) ?_
          refine lv_dstore_n (lv' := [(3, .double (FP.dmul x3 x3)), (1, .double x1), (5, .int x5)]) hx hb dX0_powerOfTwo_48 rfl hl (by decide) rfl (fun ls hl => ?_)
          refine lv_iload hx hb dX0_powerOfTwo_49 (lv_at hl 2 rfl) ?_
          refine lv_iconst (v := 1) hx hb dX0_powerOfTwo_51 (by decide) ?_
          refine lv_iushr (v := iu x5 1) hx hb dX0_powerOfTwo_52 rfl ?_
          refine lv_istore (lv' := [(5, .int (iu x5 1)), (3, .double (FP.dmul x3 x3)), (1, .double x1)]) hx hb dX0_powerOfTwo_53 hl (by decide) rfl (fun ls hl => ?_)
          refine lv_goto (tgt := 22) hx hb dX0_powerOfTwo_55 (by decide) ?_
          exact ih _ _ _ _ _ (lv_sub hl [2, 1, 0] rfl) h
      · rw [if_pos c_2] at h
        refine lv_dload_n hx hb dX0_powerOfTwo_35 rfl (lv_at hl 0 rfl) ?_
        refine lv_dload_n hx hb dX0_powerOfTwo_36 rfl (lv_at hl 1 rfl) ?_
        obtain ⟨z_37, h⟩ := of_ite h
        refine lv_dmul hx hb dX0_powerOfTwo_37 (nn_of z_37) ?_
        refine lv_dstore_n (lv' := [(1, .double (FP.dmul x1 x3)), (3, .double x3), (5, .int x5)]) hx hb dX0_powerOfTwo_38 rfl hl (by decide) rfl (fun ls hl => ?_)
        refine lv_iload hx hb dX0_powerOfTwo_39 (lv_at hl 2 rfl) ?_
        refine lv_iconst (v := 1) hx hb dX0_powerOfTwo_41 (by decide) ?_
        refine lv_icmp_le (tgt := 49) hx hb dX0_powerOfTwo_42 (by decide) (fun c_4 => ?_) (fun c_4 => ?_)
        · rw [if_pos c_4] at h
          refine lv_iload hx hb dX0_powerOfTwo_49 (lv_at hl 2 rfl) ?_
          refine lv_iconst (v := 1) hx hb dX0_powerOfTwo_51 (by decide) ?_
          refine lv_iushr (v := iu x5 1) hx hb dX0_powerOfTwo_52 rfl ?_
          refine lv_istore (lv' := [(5, .int (iu x5 1)), (1, .double (FP.dmul x1 x3)), (3, .double x3)]) hx hb dX0_powerOfTwo_53 hl (by decide) rfl (fun ls hl => ?_)
          refine lv_goto (tgt := 22) hx hb dX0_powerOfTwo_55 (by decide) ?_
          exact ih _ _ _ _ _ (lv_sub hl [1, 2, 0] rfl) h
        · rw [if_neg c_4] at h
          refine lv_dload_n hx hb dX0_powerOfTwo_45 rfl (lv_at hl 1 rfl) ?_
          refine lv_dload_n hx hb dX0_powerOfTwo_46 rfl (lv_at hl 1 rfl) ?_
          obtain ⟨z_47, h⟩ := of_ite h
          refine lv_dmul hx hb dX0_powerOfTwo_47 (nn_of z_47) ?_
          refine lv_dstore_n (lv' := [(3, .double (FP.dmul x3 x3)), (1, .double (FP.dmul x1 x3)), (5, .int x5)]) hx hb dX0_powerOfTwo_48 rfl hl (by decide) rfl (fun ls hl => ?_)
          refine lv_iload hx hb dX0_powerOfTwo_49 (lv_at hl 2 rfl) ?_
          refine lv_iconst (v := 1) hx hb dX0_powerOfTwo_51 (by decide) ?_
          refine lv_iushr (v := iu x5 1) hx hb dX0_powerOfTwo_52 rfl ?_
          refine lv_istore (lv' := [(5, .int (iu x5 1)), (3, .double (FP.dmul x3 x3)), (1, .double (FP.dmul x1 x3))]) hx hb dX0_powerOfTwo_53 hl (by decide) rfl (fun ls hl => ?_)
          refine lv_goto (tgt := 22) hx hb dX0_powerOfTwo_55 (by decide) ?_
          exact ih _ _ _ _ _ (lv_sub hl [2, 1, 0] rfl) h
def jX0_powerOfTwo (x0 : Int32) : Option UInt64 := jX0_powerOfTwo_L22 FU FP.dconst1 (if 0 ≤ x0 then (4611686018427387904 : UInt64) else (4602678819172646912 : UInt64) : UInt64) (jabs x0)
set_option maxHeartbeats 4000000 in
set_option maxRecDepth 100000 in
theorem wX0_powerOfTwo_0 {p : Program} {l : Launch} {e : Env} {s : State} {m : MethodId} {args : Array Value} {below : List Frame} {meth : Method} {c : Code} (C : CX p s m args meth c RX0 cX0_powerOfTwo 6 (some .double)) (x0 : Int32) (ls : Array Slot) (v : UInt64) (hl : lv_has ls 6 [(0, .int x0)]) (h : jX0_powerOfTwo x0 = some v) : W p l e (rmz 1 21) s m args below meth c s.heap [] 0 0 (MQ below (k2_QcV (.double v)) args s 0 0 (fun _ => False)) (F0 m 0 ls []) := by
  obtain ⟨hx, hb, hml, hown, hg, hr, hlocks⟩ := id C
  unfold jX0_powerOfTwo at h
  refine lv_dconst1 hx hb dX0_powerOfTwo_0 ?_
  refine lv_dstore_n (lv' := [(1, .double FP.dconst1), (0, .int x0)]) hx hb dX0_powerOfTwo_1 rfl hl (by decide) rfl (fun ls hl => ?_)
  refine lv_iload_n hx hb dX0_powerOfTwo_2 rfl (lv_at hl 1 rfl) ?_
  refine rg_d (pj := 15) (v := (if 0 ≤ x0 then (4611686018427387904 : UInt64) else (4602678819172646912 : UInt64) : UInt64)) (ls := ls) (rest := []) (fun kJ => ?_) ?_
  · refine lv_if_ge (tgt := 12) hx hb dX0_powerOfTwo_3 (by decide) (fun c_1 => ?_) (fun c_1 => ?_)
    · refine lv_ldc2d hx hb hown (hg _ tw_279) dX0_powerOfTwo_12 ?_
      exact kJ _ (by rw [if_pos c_1])
    · refine lv_ldc2d hx hb hown (hg _ tw_278) dX0_powerOfTwo_6 ?_
      refine lv_goto (tgt := 15) hx hb dX0_powerOfTwo_9 (by decide) ?_
      exact kJ _ (by rw [if_neg c_1])
  refine lv_dstore_n (lv' := [(3, .double (if 0 ≤ x0 then (4611686018427387904 : UInt64) else (4602678819172646912 : UInt64) : UInt64)), (1, .double FP.dconst1), (0, .int x0)]) hx hb dX0_powerOfTwo_15 rfl hl (by decide) rfl (fun ls hl => ?_)
  refine lv_iload_n hx hb dX0_powerOfTwo_16 rfl (lv_at hl 2 rfl) ?_
  refine q_abs C tw_239 (by decide) (Nat.le_of_ble_eq_true rfl) (by decide) hl.1 dX0_powerOfTwo_17 ?_
  refine lv_istore (lv' := [(5, .int (jabs x0)), (3, .double (if 0 ≤ x0 then (4611686018427387904 : UInt64) else (4602678819172646912 : UInt64) : UInt64)), (1, .double FP.dconst1), (0, .int x0)]) hx hb dX0_powerOfTwo_20 hl (by decide) rfl (fun ls hl => ?_)
  exact wX0_powerOfTwo_L22 C FU _ _ _ _ _ (lv_sub hl [2, 1, 0] rfl) h
theorem sc_X0_powerOfTwo : SC yX0_powerOfTwo cX0_powerOfTwo 6 (some .double) 1 := ⟨tw_276, tw_1, tw_277, by decide +kernel⟩
theorem cX0_powerOfTwo_met (l : Launch) (x0 : Int32) (v : UInt64) (h : jX0_powerOfTwo x0 = some v) : PM l yX0_powerOfTwo cX0_powerOfTwo 6 (some .double) (rmz 1 21) [.int x0] (.double v) :=
  pm_of (own := RX0) (by decide +kernel) rfl (Nat.le_of_ble_eq_true rfl) (fun p e s m below meth c ls C hl => wX0_powerOfTwo_0 C x0 ls v hl h)
