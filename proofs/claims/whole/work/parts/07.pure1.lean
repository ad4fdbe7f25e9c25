def FU : Nat := 5000
/-! java/lang/Integer.numberOfLeadingZeros(I)I -/
def jJ6_numberOfLeadingZeros_0f7a4_B73 (x0 : Int32) (x1 : Int32) : Int32 := x1 - (iu x0 1)
set_option maxHeartbeats 4000000 in
set_option maxRecDepth 100000 in
theorem wJ6_numberOfLeadingZeros_0f7a4_B73 {p : Program} {l : Launch} {e : Env} {s : State} {m : MethodId} {args : Array Value} {below : List Frame} {meth : Method} {c : Code} (C : CX p s m args meth c RJ6 cJ6_numberOfLeadingZeros_0f7a4 2 (some .int)) (x0 : Int32) (x1 : Int32) (ls : Array Slot) (v : Int32) (hl : lv_has ls 2 [(0, .int x0), (1, .int x1)]) (h : jJ6_numberOfLeadingZeros_0f7a4_B73 x0 x1 = v) : W p l e (rmz 0 0) s m args below meth c s.heap [] 0 0 (MQ below (k2_QcV (.int v)) args s 0 0 (fun _ => False)) (F0 m 73 ls []) := by
  obtain ⟨hx, hb, hml, hown, hg, hr, hlocks⟩ := id C
  unfold jJ6_numberOfLeadingZeros_0f7a4_B73 at h
  refine lv_iload_n hx hb dJ6_numberOfLeadingZeros_0f7a4_73 rfl (lv_at hl 1 rfl) ?_
  refine lv_iload_n hx hb dJ6_numberOfLeadingZeros_0f7a4_74 rfl (lv_at hl 0 rfl) ?_
  refine lv_iconst (v := 1) hx hb dJ6_numberOfLeadingZeros_0f7a4_75 (by decide) ?_
  refine lv_iushr (v := iu x0 1) hx hb dJ6_numberOfLeadingZeros_0f7a4_76 rfl ?_
  refine lv_isub hx hb dJ6_numberOfLeadingZeros_0f7a4_77 ?_
  exact W.iret hx hb hr (fun t ht _ => ⟨by rw [← h], ht⟩) (fun q h9 => nomatch h9) dJ6_numberOfLeadingZeros_0f7a4_78
def jJ6_numberOfLeadingZeros_0f7a4_B61 (x0 : Int32) (x1 : Int32) : Int32 := (if x0 < 4 then jJ6_numberOfLeadingZeros_0f7a4_B73 x0 x1 else jJ6_numberOfLeadingZeros_0f7a4_B73 (iu x0 2) (x1 + (-2)))
set_option maxHeartbeats 4000000 in
set_option maxRecDepth 100000 in
theorem wJ6_numberOfLeadingZeros_0f7a4_B61 {p : Program} {l : Launch} {e : Env} {s : State} {m : MethodId} {args : Array Value} {below : List Frame} {meth : Method} {c : Code} (C : CX p s m args meth c RJ6 cJ6_numberOfLeadingZeros_0f7a4 2 (some .int)) (x0 : Int32) (x1 : Int32) (ls : Array Slot) (v : Int32) (hl : lv_has ls 2 [(0, .int x0), (1, .int x1)]) (h : jJ6_numberOfLeadingZeros_0f7a4_B61 x0 x1 = v) : W p l e (rmz 0 0) s m args below meth c s.heap [] 0 0 (MQ below (k2_QcV (.int v)) args s 0 0 (fun _ => False)) (F0 m 61 ls []) := by
  obtain ⟨hx, hb, hml, hown, hg, hr, hlocks⟩ := id C
  unfold jJ6_numberOfLeadingZeros_0f7a4_B61 at h
  refine lv_iload_n hx hb dJ6_numberOfLeadingZeros_0f7a4_61 rfl (lv_at hl 0 rfl) ?_
  refine lv_iconst (v := 4) hx hb dJ6_numberOfLeadingZeros_0f7a4_62 (by decide) ?_
  refine lv_icmp_lt (tgt := 73) hx hb dJ6_numberOfLeadingZeros_0f7a4_63 (by decide) (fun c_1 => ?_) (fun c_1 => ?_)
  · rw [if_pos c_1] at h
    exact wJ6_numberOfLeadingZeros_0f7a4_B73 C _ _ _ _ (lv_sub hl [0, 1] rfl) h
  · rw [if_neg c_1] at h
    refine lv_iinc (v := x1 + (-2)) (lv' := [(1, .int (x1 + (-2))), (0, .int x0)]) hx hb dJ6_numberOfLeadingZeros_0f7a4_66 hl (k := 1) rfl rfl (by decide) rfl (fun ls hl => ?_)
    refine lv_iload_n hx hb dJ6_numberOfLeadingZeros_0f7a4_69 rfl (lv_at hl 1 rfl) ?_
    refine lv_iconst (v := 2) hx hb dJ6_numberOfLeadingZeros_0f7a4_70 (by decide) ?_
    refine lv_iushr (v := iu x0 2) hx hb dJ6_numberOfLeadingZeros_0f7a4_71 rfl ?_
    refine lv_istore_n (lv' := [(0, .int (iu x0 2)), (1, .int (x1 + (-2)))]) hx hb dJ6_numberOfLeadingZeros_0f7a4_72 rfl hl (by decide) rfl (fun ls hl => ?_)
    exact wJ6_numberOfLeadingZeros_0f7a4_B73 C _ _ _ _ (lv_sub hl [0, 1] rfl) h
def jJ6_numberOfLeadingZeros_0f7a4_B48 (x0 : Int32) (x1 : Int32) : Int32 := (if x0 < 16 then jJ6_numberOfLeadingZeros_0f7a4_B61 x0 x1 else jJ6_numberOfLeadingZeros_0f7a4_B61 (iu x0 4) (x1 + (-4)))
set_option maxHeartbeats 4000000 in
set_option maxRecDepth 100000 in
theorem wJ6_numberOfLeadingZeros_0f7a4_B48 {p : Program} {l : Launch} {e : Env} {s : State} {m : MethodId} {args : Array Value} {below : List Frame} {meth : Method} {c : Code} (C : CX p s m args meth c RJ6 cJ6_numberOfLeadingZeros_0f7a4 2 (some .int)) (x0 : Int32) (x1 : Int32) (ls : Array Slot) (v : Int32) (hl : lv_has ls 2 [(0, .int x0), (1, .int x1)]) (h : jJ6_numberOfLeadingZeros_0f7a4_B48 x0 x1 = v) : W p l e (rmz 0 0) s m args below meth c s.heap [] 0 0 (MQ below (k2_QcV (.int v)) args s 0 0 (fun _ => False)) (F0 m 48 ls []) := by
  obtain ⟨hx, hb, hml, hown, hg, hr, hlocks⟩ := id C
  unfold jJ6_numberOfLeadingZeros_0f7a4_B48 at h
  refine lv_iload_n hx hb dJ6_numberOfLeadingZeros_0f7a4_48 rfl (lv_at hl 0 rfl) ?_
  refine lv_bipush (v := 16) hx hb dJ6_numberOfLeadingZeros_0f7a4_49 (by decide) ?_
  refine lv_icmp_lt (tgt := 61) hx hb dJ6_numberOfLeadingZeros_0f7a4_51 (by decide) (fun c_1 => ?_) (fun c_1 => ?_)
  · rw [if_pos c_1] at h
    exact wJ6_numberOfLeadingZeros_0f7a4_B61 C _ _ _ _ (lv_sub hl [0, 1] rfl) h
  · rw [if_neg c_1] at h
    refine lv_iinc (v := x1 + (-4)) (lv' := [(1, .int (x1 + (-4))), (0, .int x0)]) hx hb dJ6_numberOfLeadingZeros_0f7a4_54 hl (k := 1) rfl rfl (by decide) rfl (fun ls hl => ?_)
    refine lv_iload_n hx hb dJ6_numberOfLeadingZeros_0f7a4_57 rfl (lv_at hl 1 rfl) ?_
    refine lv_iconst (v := 4) hx hb dJ6_numberOfLeadingZeros_0f7a4_58 (by decide) ?_
    refine lv_iushr (v := iu x0 4) hx hb dJ6_numberOfLeadingZeros_0f7a4_59 rfl ?_
    refine lv_istore_n (lv' := [(0, .int (iu x0 4)), (1, .int (x1 + (-4)))]) hx hb dJ6_numberOfLeadingZeros_0f7a4_60 rfl hl (by decide) rfl (fun ls hl => ?_)
    exact wJ6_numberOfLeadingZeros_0f7a4_B61 C _ _ _ _ (lv_sub hl [0, 1] rfl) h
def jJ6_numberOfLeadingZeros_0f7a4_B33 (x0 : Int32) (x1 : Int32) : Int32 := (if x0 < 256 then jJ6_numberOfLeadingZeros_0f7a4_B48 x0 x1 else jJ6_numberOfLeadingZeros_0f7a4_B48 (iu x0 8) (x1 + (-8)))
set_option maxHeartbeats 4000000 in
set_option maxRecDepth 100000 in
theorem wJ6_numberOfLeadingZeros_0f7a4_B33 {p : Program} {l : Launch} {e : Env} {s : State} {m : MethodId} {args : Array Value} {below : List Frame} {meth : Method} {c : Code} (C : CX p s m args meth c RJ6 cJ6_numberOfLeadingZeros_0f7a4 2 (some .int)) (x0 : Int32) (x1 : Int32) (ls : Array Slot) (v : Int32) (hl : lv_has ls 2 [(0, .int x0), (1, .int x1)]) (h : jJ6_numberOfLeadingZeros_0f7a4_B33 x0 x1 = v) : W p l e (rmz 0 0) s m args below meth c s.heap [] 0 0 (MQ below (k2_QcV (.int v)) args s 0 0 (fun _ => False)) (F0 m 33 ls []) := by
  obtain ⟨hx, hb, hml, hown, hg, hr, hlocks⟩ := id C
  unfold jJ6_numberOfLeadingZeros_0f7a4_B33 at h
  refine lv_iload_n hx hb dJ6_numberOfLeadingZeros_0f7a4_33 rfl (lv_at hl 0 rfl) ?_
  refine lv_sipush (v := 256) hx hb dJ6_numberOfLeadingZeros_0f7a4_34 (by decide) ?_
  refine lv_icmp_lt (tgt := 48) hx hb dJ6_numberOfLeadingZeros_0f7a4_37 (by decide) (fun c_1 => ?_) (fun c_1 => ?_)
  · rw [if_pos c_1] at h
    exact wJ6_numberOfLeadingZeros_0f7a4_B48 C _ _ _ _ (lv_sub hl [0, 1] rfl) h
  · rw [if_neg c_1] at h
    refine lv_iinc (v := x1 + (-8)) (lv' := [(1, .int (x1 + (-8))), (0, .int x0)]) hx hb dJ6_numberOfLeadingZeros_0f7a4_40 hl (k := 1) rfl rfl (by decide) rfl (fun ls hl => ?_)
    refine lv_iload_n hx hb dJ6_numberOfLeadingZeros_0f7a4_43 rfl (lv_at hl 1 rfl) ?_
    refine lv_bipush (v := 8) hx hb dJ6_numberOfLeadingZeros_0f7a4_44 (by decide) ?_
    refine lv_iushr (v := iu x0 8) hx hb dJ6_numberOfLeadingZeros_0f7a4_46 rfl ?_
    refine lv_istore_n (lv' := [(0, .int (iu x0 8)), (1, .int (x1 + (-8)))]) hx hb dJ6_numberOfLeadingZeros_0f7a4_47 rfl hl (by decide) rfl (fun ls hl => ?_)
    exact wJ6_numberOfLeadingZeros_0f7a4_B48 C _ _ _ _ (lv_sub hl [0, 1] rfl) h
def jJ6_numberOfLeadingZeros_0f7a4 (x0 : Int32) : Int32 := (if 0 < x0 then (if x0 < 65536 then jJ6_numberOfLeadingZeros_0f7a4_B33 x0 31 else jJ6_numberOfLeadingZeros_0f7a4_B33 (iu x0 16) (31 + (-16))) else (if x0 = 0 then 32 else 0 : Int32))
set_option maxHeartbeats 4000000 in
set_option maxRecDepth 100000 in
theorem wJ6_numberOfLeadingZeros_0f7a4_0 {p : Program} {l : Launch} {e : Env} {s : State} {m : MethodId} {args : Array Value} {below : List Frame} {meth : Method} {c : Code} (C : CX p s m args meth c RJ6 cJ6_numberOfLeadingZeros_0f7a4 2 (some .int)) (x0 : Int32) (ls : Array Slot) (v : Int32) (hl : lv_has ls 2 [(0, .int x0)]) (h : jJ6_numberOfLeadingZeros_0f7a4 x0 = v) : W p l e (rmz 0 0) s m args below meth c s.heap [] 0 0 (MQ below (k2_QcV (.int v)) args s 0 0 (fun _ => False)) (F0 m 0 ls []) := by
  obtain ⟨hx, hb, hml, hown, hg, hr, hlocks⟩ := id C
  unfold jJ6_numberOfLeadingZeros_0f7a4 at h
  refine lv_iload_n hx hb dJ6_numberOfLeadingZeros_0f7a4_0 rfl (lv_at hl 0 rfl) ?_
  refine lv_if_gt (tgt := 15) hx hb dJ6_numberOfLeadingZeros_0f7a4_1 (by decide) (fun c_1 => ?_) (fun c_1 => ?_)
  · rw [if_pos c_1] at h
    refine lv_bipush (v := 31) hx hb dJ6_numberOfLeadingZeros_0f7a4_15 (by decide) ?_
    refine lv_istore_n (lv' := [(1, .int 31), (0, .int x0)]) hx hb dJ6_numberOfLeadingZeros_0f7a4_17 rfl hl (by decide) rfl (fun ls hl => ?_)
    refine lv_iload_n hx hb dJ6_numberOfLeadingZeros_0f7a4_18 rfl (lv_at hl 1 rfl) ?_
    refine lv_ldcw hx hb hown (hg _ tw_119) dJ6_numberOfLeadingZeros_0f7a4_19 ?_
    refine lv_icmp_lt (tgt := 33) hx hb dJ6_numberOfLeadingZeros_0f7a4_22 (by decide) (fun c_2 => ?_) (fun c_2 => ?_)
    · rw [if_pos c_2] at h
      exact wJ6_numberOfLeadingZeros_0f7a4_B33 C _ _ _ _ (lv_sub hl [1, 0] rfl) h
    · rw [if_neg c_2] at h
      refine lv_iinc (v := 31 + (-16)) (lv' := [(1, .int (31 + (-16))), (0, .int x0)]) hx hb dJ6_numberOfLeadingZeros_0f7a4_25 hl (k := 0) rfl rfl (by decide) rfl (fun ls hl => ?_)
      refine lv_iload_n hx hb dJ6_numberOfLeadingZeros_0f7a4_28 rfl (lv_at hl 1 rfl) ?_
      refine lv_bipush (v := 16) hx hb dJ6_numberOfLeadingZeros_0f7a4_29 (by decide) ?_
      refine lv_iushr (v := iu x0 16) hx hb dJ6_numberOfLeadingZeros_0f7a4_31 rfl ?_
      refine lv_istore_n (lv' := [(0, .int (iu x0 16)), (1, .int (31 + (-16)))]) hx hb dJ6_numberOfLeadingZeros_0f7a4_32 rfl hl (by decide) rfl (fun ls hl => ?_)
      exact wJ6_numberOfLeadingZeros_0f7a4_B33 C _ _ _ _ (lv_sub hl [0, 1] rfl) h
  · rw [if_neg c_1] at h
    refine lv_iload_n hx hb dJ6_numberOfLeadingZeros_0f7a4_4 rfl (lv_at hl 0 rfl) ?_
    refine rg_i (pj := 14) (v := (if x0 = 0 then 32 else 0 : Int32)) (ls := ls) (rest := []) (fun kJ => ?_) ?_
    · refine lv_if_ne (tgt := 13) hx hb dJ6_numberOfLeadingZeros_0f7a4_5 (by decide) (fun c_3 => ?_) (fun c_3 => ?_)
      · refine lv_iconst (v := 0) hx hb dJ6_numberOfLeadingZeros_0f7a4_13 (by decide) ?_
        exact kJ _ (by rw [if_neg c_3])
      · refine lv_bipush (v := 32) hx hb dJ6_numberOfLeadingZeros_0f7a4_8 (by decide) ?_
        refine lv_goto (tgt := 14) hx hb dJ6_numberOfLeadingZeros_0f7a4_10 (by decide) ?_
        exact kJ _ (by rw [if_pos c_3])
    exact W.iret hx hb hr (fun t ht _ => ⟨by rw [← h], ht⟩) (fun q h9 => nomatch h9) dJ6_numberOfLeadingZeros_0f7a4_14
theorem sc_J6_numberOfLeadingZeros_0f7a4 : SC yJ6_numberOfLeadingZeros_0f7a4 cJ6_numberOfLeadingZeros_0f7a4 2 (some .int) 1 := ⟨tw_117, tw_10, tw_118, by decide +kernel⟩
theorem cJ6_numberOfLeadingZeros_0f7a4_met (l : Launch) (x0 : Int32) (v : Int32) (h : jJ6_numberOfLeadingZeros_0f7a4 x0 = v) : PM l yJ6_numberOfLeadingZeros_0f7a4 cJ6_numberOfLeadingZeros_0f7a4 2 (some .int) (rmz 0 0) [.int x0] (.int v) :=
  pm_of (own := RJ6) (by decide +kernel) rfl (Nat.le_of_ble_eq_true rfl) (fun p e s m below meth c ls C hl => wJ6_numberOfLeadingZeros_0f7a4_0 C x0 ls v hl h)

/-! java/lang/Long.numberOfLeadingZeros(J)I -/
def jJ13_numberOfLeadingZeros_95d88 (x0 : Int64) : Int32 := (if ((su x0 32).toInt32) = 0 then 32 + (jJ6_numberOfLeadingZeros_0f7a4 x0.toInt32) else jJ6_numberOfLeadingZeros_0f7a4 ((su x0 32).toInt32) : Int32)
set_option maxHeartbeats 4000000 in
set_option maxRecDepth 100000 in
theorem wJ13_numberOfLeadingZeros_95d88_0 {p : Program} {l : Launch} {e : Env} {s : State} {m : MethodId} {args : Array Value} {below : List Frame} {meth : Method} {c : Code} (C : CX p s m args meth c RJ13 cJ13_numberOfLeadingZeros_95d88 3 (some .int)) (x0 : Int64) (ls : Array Slot) (v : Int32) (hl : lv_has ls 3 [(0, .long x0)]) (h : jJ13_numberOfLeadingZeros_95d88 x0 = v) : W p l e (rmz 1 21) s m args below meth c s.heap [] 0 0 (MQ below (k2_QcV (.int v)) args s 0 0 (fun _ => False)) (F0 m 0 ls []) := by
  obtain ⟨hx, hb, hml, hown, hg, hr, hlocks⟩ := id C
  unfold jJ13_numberOfLeadingZeros_95d88 at h
  refine lv_lload_n hx hb dJ13_numberOfLeadingZeros_95d88_0 rfl (lv_at hl 0 rfl) ?_
  refine lv_bipush (v := 32) hx hb dJ13_numberOfLeadingZeros_95d88_1 (by decide) ?_
  refine lv_lushr (v := su x0 32) hx hb dJ13_numberOfLeadingZeros_95d88_3 rfl ?_
  refine lv_l2i hx hb dJ13_numberOfLeadingZeros_95d88_4 rfl ?_
  refine lv_istore_n (lv' := [(2, .int ((su x0 32).toInt32)), (0, .long x0)]) hx hb dJ13_numberOfLeadingZeros_95d88_5 rfl hl (by decide) rfl (fun ls hl => ?_)
  refine lv_iload_n hx hb dJ13_numberOfLeadingZeros_95d88_6 rfl (lv_at hl 0 rfl) ?_
  refine rg_i (pj := 25) (v := (if ((su x0 32).toInt32) = 0 then 32 + (jJ6_numberOfLeadingZeros_0f7a4 x0.toInt32) else jJ6_numberOfLeadingZeros_0f7a4 ((su x0 32).toInt32) : Int32)) (ls := ls) (rest := []) (fun kJ => ?_) ?_
  · refine lv_if_ne (tgt := 21) hx hb dJ13_numberOfLeadingZeros_95d88_7 (by decide) (fun c_1 => ?_) (fun c_1 => ?_)
    · refine lv_iload_n hx hb dJ13_numberOfLeadingZeros_95d88_21 rfl (lv_at hl 0 rfl) ?_
      refine pcall C (cJ6_numberOfLeadingZeros_0f7a4_met l _ _ rfl) sc_J6_numberOfLeadingZeros_0f7a4 tw_116 (by decide) rfl hl.1 (rest := []) rfl (Nat.le_of_ble_eq_true rfl) (by decide) dJ13_numberOfLeadingZeros_95d88_22 ?_
      exact kJ _ (by rw [if_neg c_1])
    · refine lv_bipush (v := 32) hx hb dJ13_numberOfLeadingZeros_95d88_10 (by decide) ?_
      refine lv_lload_n hx hb dJ13_numberOfLeadingZeros_95d88_12 rfl (lv_at hl 1 rfl) ?_
      refine lv_l2i hx hb dJ13_numberOfLeadingZeros_95d88_13 rfl ?_
      refine pcall C (cJ6_numberOfLeadingZeros_0f7a4_met l _ _ rfl) sc_J6_numberOfLeadingZeros_0f7a4 tw_116 (by decide) rfl hl.1 (rest := [.int 32]) rfl (Nat.le_of_ble_eq_true rfl) (by decide) dJ13_numberOfLeadingZeros_95d88_14 ?_
      refine lv_iadd hx hb dJ13_numberOfLeadingZeros_95d88_17 ?_
      refine lv_goto (tgt := 25) hx hb dJ13_numberOfLeadingZeros_95d88_18 (by decide) ?_
      exact kJ _ (by rw [if_pos c_1])
  exact W.iret hx hb hr (fun t ht _ => ⟨by rw [← h], ht⟩) (fun q h9 => nomatch h9) dJ13_numberOfLeadingZeros_95d88_25
theorem sc_J13_numberOfLeadingZeros_95d88 : SC yJ13_numberOfLeadingZeros_95d88 cJ13_numberOfLeadingZeros_95d88 3 (some .int) 1 := ⟨tw_114, tw_9, tw_115, by decide +kernel⟩
theorem cJ13_numberOfLeadingZeros_95d88_met (l : Launch) (x0 : Int64) (v : Int32) (h : jJ13_numberOfLeadingZeros_95d88 x0 = v) : PM l yJ13_numberOfLeadingZeros_95d88 cJ13_numberOfLeadingZeros_95d88 3 (some .int) (rmz 1 21) [.long x0] (.int v) :=
  pm_of (own := RJ13) (by decide +kernel) rfl (Nat.le_of_ble_eq_true rfl) (fun p e s m below meth c ls C hl => wJ13_numberOfLeadingZeros_95d88_0 C x0 ls v hl h)

/-! RealDesk.lowPlaces(JI)J -/
def jX0_lowPlaces (x0 : Int64) (x2 : Int32) : Int64 := x0 &&& ((sl 1 x2) - 1)
set_option maxHeartbeats 4000000 in
set_option maxRecDepth 100000 in
theorem wX0_lowPlaces_0 {p : Program} {l : Launch} {e : Env} {s : State} {m : MethodId} {args : Array Value} {below : List Frame} {meth : Method} {c : Code} (C : CX p s m args meth c RX0 cX0_lowPlaces 3 (some .long)) (x0 : Int64) (x2 : Int32) (ls : Array Slot) (v : Int64) (hl : lv_has ls 3 [(0, .long x0), (2, .int x2)]) (h : jX0_lowPlaces x0 x2 = v) : W p l e (rmz 0 0) s m args below meth c s.heap [] 0 0 (MQ below (k2_QcV (.long v)) args s 0 0 (fun _ => False)) (F0 m 0 ls []) := by
  obtain ⟨hx, hb, hml, hown, hg, hr, hlocks⟩ := id C
  unfold jX0_lowPlaces at h
  refine lv_lload_n hx hb dX0_lowPlaces_0 rfl (lv_at hl 0 rfl) ?_
  refine lv_lconst (v := 1) hx hb dX0_lowPlaces_1 (by decide) ?_
  refine lv_iload_n hx hb dX0_lowPlaces_2 rfl (lv_at hl 1 rfl) ?_
  refine lv_lshl (v := sl 1 x2) hx hb dX0_lowPlaces_3 rfl ?_
  refine lv_lconst (v := 1) hx hb dX0_lowPlaces_4 (by decide) ?_
  refine lv_lsub hx hb dX0_lowPlaces_5 ?_
  refine lv_land hx hb dX0_lowPlaces_6 ?_
  exact W.lret hx hb hr (fun t ht _ => ⟨by rw [← h], ht⟩) (fun q h9 => nomatch h9) dX0_lowPlaces_7
theorem sc_X0_lowPlaces : SC yX0_lowPlaces cX0_lowPlaces 3 (some .long) 2 := ⟨tw_128, tw_1, tw_129, by decide +kernel⟩
theorem cX0_lowPlaces_met (l : Launch) (x0 : Int64) (x2 : Int32) (v : Int64) (h : jX0_lowPlaces x0 x2 = v) : PM l yX0_lowPlaces cX0_lowPlaces 3 (some .long) (rmz 0 0) [.long x0, .int x2] (.long v) :=
  pm_of (own := RX0) (by decide +kernel) rfl (Nat.le_of_ble_eq_true rfl) (fun p e s m below meth c ls C hl => wX0_lowPlaces_0 C x0 x2 ls v hl h)

/-! RealDesk.isOver(J)Z -/
def jX0_isOver (x0 : Int64) : Int32 := (if 9218868437227405312 ≤ x0 then 1 else (if (-9218868437227405312) < x0 then 0 else 1 : Int32) : Int32)
set_option maxHeartbeats 4000000 in
set_option maxRecDepth 100000 in
theorem wX0_isOver_0 {p : Program} {l : Launch} {e : Env} {s : State} {m : MethodId} {args : Array Value} {below : List Frame} {meth : Method} {c : Code} (C : CX p s m args meth c RX0 cX0_isOver 2 (some .boolean)) (x0 : Int64) (ls : Array Slot) (v : Int32) (hl : lv_has ls 2 [(0, .long x0)]) (h : jX0_isOver x0 = v) : W p l e (rmz 0 0) s m args below meth c s.heap [] 0 0 (MQ below (k2_QcV (.int v)) args s 0 0 (fun _ => False)) (F0 m 0 ls []) := by
  obtain ⟨hx, hb, hml, hown, hg, hr, hlocks⟩ := id C
  unfold jX0_isOver at h
  refine lv_lload_n hx hb dX0_isOver_0 rfl (lv_at hl 0 rfl) ?_
  refine lv_ldc2 hx hb hown (hg _ tw_123) dX0_isOver_1 ?_
  refine rg_i (pj := 21) (v := (if 9218868437227405312 ≤ x0 then 1 else (if (-9218868437227405312) < x0 then 0 else 1 : Int32) : Int32)) (ls := ls) (rest := []) (fun kJ => ?_) ?_
  · refine lc_ge (tgt := 16) hx hb dX0_isOver_4 dX0_isOver_5 (by decide) (fun c_1 => ?_) (fun c_1 => ?_)
    · refine lv_iconst (v := 1) hx hb dX0_isOver_16 (by decide) ?_
      refine lv_goto (tgt := 21) hx hb dX0_isOver_17 (by decide) ?_
      exact kJ _ (by rw [if_pos c_1])
    · refine lv_lload_n hx hb dX0_isOver_8 rfl (lv_at hl 0 rfl) ?_
      refine lv_ldc2 hx hb hown (hg _ tw_140) dX0_isOver_9 ?_
      refine lc_gt (tgt := 20) hx hb dX0_isOver_12 dX0_isOver_13 (by decide) (fun c_2 => ?_) (fun c_2 => ?_)
      · refine lv_iconst (v := 0) hx hb dX0_isOver_20 (by decide) ?_
        exact kJ _ (by rw [if_neg c_1, if_pos c_2])
      · refine lv_iconst (v := 1) hx hb dX0_isOver_16 (by decide) ?_
        refine lv_goto (tgt := 21) hx hb dX0_isOver_17 (by decide) ?_
        exact kJ _ (by rw [if_neg c_1, if_neg c_2])
  exact W.zret hx hb hr (by first | rfl | (split <;> rfl) | (split <;> first | rfl | (split <;> rfl))) (fun t ht _ => ⟨by rw [← h], ht⟩) (fun q h9 => nomatch h9) dX0_isOver_21
theorem sc_X0_isOver : SC yX0_isOver cX0_isOver 2 (some .boolean) 1 := ⟨tw_138, tw_1, tw_139, by decide +kernel⟩
theorem cX0_isOver_met (l : Launch) (x0 : Int64) (v : Int32) (h : jX0_isOver x0 = v) : PM l yX0_isOver cX0_isOver 2 (some .boolean) (rmz 0 0) [.long x0] (.int v) :=
  pm_of (own := RX0) (by decide +kernel) rfl (Nat.le_of_ble_eq_true rfl) (fun p e s m below meth c ls C hl => wX0_isOver_0 C x0 ls v hl h)

/-! RealDesk.withSignOf(JJ)J -/
def jX0_withSignOf (x0 : Int64) (x2 : Int64) : Int64 := (if 0 ≤ x2 then x0 else -x0 : Int64)
set_option maxHeartbeats 4000000 in
set_option maxRecDepth 100000 in
theorem wX0_withSignOf_0 {p : Program} {l : Launch} {e : Env} {s : State} {m : MethodId} {args : Array Value} {below : List Frame} {meth : Method} {c : Code} (C : CX p s m args meth c RX0 cX0_withSignOf 4 (some .long)) (x0 : Int64) (x2 : Int64) (ls : Array Slot) (v : Int64) (hl : lv_has ls 4 [(0, .long x0), (2, .long x2)]) (h : jX0_withSignOf x0 x2 = v) : W p l e (rmz 0 0) s m args below meth c s.heap [] 0 0 (MQ below (k2_QcV (.long v)) args s 0 0 (fun _ => False)) (F0 m 0 ls []) := by
  obtain ⟨hx, hb, hml, hown, hg, hr, hlocks⟩ := id C
  unfold jX0_withSignOf at h
  refine lv_lload_n hx hb dX0_withSignOf_0 rfl (lv_at hl 1 rfl) ?_
  refine lv_lconst (v := 0) hx hb dX0_withSignOf_1 (by decide) ?_
  refine rg_l (pj := 12) (v := (if 0 ≤ x2 then x0 else -x0 : Int64)) (ls := ls) (rest := []) (fun kJ => ?_) ?_
  · refine lc_ge (tgt := 11) hx hb dX0_withSignOf_2 dX0_withSignOf_3 (by decide) (fun c_1 => ?_) (fun c_1 => ?_)
    · refine lv_lload_n hx hb dX0_withSignOf_11 rfl (lv_at hl 0 rfl) ?_
      exact kJ _ (by rw [if_pos c_1])
    · refine lv_lload_n hx hb dX0_withSignOf_6 rfl (lv_at hl 0 rfl) ?_
      refine lv_lneg hx hb dX0_withSignOf_7 ?_
      refine lv_goto (tgt := 12) hx hb dX0_withSignOf_8 (by decide) ?_
      exact kJ _ (by rw [if_neg c_1])
  exact W.lret hx hb hr (fun t ht _ => ⟨by rw [← h], ht⟩) (fun q h9 => nomatch h9) dX0_withSignOf_12
theorem sc_X0_withSignOf : SC yX0_withSignOf cX0_withSignOf 4 (some .long) 2 := ⟨tw_131, tw_1, tw_132, by decide +kernel⟩
theorem cX0_withSignOf_met (l : Launch) (x0 : Int64) (x2 : Int64) (v : Int64) (h : jX0_withSignOf x0 x2 = v) : PM l yX0_withSignOf cX0_withSignOf 4 (some .long) (rmz 0 0) [.long x0, .long x2] (.long v) :=
  pm_of (own := RX0) (by decide +kernel) rfl (Nat.le_of_ble_eq_true rfl) (fun p e s m below meth c ls C hl => wX0_withSignOf_0 C x0 x2 ls v hl h)

/-! RealDesk.mOf(J)J -/
def jX0_mOf (x0 : Int64) : Int64 := (if 9007199254740992 ≤ (jabsl x0) then (jX0_lowPlaces (jabsl x0) 52) ||| 4503599627370496 else jabsl x0 : Int64)
set_option maxHeartbeats 4000000 in
set_option maxRecDepth 100000 in
theorem wX0_mOf_0 {p : Program} {l : Launch} {e : Env} {s : State} {m : MethodId} {args : Array Value} {below : List Frame} {meth : Method} {c : Code} (C : CX p s m args meth c RX0 cX0_mOf 4 (some .long)) (x0 : Int64) (ls : Array Slot) (v : Int64) (hl : lv_has ls 4 [(0, .long x0)]) (h : jX0_mOf x0 = v) : W p l e (rmz 1 22) s m args below meth c s.heap [] 0 0 (MQ below (k2_QcV (.long v)) args s 0 0 (fun _ => False)) (F0 m 0 ls []) := by
  obtain ⟨hx, hb, hml, hown, hg, hr, hlocks⟩ := id C
  unfold jX0_mOf at h
  refine lv_lload_n hx hb dX0_mOf_0 rfl (lv_at hl 0 rfl) ?_
  refine q_absl C tw_107 (by decide) (Nat.le_of_ble_eq_true rfl) (by decide) hl.1 dX0_mOf_1 ?_
  refine lv_lstore_n (lv' := [(2, .long (jabsl x0)), (0, .long x0)]) hx hb dX0_mOf_4 rfl hl (by decide) rfl (fun ls hl => ?_)
  refine lv_lload_n hx hb dX0_mOf_5 rfl (lv_at hl 0 rfl) ?_
  refine lv_ldc2 hx hb hown (hg _ tw_103) dX0_mOf_6 ?_
  refine rg_l (pj := 27) (v := (if 9007199254740992 ≤ (jabsl x0) then (jX0_lowPlaces (jabsl x0) 52) ||| 4503599627370496 else jabsl x0 : Int64)) (ls := ls) (rest := []) (fun kJ => ?_) ?_
  · refine lc_ge (tgt := 17) hx hb dX0_mOf_9 dX0_mOf_10 (by decide) (fun c_1 => ?_) (fun c_1 => ?_)
    · refine lv_lload_n hx hb dX0_mOf_17 rfl (lv_at hl 0 rfl) ?_
      refine lv_bipush (v := 52) hx hb dX0_mOf_18 (by decide) ?_
      refine pcall C (cX0_lowPlaces_met l _ _ _ rfl) sc_X0_lowPlaces tw_127 (by decide) rfl hl.1 (rest := []) rfl (Nat.le_of_ble_eq_true rfl) (by decide) dX0_mOf_20 ?_
      refine lv_ldc2 hx hb hown (hg _ tw_174) dX0_mOf_23 ?_
      refine lv_lor hx hb dX0_mOf_26 ?_
      exact kJ _ (by rw [if_pos c_1])
    · refine lv_lload_n hx hb dX0_mOf_13 rfl (lv_at hl 0 rfl) ?_
      refine lv_goto (tgt := 27) hx hb dX0_mOf_14 (by decide) ?_
      exact kJ _ (by rw [if_neg c_1])
  exact W.lret hx hb hr (fun t ht _ => ⟨by rw [← h], ht⟩) (fun q h9 => nomatch h9) dX0_mOf_27
theorem sc_X0_mOf : SC yX0_mOf cX0_mOf 4 (some .long) 1 := ⟨tw_172, tw_1, tw_173, by decide +kernel⟩
theorem cX0_mOf_met (l : Launch) (x0 : Int64) (v : Int64) (h : jX0_mOf x0 = v) : PM l yX0_mOf cX0_mOf 4 (some .long) (rmz 1 22) [.long x0] (.long v) :=
  pm_of (own := RX0) (by decide +kernel) rfl (Nat.le_of_ble_eq_true rfl) (fun p e s m below meth c ls C hl => wX0_mOf_0 C x0 ls v hl h)

/-! RealDesk.eOf(J)I -/
def jX0_eOf (x0 : Int64) : Int32 := (if 9007199254740992 ≤ (jabsl x0) then (((su (jabsl x0) 52).toInt32) - 1) + (-1074) else (-1074) : Int32)
set_option maxHeartbeats 4000000 in
set_option maxRecDepth 100000 in
theorem wX0_eOf_0 {p : Program} {l : Launch} {e : Env} {s : State} {m : MethodId} {args : Array Value} {below : List Frame} {meth : Method} {c : Code} (C : CX p s m args meth c RX0 cX0_eOf 4 (some .int)) (x0 : Int64) (ls : Array Slot) (v : Int32) (hl : lv_has ls 4 [(0, .long x0)]) (h : jX0_eOf x0 = v) : W p l e (rmz 1 21) s m args below meth c s.heap [] 0 0 (MQ below (k2_QcV (.int v)) args s 0 0 (fun _ => False)) (F0 m 0 ls []) := by
  obtain ⟨hx, hb, hml, hown, hg, hr, hlocks⟩ := id C
  unfold jX0_eOf at h
  refine lv_lload_n hx hb dX0_eOf_0 rfl (lv_at hl 0 rfl) ?_
  refine q_absl C tw_107 (by decide) (Nat.le_of_ble_eq_true rfl) (by decide) hl.1 dX0_eOf_1 ?_
  refine lv_lstore_n (lv' := [(2, .long (jabsl x0)), (0, .long x0)]) hx hb dX0_eOf_4 rfl hl (by decide) rfl (fun ls hl => ?_)
  refine lv_lload_n hx hb dX0_eOf_5 rfl (lv_at hl 0 rfl) ?_
  refine lv_ldc2 hx hb hown (hg _ tw_103) dX0_eOf_6 ?_
  refine rg_i (pj := 30) (v := (if 9007199254740992 ≤ (jabsl x0) then (((su (jabsl x0) 52).toInt32) - 1) + (-1074) else (-1074) : Int32)) (ls := ls) (rest := []) (fun kJ => ?_) ?_
  · refine lc_ge (tgt := 19) hx hb dX0_eOf_9 dX0_eOf_10 (by decide) (fun c_1 => ?_) (fun c_1 => ?_)
    · refine lv_lload_n hx hb dX0_eOf_19 rfl (lv_at hl 0 rfl) ?_
      refine lv_bipush (v := 52) hx hb dX0_eOf_20 (by decide) ?_
      refine lv_lushr (v := su (jabsl x0) 52) hx hb dX0_eOf_22 rfl ?_
      refine lv_l2i hx hb dX0_eOf_23 rfl ?_
      refine lv_iconst (v := 1) hx hb dX0_eOf_24 (by decide) ?_
      refine lv_isub hx hb dX0_eOf_25 ?_
      refine lv_sipush (v := (-1074)) hx hb dX0_eOf_26 (by decide) ?_
      refine lv_iadd hx hb dX0_eOf_29 ?_
      exact kJ _ (by rw [if_pos c_1])
    · refine lv_sipush (v := (-1074)) hx hb dX0_eOf_13 (by decide) ?_
      refine lv_goto (tgt := 30) hx hb dX0_eOf_16 (by decide) ?_
      exact kJ _ (by rw [if_neg c_1])
  exact W.iret hx hb hr (fun t ht _ => ⟨by rw [← h], ht⟩) (fun q h9 => nomatch h9) dX0_eOf_30
theorem sc_X0_eOf : SC yX0_eOf cX0_eOf 4 (some .int) 1 := ⟨tw_166, tw_1, tw_167, by decide +kernel⟩
theorem cX0_eOf_met (l : Launch) (x0 : Int64) (v : Int32) (h : jX0_eOf x0 = v) : PM l yX0_eOf cX0_eOf 4 (some .int) (rmz 1 21) [.long x0] (.int v) :=
  pm_of (own := RX0) (by decide +kernel) rfl (Nat.le_of_ble_eq_true rfl) (fun p e s m below meth c ls C hl => wX0_eOf_0 C x0 ls v hl h)

/-! RealDesk.lift(J)I -/
def jX0_lift (x0 : Int64) : Int32 := jmax 0 ((jJ13_numberOfLeadingZeros_95d88 (jX0_mOf x0)) - 11)
set_option maxHeartbeats 4000000 in
set_option maxRecDepth 100000 in
theorem wX0_lift_0 {p : Program} {l : Launch} {e : Env} {s : State} {m : MethodId} {args : Array Value} {below : List Frame} {meth : Method} {c : Code} (C : CX p s m args meth c RX0 cX0_lift 2 (some .int)) (x0 : Int64) (ls : Array Slot) (v : Int32) (hl : lv_has ls 2 [(0, .long x0)]) (h : jX0_lift x0 = v) : W p l e (rmz 2 45) s m args below meth c s.heap [] 0 0 (MQ below (k2_QcV (.int v)) args s 0 0 (fun _ => False)) (F0 m 0 ls []) := by
  obtain ⟨hx, hb, hml, hown, hg, hr, hlocks⟩ := id C
  unfold jX0_lift at h
  refine lv_iconst (v := 0) hx hb dX0_lift_0 (by decide) ?_
  refine lv_lload_n hx hb dX0_lift_1 rfl (lv_at hl 0 rfl) ?_
  refine pcall C (cX0_mOf_met l _ _ rfl) sc_X0_mOf tw_171 (by decide) rfl hl.1 (rest := [.int 0]) rfl (Nat.le_of_ble_eq_true rfl) (by decide) dX0_lift_2 ?_
  refine pcall C (cJ13_numberOfLeadingZeros_95d88_met l _ _ rfl) sc_J13_numberOfLeadingZeros_95d88 tw_113 (by decide) rfl hl.1 (rest := [.int 0]) rfl (Nat.le_of_ble_eq_true rfl) (by decide) dX0_lift_5 ?_
  refine lv_bipush (v := 11) hx hb dX0_lift_8 (by decide) ?_
  refine lv_isub hx hb dX0_lift_10 ?_
  refine q_max C tw_120 (by decide) (Nat.le_of_ble_eq_true rfl) (by decide) hl.1 dX0_lift_11 ?_
  exact W.iret hx hb hr (fun t ht _ => ⟨by rw [← h], ht⟩) (fun q h9 => nomatch h9) dX0_lift_14
theorem sc_X0_lift : SC yX0_lift cX0_lift 2 (some .int) 1 := ⟨tw_185, tw_1, tw_186, by decide +kernel⟩
theorem cX0_lift_met (l : Launch) (x0 : Int64) (v : Int32) (h : jX0_lift x0 = v) : PM l yX0_lift cX0_lift 2 (some .int) (rmz 2 45) [.long x0] (.int v) :=
  pm_of (own := RX0) (by decide +kernel) rfl (Nat.le_of_ble_eq_true rfl) (fun p e s m below meth c ls C hl => wX0_lift_0 C x0 ls v hl h)

/-! RealDesk.liftedM(J)J -/
def jX0_liftedM (x0 : Int64) : Int64 := sl (jX0_mOf x0) (jX0_lift x0)
set_option maxHeartbeats 4000000 in
set_option maxRecDepth 100000 in
theorem wX0_liftedM_0 {p : Program} {l : Launch} {e : Env} {s : State} {m : MethodId} {args : Array Value} {below : List Frame} {meth : Method} {c : Code} (C : CX p s m args meth c RX0 cX0_liftedM 2 (some .long)) (x0 : Int64) (ls : Array Slot) (v : Int64) (hl : lv_has ls 2 [(0, .long x0)]) (h : jX0_liftedM x0 = v) : W p l e (rmz 3 66) s m args below meth c s.heap [] 0 0 (MQ below (k2_QcV (.long v)) args s 0 0 (fun _ => False)) (F0 m 0 ls []) := by
  obtain ⟨hx, hb, hml, hown, hg, hr, hlocks⟩ := id C
  unfold jX0_liftedM at h
  refine lv_lload_n hx hb dX0_liftedM_0 rfl (lv_at hl 0 rfl) ?_
  refine pcall C (cX0_mOf_met l _ _ rfl) sc_X0_mOf tw_171 (by decide) rfl hl.1 (rest := []) rfl (Nat.le_of_ble_eq_true rfl) (by decide) dX0_liftedM_1 ?_
  refine lv_lload_n hx hb dX0_liftedM_4 rfl (lv_at hl 0 rfl) ?_
  refine pcall C (cX0_lift_met l _ _ rfl) sc_X0_lift tw_184 (by decide) rfl hl.1 (rest := [.long (jX0_mOf x0)]) rfl (Nat.le_of_ble_eq_true rfl) (by decide) dX0_liftedM_5 ?_
  refine lv_lshl (v := sl (jX0_mOf x0) (jX0_lift x0)) hx hb dX0_liftedM_8 rfl ?_
  exact W.lret hx hb hr (fun t ht _ => ⟨by rw [← h], ht⟩) (fun q h9 => nomatch h9) dX0_liftedM_9
theorem sc_X0_liftedM : SC yX0_liftedM cX0_liftedM 2 (some .long) 1 := ⟨tw_188, tw_1, tw_189, by decide +kernel⟩
theorem cX0_liftedM_met (l : Launch) (x0 : Int64) (v : Int64) (h : jX0_liftedM x0 = v) : PM l yX0_liftedM cX0_liftedM 2 (some .long) (rmz 3 66) [.long x0] (.long v) :=
  pm_of (own := RX0) (by decide +kernel) rfl (Nat.le_of_ble_eq_true rfl) (fun p e s m below meth c ls C hl => wX0_liftedM_0 C x0 ls v hl h)

/-! RealDesk.liftedE(J)I -/
def jX0_liftedE (x0 : Int64) : Int32 := (jX0_eOf x0) - (jX0_lift x0)
set_option maxHeartbeats 4000000 in
set_option maxRecDepth 100000 in
theorem wX0_liftedE_0 {p : Program} {l : Launch} {e : Env} {s : State} {m : MethodId} {args : Array Value} {below : List Frame} {meth : Method} {c : Code} (C : CX p s m args meth c RX0 cX0_liftedE 2 (some .int)) (x0 : Int64) (ls : Array Slot) (v : Int32) (hl : lv_has ls 2 [(0, .long x0)]) (h : jX0_liftedE x0 = v) : W p l e (rmz 3 66) s m args below meth c s.heap [] 0 0 (MQ below (k2_QcV (.int v)) args s 0 0 (fun _ => False)) (F0 m 0 ls []) := by
  obtain ⟨hx, hb, hml, hown, hg, hr, hlocks⟩ := id C
  unfold jX0_liftedE at h
  refine lv_lload_n hx hb dX0_liftedE_0 rfl (lv_at hl 0 rfl) ?_
  refine pcall C (cX0_eOf_met l _ _ rfl) sc_X0_eOf tw_165 (by decide) rfl hl.1 (rest := []) rfl (Nat.le_of_ble_eq_true rfl) (by decide) dX0_liftedE_1 ?_
  refine lv_lload_n hx hb dX0_liftedE_4 rfl (lv_at hl 0 rfl) ?_
  refine pcall C (cX0_lift_met l _ _ rfl) sc_X0_lift tw_184 (by decide) rfl hl.1 (rest := [.int (jX0_eOf x0)]) rfl (Nat.le_of_ble_eq_true rfl) (by decide) dX0_liftedE_5 ?_
  refine lv_isub hx hb dX0_liftedE_8 ?_
  exact W.iret hx hb hr (fun t ht _ => ⟨by rw [← h], ht⟩) (fun q h9 => nomatch h9) dX0_liftedE_9
theorem sc_X0_liftedE : SC yX0_liftedE cX0_liftedE 2 (some .int) 1 := ⟨tw_182, tw_1, tw_183, by decide +kernel⟩
theorem cX0_liftedE_met (l : Launch) (x0 : Int64) (v : Int32) (h : jX0_liftedE x0 = v) : PM l yX0_liftedE cX0_liftedE 2 (some .int) (rmz 3 66) [.long x0] (.int v) :=
  pm_of (own := RX0) (by decide +kernel) rfl (Nat.le_of_ble_eq_true rfl) (fun p e s m below meth c ls C hl => wX0_liftedE_0 C x0 ls v hl h)

/-! RealDesk.lower(JI)J -/
def jX0_lower (x0 : Int64) (x2 : Int32) : Int64 := (if x2 < 62 then (su x0 x2) ||| (if (jX0_lowPlaces x0 x2) = 0 then 0 else 1 : Int64) else (if x0 = 0 then 0 else 1 : Int64))
set_option maxHeartbeats 4000000 in
set_option maxRecDepth 100000 in
theorem wX0_lower_0 {p : Program} {l : Launch} {e : Env} {s : State} {m : MethodId} {args : Array Value} {below : List Frame} {meth : Method} {c : Code} (C : CX p s m args meth c RX0 cX0_lower 5 (some .long)) (x0 : Int64) (x2 : Int32) (ls : Array Slot) (v : Int64) (hl : lv_has ls 5 [(0, .long x0), (2, .int x2)]) (h : jX0_lower x0 x2 = v) : W p l e (rmz 1 22) s m args below meth c s.heap [] 0 0 (MQ below (k2_QcV (.long v)) args s 0 0 (fun _ => False)) (F0 m 0 ls []) := by
  obtain ⟨hx, hb, hml, hown, hg, hr, hlocks⟩ := id C
  unfold jX0_lower at h
  refine lv_iload_n hx hb dX0_lower_0 rfl (lv_at hl 1 rfl) ?_
  refine lv_bipush (v := 62) hx hb dX0_lower_1 (by decide) ?_
  refine lv_icmp_lt (tgt := 18) hx hb dX0_lower_3 (by decide) (fun c_1 => ?_) (fun c_1 => ?_)
  · rw [if_pos c_1] at h
    refine lv_lload_n hx hb dX0_lower_18 rfl (lv_at hl 0 rfl) ?_
    refine lv_iload_n hx hb dX0_lower_19 rfl (lv_at hl 1 rfl) ?_
    refine pcall C (cX0_lowPlaces_met l _ _ _ rfl) sc_X0_lowPlaces tw_127 (by decide) rfl hl.1 (rest := []) rfl (Nat.le_of_ble_eq_true rfl) (by decide) dX0_lower_20 ?_
    refine lv_lconst (v := 0) hx hb dX0_lower_23 (by decide) ?_
    refine rg_l (pj := 33) (v := (if (jX0_lowPlaces x0 x2) = 0 then 0 else 1 : Int64)) (ls := ls) (rest := []) (fun kJ => ?_) ?_
    · refine lc_ne (tgt := 32) hx hb dX0_lower_24 dX0_lower_25 (by decide) (fun c_2 => ?_) (fun c_2 => ?_)
      · refine lv_lconst (v := 1) hx hb dX0_lower_32 (by decide) ?_
        exact kJ _ (by rw [if_neg c_2])
      · refine lv_lconst (v := 0) hx hb dX0_lower_28 (by decide) ?_
        refine lv_goto (tgt := 33) hx hb dX0_lower_29 (by decide) ?_
        exact kJ _ (by rw [if_pos c_2])
    refine lv_lstore_n (lv' := [(3, .long (if (jX0_lowPlaces x0 x2) = 0 then 0 else 1 : Int64)), (0, .long x0), (2, .int x2)]) hx hb dX0_lower_33 rfl hl (by decide) rfl (fun ls hl => ?_)
    refine lv_lload_n hx hb dX0_lower_34 rfl (lv_at hl 1 rfl) ?_
    refine lv_iload_n hx hb dX0_lower_35 rfl (lv_at hl 2 rfl) ?_
    refine lv_lushr (v := su x0 x2) hx hb dX0_lower_36 rfl ?_
    refine lv_lload_n hx hb dX0_lower_37 rfl (lv_at hl 0 rfl) ?_
    refine lv_lor hx hb dX0_lower_38 ?_
    exact W.lret hx hb hr (fun t ht _ => ⟨by rw [← h], ht⟩) (fun q h9 => nomatch h9) dX0_lower_39
  · rw [if_neg c_1] at h
    refine lv_lload_n hx hb dX0_lower_6 rfl (lv_at hl 0 rfl) ?_
    refine lv_lconst (v := 0) hx hb dX0_lower_7 (by decide) ?_
    refine rg_l (pj := 17) (v := (if x0 = 0 then 0 else 1 : Int64)) (ls := ls) (rest := []) (fun kJ => ?_) ?_
    · refine lc_ne (tgt := 16) hx hb dX0_lower_8 dX0_lower_9 (by decide) (fun c_3 => ?_) (fun c_3 => ?_)
      · refine lv_lconst (v := 1) hx hb dX0_lower_16 (by decide) ?_
        exact kJ _ (by rw [if_neg c_3])
      · refine lv_lconst (v := 0) hx hb dX0_lower_12 (by decide) ?_
        refine lv_goto (tgt := 17) hx hb dX0_lower_13 (by decide) ?_
        exact kJ _ (by rw [if_pos c_3])
    exact W.lret hx hb hr (fun t ht _ => ⟨by rw [← h], ht⟩) (fun q h9 => nomatch h9) dX0_lower_17
theorem sc_X0_lower : SC yX0_lower cX0_lower 5 (some .long) 2 := ⟨tw_176, tw_1, tw_177, by decide +kernel⟩
theorem cX0_lower_met (l : Launch) (x0 : Int64) (x2 : Int32) (v : Int64) (h : jX0_lower x0 x2 = v) : PM l yX0_lower cX0_lower 5 (some .long) (rmz 1 22) [.long x0, .int x2] (.long v) :=
  pm_of (own := RX0) (by decide +kernel) rfl (Nat.le_of_ble_eq_true rfl) (fun p e s m below meth c ls C hl => wX0_lower_0 C x0 x2 ls v hl h)

/-! RealDesk.nearestWhole(JI)J -/
def jX0_nearestWhole (x0 : Int64) (x2 : Int32) : Int64 := (if (if (sl 1 (x2 - 1)) < (jX0_lowPlaces x0 x2) then 1 else (if (jX0_lowPlaces x0 x2) = (sl 1 (x2 - 1)) then (if ((su x0 x2) &&& 1) = 1 then 1 else 0 : Int32) else 0 : Int32) : Int32) = 0 then su x0 x2 else (su x0 x2) + 1 : Int64)
set_option maxHeartbeats 4000000 in
set_option maxRecDepth 100000 in
theorem wX0_nearestWhole_0 {p : Program} {l : Launch} {e : Env} {s : State} {m : MethodId} {args : Array Value} {below : List Frame} {meth : Method} {c : Code} (C : CX p s m args meth c RX0 cX0_nearestWhole 10 (some .long)) (x0 : Int64) (x2 : Int32) (ls : Array Slot) (v : Int64) (hl : lv_has ls 10 [(0, .long x0), (2, .int x2)]) (h : jX0_nearestWhole x0 x2 = v) : W p l e (rmz 1 22) s m args below meth c s.heap [] 0 0 (MQ below (k2_QcV (.long v)) args s 0 0 (fun _ => False)) (F0 m 0 ls []) := by
  obtain ⟨hx, hb, hml, hown, hg, hr, hlocks⟩ := id C
  unfold jX0_nearestWhole at h
  refine lv_lload_n hx hb dX0_nearestWhole_0 rfl (lv_at hl 0 rfl) ?_
  refine lv_iload_n hx hb dX0_nearestWhole_1 rfl (lv_at hl 1 rfl) ?_
  refine lv_lushr (v := su x0 x2) hx hb dX0_nearestWhole_2 rfl ?_
  refine lv_lstore_n (lv' := [(3, .long (su x0 x2)), (0, .long x0), (2, .int x2)]) hx hb dX0_nearestWhole_3 rfl hl (by decide) rfl (fun ls hl => ?_)
  refine lv_lload_n hx hb dX0_nearestWhole_4 rfl (lv_at hl 1 rfl) ?_
  refine lv_iload_n hx hb dX0_nearestWhole_5 rfl (lv_at hl 2 rfl) ?_
  refine pcall C (cX0_lowPlaces_met l _ _ _ rfl) sc_X0_lowPlaces tw_127 (by decide) rfl hl.1 (rest := []) rfl (Nat.le_of_ble_eq_true rfl) (by decide) dX0_nearestWhole_6 ?_
  refine lv_lstore (lv' := [(5, .long (jX0_lowPlaces x0 x2)), (3, .long (su x0 x2)), (0, .long x0), (2, .int x2)]) hx hb dX0_nearestWhole_9 hl (by decide) rfl (fun ls hl => ?_)
  refine lv_lconst (v := 1) hx hb dX0_nearestWhole_11 (by decide) ?_
  refine lv_iload_n hx hb dX0_nearestWhole_12 rfl (lv_at hl 3 rfl) ?_
  refine lv_iconst (v := 1) hx hb dX0_nearestWhole_13 (by decide) ?_
  refine lv_isub hx hb dX0_nearestWhole_14 ?_
  refine lv_lshl (v := sl 1 (x2 - 1)) hx hb dX0_nearestWhole_15 rfl ?_
  refine lv_lstore (lv' := [(7, .long (sl 1 (x2 - 1))), (5, .long (jX0_lowPlaces x0 x2)), (3, .long (su x0 x2)), (0, .long x0), (2, .int x2)]) hx hb dX0_nearestWhole_16 hl (by decide) rfl (fun ls hl => ?_)
  refine lv_lload hx hb dX0_nearestWhole_18 (lv_at hl 1 rfl) ?_
  refine lv_lload hx hb dX0_nearestWhole_20 (lv_at hl 0 rfl) ?_
  refine rg_i (pj := 47) (v := (if (sl 1 (x2 - 1)) < (jX0_lowPlaces x0 x2) then 1 else (if (jX0_lowPlaces x0 x2) = (sl 1 (x2 - 1)) then (if ((su x0 x2) &&& 1) = 1 then 1 else 0 : Int32) else 0 : Int32) : Int32)) (ls := ls) (rest := []) (fun kJ => ?_) ?_
  · refine lc_gt (tgt := 42) hx hb dX0_nearestWhole_22 dX0_nearestWhole_23 (by decide) (fun c_1 => ?_) (fun c_1 => ?_)
    · refine lv_iconst (v := 1) hx hb dX0_nearestWhole_42 (by decide) ?_
      refine lv_goto (tgt := 47) hx hb dX0_nearestWhole_43 (by decide) ?_
      exact kJ _ (by rw [if_pos c_1])
    · refine lv_lload hx hb dX0_nearestWhole_26 (lv_at hl 1 rfl) ?_
      refine lv_lload hx hb dX0_nearestWhole_28 (lv_at hl 0 rfl) ?_
      refine lc_ne (tgt := 46) hx hb dX0_nearestWhole_30 dX0_nearestWhole_31 (by decide) (fun c_2 => ?_) (fun c_2 => ?_)
      · refine lv_iconst (v := 0) hx hb dX0_nearestWhole_46 (by decide) ?_
        exact kJ _ (by rw [if_neg c_1, if_neg c_2])
      · refine lv_lload_n hx hb dX0_nearestWhole_34 rfl (lv_at hl 2 rfl) ?_
        refine lv_lconst (v := 1) hx hb dX0_nearestWhole_35 (by decide) ?_
        refine lv_land hx hb dX0_nearestWhole_36 ?_
        refine lv_lconst (v := 1) hx hb dX0_nearestWhole_37 (by decide) ?_
        refine lc_ne (tgt := 46) hx hb dX0_nearestWhole_38 dX0_nearestWhole_39 (by decide) (fun c_3 => ?_) (fun c_3 => ?_)
        · refine lv_iconst (v := 0) hx hb dX0_nearestWhole_46 (by decide) ?_
          exact kJ _ (by rw [if_neg c_1, if_pos c_2, if_neg c_3])
        · refine lv_iconst (v := 1) hx hb dX0_nearestWhole_42 (by decide) ?_
          refine lv_goto (tgt := 47) hx hb dX0_nearestWhole_43 (by decide) ?_
          exact kJ _ (by rw [if_neg c_1, if_pos c_2, if_pos c_3])
  refine lv_istore (lv' := [(9, .int (if (sl 1 (x2 - 1)) < (jX0_lowPlaces x0 x2) then 1 else (if (jX0_lowPlaces x0 x2) = (sl 1 (x2 - 1)) then (if ((su x0 x2) &&& 1) = 1 then 1 else 0 : Int32) else 0 : Int32) : Int32)), (7, .long (sl 1 (x2 - 1))), (5, .long (jX0_lowPlaces x0 x2)), (3, .long (su x0 x2)), (0, .long x0), (2, .int x2)]) hx hb dX0_nearestWhole_47 hl (by decide) rfl (fun ls hl => ?_)
  refine lv_iload hx hb dX0_nearestWhole_49 (lv_at hl 0 rfl) ?_
  refine rg_l (pj := 61) (v := (if (if (sl 1 (x2 - 1)) < (jX0_lowPlaces x0 x2) then 1 else (if (jX0_lowPlaces x0 x2) = (sl 1 (x2 - 1)) then (if ((su x0 x2) &&& 1) = 1 then 1 else 0 : Int32) else 0 : Int32) : Int32) = 0 then su x0 x2 else (su x0 x2) + 1 : Int64)) (ls := ls) (rest := []) (fun kJ => ?_) ?_
  · refine lv_if_eq (tgt := 60) hx hb dX0_nearestWhole_51 (by decide) (fun c_4 => ?_) (fun c_4 => ?_)
    · refine lv_lload_n hx hb dX0_nearestWhole_60 rfl (lv_at hl 3 rfl) ?_
      exact kJ _ (by rw [if_pos c_4])
    · refine lv_lload_n hx hb dX0_nearestWhole_54 rfl (lv_at hl 3 rfl) ?_
      refine lv_lconst (v := 1) hx hb dX0_nearestWhole_55 (by decide) ?_
      refine lv_ladd hx hb dX0_nearestWhole_56 ?_
      refine lv_goto (tgt := 61) hx hb dX0_nearestWhole_57 (by decide) ?_
      exact kJ _ (by rw [if_neg c_4])
  exact W.lret hx hb hr (fun t ht _ => ⟨by rw [← h], ht⟩) (fun q h9 => nomatch h9) dX0_nearestWhole_61
theorem sc_X0_nearestWhole : SC yX0_nearestWhole cX0_nearestWhole 10 (some .long) 2 := ⟨tw_125, tw_1, tw_126, by decide +kernel⟩
theorem cX0_nearestWhole_met (l : Launch) (x0 : Int64) (x2 : Int32) (v : Int64) (h : jX0_nearestWhole x0 x2 = v) : PM l yX0_nearestWhole cX0_nearestWhole 10 (some .long) (rmz 1 22) [.long x0, .int x2] (.long v) :=
  pm_of (own := RX0) (by decide +kernel) rfl (Nat.le_of_ble_eq_true rfl) (fun p e s m below meth c ls C hl => wX0_nearestWhole_0 C x0 x2 ls v hl h)

/-! RealDesk.nearest(JI)J -/
def jX0_nearest_B78 (x5 : Int32) (x6 : Int64) : Int64 := (sl ((x5 - (-1074)).toInt64) 52) + x6
set_option maxHeartbeats 4000000 in
set_option maxRecDepth 100000 in
theorem wX0_nearest_B78 {p : Program} {l : Launch} {e : Env} {s : State} {m : MethodId} {args : Array Value} {below : List Frame} {meth : Method} {c : Code} (C : CX p s m args meth c RX0 cX0_nearest 8 (some .long)) (x5 : Int32) (x6 : Int64) (ls : Array Slot) (v : Int64) (hl : lv_has ls 8 [(5, .int x5), (6, .long x6)]) (h : jX0_nearest_B78 x5 x6 = v) : W p l e (rmz 2 51) s m args below meth c s.heap [] 0 0 (MQ below (k2_QcV (.long v)) args s 0 0 (fun _ => False)) (F0 m 78 ls []) := by
  obtain ⟨hx, hb, hml, hown, hg, hr, hlocks⟩ := id C
  unfold jX0_nearest_B78 at h
  refine lv_iload hx hb dX0_nearest_78 (lv_at hl 0 rfl) ?_
  refine lv_sipush (v := (-1074)) hx hb dX0_nearest_80 (by decide) ?_
  refine lv_isub hx hb dX0_nearest_83 ?_
  refine lv_i2l hx hb dX0_nearest_84 rfl ?_
  refine lv_bipush (v := 52) hx hb dX0_nearest_85 (by decide) ?_
  refine lv_lshl (v := sl ((x5 - (-1074)).toInt64) 52) hx hb dX0_nearest_87 rfl ?_
  refine lv_lload hx hb dX0_nearest_88 (lv_at hl 1 rfl) ?_
  refine lv_ladd hx hb dX0_nearest_90 ?_
  exact W.lret hx hb hr (fun t ht _ => ⟨by rw [← h], ht⟩) (fun q h9 => nomatch h9) dX0_nearest_91
def jX0_nearest_B45 (x0 : Int64) (x4 : Int32) (x5 : Int32) : Int64 := (if x5 ≤ 971 then jX0_nearest_B78 x5 (if x4 ≤ 0 then sl x0 (-x4) else jX0_nearestWhole x0 x4 : Int64) else 9218868437227405312)
set_option maxHeartbeats 4000000 in
set_option maxRecDepth 100000 in
theorem wX0_nearest_B45 {p : Program} {l : Launch} {e : Env} {s : State} {m : MethodId} {args : Array Value} {below : List Frame} {meth : Method} {c : Code} (C : CX p s m args meth c RX0 cX0_nearest 8 (some .long)) (x0 : Int64) (x4 : Int32) (x5 : Int32) (ls : Array Slot) (v : Int64) (hl : lv_has ls 8 [(0, .long x0), (4, .int x4), (5, .int x5)]) (h : jX0_nearest_B45 x0 x4 x5 = v) : W p l e (rmz 2 51) s m args below meth c s.heap [] 0 0 (MQ below (k2_QcV (.long v)) args s 0 0 (fun _ => False)) (F0 m 45 ls []) := by
  obtain ⟨hx, hb, hml, hown, hg, hr, hlocks⟩ := id C
  unfold jX0_nearest_B45 at h
  refine lv_iload hx hb dX0_nearest_45 (lv_at hl 2 rfl) ?_
  refine lv_sipush (v := 971) hx hb dX0_nearest_47 (by decide) ?_
  refine lv_icmp_le (tgt := 57) hx hb dX0_nearest_50 (by decide) (fun c_1 => ?_) (fun c_1 => ?_)
  · rw [if_pos c_1] at h
    refine lv_iload hx hb dX0_nearest_57 (lv_at hl 1 rfl) ?_
    refine rg_l (pj := 76) (v := (if x4 ≤ 0 then sl x0 (-x4) else jX0_nearestWhole x0 x4 : Int64)) (ls := ls) (rest := []) (fun kJ => ?_) ?_
    · refine lv_if_le (tgt := 71) hx hb dX0_nearest_59 (by decide) (fun c_2 => ?_) (fun c_2 => ?_)
      · refine lv_lload_n hx hb dX0_nearest_71 rfl (lv_at hl 0 rfl) ?_
        refine lv_iload hx hb dX0_nearest_72 (lv_at hl 1 rfl) ?_
        refine lv_ineg hx hb dX0_nearest_74 ?_
        refine lv_lshl (v := sl x0 (-x4)) hx hb dX0_nearest_75 rfl ?_
        exact kJ _ (by rw [if_pos c_2])
      · refine lv_lload_n hx hb dX0_nearest_62 rfl (lv_at hl 0 rfl) ?_
        refine lv_iload hx hb dX0_nearest_63 (lv_at hl 1 rfl) ?_
        refine pcall C (cX0_nearestWhole_met l _ _ _ rfl) sc_X0_nearestWhole tw_124 (by decide) rfl hl.1 (rest := []) rfl (Nat.le_of_ble_eq_true rfl) (by decide) dX0_nearest_65 ?_
        refine lv_goto (tgt := 76) hx hb dX0_nearest_68 (by decide) ?_
        exact kJ _ (by rw [if_neg c_2])
    refine lv_lstore (lv' := [(6, .long (if x4 ≤ 0 then sl x0 (-x4) else jX0_nearestWhole x0 x4 : Int64)), (0, .long x0), (4, .int x4), (5, .int x5)]) hx hb dX0_nearest_76 hl (by decide) rfl (fun ls hl => ?_)
    exact wX0_nearest_B78 C _ _ _ _ (lv_sub hl [3, 0] rfl) h
  · rw [if_neg c_1] at h
    refine lv_ldc2 hx hb hown (hg _ tw_123) dX0_nearest_53 ?_
    exact W.lret hx hb hr (fun t ht _ => ⟨by rw [← h], ht⟩) (fun q h9 => nomatch h9) dX0_nearest_56
def jX0_nearest_B30 (x0 : Int64) (x2 : Int32) (x4 : Int32) : Int64 := (if x4 ≤ 63 then jX0_nearest_B45 x0 x4 (x2 + x4) else 0)
set_option maxHeartbeats 4000000 in
set_option maxRecDepth 100000 in
theorem wX0_nearest_B30 {p : Program} {l : Launch} {e : Env} {s : State} {m : MethodId} {args : Array Value} {below : List Frame} {meth : Method} {c : Code} (C : CX p s m args meth c RX0 cX0_nearest 8 (some .long)) (x0 : Int64) (x2 : Int32) (x4 : Int32) (ls : Array Slot) (v : Int64) (hl : lv_has ls 8 [(0, .long x0), (2, .int x2), (4, .int x4)]) (h : jX0_nearest_B30 x0 x2 x4 = v) : W p l e (rmz 2 51) s m args below meth c s.heap [] 0 0 (MQ below (k2_QcV (.long v)) args s 0 0 (fun _ => False)) (F0 m 30 ls []) := by
  obtain ⟨hx, hb, hml, hown, hg, hr, hlocks⟩ := id C
  unfold jX0_nearest_B30 at h
  refine lv_iload hx hb dX0_nearest_30 (lv_at hl 2 rfl) ?_
  refine lv_bipush (v := 63) hx hb dX0_nearest_32 (by decide) ?_
  refine lv_icmp_le (tgt := 39) hx hb dX0_nearest_34 (by decide) (fun c_1 => ?_) (fun c_1 => ?_)
  · rw [if_pos c_1] at h
    refine lv_iload_n hx hb dX0_nearest_39 rfl (lv_at hl 1 rfl) ?_
    refine lv_iload hx hb dX0_nearest_40 (lv_at hl 2 rfl) ?_
    refine lv_iadd hx hb dX0_nearest_42 ?_
    refine lv_istore (lv' := [(5, .int (x2 + x4)), (0, .long x0), (2, .int x2), (4, .int x4)]) hx hb dX0_nearest_43 hl (by decide) rfl (fun ls hl => ?_)
    exact wX0_nearest_B45 C _ _ _ _ _ (lv_sub hl [1, 3, 0] rfl) h
  · rw [if_neg c_1] at h
    refine lv_lconst (v := 0) hx hb dX0_nearest_37 (by decide) ?_
    exact W.lret hx hb hr (fun t ht _ => ⟨by rw [← h], ht⟩) (fun q h9 => nomatch h9) dX0_nearest_38
def jX0_nearest (x0 : Int64) (x2 : Int32) : Int64 := (if x0 = 0 then 0 else jX0_nearest_B30 x0 x2 (jmax ((64 - (jJ13_numberOfLeadingZeros_95d88 x0)) - 53) ((-1074) - x2)))
set_option maxHeartbeats 4000000 in
set_option maxRecDepth 100000 in
theorem wX0_nearest_0 {p : Program} {l : Launch} {e : Env} {s : State} {m : MethodId} {args : Array Value} {below : List Frame} {meth : Method} {c : Code} (C : CX p s m args meth c RX0 cX0_nearest 8 (some .long)) (x0 : Int64) (x2 : Int32) (ls : Array Slot) (v : Int64) (hl : lv_has ls 8 [(0, .long x0), (2, .int x2)]) (h : jX0_nearest x0 x2 = v) : W p l e (rmz 2 51) s m args below meth c s.heap [] 0 0 (MQ below (k2_QcV (.long v)) args s 0 0 (fun _ => False)) (F0 m 0 ls []) := by
  obtain ⟨hx, hb, hml, hown, hg, hr, hlocks⟩ := id C
  unfold jX0_nearest at h
  refine lv_lload_n hx hb dX0_nearest_0 rfl (lv_at hl 0 rfl) ?_
  refine lv_lconst (v := 0) hx hb dX0_nearest_1 (by decide) ?_
  refine lc_ne (tgt := 8) hx hb dX0_nearest_2 dX0_nearest_3 (by decide) (fun c_1 => ?_) (fun c_1 => ?_)
  · rw [if_neg c_1] at h
    refine lv_bipush (v := 64) hx hb dX0_nearest_8 (by decide) ?_
    refine lv_lload_n hx hb dX0_nearest_10 rfl (lv_at hl 0 rfl) ?_
    refine pcall C (cJ13_numberOfLeadingZeros_95d88_met l _ _ rfl) sc_J13_numberOfLeadingZeros_95d88 tw_113 (by decide) rfl hl.1 (rest := [.int 64]) rfl (Nat.le_of_ble_eq_true rfl) (by decide) dX0_nearest_11 ?_
    refine lv_isub hx hb dX0_nearest_14 ?_
    refine lv_istore_n (lv' := [(3, .int (64 - (jJ13_numberOfLeadingZeros_95d88 x0))), (0, .long x0), (2, .int x2)]) hx hb dX0_nearest_15 rfl hl (by decide) rfl (fun ls hl => ?_)
    refine lv_iload_n hx hb dX0_nearest_16 rfl (lv_at hl 0 rfl) ?_
    refine lv_bipush (v := 53) hx hb dX0_nearest_17 (by decide) ?_
    refine lv_isub hx hb dX0_nearest_19 ?_
    refine lv_sipush (v := (-1074)) hx hb dX0_nearest_20 (by decide) ?_
    refine lv_iload_n hx hb dX0_nearest_23 rfl (lv_at hl 2 rfl) ?_
    refine lv_isub hx hb dX0_nearest_24 ?_
    refine q_max C tw_120 (by decide) (Nat.le_of_ble_eq_true rfl) (by decide) hl.1 dX0_nearest_25 ?_
    refine lv_istore (lv' := [(4, .int (jmax ((64 - (jJ13_numberOfLeadingZeros_95d88 x0)) - 53) ((-1074) - x2))), (3, .int (64 - (jJ13_numberOfLeadingZeros_95d88 x0))), (0, .long x0), (2, .int x2)]) hx hb dX0_nearest_28 hl (by decide) rfl (fun ls hl => ?_)
    exact wX0_nearest_B30 C _ _ _ _ _ (lv_sub hl [2, 3, 0] rfl) h
  · rw [if_pos c_1] at h
    refine lv_lconst (v := 0) hx hb dX0_nearest_6 (by decide) ?_
    exact W.lret hx hb hr (fun t ht _ => ⟨by rw [← h], ht⟩) (fun q h9 => nomatch h9) dX0_nearest_7
theorem sc_X0_nearest : SC yX0_nearest cX0_nearest 8 (some .long) 2 := ⟨tw_111, tw_1, tw_112, by decide +kernel⟩
theorem cX0_nearest_met (l : Launch) (x0 : Int64) (x2 : Int32) (v : Int64) (h : jX0_nearest x0 x2 = v) : PM l yX0_nearest cX0_nearest 8 (some .long) (rmz 2 51) [.long x0, .int x2] (.long v) :=
  pm_of (own := RX0) (by decide +kernel) rfl (Nat.le_of_ble_eq_true rfl) (fun p e s m below meth c ls C hl => wX0_nearest_0 C x0 x2 ls v hl h)

/-! RealDesk.greatInSize(JJ)J -/
def jX0_greatInSize (x0 : Int64) (x2 : Int64) : Int64 := (if (jabsl x0) < (jabsl x2) then x2 else x0 : Int64)
set_option maxHeartbeats 4000000 in
set_option maxRecDepth 100000 in
theorem wX0_greatInSize_0 {p : Program} {l : Launch} {e : Env} {s : State} {m : MethodId} {args : Array Value} {below : List Frame} {meth : Method} {c : Code} (C : CX p s m args meth c RX0 cX0_greatInSize 4 (some .long)) (x0 : Int64) (x2 : Int64) (ls : Array Slot) (v : Int64) (hl : lv_has ls 4 [(0, .long x0), (2, .long x2)]) (h : jX0_greatInSize x0 x2 = v) : W p l e (rmz 1 21) s m args below meth c s.heap [] 0 0 (MQ below (k2_QcV (.long v)) args s 0 0 (fun _ => False)) (F0 m 0 ls []) := by
  obtain ⟨hx, hb, hml, hown, hg, hr, hlocks⟩ := id C
  unfold jX0_greatInSize at h
  refine lv_lload_n hx hb dX0_greatInSize_0 rfl (lv_at hl 0 rfl) ?_
  refine q_absl C tw_107 (by decide) (Nat.le_of_ble_eq_true rfl) (by decide) hl.1 dX0_greatInSize_1 ?_
  refine lv_lload_n hx hb dX0_greatInSize_4 rfl (lv_at hl 1 rfl) ?_
  refine q_absl C tw_107 (by decide) (Nat.le_of_ble_eq_true rfl) (by decide) hl.1 dX0_greatInSize_5 ?_
  refine rg_l (pj := 17) (v := (if (jabsl x0) < (jabsl x2) then x2 else x0 : Int64)) (ls := ls) (rest := []) (fun kJ => ?_) ?_
  · refine lc_lt (tgt := 16) hx hb dX0_greatInSize_8 dX0_greatInSize_9 (by decide) (fun c_1 => ?_) (fun c_1 => ?_)
    · refine lv_lload_n hx hb dX0_greatInSize_16 rfl (lv_at hl 1 rfl) ?_
      exact kJ _ (by rw [if_pos c_1])
    · refine lv_lload_n hx hb dX0_greatInSize_12 rfl (lv_at hl 0 rfl) ?_
      refine lv_goto (tgt := 17) hx hb dX0_greatInSize_13 (by decide) ?_
      exact kJ _ (by rw [if_neg c_1])
  exact W.lret hx hb hr (fun t ht _ => ⟨by rw [← h], ht⟩) (fun q h9 => nomatch h9) dX0_greatInSize_17
theorem sc_X0_greatInSize : SC yX0_greatInSize cX0_greatInSize 4 (some .long) 2 := ⟨tw_160, tw_1, tw_161, by decide +kernel⟩
theorem cX0_greatInSize_met (l : Launch) (x0 : Int64) (x2 : Int64) (v : Int64) (h : jX0_greatInSize x0 x2 = v) : PM l yX0_greatInSize cX0_greatInSize 4 (some .long) (rmz 1 21) [.long x0, .long x2] (.long v) :=
  pm_of (own := RX0) (by decide +kernel) rfl (Nat.le_of_ble_eq_true rfl) (fun p e s m below meth c ls C hl => wX0_greatInSize_0 C x0 x2 ls v hl h)

/-! RealDesk.smallInSize(JJ)J -/
def jX0_smallInSize (x0 : Int64) (x2 : Int64) : Int64 := (if (jabsl x0) < (jabsl x2) then x0 else x2 : Int64)
set_option maxHeartbeats 4000000 in
set_option maxRecDepth 100000 in
theorem wX0_smallInSize_0 {p : Program} {l : Launch} {e : Env} {s : State} {m : MethodId} {args : Array Value} {below : List Frame} {meth : Method} {c : Code} (C : CX p s m args meth c RX0 cX0_smallInSize 4 (some .long)) (x0 : Int64) (x2 : Int64) (ls : Array Slot) (v : Int64) (hl : lv_has ls 4 [(0, .long x0), (2, .long x2)]) (h : jX0_smallInSize x0 x2 = v) : W p l e (rmz 1 21) s m args below meth c s.heap [] 0 0 (MQ below (k2_QcV (.long v)) args s 0 0 (fun _ => False)) (F0 m 0 ls []) := by
  obtain ⟨hx, hb, hml, hown, hg, hr, hlocks⟩ := id C
  unfold jX0_smallInSize at h
  refine lv_lload_n hx hb dX0_smallInSize_0 rfl (lv_at hl 0 rfl) ?_
  refine q_absl C tw_107 (by decide) (Nat.le_of_ble_eq_true rfl) (by decide) hl.1 dX0_smallInSize_1 ?_
  refine lv_lload_n hx hb dX0_smallInSize_4 rfl (lv_at hl 1 rfl) ?_
  refine q_absl C tw_107 (by decide) (Nat.le_of_ble_eq_true rfl) (by decide) hl.1 dX0_smallInSize_5 ?_
  refine rg_l (pj := 17) (v := (if (jabsl x0) < (jabsl x2) then x0 else x2 : Int64)) (ls := ls) (rest := []) (fun kJ => ?_) ?_
  · refine lc_lt (tgt := 16) hx hb dX0_smallInSize_8 dX0_smallInSize_9 (by decide) (fun c_1 => ?_) (fun c_1 => ?_)
    · refine lv_lload_n hx hb dX0_smallInSize_16 rfl (lv_at hl 0 rfl) ?_
      exact kJ _ (by rw [if_pos c_1])
    · refine lv_lload_n hx hb dX0_smallInSize_12 rfl (lv_at hl 1 rfl) ?_
      refine lv_goto (tgt := 17) hx hb dX0_smallInSize_13 (by decide) ?_
      exact kJ _ (by rw [if_neg c_1])
  exact W.lret hx hb hr (fun t ht _ => ⟨by rw [← h], ht⟩) (fun q h9 => nomatch h9) dX0_smallInSize_17
theorem sc_X0_smallInSize : SC yX0_smallInSize cX0_smallInSize 4 (some .long) 2 := ⟨tw_163, tw_1, tw_164, by decide +kernel⟩
theorem cX0_smallInSize_met (l : Launch) (x0 : Int64) (x2 : Int64) (v : Int64) (h : jX0_smallInSize x0 x2 = v) : PM l yX0_smallInSize cX0_smallInSize 4 (some .long) (rmz 1 21) [.long x0, .long x2] (.long v) :=
  pm_of (own := RX0) (by decide +kernel) rfl (Nat.le_of_ble_eq_true rfl) (fun p e s m below meth c ls C hl => wX0_smallInSize_0 C x0 x2 ls v hl h)

/-! RealDesk.sum(JJ)J -/
def jX0_sum_B115 (x4 : Int64) (x9 : Int32) (x15 : Int64) : Int64 := jX0_withSignOf (jX0_nearest x15 ((jX0_eOf x4) - x9)) x4
set_option maxHeartbeats 4000000 in
set_option maxRecDepth 100000 in
theorem wX0_sum_B115 {p : Program} {l : Launch} {e : Env} {s : State} {m : MethodId} {args : Array Value} {below : List Frame} {meth : Method} {c : Code} (C : CX p s m args meth c RX0 cX0_sum 17 (some .long)) (x4 : Int64) (x9 : Int32) (x15 : Int64) (ls : Array Slot) (v : Int64) (hl : lv_has ls 17 [(4, .long x4), (9, .int x9), (15, .long x15)]) (h : jX0_sum_B115 x4 x9 x15 = v) : W p l e (rmz 3 78) s m args below meth c s.heap [] 0 0 (MQ below (k2_QcV (.long v)) args s 0 0 (fun _ => False)) (F0 m 115 ls []) := by
  obtain ⟨hx, hb, hml, hown, hg, hr, hlocks⟩ := id C
  unfold jX0_sum_B115 at h
  refine lv_lload hx hb dX0_sum_115 (lv_at hl 2 rfl) ?_
  refine lv_lload hx hb dX0_sum_117 (lv_at hl 0 rfl) ?_
  refine pcall C (cX0_eOf_met l _ _ rfl) sc_X0_eOf tw_165 (by decide) rfl hl.1 (rest := [.long x15]) rfl (Nat.le_of_ble_eq_true rfl) (by decide) dX0_sum_119 ?_
  refine lv_iload hx hb dX0_sum_122 (lv_at hl 1 rfl) ?_
  refine lv_isub hx hb dX0_sum_124 ?_
  refine pcall C (cX0_nearest_met l _ _ _ rfl) sc_X0_nearest tw_110 (by decide) rfl hl.1 (rest := []) rfl (Nat.le_of_ble_eq_true rfl) (by decide) dX0_sum_125 ?_
  refine lv_lload hx hb dX0_sum_128 (lv_at hl 0 rfl) ?_
  refine pcall C (cX0_withSignOf_met l _ _ _ rfl) sc_X0_withSignOf tw_130 (by decide) rfl hl.1 (rest := []) rfl (Nat.le_of_ble_eq_true rfl) (by decide) dX0_sum_130 ?_
  exact W.lret hx hb hr (fun t ht _ => ⟨by rw [← h], ht⟩) (fun q h9 => nomatch h9) dX0_sum_133
def jX0_sum_B61 (x4 : Int64) (x6 : Int64) (x9 : Int32) (x10 : Int64) (x12 : Int64) : Int64 := jX0_sum_B115 x4 x9 (if (if (if 0 ≤ x4 then 0 else 1 : Int32) = (if 0 ≤ x6 then 0 else 1 : Int32) then 1 else 0 : Int32) = 0 then x10 - x12 else x10 + x12 : Int64)
set_option maxHeartbeats 4000000 in
set_option maxRecDepth 100000 in
theorem wX0_sum_B61 {p : Program} {l : Launch} {e : Env} {s : State} {m : MethodId} {args : Array Value} {below : List Frame} {meth : Method} {c : Code} (C : CX p s m args meth c RX0 cX0_sum 17 (some .long)) (x4 : Int64) (x6 : Int64) (x9 : Int32) (x10 : Int64) (x12 : Int64) (ls : Array Slot) (v : Int64) (hl : lv_has ls 17 [(4, .long x4), (6, .long x6), (9, .int x9), (10, .long x10), (12, .long x12)]) (h : jX0_sum_B61 x4 x6 x9 x10 x12 = v) : W p l e (rmz 3 78) s m args below meth c s.heap [] 0 0 (MQ below (k2_QcV (.long v)) args s 0 0 (fun _ => False)) (F0 m 61 ls []) := by
  obtain ⟨hx, hb, hml, hown, hg, hr, hlocks⟩ := id C
  unfold jX0_sum_B61 at h
  refine lv_lload hx hb dX0_sum_61 (lv_at hl 0 rfl) ?_
  refine lv_lconst (v := 0) hx hb dX0_sum_63 (by decide) ?_
  refine rg_i (pj := 73) (v := (if 0 ≤ x4 then 0 else 1 : Int32)) (ls := ls) (rest := []) (fun kJ => ?_) ?_
  · refine lc_ge (tgt := 72) hx hb dX0_sum_64 dX0_sum_65 (by decide) (fun c_1 => ?_) (fun c_1 => ?_)
    · refine lv_iconst (v := 0) hx hb dX0_sum_72 (by decide) ?_
      exact kJ _ (by rw [if_pos c_1])
    · refine lv_iconst (v := 1) hx hb dX0_sum_68 (by decide) ?_
      refine lv_goto (tgt := 73) hx hb dX0_sum_69 (by decide) ?_
      exact kJ _ (by rw [if_neg c_1])
  refine lv_lload hx hb dX0_sum_73 (lv_at hl 1 rfl) ?_
  refine lv_lconst (v := 0) hx hb dX0_sum_75 (by decide) ?_
  refine rg_i (pj := 85) (v := (if 0 ≤ x6 then 0 else 1 : Int32)) (ls := ls) (rest := [.int (if 0 ≤ x4 then 0 else 1 : Int32)]) (fun kJ => ?_) ?_
  · refine lc_ge (tgt := 84) hx hb dX0_sum_76 dX0_sum_77 (by decide) (fun c_2 => ?_) (fun c_2 => ?_)
    · refine lv_iconst (v := 0) hx hb dX0_sum_84 (by decide) ?_
      exact kJ _ (by rw [if_pos c_2])
    · refine lv_iconst (v := 1) hx hb dX0_sum_80 (by decide) ?_
      refine lv_goto (tgt := 85) hx hb dX0_sum_81 (by decide) ?_
      exact kJ _ (by rw [if_neg c_2])
  refine rg_i (pj := 93) (v := (if (if 0 ≤ x4 then 0 else 1 : Int32) = (if 0 ≤ x6 then 0 else 1 : Int32) then 1 else 0 : Int32)) (ls := ls) (rest := []) (fun kJ => ?_) ?_
  · refine lv_icmp_ne (tgt := 92) hx hb dX0_sum_85 (by decide) (fun c_3 => ?_) (fun c_3 => ?_)
    · refine lv_iconst (v := 0) hx hb dX0_sum_92 (by decide) ?_
      exact kJ _ (by rw [if_neg c_3])
    · refine lv_iconst (v := 1) hx hb dX0_sum_88 (by decide) ?_
      refine lv_goto (tgt := 93) hx hb dX0_sum_89 (by decide) ?_
      exact kJ _ (by rw [if_pos c_3])
  refine lv_istore (lv' := [(14, .int (if (if 0 ≤ x4 then 0 else 1 : Int32) = (if 0 ≤ x6 then 0 else 1 : Int32) then 1 else 0 : Int32)), (4, .long x4), (6, .long x6), (9, .int x9), (10, .long x10), (12, .long x12)]) hx hb dX0_sum_93 hl (by decide) rfl (fun ls hl => ?_)
  refine lv_iload hx hb dX0_sum_95 (lv_at hl 0 rfl) ?_
  refine rg_l (pj := 113) (v := (if (if (if 0 ≤ x4 then 0 else 1 : Int32) = (if 0 ≤ x6 then 0 else 1 : Int32) then 1 else 0 : Int32) = 0 then x10 - x12 else x10 + x12 : Int64)) (ls := ls) (rest := []) (fun kJ => ?_) ?_
  · refine lv_if_eq (tgt := 108) hx hb dX0_sum_97 (by decide) (fun c_4 => ?_) (fun c_4 => ?_)
    · refine lv_lload hx hb dX0_sum_108 (lv_at hl 4 rfl) ?_
      refine lv_lload hx hb dX0_sum_110 (lv_at hl 5 rfl) ?_
      refine lv_lsub hx hb dX0_sum_112 ?_
      exact kJ _ (by rw [if_pos c_4])
    · refine lv_lload hx hb dX0_sum_100 (lv_at hl 4 rfl) ?_
      refine lv_lload hx hb dX0_sum_102 (lv_at hl 5 rfl) ?_
      refine lv_ladd hx hb dX0_sum_104 ?_
      refine lv_goto (tgt := 113) hx hb dX0_sum_105 (by decide) ?_
      exact kJ _ (by rw [if_neg c_4])
  refine lv_lstore (lv' := [(15, .long (if (if (if 0 ≤ x4 then 0 else 1 : Int32) = (if 0 ≤ x6 then 0 else 1 : Int32) then 1 else 0 : Int32) = 0 then x10 - x12 else x10 + x12 : Int64)), (14, .int (if (if 0 ≤ x4 then 0 else 1 : Int32) = (if 0 ≤ x6 then 0 else 1 : Int32) then 1 else 0 : Int32)), (4, .long x4), (6, .long x6), (9, .int x9), (10, .long x10), (12, .long x12)]) hx hb dX0_sum_113 hl (by decide) rfl (fun ls hl => ?_)
  exact wX0_sum_B115 C _ _ _ _ _ (lv_sub hl [2, 4, 0] rfl) h
def jX0_sum_B36 (x4 : Int64) (x6 : Int64) (x8 : Int32) (x9 : Int32) : Int64 := jX0_sum_B61 x4 x6 x9 (sl (jX0_mOf x4) x9) (jX0_lower (jX0_mOf x6) (x8 - x9))
set_option maxHeartbeats 4000000 in
set_option maxRecDepth 100000 in
theorem wX0_sum_B36 {p : Program} {l : Launch} {e : Env} {s : State} {m : MethodId} {args : Array Value} {below : List Frame} {meth : Method} {c : Code} (C : CX p s m args meth c RX0 cX0_sum 17 (some .long)) (x4 : Int64) (x6 : Int64) (x8 : Int32) (x9 : Int32) (ls : Array Slot) (v : Int64) (hl : lv_has ls 17 [(4, .long x4), (6, .long x6), (8, .int x8), (9, .int x9)]) (h : jX0_sum_B36 x4 x6 x8 x9 = v) : W p l e (rmz 3 78) s m args below meth c s.heap [] 0 0 (MQ below (k2_QcV (.long v)) args s 0 0 (fun _ => False)) (F0 m 36 ls []) := by
  obtain ⟨hx, hb, hml, hown, hg, hr, hlocks⟩ := id C
  unfold jX0_sum_B36 at h
  refine lv_lload hx hb dX0_sum_36 (lv_at hl 0 rfl) ?_
  refine pcall C (cX0_mOf_met l _ _ rfl) sc_X0_mOf tw_171 (by decide) rfl hl.1 (rest := []) rfl (Nat.le_of_ble_eq_true rfl) (by decide) dX0_sum_38 ?_
  refine lv_iload hx hb dX0_sum_41 (lv_at hl 3 rfl) ?_
  refine lv_lshl (v := sl (jX0_mOf x4) x9) hx hb dX0_sum_43 rfl ?_
  refine lv_lstore (lv' := [(10, .long (sl (jX0_mOf x4) x9)), (4, .long x4), (6, .long x6), (8, .int x8), (9, .int x9)]) hx hb dX0_sum_44 hl (by decide) rfl (fun ls hl => ?_)
  refine lv_lload hx hb dX0_sum_46 (lv_at hl 2 rfl) ?_
  refine pcall C (cX0_mOf_met l _ _ rfl) sc_X0_mOf tw_171 (by decide) rfl hl.1 (rest := []) rfl (Nat.le_of_ble_eq_true rfl) (by decide) dX0_sum_48 ?_
  refine lv_iload hx hb dX0_sum_51 (lv_at hl 3 rfl) ?_
  refine lv_iload hx hb dX0_sum_53 (lv_at hl 4 rfl) ?_
  refine lv_isub hx hb dX0_sum_55 ?_
  refine pcall C (cX0_lower_met l _ _ _ rfl) sc_X0_lower tw_175 (by decide) rfl hl.1 (rest := []) rfl (Nat.le_of_ble_eq_true rfl) (by decide) dX0_sum_56 ?_
  refine lv_lstore (lv' := [(12, .long (jX0_lower (jX0_mOf x6) (x8 - x9))), (10, .long (sl (jX0_mOf x4) x9)), (4, .long x4), (6, .long x6), (8, .int x8), (9, .int x9)]) hx hb dX0_sum_59 hl (by decide) rfl (fun ls hl => ?_)
  exact wX0_sum_B61 C _ _ _ _ _ _ _ (lv_sub hl [2, 3, 5, 1, 0] rfl) h
def jX0_sum_B14 (x4 : Int64) (x6 : Int64) : Int64 := jX0_sum_B36 x4 x6 ((jX0_eOf x4) - (jX0_eOf x6)) (jmin ((jX0_eOf x4) - (jX0_eOf x6)) 9)
set_option maxHeartbeats 4000000 in
set_option maxRecDepth 100000 in
theorem wX0_sum_B14 {p : Program} {l : Launch} {e : Env} {s : State} {m : MethodId} {args : Array Value} {below : List Frame} {meth : Method} {c : Code} (C : CX p s m args meth c RX0 cX0_sum 17 (some .long)) (x4 : Int64) (x6 : Int64) (ls : Array Slot) (v : Int64) (hl : lv_has ls 17 [(4, .long x4), (6, .long x6)]) (h : jX0_sum_B14 x4 x6 = v) : W p l e (rmz 3 78) s m args below meth c s.heap [] 0 0 (MQ below (k2_QcV (.long v)) args s 0 0 (fun _ => False)) (F0 m 14 ls []) := by
  obtain ⟨hx, hb, hml, hown, hg, hr, hlocks⟩ := id C
  unfold jX0_sum_B14 at h
  refine lv_lload hx hb dX0_sum_14 (lv_at hl 0 rfl) ?_
  refine pcall C (cX0_eOf_met l _ _ rfl) sc_X0_eOf tw_165 (by decide) rfl hl.1 (rest := []) rfl (Nat.le_of_ble_eq_true rfl) (by decide) dX0_sum_16 ?_
  refine lv_lload hx hb dX0_sum_19 (lv_at hl 1 rfl) ?_
  refine pcall C (cX0_eOf_met l _ _ rfl) sc_X0_eOf tw_165 (by decide) rfl hl.1 (rest := [.int (jX0_eOf x4)]) rfl (Nat.le_of_ble_eq_true rfl) (by decide) dX0_sum_21 ?_
  refine lv_isub hx hb dX0_sum_24 ?_
  refine lv_istore (lv' := [(8, .int ((jX0_eOf x4) - (jX0_eOf x6))), (4, .long x4), (6, .long x6)]) hx hb dX0_sum_25 hl (by decide) rfl (fun ls hl => ?_)
  refine lv_iload hx hb dX0_sum_27 (lv_at hl 0 rfl) ?_
  refine lv_bipush (v := 9) hx hb dX0_sum_29 (by decide) ?_
  refine q_min C tw_168 (by decide) (Nat.le_of_ble_eq_true rfl) (by decide) hl.1 dX0_sum_31 ?_
  refine lv_istore (lv' := [(9, .int (jmin ((jX0_eOf x4) - (jX0_eOf x6)) 9)), (8, .int ((jX0_eOf x4) - (jX0_eOf x6))), (4, .long x4), (6, .long x6)]) hx hb dX0_sum_34 hl (by decide) rfl (fun ls hl => ?_)
  exact wX0_sum_B36 C _ _ _ _ _ _ (lv_sub hl [2, 3, 1, 0] rfl) h
def jX0_sum (x0 : Int64) (x2 : Int64) : Int64 := jX0_sum_B14 (jX0_greatInSize x0 x2) (jX0_smallInSize x0 x2)
set_option maxHeartbeats 4000000 in
set_option maxRecDepth 100000 in
theorem wX0_sum_0 {p : Program} {l : Launch} {e : Env} {s : State} {m : MethodId} {args : Array Value} {below : List Frame} {meth : Method} {c : Code} (C : CX p s m args meth c RX0 cX0_sum 17 (some .long)) (x0 : Int64) (x2 : Int64) (ls : Array Slot) (v : Int64) (hl : lv_has ls 17 [(0, .long x0), (2, .long x2)]) (h : jX0_sum x0 x2 = v) : W p l e (rmz 3 78) s m args below meth c s.heap [] 0 0 (MQ below (k2_QcV (.long v)) args s 0 0 (fun _ => False)) (F0 m 0 ls []) := by
  obtain ⟨hx, hb, hml, hown, hg, hr, hlocks⟩ := id C
  unfold jX0_sum at h
  refine lv_lload_n hx hb dX0_sum_0 rfl (lv_at hl 0 rfl) ?_
  refine lv_lload_n hx hb dX0_sum_1 rfl (lv_at hl 1 rfl) ?_
  refine pcall C (cX0_greatInSize_met l _ _ _ rfl) sc_X0_greatInSize tw_159 (by decide) rfl hl.1 (rest := []) rfl (Nat.le_of_ble_eq_true rfl) (by decide) dX0_sum_2 ?_
  refine lv_lstore (lv' := [(4, .long (jX0_greatInSize x0 x2)), (0, .long x0), (2, .long x2)]) hx hb dX0_sum_5 hl (by decide) rfl (fun ls hl => ?_)
  refine lv_lload_n hx hb dX0_sum_7 rfl (lv_at hl 1 rfl) ?_
  refine lv_lload_n hx hb dX0_sum_8 rfl (lv_at hl 2 rfl) ?_
  refine pcall C (cX0_smallInSize_met l _ _ _ rfl) sc_X0_smallInSize tw_162 (by decide) rfl hl.1 (rest := []) rfl (Nat.le_of_ble_eq_true rfl) (by decide) dX0_sum_9 ?_
  refine lv_lstore (lv' := [(6, .long (jX0_smallInSize x0 x2)), (4, .long (jX0_greatInSize x0 x2)), (0, .long x0), (2, .long x2)]) hx hb dX0_sum_12 hl (by decide) rfl (fun ls hl => ?_)
  exact wX0_sum_B14 C _ _ _ _ (lv_sub hl [1, 0] rfl) h
theorem sc_X0_sum : SC yX0_sum cX0_sum 17 (some .long) 2 := ⟨tw_157, tw_1, tw_158, by decide +kernel⟩
theorem cX0_sum_met (l : Launch) (x0 : Int64) (x2 : Int64) (v : Int64) (h : jX0_sum x0 x2 = v) : PM l yX0_sum cX0_sum 17 (some .long) (rmz 3 78) [.long x0, .long x2] (.long v) :=
  pm_of (own := RX0) (by decide +kernel) rfl (Nat.le_of_ble_eq_true rfl) (fun p e s m below meth c ls C hl => wX0_sum_0 C x0 x2 ls v hl h)

/-! RealDesk.sumError(JJ)J -/
def jX0_sumError (x0 : Int64) (x2 : Int64) : Int64 := (if (jX0_isOver (jX0_sum (jX0_greatInSize x0 x2) (jX0_smallInSize x0 x2))) = 0 then jX0_sum (jX0_smallInSize x0 x2) (-(jX0_sum (jX0_sum (jX0_greatInSize x0 x2) (jX0_smallInSize x0 x2)) (-(jX0_greatInSize x0 x2)))) else jX0_sum (jX0_greatInSize x0 x2) (jX0_smallInSize x0 x2))
set_option maxHeartbeats 4000000 in
set_option maxRecDepth 100000 in
theorem wX0_sumError_0 {p : Program} {l : Launch} {e : Env} {s : State} {m : MethodId} {args : Array Value} {below : List Frame} {meth : Method} {c : Code} (C : CX p s m args meth c RX0 cX0_sumError 10 (some .long)) (x0 : Int64) (x2 : Int64) (ls : Array Slot) (v : Int64) (hl : lv_has ls 10 [(0, .long x0), (2, .long x2)]) (h : jX0_sumError x0 x2 = v) : W p l e (rmz 4 114) s m args below meth c s.heap [] 0 0 (MQ below (k2_QcV (.long v)) args s 0 0 (fun _ => False)) (F0 m 0 ls []) := by
  obtain ⟨hx, hb, hml, hown, hg, hr, hlocks⟩ := id C
  unfold jX0_sumError at h
  refine lv_lload_n hx hb dX0_sumError_0 rfl (lv_at hl 0 rfl) ?_
  refine lv_lload_n hx hb dX0_sumError_1 rfl (lv_at hl 1 rfl) ?_
  refine pcall C (cX0_greatInSize_met l _ _ _ rfl) sc_X0_greatInSize tw_159 (by decide) rfl hl.1 (rest := []) rfl (Nat.le_of_ble_eq_true rfl) (by decide) dX0_sumError_2 ?_
  refine lv_lstore (lv' := [(4, .long (jX0_greatInSize x0 x2)), (0, .long x0), (2, .long x2)]) hx hb dX0_sumError_5 hl (by decide) rfl (fun ls hl => ?_)
  refine lv_lload_n hx hb dX0_sumError_7 rfl (lv_at hl 1 rfl) ?_
  refine lv_lload_n hx hb dX0_sumError_8 rfl (lv_at hl 2 rfl) ?_
  refine pcall C (cX0_smallInSize_met l _ _ _ rfl) sc_X0_smallInSize tw_162 (by decide) rfl hl.1 (rest := []) rfl (Nat.le_of_ble_eq_true rfl) (by decide) dX0_sumError_9 ?_
  refine lv_lstore (lv' := [(6, .long (jX0_smallInSize x0 x2)), (4, .long (jX0_greatInSize x0 x2)), (0, .long x0), (2, .long x2)]) hx hb dX0_sumError_12 hl (by decide) rfl (fun ls hl => ?_)
  refine lv_lload hx hb dX0_sumError_14 (lv_at hl 1 rfl) ?_
  refine lv_lload hx hb dX0_sumError_16 (lv_at hl 0 rfl) ?_
  refine pcall C (cX0_sum_met l _ _ _ rfl) sc_X0_sum tw_156 (by decide) rfl hl.1 (rest := []) rfl (Nat.le_of_ble_eq_true rfl) (by decide) dX0_sumError_18 ?_
  refine lv_lstore (lv' := [(8, .long (jX0_sum (jX0_greatInSize x0 x2) (jX0_smallInSize x0 x2))), (6, .long (jX0_smallInSize x0 x2)), (4, .long (jX0_greatInSize x0 x2)), (0, .long x0), (2, .long x2)]) hx hb dX0_sumError_21 hl (by decide) rfl (fun ls hl => ?_)
  refine lv_lload hx hb dX0_sumError_23 (lv_at hl 0 rfl) ?_
  refine pcall C (cX0_isOver_met l _ _ rfl) sc_X0_isOver tw_137 (by decide) rfl hl.1 (rest := []) rfl (Nat.le_of_ble_eq_true rfl) (by decide) dX0_sumError_25 ?_
  refine lv_if_eq (tgt := 34) hx hb dX0_sumError_28 (by decide) (fun c_1 => ?_) (fun c_1 => ?_)
  · rw [if_pos c_1] at h
    refine lv_lload hx hb dX0_sumError_34 (lv_at hl 1 rfl) ?_
    refine lv_lload hx hb dX0_sumError_36 (lv_at hl 0 rfl) ?_
    refine lv_lload hx hb dX0_sumError_38 (lv_at hl 2 rfl) ?_
    refine lv_lneg hx hb dX0_sumError_40 ?_
    refine pcall C (cX0_sum_met l _ _ _ rfl) sc_X0_sum tw_156 (by decide) rfl hl.1 (rest := [.long (jX0_smallInSize x0 x2)]) rfl (Nat.le_of_ble_eq_true rfl) (by decide) dX0_sumError_41 ?_
    refine lv_lneg hx hb dX0_sumError_44 ?_
    refine pcall C (cX0_sum_met l _ _ _ rfl) sc_X0_sum tw_156 (by decide) rfl hl.1 (rest := []) rfl (Nat.le_of_ble_eq_true rfl) (by decide) dX0_sumError_45 ?_
    exact W.lret hx hb hr (fun t ht _ => ⟨by rw [← h], ht⟩) (fun q h9 => nomatch h9) dX0_sumError_48
  · rw [if_neg c_1] at h
    refine lv_lload hx hb dX0_sumError_31 (lv_at hl 0 rfl) ?_
    exact W.lret hx hb hr (fun t ht _ => ⟨by rw [← h], ht⟩) (fun q h9 => nomatch h9) dX0_sumError_33
theorem sc_X0_sumError : SC yX0_sumError cX0_sumError 10 (some .long) 2 := ⟨tw_206, tw_1, tw_207, by decide +kernel⟩
theorem cX0_sumError_met (l : Launch) (x0 : Int64) (x2 : Int64) (v : Int64) (h : jX0_sumError x0 x2 = v) : PM l yX0_sumError cX0_sumError 10 (some .long) (rmz 4 114) [.long x0, .long x2] (.long v) :=
  pm_of (own := RX0) (by decide +kernel) rfl (Nat.le_of_ble_eq_true rfl) (fun p e s m below meth c ls C hl => wX0_sumError_0 C x0 x2 ls v hl h)

/-! RealDesk.topOfProduct(JJ)J -/
def jX0_topOfProduct_B78 (x14 : Int64) (x16 : Int64) : Int64 := (sl x16 9) ||| (jX0_lower (jX0_lowPlaces x14 54) 45)
set_option maxHeartbeats 4000000 in
set_option maxRecDepth 100000 in
theorem wX0_topOfProduct_B78 {p : Program} {l : Launch} {e : Env} {s : State} {m : MethodId} {args : Array Value} {below : List Frame} {meth : Method} {c : Code} (C : CX p s m args meth c RX0 cX0_topOfProduct 20 (some .long)) (x14 : Int64) (x16 : Int64) (ls : Array Slot) (v : Int64) (hl : lv_has ls 20 [(14, .long x14), (16, .long x16)]) (h : jX0_topOfProduct_B78 x14 x16 = v) : W p l e (rmz 2 46) s m args below meth c s.heap [] 0 0 (MQ below (k2_QcV (.long v)) args s 0 0 (fun _ => False)) (F0 m 78 ls []) := by
  obtain ⟨hx, hb, hml, hown, hg, hr, hlocks⟩ := id C
  unfold jX0_topOfProduct_B78 at h
  refine lv_lload hx hb dX0_topOfProduct_78 (lv_at hl 0 rfl) ?_
  refine lv_bipush (v := 54) hx hb dX0_topOfProduct_80 (by decide) ?_
  refine pcall C (cX0_lowPlaces_met l _ _ _ rfl) sc_X0_lowPlaces tw_127 (by decide) rfl hl.1 (rest := []) rfl (Nat.le_of_ble_eq_true rfl) (by decide) dX0_topOfProduct_82 ?_
  refine lv_lstore (lv' := [(18, .long (jX0_lowPlaces x14 54)), (14, .long x14), (16, .long x16)]) hx hb dX0_topOfProduct_85 hl (by decide) rfl (fun ls hl => ?_)
  refine lv_lload hx hb dX0_topOfProduct_87 (lv_at hl 2 rfl) ?_
  refine lv_bipush (v := 9) hx hb dX0_topOfProduct_89 (by decide) ?_
  refine lv_lshl (v := sl x16 9) hx hb dX0_topOfProduct_91 rfl ?_
  refine lv_lload hx hb dX0_topOfProduct_92 (lv_at hl 0 rfl) ?_
  refine lv_bipush (v := 45) hx hb dX0_topOfProduct_94 (by decide) ?_
  refine pcall C (cX0_lower_met l _ _ _ rfl) sc_X0_lower tw_175 (by decide) rfl hl.1 (rest := [.long (sl x16 9)]) rfl (Nat.le_of_ble_eq_true rfl) (by decide) dX0_topOfProduct_96 ?_
  refine lv_lor hx hb dX0_topOfProduct_99 ?_
  exact W.lret hx hb hr (fun t ht _ => ⟨by rw [← h], ht⟩) (fun q h9 => nomatch h9) dX0_topOfProduct_100
def jX0_topOfProduct_B59 (x4 : Int64) (x8 : Int64) (x12 : Int64) (x14 : Int64) : Int64 := jX0_topOfProduct_B78 x14 (((x4 * x8) + (su x12 27)) + (su x14 54))
set_option maxHeartbeats 4000000 in
set_option maxRecDepth 100000 in
theorem wX0_topOfProduct_B59 {p : Program} {l : Launch} {e : Env} {s : State} {m : MethodId} {args : Array Value} {below : List Frame} {meth : Method} {c : Code} (C : CX p s m args meth c RX0 cX0_topOfProduct 20 (some .long)) (x4 : Int64) (x8 : Int64) (x12 : Int64) (x14 : Int64) (ls : Array Slot) (v : Int64) (hl : lv_has ls 20 [(4, .long x4), (8, .long x8), (12, .long x12), (14, .long x14)]) (h : jX0_topOfProduct_B59 x4 x8 x12 x14 = v) : W p l e (rmz 2 46) s m args below meth c s.heap [] 0 0 (MQ below (k2_QcV (.long v)) args s 0 0 (fun _ => False)) (F0 m 59 ls []) := by
  obtain ⟨hx, hb, hml, hown, hg, hr, hlocks⟩ := id C
  unfold jX0_topOfProduct_B59 at h
  refine lv_lload hx hb dX0_topOfProduct_59 (lv_at hl 0 rfl) ?_
  refine lv_lload hx hb dX0_topOfProduct_61 (lv_at hl 1 rfl) ?_
  refine lv_lmul hx hb dX0_topOfProduct_63 ?_
  refine lv_lload hx hb dX0_topOfProduct_64 (lv_at hl 2 rfl) ?_
  refine lv_bipush (v := 27) hx hb dX0_topOfProduct_66 (by decide) ?_
  refine lv_lushr (v := su x12 27) hx hb dX0_topOfProduct_68 rfl ?_
  refine lv_ladd hx hb dX0_topOfProduct_69 ?_
  refine lv_lload hx hb dX0_topOfProduct_70 (lv_at hl 3 rfl) ?_
  refine lv_bipush (v := 54) hx hb dX0_topOfProduct_72 (by decide) ?_
  refine lv_lushr (v := su x14 54) hx hb dX0_topOfProduct_74 rfl ?_
  refine lv_ladd hx hb dX0_topOfProduct_75 ?_
  refine lv_lstore (lv' := [(16, .long (((x4 * x8) + (su x12 27)) + (su x14 54))), (4, .long x4), (8, .long x8), (12, .long x12), (14, .long x14)]) hx hb dX0_topOfProduct_76 hl (by decide) rfl (fun ls hl => ?_)
  exact wX0_topOfProduct_B78 C _ _ _ _ (lv_sub hl [4, 0] rfl) h
def jX0_topOfProduct_B41 (x4 : Int64) (x6 : Int64) (x8 : Int64) (x10 : Int64) (x12 : Int64) : Int64 := jX0_topOfProduct_B59 x4 x8 x12 ((x6 * x10) + (sl (jX0_lowPlaces x12 27) 27))
set_option maxHeartbeats 4000000 in
set_option maxRecDepth 100000 in
theorem wX0_topOfProduct_B41 {p : Program} {l : Launch} {e : Env} {s : State} {m : MethodId} {args : Array Value} {below : List Frame} {meth : Method} {c : Code} (C : CX p s m args meth c RX0 cX0_topOfProduct 20 (some .long)) (x4 : Int64) (x6 : Int64) (x8 : Int64) (x10 : Int64) (x12 : Int64) (ls : Array Slot) (v : Int64) (hl : lv_has ls 20 [(4, .long x4), (6, .long x6), (8, .long x8), (10, .long x10), (12, .long x12)]) (h : jX0_topOfProduct_B41 x4 x6 x8 x10 x12 = v) : W p l e (rmz 2 46) s m args below meth c s.heap [] 0 0 (MQ below (k2_QcV (.long v)) args s 0 0 (fun _ => False)) (F0 m 41 ls []) := by
  obtain ⟨hx, hb, hml, hown, hg, hr, hlocks⟩ := id C
  unfold jX0_topOfProduct_B41 at h
  refine lv_lload hx hb dX0_topOfProduct_41 (lv_at hl 1 rfl) ?_
  refine lv_lload hx hb dX0_topOfProduct_43 (lv_at hl 3 rfl) ?_
  refine lv_lmul hx hb dX0_topOfProduct_45 ?_
  refine lv_lload hx hb dX0_topOfProduct_46 (lv_at hl 4 rfl) ?_
  refine lv_bipush (v := 27) hx hb dX0_topOfProduct_48 (by decide) ?_
  refine pcall C (cX0_lowPlaces_met l _ _ _ rfl) sc_X0_lowPlaces tw_127 (by decide) rfl hl.1 (rest := [.long (x6 * x10)]) rfl (Nat.le_of_ble_eq_true rfl) (by decide) dX0_topOfProduct_50 ?_
  refine lv_bipush (v := 27) hx hb dX0_topOfProduct_53 (by decide) ?_
  refine lv_lshl (v := sl (jX0_lowPlaces x12 27) 27) hx hb dX0_topOfProduct_55 rfl ?_
  refine lv_ladd hx hb dX0_topOfProduct_56 ?_
  refine lv_lstore (lv' := [(14, .long ((x6 * x10) + (sl (jX0_lowPlaces x12 27) 27))), (4, .long x4), (6, .long x6), (8, .long x8), (10, .long x10), (12, .long x12)]) hx hb dX0_topOfProduct_57 hl (by decide) rfl (fun ls hl => ?_)
  exact wX0_topOfProduct_B59 C _ _ _ _ _ _ (lv_sub hl [1, 3, 5, 0] rfl) h
def jX0_topOfProduct_B28 (x4 : Int64) (x6 : Int64) (x8 : Int64) (x10 : Int64) : Int64 := jX0_topOfProduct_B41 x4 x6 x8 x10 ((x4 * x10) + (x6 * x8))
set_option maxHeartbeats 4000000 in
set_option maxRecDepth 100000 in
theorem wX0_topOfProduct_B28 {p : Program} {l : Launch} {e : Env} {s : State} {m : MethodId} {args : Array Value} {below : List Frame} {meth : Method} {c : Code} (C : CX p s m args meth c RX0 cX0_topOfProduct 20 (some .long)) (x4 : Int64) (x6 : Int64) (x8 : Int64) (x10 : Int64) (ls : Array Slot) (v : Int64) (hl : lv_has ls 20 [(4, .long x4), (6, .long x6), (8, .long x8), (10, .long x10)]) (h : jX0_topOfProduct_B28 x4 x6 x8 x10 = v) : W p l e (rmz 2 46) s m args below meth c s.heap [] 0 0 (MQ below (k2_QcV (.long v)) args s 0 0 (fun _ => False)) (F0 m 28 ls []) := by
  obtain ⟨hx, hb, hml, hown, hg, hr, hlocks⟩ := id C
  unfold jX0_topOfProduct_B28 at h
  refine lv_lload hx hb dX0_topOfProduct_28 (lv_at hl 0 rfl) ?_
  refine lv_lload hx hb dX0_topOfProduct_30 (lv_at hl 3 rfl) ?_
  refine lv_lmul hx hb dX0_topOfProduct_32 ?_
  refine lv_lload hx hb dX0_topOfProduct_33 (lv_at hl 1 rfl) ?_
  refine lv_lload hx hb dX0_topOfProduct_35 (lv_at hl 2 rfl) ?_
  refine lv_lmul hx hb dX0_topOfProduct_37 ?_
  refine lv_ladd hx hb dX0_topOfProduct_38 ?_
  refine lv_lstore (lv' := [(12, .long ((x4 * x10) + (x6 * x8))), (4, .long x4), (6, .long x6), (8, .long x8), (10, .long x10)]) hx hb dX0_topOfProduct_39 hl (by decide) rfl (fun ls hl => ?_)
  exact wX0_topOfProduct_B41 C _ _ _ _ _ _ _ (lv_sub hl [1, 2, 3, 4, 0] rfl) h
def jX0_topOfProduct (x0 : Int64) (x2 : Int64) : Int64 := jX0_topOfProduct_B28 (su x0 27) (jX0_lowPlaces x0 27) (su x2 27) (jX0_lowPlaces x2 27)
set_option maxHeartbeats 4000000 in
set_option maxRecDepth 100000 in
theorem wX0_topOfProduct_0 {p : Program} {l : Launch} {e : Env} {s : State} {m : MethodId} {args : Array Value} {below : List Frame} {meth : Method} {c : Code} (C : CX p s m args meth c RX0 cX0_topOfProduct 20 (some .long)) (x0 : Int64) (x2 : Int64) (ls : Array Slot) (v : Int64) (hl : lv_has ls 20 [(0, .long x0), (2, .long x2)]) (h : jX0_topOfProduct x0 x2 = v) : W p l e (rmz 2 46) s m args below meth c s.heap [] 0 0 (MQ below (k2_QcV (.long v)) args s 0 0 (fun _ => False)) (F0 m 0 ls []) := by
  obtain ⟨hx, hb, hml, hown, hg, hr, hlocks⟩ := id C
  unfold jX0_topOfProduct at h
  refine lv_lload_n hx hb dX0_topOfProduct_0 rfl (lv_at hl 0 rfl) ?_
  refine lv_bipush (v := 27) hx hb dX0_topOfProduct_1 (by decide) ?_
  refine lv_lushr (v := su x0 27) hx hb dX0_topOfProduct_3 rfl ?_
  refine lv_lstore (lv' := [(4, .long (su x0 27)), (0, .long x0), (2, .long x2)]) hx hb dX0_topOfProduct_4 hl (by decide) rfl (fun ls hl => ?_)
  refine lv_lload_n hx hb dX0_topOfProduct_6 rfl (lv_at hl 1 rfl) ?_
  refine lv_bipush (v := 27) hx hb dX0_topOfProduct_7 (by decide) ?_
  refine pcall C (cX0_lowPlaces_met l _ _ _ rfl) sc_X0_lowPlaces tw_127 (by decide) rfl hl.1 (rest := []) rfl (Nat.le_of_ble_eq_true rfl) (by decide) dX0_topOfProduct_9 ?_
  refine lv_lstore (lv' := [(6, .long (jX0_lowPlaces x0 27)), (4, .long (su x0 27)), (0, .long x0), (2, .long x2)]) hx hb dX0_topOfProduct_12 hl (by decide) rfl (fun ls hl => ?_)
  refine lv_lload_n hx hb dX0_topOfProduct_14 rfl (lv_at hl 3 rfl) ?_
  refine lv_bipush (v := 27) hx hb dX0_topOfProduct_15 (by decide) ?_
  refine lv_lushr (v := su x2 27) hx hb dX0_topOfProduct_17 rfl ?_
  refine lv_lstore (lv' := [(8, .long (su x2 27)), (6, .long (jX0_lowPlaces x0 27)), (4, .long (su x0 27)), (0, .long x0), (2, .long x2)]) hx hb dX0_topOfProduct_18 hl (by decide) rfl (fun ls hl => ?_)
  refine lv_lload_n hx hb dX0_topOfProduct_20 rfl (lv_at hl 4 rfl) ?_
  refine lv_bipush (v := 27) hx hb dX0_topOfProduct_21 (by decide) ?_
  refine pcall C (cX0_lowPlaces_met l _ _ _ rfl) sc_X0_lowPlaces tw_127 (by decide) rfl hl.1 (rest := []) rfl (Nat.le_of_ble_eq_true rfl) (by decide) dX0_topOfProduct_23 ?_
  refine lv_lstore (lv' := [(10, .long (jX0_lowPlaces x2 27)), (8, .long (su x2 27)), (6, .long (jX0_lowPlaces x0 27)), (4, .long (su x0 27)), (0, .long x0), (2, .long x2)]) hx hb dX0_topOfProduct_26 hl (by decide) rfl (fun ls hl => ?_)
  exact wX0_topOfProduct_B28 C _ _ _ _ _ _ (lv_sub hl [3, 2, 1, 0] rfl) h
theorem sc_X0_topOfProduct : SC yX0_topOfProduct cX0_topOfProduct 20 (some .long) 2 := ⟨tw_191, tw_1, tw_192, by decide +kernel⟩
theorem cX0_topOfProduct_met (l : Launch) (x0 : Int64) (x2 : Int64) (v : Int64) (h : jX0_topOfProduct x0 x2 = v) : PM l yX0_topOfProduct cX0_topOfProduct 20 (some .long) (rmz 2 46) [.long x0, .long x2] (.long v) :=
  pm_of (own := RX0) (by decide +kernel) rfl (Nat.le_of_ble_eq_true rfl) (fun p e s m below meth c ls C hl => wX0_topOfProduct_0 C x0 x2 ls v hl h)

/-! RealDesk.product(JJ)J -/
def jX0_product (x0 : Int64) (x2 : Int64) : Int64 := (if x0 = 0 then 0 else (if x2 = 0 then 0 else jX0_withSignOf (jX0_nearest (jX0_topOfProduct (jX0_liftedM x0) (jX0_liftedM x2)) (((jX0_liftedE x0) + (jX0_liftedE x2)) + 45)) (x0 ^^^ x2)))
set_option maxHeartbeats 4000000 in
set_option maxRecDepth 100000 in
theorem wX0_product_0 {p : Program} {l : Launch} {e : Env} {s : State} {m : MethodId} {args : Array Value} {below : List Frame} {meth : Method} {c : Code} (C : CX p s m args meth c RX0 cX0_product 5 (some .long)) (x0 : Int64) (x2 : Int64) (ls : Array Slot) (v : Int64) (hl : lv_has ls 5 [(0, .long x0), (2, .long x2)]) (h : jX0_product x0 x2 = v) : W p l e (rmz 4 87) s m args below meth c s.heap [] 0 0 (MQ below (k2_QcV (.long v)) args s 0 0 (fun _ => False)) (F0 m 0 ls []) := by
  obtain ⟨hx, hb, hml, hown, hg, hr, hlocks⟩ := id C
  unfold jX0_product at h
  refine lv_lload_n hx hb dX0_product_0 rfl (lv_at hl 0 rfl) ?_
  refine lv_lconst (v := 0) hx hb dX0_product_1 (by decide) ?_
  refine lc_eq (tgt := 12) hx hb dX0_product_2 dX0_product_3 (by decide) (fun c_1 => ?_) (fun c_1 => ?_)
  · rw [if_pos c_1] at h
    refine lv_lconst (v := 0) hx hb dX0_product_12 (by decide) ?_
    exact W.lret hx hb hr (fun t ht _ => ⟨by rw [← h], ht⟩) (fun q h9 => nomatch h9) dX0_product_13
  · rw [if_neg c_1] at h
    refine lv_lload_n hx hb dX0_product_6 rfl (lv_at hl 1 rfl) ?_
    refine lv_lconst (v := 0) hx hb dX0_product_7 (by decide) ?_
    refine lc_ne (tgt := 14) hx hb dX0_product_8 dX0_product_9 (by decide) (fun c_2 => ?_) (fun c_2 => ?_)
    · rw [if_neg c_2] at h
      refine lv_lload_n hx hb dX0_product_14 rfl (lv_at hl 0 rfl) ?_
      refine pcall C (cX0_liftedE_met l _ _ rfl) sc_X0_liftedE tw_181 (by decide) rfl hl.1 (rest := []) rfl (Nat.le_of_ble_eq_true rfl) (by decide) dX0_product_15 ?_
      refine lv_lload_n hx hb dX0_product_18 rfl (lv_at hl 1 rfl) ?_
      refine pcall C (cX0_liftedE_met l _ _ rfl) sc_X0_liftedE tw_181 (by decide) rfl hl.1 (rest := [.int (jX0_liftedE x0)]) rfl (Nat.le_of_ble_eq_true rfl) (by decide) dX0_product_19 ?_
      refine lv_iadd hx hb dX0_product_22 ?_
      refine lv_bipush (v := 45) hx hb dX0_product_23 (by decide) ?_
      refine lv_iadd hx hb dX0_product_25 ?_
      refine lv_istore (lv' := [(4, .int (((jX0_liftedE x0) + (jX0_liftedE x2)) + 45)), (0, .long x0), (2, .long x2)]) hx hb dX0_product_26 hl (by decide) rfl (fun ls hl => ?_)
      refine lv_lload_n hx hb dX0_product_28 rfl (lv_at hl 1 rfl) ?_
      refine pcall C (cX0_liftedM_met l _ _ rfl) sc_X0_liftedM tw_187 (by decide) rfl hl.1 (rest := []) rfl (Nat.le_of_ble_eq_true rfl) (by decide) dX0_product_29 ?_
      refine lv_lload_n hx hb dX0_product_32 rfl (lv_at hl 2 rfl) ?_
      refine pcall C (cX0_liftedM_met l _ _ rfl) sc_X0_liftedM tw_187 (by decide) rfl hl.1 (rest := [.long (jX0_liftedM x0)]) rfl (Nat.le_of_ble_eq_true rfl) (by decide) dX0_product_33 ?_
      refine pcall C (cX0_topOfProduct_met l _ _ _ rfl) sc_X0_topOfProduct tw_190 (by decide) rfl hl.1 (rest := []) rfl (Nat.le_of_ble_eq_true rfl) (by decide) dX0_product_36 ?_
      refine lv_iload hx hb dX0_product_39 (lv_at hl 0 rfl) ?_
      refine pcall C (cX0_nearest_met l _ _ _ rfl) sc_X0_nearest tw_110 (by decide) rfl hl.1 (rest := []) rfl (Nat.le_of_ble_eq_true rfl) (by decide) dX0_product_41 ?_
      refine lv_lload_n hx hb dX0_product_44 rfl (lv_at hl 1 rfl) ?_
      refine lv_lload_n hx hb dX0_product_45 rfl (lv_at hl 2 rfl) ?_
      refine lv_lxor hx hb dX0_product_46 ?_
      refine pcall C (cX0_withSignOf_met l _ _ _ rfl) sc_X0_withSignOf tw_130 (by decide) rfl hl.1 (rest := []) rfl (Nat.le_of_ble_eq_true rfl) (by decide) dX0_product_47 ?_
      exact W.lret hx hb hr (fun t ht _ => ⟨by rw [← h], ht⟩) (fun q h9 => nomatch h9) dX0_product_50
    · rw [if_pos c_2] at h
      refine lv_lconst (v := 0) hx hb dX0_product_12 (by decide) ?_
      exact W.lret hx hb hr (fun t ht _ => ⟨by rw [← h], ht⟩) (fun q h9 => nomatch h9) dX0_product_13
theorem sc_X0_product : SC yX0_product cX0_product 5 (some .long) 2 := ⟨tw_179, tw_1, tw_180, by decide +kernel⟩
theorem cX0_product_met (l : Launch) (x0 : Int64) (x2 : Int64) (v : Int64) (h : jX0_product x0 x2 = v) : PM l yX0_product cX0_product 5 (some .long) (rmz 4 87) [.long x0, .long x2] (.long v) :=
  pm_of (own := RX0) (by decide +kernel) rfl (Nat.le_of_ble_eq_true rfl) (fun p e s m below meth c ls C hl => wX0_product_0 C x0 x2 ls v hl h)

/-! RealDesk.isSmallProduct(JJ)Z -/
def jX0_isSmallProduct_B27 (x0 : Int64) (x2 : Int64) (x4 : Int64) : Int32 := (if (-960) ≤ ((((63 - (jJ13_numberOfLeadingZeros_95d88 x4)) + 45) + (jX0_liftedE x0)) + (jX0_liftedE x2)) then 0 else 1 : Int32)
set_option maxHeartbeats 4000000 in
set_option maxRecDepth 100000 in
theorem wX0_isSmallProduct_B27 {p : Program} {l : Launch} {e : Env} {s : State} {m : MethodId} {args : Array Value} {below : List Frame} {meth : Method} {c : Code} (C : CX p s m args meth c RX0 cX0_isSmallProduct 7 (some .boolean)) (x0 : Int64) (x2 : Int64) (x4 : Int64) (ls : Array Slot) (v : Int32) (hl : lv_has ls 7 [(0, .long x0), (2, .long x2), (4, .long x4)]) (h : jX0_isSmallProduct_B27 x0 x2 x4 = v) : W p l e (rmz 4 87) s m args below meth c s.heap [] 0 0 (MQ below (k2_QcV (.int v)) args s 0 0 (fun _ => False)) (F0 m 27 ls []) := by
  obtain ⟨hx, hb, hml, hown, hg, hr, hlocks⟩ := id C
  unfold jX0_isSmallProduct_B27 at h
  refine lv_bipush (v := 63) hx hb dX0_isSmallProduct_27 (by decide) ?_
  refine lv_lload hx hb dX0_isSmallProduct_29 (lv_at hl 2 rfl) ?_
  refine pcall C (cJ13_numberOfLeadingZeros_95d88_met l _ _ rfl) sc_J13_numberOfLeadingZeros_95d88 tw_113 (by decide) rfl hl.1 (rest := [.int 63]) rfl (Nat.le_of_ble_eq_true rfl) (by decide) dX0_isSmallProduct_31 ?_
  refine lv_isub hx hb dX0_isSmallProduct_34 ?_
  refine lv_istore (lv' := [(6, .int (63 - (jJ13_numberOfLeadingZeros_95d88 x4))), (0, .long x0), (2, .long x2), (4, .long x4)]) hx hb dX0_isSmallProduct_35 hl (by decide) rfl (fun ls hl => ?_)
  refine lv_iload hx hb dX0_isSmallProduct_37 (lv_at hl 0 rfl) ?_
  refine lv_bipush (v := 45) hx hb dX0_isSmallProduct_39 (by decide) ?_
  refine lv_iadd hx hb dX0_isSmallProduct_41 ?_
  refine lv_lload_n hx hb dX0_isSmallProduct_42 rfl (lv_at hl 1 rfl) ?_
  refine pcall C (cX0_liftedE_met l _ _ rfl) sc_X0_liftedE tw_181 (by decide) rfl hl.1 (rest := [.int ((63 - (jJ13_numberOfLeadingZeros_95d88 x4)) + 45)]) rfl (Nat.le_of_ble_eq_true rfl) (by decide) dX0_isSmallProduct_43 ?_
  refine lv_iadd hx hb dX0_isSmallProduct_46 ?_
  refine lv_lload_n hx hb dX0_isSmallProduct_47 rfl (lv_at hl 2 rfl) ?_
  refine pcall C (cX0_liftedE_met l _ _ rfl) sc_X0_liftedE tw_181 (by decide) rfl hl.1 (rest := [.int (((63 - (jJ13_numberOfLeadingZeros_95d88 x4)) + 45) + (jX0_liftedE x0))]) rfl (Nat.le_of_ble_eq_true rfl) (by decide) dX0_isSmallProduct_48 ?_
  refine lv_iadd hx hb dX0_isSmallProduct_51 ?_
  refine lv_sipush (v := (-960)) hx hb dX0_isSmallProduct_52 (by decide) ?_
  refine rg_i (pj := 63) (v := (if (-960) ≤ ((((63 - (jJ13_numberOfLeadingZeros_95d88 x4)) + 45) + (jX0_liftedE x0)) + (jX0_liftedE x2)) then 0 else 1 : Int32)) (ls := ls) (rest := []) (fun kJ => ?_) ?_
  · refine lv_icmp_ge (tgt := 62) hx hb dX0_isSmallProduct_55 (by decide) (fun c_1 => ?_) (fun c_1 => ?_)
    · refine lv_iconst (v := 0) hx hb dX0_isSmallProduct_62 (by decide) ?_
      exact kJ _ (by rw [if_pos c_1])
    · refine lv_iconst (v := 1) hx hb dX0_isSmallProduct_58 (by decide) ?_
      refine lv_goto (tgt := 63) hx hb dX0_isSmallProduct_59 (by decide) ?_
      exact kJ _ (by rw [if_neg c_1])
  exact W.zret hx hb hr (by first | rfl | (split <;> rfl) | (split <;> first | rfl | (split <;> rfl))) (fun t ht _ => ⟨by rw [← h], ht⟩) (fun q h9 => nomatch h9) dX0_isSmallProduct_63
def jX0_isSmallProduct (x0 : Int64) (x2 : Int64) : Int32 := (if x0 = 0 then 0 else (if x2 = 0 then 0 else jX0_isSmallProduct_B27 x0 x2 (jX0_topOfProduct (jX0_liftedM x0) (jX0_liftedM x2))))
set_option maxHeartbeats 4000000 in
set_option maxRecDepth 100000 in
theorem wX0_isSmallProduct_0 {p : Program} {l : Launch} {e : Env} {s : State} {m : MethodId} {args : Array Value} {below : List Frame} {meth : Method} {c : Code} (C : CX p s m args meth c RX0 cX0_isSmallProduct 7 (some .boolean)) (x0 : Int64) (x2 : Int64) (ls : Array Slot) (v : Int32) (hl : lv_has ls 7 [(0, .long x0), (2, .long x2)]) (h : jX0_isSmallProduct x0 x2 = v) : W p l e (rmz 4 87) s m args below meth c s.heap [] 0 0 (MQ below (k2_QcV (.int v)) args s 0 0 (fun _ => False)) (F0 m 0 ls []) := by
  obtain ⟨hx, hb, hml, hown, hg, hr, hlocks⟩ := id C
  unfold jX0_isSmallProduct at h
  refine lv_lload_n hx hb dX0_isSmallProduct_0 rfl (lv_at hl 0 rfl) ?_
  refine lv_lconst (v := 0) hx hb dX0_isSmallProduct_1 (by decide) ?_
  refine lc_eq (tgt := 12) hx hb dX0_isSmallProduct_2 dX0_isSmallProduct_3 (by decide) (fun c_1 => ?_) (fun c_1 => ?_)
  · rw [if_pos c_1] at h
    refine lv_iconst (v := 0) hx hb dX0_isSmallProduct_12 (by decide) ?_
    exact W.zret hx hb hr (by first | rfl | (split <;> rfl) | (split <;> first | rfl | (split <;> rfl))) (fun t ht _ => ⟨by rw [← h], ht⟩) (fun q h9 => nomatch h9) dX0_isSmallProduct_13
  · rw [if_neg c_1] at h
    refine lv_lload_n hx hb dX0_isSmallProduct_6 rfl (lv_at hl 1 rfl) ?_
    refine lv_lconst (v := 0) hx hb dX0_isSmallProduct_7 (by decide) ?_
    refine lc_ne (tgt := 14) hx hb dX0_isSmallProduct_8 dX0_isSmallProduct_9 (by decide) (fun c_2 => ?_) (fun c_2 => ?_)
    · rw [if_neg c_2] at h
      refine lv_lload_n hx hb dX0_isSmallProduct_14 rfl (lv_at hl 0 rfl) ?_
      refine pcall C (cX0_liftedM_met l _ _ rfl) sc_X0_liftedM tw_187 (by decide) rfl hl.1 (rest := []) rfl (Nat.le_of_ble_eq_true rfl) (by decide) dX0_isSmallProduct_15 ?_
      refine lv_lload_n hx hb dX0_isSmallProduct_18 rfl (lv_at hl 1 rfl) ?_
      refine pcall C (cX0_liftedM_met l _ _ rfl) sc_X0_liftedM tw_187 (by decide) rfl hl.1 (rest := [.long (jX0_liftedM x0)]) rfl (Nat.le_of_ble_eq_true rfl) (by decide) dX0_isSmallProduct_19 ?_
      refine pcall C (cX0_topOfProduct_met l _ _ _ rfl) sc_X0_topOfProduct tw_190 (by decide) rfl hl.1 (rest := []) rfl (Nat.le_of_ble_eq_true rfl) (by decide) dX0_isSmallProduct_22 ?_
      refine lv_lstore (lv' := [(4, .long (jX0_topOfProduct (jX0_liftedM x0) (jX0_liftedM x2))), (0, .long x0), (2, .long x2)]) hx hb dX0_isSmallProduct_25 hl (by decide) rfl (fun ls hl => ?_)
      exact wX0_isSmallProduct_B27 C _ _ _ _ _ (lv_sub hl [1, 2, 0] rfl) h
    · rw [if_pos c_2] at h
      refine lv_iconst (v := 0) hx hb dX0_isSmallProduct_12 (by decide) ?_
      exact W.zret hx hb hr (by first | rfl | (split <;> rfl) | (split <;> first | rfl | (split <;> rfl))) (fun t ht _ => ⟨by rw [← h], ht⟩) (fun q h9 => nomatch h9) dX0_isSmallProduct_13
theorem sc_X0_isSmallProduct : SC yX0_isSmallProduct cX0_isSmallProduct 7 (some .boolean) 2 := ⟨tw_209, tw_1, tw_210, by decide +kernel⟩
theorem cX0_isSmallProduct_met (l : Launch) (x0 : Int64) (x2 : Int64) (v : Int32) (h : jX0_isSmallProduct x0 x2 = v) : PM l yX0_isSmallProduct cX0_isSmallProduct 7 (some .boolean) (rmz 4 87) [.long x0, .long x2] (.int v) :=
  pm_of (own := RX0) (by decide +kernel) rfl (Nat.le_of_ble_eq_true rfl) (fun p e s m below meth c ls C hl => wX0_isSmallProduct_0 C x0 x2 ls v hl h)

/-! RealDesk.productError(JJ)J -/
def jX0_productError_B47 (x4 : Int64) (x6 : Int32) (x7 : Int64) : Int64 := jX0_withSignOf (jX0_nearest (jabsl (x7 - (sl (jX0_mOf x4) ((jX0_eOf x4) - x6)))) x6) ((x7 - (sl (jX0_mOf x4) ((jX0_eOf x4) - x6))) ^^^ x4)
set_option maxHeartbeats 4000000 in
set_option maxRecDepth 100000 in
theorem wX0_productError_B47 {p : Program} {l : Launch} {e : Env} {s : State} {m : MethodId} {args : Array Value} {below : List Frame} {meth : Method} {c : Code} (C : CX p s m args meth c RX0 cX0_productError 11 (some .long)) (x4 : Int64) (x6 : Int32) (x7 : Int64) (ls : Array Slot) (v : Int64) (hl : lv_has ls 11 [(4, .long x4), (6, .int x6), (7, .long x7)]) (h : jX0_productError_B47 x4 x6 x7 = v) : W p l e (rmz 5 111) s m args below meth c s.heap [] 0 0 (MQ below (k2_QcV (.long v)) args s 0 0 (fun _ => False)) (F0 m 47 ls []) := by
  obtain ⟨hx, hb, hml, hown, hg, hr, hlocks⟩ := id C
  unfold jX0_productError_B47 at h
  refine lv_lload hx hb dX0_productError_47 (lv_at hl 2 rfl) ?_
  refine lv_lload hx hb dX0_productError_49 (lv_at hl 0 rfl) ?_
  refine pcall C (cX0_mOf_met l _ _ rfl) sc_X0_mOf tw_171 (by decide) rfl hl.1 (rest := [.long x7]) rfl (Nat.le_of_ble_eq_true rfl) (by decide) dX0_productError_51 ?_
  refine lv_lload hx hb dX0_productError_54 (lv_at hl 0 rfl) ?_
  refine pcall C (cX0_eOf_met l _ _ rfl) sc_X0_eOf tw_165 (by decide) rfl hl.1 (rest := [.long (jX0_mOf x4), .long x7]) rfl (Nat.le_of_ble_eq_true rfl) (by decide) dX0_productError_56 ?_
  refine lv_iload hx hb dX0_productError_59 (lv_at hl 1 rfl) ?_
  refine lv_isub hx hb dX0_productError_61 ?_
  refine lv_lshl (v := sl (jX0_mOf x4) ((jX0_eOf x4) - x6)) hx hb dX0_productError_62 rfl ?_
  refine lv_lsub hx hb dX0_productError_63 ?_
  refine lv_lstore (lv' := [(9, .long (x7 - (sl (jX0_mOf x4) ((jX0_eOf x4) - x6)))), (4, .long x4), (6, .int x6), (7, .long x7)]) hx hb dX0_productError_64 hl (by decide) rfl (fun ls hl => ?_)
  refine lv_lload hx hb dX0_productError_66 (lv_at hl 0 rfl) ?_
  refine q_absl C tw_107 (by decide) (Nat.le_of_ble_eq_true rfl) (by decide) hl.1 dX0_productError_68 ?_
  refine lv_iload hx hb dX0_productError_71 (lv_at hl 2 rfl) ?_
  refine pcall C (cX0_nearest_met l _ _ _ rfl) sc_X0_nearest tw_110 (by decide) rfl hl.1 (rest := []) rfl (Nat.le_of_ble_eq_true rfl) (by decide) dX0_productError_73 ?_
  refine lv_lload hx hb dX0_productError_76 (lv_at hl 0 rfl) ?_
  refine lv_lload hx hb dX0_productError_78 (lv_at hl 1 rfl) ?_
  refine lv_lxor hx hb dX0_productError_80 ?_
  refine pcall C (cX0_withSignOf_met l _ _ _ rfl) sc_X0_withSignOf tw_130 (by decide) rfl hl.1 (rest := []) rfl (Nat.le_of_ble_eq_true rfl) (by decide) dX0_productError_81 ?_
  exact W.lret hx hb hr (fun t ht _ => ⟨by rw [← h], ht⟩) (fun q h9 => nomatch h9) dX0_productError_84
def jX0_productError (x0 : Int64) (x2 : Int64) : Int64 := (if (jX0_product x0 x2) = 0 then jX0_product x0 x2 else (if (jX0_isOver (jX0_product x0 x2)) = 0 then jX0_productError_B47 (jX0_product x0 x2) ((jX0_liftedE x0) + (jX0_liftedE x2)) ((jX0_liftedM x0) * (jX0_liftedM x2)) else jX0_product x0 x2))
set_option maxHeartbeats 4000000 in
set_option maxRecDepth 100000 in
theorem wX0_productError_0 {p : Program} {l : Launch} {e : Env} {s : State} {m : MethodId} {args : Array Value} {below : List Frame} {meth : Method} {c : Code} (C : CX p s m args meth c RX0 cX0_productError 11 (some .long)) (x0 : Int64) (x2 : Int64) (ls : Array Slot) (v : Int64) (hl : lv_has ls 11 [(0, .long x0), (2, .long x2)]) (h : jX0_productError x0 x2 = v) : W p l e (rmz 5 111) s m args below meth c s.heap [] 0 0 (MQ below (k2_QcV (.long v)) args s 0 0 (fun _ => False)) (F0 m 0 ls []) := by
  obtain ⟨hx, hb, hml, hown, hg, hr, hlocks⟩ := id C
  unfold jX0_productError at h
  refine lv_lload_n hx hb dX0_productError_0 rfl (lv_at hl 0 rfl) ?_
  refine lv_lload_n hx hb dX0_productError_1 rfl (lv_at hl 1 rfl) ?_
  refine pcall C (cX0_product_met l _ _ _ rfl) sc_X0_product tw_178 (by decide) rfl hl.1 (rest := []) rfl (Nat.le_of_ble_eq_true rfl) (by decide) dX0_productError_2 ?_
  refine lv_lstore (lv' := [(4, .long (jX0_product x0 x2)), (0, .long x0), (2, .long x2)]) hx hb dX0_productError_5 hl (by decide) rfl (fun ls hl => ?_)
  refine lv_lload hx hb dX0_productError_7 (lv_at hl 0 rfl) ?_
  refine lv_lconst (v := 0) hx hb dX0_productError_9 (by decide) ?_
  refine lc_eq (tgt := 22) hx hb dX0_productError_10 dX0_productError_11 (by decide) (fun c_1 => ?_) (fun c_1 => ?_)
  · rw [if_pos c_1] at h
    refine lv_lload hx hb dX0_productError_22 (lv_at hl 0 rfl) ?_
    exact W.lret hx hb hr (fun t ht _ => ⟨by rw [← h], ht⟩) (fun q h9 => nomatch h9) dX0_productError_24
  · rw [if_neg c_1] at h
    refine lv_lload hx hb dX0_productError_14 (lv_at hl 0 rfl) ?_
    refine pcall C (cX0_isOver_met l _ _ rfl) sc_X0_isOver tw_137 (by decide) rfl hl.1 (rest := []) rfl (Nat.le_of_ble_eq_true rfl) (by decide) dX0_productError_16 ?_
    refine lv_if_eq (tgt := 25) hx hb dX0_productError_19 (by decide) (fun c_2 => ?_) (fun c_2 => ?_)
    · rw [if_pos c_2] at h
      refine lv_lload_n hx hb dX0_productError_25 rfl (lv_at hl 1 rfl) ?_
      refine pcall C (cX0_liftedE_met l _ _ rfl) sc_X0_liftedE tw_181 (by decide) rfl hl.1 (rest := []) rfl (Nat.le_of_ble_eq_true rfl) (by decide) dX0_productError_26 ?_
      refine lv_lload_n hx hb dX0_productError_29 rfl (lv_at hl 2 rfl) ?_
      refine pcall C (cX0_liftedE_met l _ _ rfl) sc_X0_liftedE tw_181 (by decide) rfl hl.1 (rest := [.int (jX0_liftedE x0)]) rfl (Nat.le_of_ble_eq_true rfl) (by decide) dX0_productError_30 ?_
      refine lv_iadd hx hb dX0_productError_33 ?_
      refine lv_istore (lv' := [(6, .int ((jX0_liftedE x0) + (jX0_liftedE x2))), (4, .long (jX0_product x0 x2)), (0, .long x0), (2, .long x2)]) hx hb dX0_productError_34 hl (by decide) rfl (fun ls hl => ?_)
      refine lv_lload_n hx hb dX0_productError_36 rfl (lv_at hl 2 rfl) ?_
      refine pcall C (cX0_liftedM_met l _ _ rfl) sc_X0_liftedM tw_187 (by decide) rfl hl.1 (rest := []) rfl (Nat.le_of_ble_eq_true rfl) (by decide) dX0_productError_37 ?_
      refine lv_lload_n hx hb dX0_productError_40 rfl (lv_at hl 3 rfl) ?_
      refine pcall C (cX0_liftedM_met l _ _ rfl) sc_X0_liftedM tw_187 (by decide) rfl hl.1 (rest := [.long (jX0_liftedM x0)]) rfl (Nat.le_of_ble_eq_true rfl) (by decide) dX0_productError_41 ?_
      refine lv_lmul hx hb dX0_productError_44 ?_
      refine lv_lstore (lv' := [(7, .long ((jX0_liftedM x0) * (jX0_liftedM x2))), (6, .int ((jX0_liftedE x0) + (jX0_liftedE x2))), (4, .long (jX0_product x0 x2)), (0, .long x0), (2, .long x2)]) hx hb dX0_productError_45 hl (by decide) rfl (fun ls hl => ?_)
      exact wX0_productError_B47 C _ _ _ _ _ (lv_sub hl [2, 1, 0] rfl) h
    · rw [if_neg c_2] at h
      refine lv_lload hx hb dX0_productError_22 (lv_at hl 0 rfl) ?_
      exact W.lret hx hb hr (fun t ht _ => ⟨by rw [← h], ht⟩) (fun q h9 => nomatch h9) dX0_productError_24
theorem sc_X0_productError : SC yX0_productError cX0_productError 11 (some .long) 2 := ⟨tw_212, tw_1, tw_213, by decide +kernel⟩
theorem cX0_productError_met (l : Launch) (x0 : Int64) (x2 : Int64) (v : Int64) (h : jX0_productError x0 x2 = v) : PM l yX0_productError cX0_productError 11 (some .long) (rmz 5 111) [.long x0, .long x2] (.long v) :=
  pm_of (own := RX0) (by decide +kernel) rfl (Nat.le_of_ble_eq_true rfl) (fun p e s m below meth c ls C hl => wX0_productError_0 C x0 x2 ls v hl h)

/-! RealDeskModel.isRegister(I)Z -/
def jX2_isRegister (x0 : Int32) : Int32 := (if x0 < 0 then 0 else (if 16 ≤ x0 then 0 else 1 : Int32) : Int32)
set_option maxHeartbeats 4000000 in
set_option maxRecDepth 100000 in
theorem wX2_isRegister_0 {p : Program} {l : Launch} {e : Env} {s : State} {m : MethodId} {args : Array Value} {below : List Frame} {meth : Method} {c : Code} (C : CX p s m args meth c RX2 cX2_isRegister 1 (some .boolean)) (x0 : Int32) (ls : Array Slot) (v : Int32) (hl : lv_has ls 1 [(0, .int x0)]) (h : jX2_isRegister x0 = v) : W p l e (rmz 0 0) s m args below meth c s.heap [] 0 0 (MQ below (k2_QcV (.int v)) args s 0 0 (fun _ => False)) (F0 m 0 ls []) := by
  obtain ⟨hx, hb, hml, hown, hg, hr, hlocks⟩ := id C
  unfold jX2_isRegister at h
  refine lv_iload_n hx hb dX2_isRegister_0 rfl (lv_at hl 0 rfl) ?_
  refine rg_i (pj := 15) (v := (if x0 < 0 then 0 else (if 16 ≤ x0 then 0 else 1 : Int32) : Int32)) (ls := ls) (rest := []) (fun kJ => ?_) ?_
  · refine lv_if_lt (tgt := 14) hx hb dX2_isRegister_1 (by decide) (fun c_1 => ?_) (fun c_1 => ?_)
    · refine lv_iconst (v := 0) hx hb dX2_isRegister_14 (by decide) ?_
      exact kJ _ (by rw [if_pos c_1])
    · refine lv_iload_n hx hb dX2_isRegister_4 rfl (lv_at hl 0 rfl) ?_
      refine lv_bipush (v := 16) hx hb dX2_isRegister_5 (by decide) ?_
      refine lv_icmp_ge (tgt := 14) hx hb dX2_isRegister_7 (by decide) (fun c_2 => ?_) (fun c_2 => ?_)
      · refine lv_iconst (v := 0) hx hb dX2_isRegister_14 (by decide) ?_
        exact kJ _ (by rw [if_neg c_1, if_pos c_2])
      · refine lv_iconst (v := 1) hx hb dX2_isRegister_10 (by decide) ?_
        refine lv_goto (tgt := 15) hx hb dX2_isRegister_11 (by decide) ?_
        exact kJ _ (by rw [if_neg c_1, if_neg c_2])
  exact W.zret hx hb hr (by first | rfl | (split <;> rfl) | (split <;> first | rfl | (split <;> rfl))) (fun t ht _ => ⟨by rw [← h], ht⟩) (fun q h9 => nomatch h9) dX2_isRegister_15
theorem sc_X2_isRegister : SC yX2_isRegister cX2_isRegister 1 (some .boolean) 1 := ⟨tw_363, tw_2, tw_364, by decide +kernel⟩
theorem cX2_isRegister_met (l : Launch) (x0 : Int32) (v : Int32) (h : jX2_isRegister x0 = v) : PM l yX2_isRegister cX2_isRegister 1 (some .boolean) (rmz 0 0) [.int x0] (.int v) :=
  pm_of (own := RX2) (by decide +kernel) rfl (Nat.le_of_ble_eq_true rfl) (fun p e s m below meth c ls C hl => wX2_isRegister_0 C x0 ls v hl h)

/-! RealDeskModel.within(III)Z -/
def jX2_within (x0 : Int32) (x1 : Int32) (x2 : Int32) : Int32 := (if x0 < x1 then 0 else (if x2 < x0 then 0 else 1 : Int32) : Int32)
set_option maxHeartbeats 4000000 in
set_option maxRecDepth 100000 in
theorem wX2_within_0 {p : Program} {l : Launch} {e : Env} {s : State} {m : MethodId} {args : Array Value} {below : List Frame} {meth : Method} {c : Code} (C : CX p s m args meth c RX2 cX2_within 3 (some .boolean)) (x0 : Int32) (x1 : Int32) (x2 : Int32) (ls : Array Slot) (v : Int32) (hl : lv_has ls 3 [(0, .int x0), (1, .int x1), (2, .int x2)]) (h : jX2_within x0 x1 x2 = v) : W p l e (rmz 0 0) s m args below meth c s.heap [] 0 0 (MQ below (k2_QcV (.int v)) args s 0 0 (fun _ => False)) (F0 m 0 ls []) := by
  obtain ⟨hx, hb, hml, hown, hg, hr, hlocks⟩ := id C
  unfold jX2_within at h
  refine lv_iload_n hx hb dX2_within_0 rfl (lv_at hl 0 rfl) ?_
  refine lv_iload_n hx hb dX2_within_1 rfl (lv_at hl 1 rfl) ?_
  refine rg_i (pj := 15) (v := (if x0 < x1 then 0 else (if x2 < x0 then 0 else 1 : Int32) : Int32)) (ls := ls) (rest := []) (fun kJ => ?_) ?_
  · refine lv_icmp_lt (tgt := 14) hx hb dX2_within_2 (by decide) (fun c_1 => ?_) (fun c_1 => ?_)
    · refine lv_iconst (v := 0) hx hb dX2_within_14 (by decide) ?_
      exact kJ _ (by rw [if_pos c_1])
    · refine lv_iload_n hx hb dX2_within_5 rfl (lv_at hl 0 rfl) ?_
      refine lv_iload_n hx hb dX2_within_6 rfl (lv_at hl 2 rfl) ?_
      refine lv_icmp_gt (tgt := 14) hx hb dX2_within_7 (by decide) (fun c_2 => ?_) (fun c_2 => ?_)
      · refine lv_iconst (v := 0) hx hb dX2_within_14 (by decide) ?_
        exact kJ _ (by rw [if_neg c_1, if_pos c_2])
      · refine lv_iconst (v := 1) hx hb dX2_within_10 (by decide) ?_
        refine lv_goto (tgt := 15) hx hb dX2_within_11 (by decide) ?_
        exact kJ _ (by rw [if_neg c_1, if_neg c_2])
  exact W.zret hx hb hr (by first | rfl | (split <;> rfl) | (split <;> first | rfl | (split <;> rfl))) (fun t ht _ => ⟨by rw [← h], ht⟩) (fun q h9 => nomatch h9) dX2_within_15
theorem sc_X2_within : SC yX2_within cX2_within 3 (some .boolean) 3 := ⟨tw_368, tw_2, tw_369, by decide +kernel⟩
theorem cX2_within_met (l : Launch) (x0 : Int32) (x1 : Int32) (x2 : Int32) (v : Int32) (h : jX2_within x0 x1 x2 = v) : PM l yX2_within cX2_within 3 (some .boolean) (rmz 0 0) [.int x0, .int x1, .int x2] (.int v) :=
  pm_of (own := RX2) (by decide +kernel) rfl (Nat.le_of_ble_eq_true rfl) (fun p e s m below meth c ls C hl => wX2_within_0 C x0 x1 x2 ls v hl h)
