/-! RealDeskModel.thrown()I -/
def jX2_thrown (th : Int32) (mi : NI) (di : NL) (po : NI) (be : Int32) (mm : Int64) (ee : Int32) (fa : NI) (fb : NI) : Option (Int32 × Int32 × NI × NL × NI × Int32 × Int64 × Int32 × NI × NI) := some (th, th, mi, di, po, be, mm, ee, fa, fb)
set_option maxHeartbeats 4000000 in
set_option maxRecDepth 100000 in
theorem wX2_thrown_0 {p : Program} {l : Launch} {e : Env} {s : State} {m : MethodId} {args : Array Value} {below : List Frame} {meth : Method} {c : Code} {D : va_G} {A : Nat → Prop} {ck : Nat → ClassId} {ad : Nat → Nat} (C : CX p s m args meth c RX2 cX2_thrown 1 (some .int)) (hA : ∀ q, s.heap.size ≤ q → A q) (hK : va_K D vwCl (tyM ck) s) (hX : XT s) (th : Int32) (mi : NI) (di : NL) (po : NI) (be : Int32) (mm : Int64) (ee : Int32) (fa : NI) (fb : NI) (ls : Array Slot) (H : Heap) (locs : List Loc) (u : Int32 × Int32 × NI × NL × NI × Int32 × Int64 × Int32 × NI × NI) (hP : va_P D vwCl (wM ck ad th mi di po be mm ee fa fb) H) (hD : va_D A (wM ck ad th mi di po be mm ee fa fb)) (hS : va_S A s.heap H locs) (hl : lv_has ls 1 [(0, .ref (ad 0))]) (h : jX2_thrown th mi di po be mm ee fa fb = some u) : W p l e (rmz 0 0) s m args below meth c H locs 0 0 (MQ below (HQ D A (wM ck ad u.2.1 u.2.2.1 u.2.2.2.1 u.2.2.2.2.1 u.2.2.2.2.2.1 u.2.2.2.2.2.2.1 u.2.2.2.2.2.2.2.1 u.2.2.2.2.2.2.2.2.1 u.2.2.2.2.2.2.2.2.2) (some (.int u.1))) args s 0 0 A) (F0 m 0 ls []) := by
  obtain ⟨hx, hb, hml, hown, hg, hr, hlocks⟩ := id C
  unfold jX2_thrown at h
  refine lv_aload_n hx hb dX2_thrown_0 rfl (lv_at hl 0 rfl) ?_
  refine va_get hx hb hg inX2 hown hK hP 0 rfl rfl 0 (by decide) (hg _ tw_326) (fun _ h9 => h9) rfl dX2_thrown_1 ?_
  cases h
  exact W.iret hx hb hr (fun t ht _ => ⟨rfl, by rw [ht]; exact hP, hD, hS.F ht⟩) hS.2.2 dX2_thrown_4
theorem vc_X2_thrown : VC RX2 yX2_thrown cX2_thrown 1 (some .int) 0 := ⟨tw_355, tw_356, tw_2, tw_357, by decide +kernel⟩
theorem cX2_thrown_met (l : Launch) (ck : Nat → ClassId) (ad : Nat → Nat) (th : Int32) (mi : NI) (di : NL) (po : NI) (be : Int32) (mm : Int64) (ee : Int32) (fa : NI) (fb : NI) (u : Int32 × Int32 × NI × NL × NI × Int32 × Int64 × Int32 × NI × NI) (h : jX2_thrown th mi di po be mm ee fa fb = some u) : HM l yX2_thrown cX2_thrown 1 (some .int) (rmz 0 0) [.ref (ad 0)] (tyM ck) (wM ck ad th mi di po be mm ee fa fb) (some (.int u.1)) (wM ck ad u.2.1 u.2.2.1 u.2.2.2.1 u.2.2.2.2.1 u.2.2.2.2.2.1 u.2.2.2.2.2.2.1 u.2.2.2.2.2.2.2.1 u.2.2.2.2.2.2.2.2.1 u.2.2.2.2.2.2.2.2.2) :=
  hm_of (own := RX2) (by decide +kernel) rfl (Nat.le_of_ble_eq_true rfl) (fun D A p e s m below meth c ls C hA hK hX hP hD hS hl => wX2_thrown_0 C hA hK hX th mi di po be mm ee fa fb ls _ _ u hP hD hS hl h)

/-! RealDeskModel.refuse(I)I -/
def jX2_refuse (th : Int32) (mi : NI) (di : NL) (po : NI) (be : Int32) (mm : Int64) (ee : Int32) (fa : NI) (fb : NI) (x1 : Int32) : Option (Int32 × Int32 × NI × NL × NI × Int32 × Int64 × Int32 × NI × NI) := some (0, x1, mi, di, po, be, mm, ee, fa, fb)
set_option maxHeartbeats 4000000 in
set_option maxRecDepth 100000 in
theorem wX2_refuse_0 {p : Program} {l : Launch} {e : Env} {s : State} {m : MethodId} {args : Array Value} {below : List Frame} {meth : Method} {c : Code} {D : va_G} {A : Nat → Prop} {ck : Nat → ClassId} {ad : Nat → Nat} (C : CX p s m args meth c RX2 cX2_refuse 2 (some .int)) (hA : ∀ q, s.heap.size ≤ q → A q) (hK : va_K D vwCl (tyM ck) s) (hX : XT s) (th : Int32) (mi : NI) (di : NL) (po : NI) (be : Int32) (mm : Int64) (ee : Int32) (fa : NI) (fb : NI) (x1 : Int32) (ls : Array Slot) (H : Heap) (locs : List Loc) (u : Int32 × Int32 × NI × NL × NI × Int32 × Int64 × Int32 × NI × NI) (hP : va_P D vwCl (wM ck ad th mi di po be mm ee fa fb) H) (hD : va_D A (wM ck ad th mi di po be mm ee fa fb)) (hS : va_S A s.heap H locs) (hl : lv_has ls 2 [(0, .ref (ad 0)), (1, .int x1)]) (h : jX2_refuse th mi di po be mm ee fa fb x1 = some u) : W p l e (rmz 0 0) s m args below meth c H locs 0 0 (MQ below (HQ D A (wM ck ad u.2.1 u.2.2.1 u.2.2.2.1 u.2.2.2.2.1 u.2.2.2.2.2.1 u.2.2.2.2.2.2.1 u.2.2.2.2.2.2.2.1 u.2.2.2.2.2.2.2.2.1 u.2.2.2.2.2.2.2.2.2) (some (.int u.1))) args s 0 0 A) (F0 m 0 ls []) := by
  obtain ⟨hx, hb, hml, hown, hg, hr, hlocks⟩ := id C
  unfold jX2_refuse at h
  refine lv_aload_n hx hb dX2_refuse_0 rfl (lv_at hl 0 rfl) ?_
  refine lv_iload_n hx hb dX2_refuse_1 rfl (lv_at hl 1 rfl) ?_
  refine va_put hx hb hg inX2 tyX2 tyX2_ok nmX2 hown hK hP hD hS 0 rfl rfl 0 (by decide) (hg _ tw_326) (fun _ h9 => h9) rfl (tyX2_ok 0 (by decide)) rfl rfl (Nat.le_of_ble_eq_true rfl) dX2_refuse_2 (fun H locs hP hD hS => ?_)
  have hP : va_P D vwCl (wM ck ad x1 mi di po be mm ee fa fb) H := hP
  have hD : va_D A (wM ck ad x1 mi di po be mm ee fa fb) := hD
  refine lv_iconst (v := 0) hx hb dX2_refuse_5 (by decide) ?_
  cases h
  exact W.iret hx hb hr (fun t ht _ => ⟨rfl, by rw [ht]; exact hP, hD, hS.F ht⟩) hS.2.2 dX2_refuse_6
theorem vc_X2_refuse : VC RX2 yX2_refuse cX2_refuse 2 (some .int) 1 := ⟨tw_561, ts_28, tw_2, tw_562, by decide +kernel⟩
theorem cX2_refuse_met (l : Launch) (ck : Nat → ClassId) (ad : Nat → Nat) (th : Int32) (mi : NI) (di : NL) (po : NI) (be : Int32) (mm : Int64) (ee : Int32) (fa : NI) (fb : NI) (x1 : Int32) (u : Int32 × Int32 × NI × NL × NI × Int32 × Int64 × Int32 × NI × NI) (h : jX2_refuse th mi di po be mm ee fa fb x1 = some u) : HM l yX2_refuse cX2_refuse 2 (some .int) (rmz 0 0) [.ref (ad 0), .int x1] (tyM ck) (wM ck ad th mi di po be mm ee fa fb) (some (.int u.1)) (wM ck ad u.2.1 u.2.2.1 u.2.2.2.1 u.2.2.2.2.1 u.2.2.2.2.2.1 u.2.2.2.2.2.2.1 u.2.2.2.2.2.2.2.1 u.2.2.2.2.2.2.2.2.1 u.2.2.2.2.2.2.2.2.2) :=
  hm_of (own := RX2) (by decide +kernel) rfl (Nat.le_of_ble_eq_true rfl) (fun D A p e s m below meth c ls C hA hK hX hP hD hS hl => wX2_refuse_0 C hA hK hX th mi di po be mm ee fa fb x1 ls _ _ u hP hD hS hl h)

/-! RealDeskModel.settle()I -/
def jX2_settle_L57 : Nat → Int32 → NI → NL → NI → Int32 → Int64 → Int32 → NI → NI → Option (Int32 × Int32 × NI × NL × NI × Int32 × Int64 × Int32 × NI × NI)
  | 0, _, _, _, _, _, _, _, _, _ => none
  | k + 1, th, mi, di, po, be, mm, ee, fa, fb => (if mm ≤ 0 then some ((if ee ≤ 971 then 0 else (-1) : Int32), th, mi, di, po, be, mm, ee, fa, fb) else (if 4503599627370496 ≤ mm then some ((if ee ≤ 971 then 0 else (-1) : Int32), th, mi, di, po, be, mm, ee, fa, fb) else (if ee ≤ (-1074) then some ((if ee ≤ 971 then 0 else (-1) : Int32), th, mi, di, po, be, mm, ee, fa, fb) else jX2_settle_L57 k th mi di po be (2 * mm) (ee - 1) fa fb)))
set_option maxHeartbeats 4000000 in
set_option maxRecDepth 100000 in
theorem wX2_settle_L57 {p : Program} {l : Launch} {e : Env} {s : State} {m : MethodId} {args : Array Value} {below : List Frame} {meth : Method} {c : Code} {D : va_G} {A : Nat → Prop} {ck : Nat → ClassId} {ad : Nat → Nat} (C : CX p s m args meth c RX2 cX2_settle 1 (some .int)) (hA : ∀ q, s.heap.size ≤ q → A q) (hK : va_K D vwCl (tyM ck) s) (hX : XT s) : ∀ (k : Nat) (th : Int32) (mi : NI) (di : NL) (po : NI) (be : Int32) (mm : Int64) (ee : Int32) (fa : NI) (fb : NI) (ls : Array Slot) (H : Heap) (locs : List Loc) (u : Int32 × Int32 × NI × NL × NI × Int32 × Int64 × Int32 × NI × NI), va_P D vwCl (wM ck ad th mi di po be mm ee fa fb) H → va_D A (wM ck ad th mi di po be mm ee fa fb) → va_S A s.heap H locs → lv_has ls 1 [(0, .ref (ad 0))] → jX2_settle_L57 k th mi di po be mm ee fa fb = some u → W p l e (rmz 0 0) s m args below meth c H locs 0 0 (MQ below (HQ D A (wM ck ad u.2.1 u.2.2.1 u.2.2.2.1 u.2.2.2.2.1 u.2.2.2.2.2.1 u.2.2.2.2.2.2.1 u.2.2.2.2.2.2.2.1 u.2.2.2.2.2.2.2.2.1 u.2.2.2.2.2.2.2.2.2) (some (.int u.1))) args s 0 0 A) (F0 m 57 ls []) := by
  obtain ⟨hx, hb, hml, hown, hg, hr, hlocks⟩ := id C
  intro k
  induction k with
  | zero => intro th mi di po be mm ee fa fb ls H locs u hP hD hS hl h; cases h
  | succ k ih =>
    intro th mi di po be mm ee fa fb ls H locs u hP hD hS hl h
    unfold jX2_settle_L57 at h
    refine lv_aload_n hx hb dX2_settle_57 rfl (lv_at hl 0 rfl) ?_
    refine va_get hx hb hg inX2 hown hK hP 0 rfl rfl 5 (by decide) (hg _ tw_331) (fun _ h9 => h9) rfl dX2_settle_58 ?_
    refine lv_lconst (v := 0) hx hb dX2_settle_61 (by decide) ?_
    refine lc_le (tgt := 112) hx hb dX2_settle_62 dX2_settle_63 (by decide) (fun c_1 => ?_) (fun c_1 => ?_)
    · rw [if_pos c_1] at h
      refine lv_aload_n hx hb dX2_settle_112 rfl (lv_at hl 0 rfl) ?_
      refine va_get hx hb hg inX2 hown hK hP 0 rfl rfl 6 (by decide) (hg _ tw_332) (fun _ h9 => h9) rfl dX2_settle_113 ?_
      refine lv_sipush (v := 971) hx hb dX2_settle_116 (by decide) ?_
      refine rg_i (pj := 127) (v := (if ee ≤ 971 then 0 else (-1) : Int32)) (ls := ls) (rest := []) (fun kJ => ?_) ?_
      · refine lv_icmp_le (tgt := 126) hx hb dX2_settle_119 (by decide) (fun c_2 => ?_) (fun c_2 => ?_)
        · refine lv_iconst (v := 0) hx hb dX2_settle_126 (by decide) ?_
          exact kJ _ (by rw [if_pos c_2])
        · refine lv_iconst (v := (-1)) hx hb dX2_settle_122 (by decide) ?_
          refine lv_goto (tgt := 127) hx hb dX2_settle_123 (by decide) ?_
          exact kJ _ (by rw [if_neg c_2])
      cases h
      exact W.iret hx hb hr (fun t ht _ => ⟨rfl, by rw [ht]; exact hP, hD, hS.F ht⟩) hS.2.2 dX2_settle_127
    · rw [if_neg c_1] at h
      refine lv_aload_n hx hb dX2_settle_66 rfl (lv_at hl 0 rfl) ?_
      refine va_get hx hb hg inX2 hown hK hP 0 rfl rfl 5 (by decide) (hg _ tw_331) (fun _ h9 => h9) rfl dX2_settle_67 ?_
      refine lv_ldc2 hx hb hown (hg _ tw_402) dX2_settle_70 ?_
      refine lc_ge (tgt := 112) hx hb dX2_settle_73 dX2_settle_74 (by decide) (fun c_3 => ?_) (fun c_3 => ?_)
      · rw [if_pos c_3] at h
        refine lv_aload_n hx hb dX2_settle_112 rfl (lv_at hl 0 rfl) ?_
        refine va_get hx hb hg inX2 hown hK hP 0 rfl rfl 6 (by decide) (hg _ tw_332) (fun _ h9 => h9) rfl dX2_settle_113 ?_
        refine lv_sipush (v := 971) hx hb dX2_settle_116 (by decide) ?_
        refine rg_i (pj := 127) (v := (if ee ≤ 971 then 0 else (-1) : Int32)) (ls := ls) (rest := []) (fun kJ => ?_) ?_
        · refine lv_icmp_le (tgt := 126) hx hb dX2_settle_119 (by decide) (fun c_4 => ?_) (fun c_4 => ?_)
          · refine lv_iconst (v := 0) hx hb dX2_settle_126 (by decide) ?_
            exact kJ _ (by rw [if_pos c_4])
          · refine lv_iconst (v := (-1)) hx hb dX2_settle_122 (by decide) ?_
            refine lv_goto (tgt := 127) hx hb dX2_settle_123 (by decide) ?_
            exact kJ _ (by rw [if_neg c_4])
        cases h
        exact W.iret hx hb hr (fun t ht _ => ⟨rfl, by rw [ht]; exact hP, hD, hS.F ht⟩) hS.2.2 dX2_settle_127
      · rw [if_neg c_3] at h
        refine lv_aload_n hx hb dX2_settle_77 rfl (lv_at hl 0 rfl) ?_
        refine va_get hx hb hg inX2 hown hK hP 0 rfl rfl 6 (by decide) (hg _ tw_332) (fun _ h9 => h9) rfl dX2_settle_78 ?_
        refine lv_sipush (v := (-1074)) hx hb dX2_settle_81 (by decide) ?_
        refine lv_icmp_le (tgt := 112) hx hb dX2_settle_84 (by decide) (fun c_5 => ?_) (fun c_5 => ?_)
        · rw [if_pos c_5] at h
          refine lv_aload_n hx hb dX2_settle_112 rfl (lv_at hl 0 rfl) ?_
          refine va_get hx hb hg inX2 hown hK hP 0 rfl rfl 6 (by decide) (hg _ tw_332) (fun _ h9 => h9) rfl dX2_settle_113 ?_
          refine lv_sipush (v := 971) hx hb dX2_settle_116 (by decide) ?_
          refine rg_i (pj := 127) (v := (if ee ≤ 971 then 0 else (-1) : Int32)) (ls := ls) (rest := []) (fun kJ => ?_) ?_
          · refine lv_icmp_le (tgt := 126) hx hb dX2_settle_119 (by decide) (fun c_6 => ?_) (fun c_6 => ?_)
            · refine lv_iconst (v := 0) hx hb dX2_settle_126 (by decide) ?_
              exact kJ _ (by rw [if_pos c_6])
            · refine lv_iconst (v := (-1)) hx hb dX2_settle_122 (by decide) ?_
              refine lv_goto (tgt := 127) hx hb dX2_settle_123 (by decide) ?_
              exact kJ _ (by rw [if_neg c_6])
          cases h
          exact W.iret hx hb hr (fun t ht _ => ⟨rfl, by rw [ht]; exact hP, hD, hS.F ht⟩) hS.2.2 dX2_settle_127
        · rw [if_neg c_5] at h
          refine lv_aload_n hx hb dX2_settle_87 rfl (lv_at hl 0 rfl) ?_
          refine lv_ldc2 hx hb hown (hg _ tw_397) dX2_settle_88 ?_
          refine lv_aload_n hx hb dX2_settle_91 rfl (lv_at hl 0 rfl) ?_
          refine va_get hx hb hg inX2 hown hK hP 0 rfl rfl 5 (by decide) (hg _ tw_331) (fun _ h9 => h9) rfl dX2_settle_92 ?_
          refine lv_lmul hx hb dX2_settle_95 ?_
          refine va_put hx hb hg inX2 tyX2 tyX2_ok nmX2 hown hK hP hD hS 0 rfl rfl 5 (by decide) (hg _ tw_331) (fun _ h9 => h9) rfl (tyX2_ok 5 (by decide)) rfl rfl (Nat.le_of_ble_eq_true rfl) dX2_settle_96 (fun H locs hP hD hS => ?_)
          have hP : va_P D vwCl (wM ck ad th mi di po be (2 * mm) ee fa fb) H := hP
          have hD : va_D A (wM ck ad th mi di po be (2 * mm) ee fa fb) := hD
          refine lv_aload_n hx hb dX2_settle_99 rfl (lv_at hl 0 rfl) ?_
          refine lv_dup hx hb dX2_settle_100 rfl ?_
          refine va_get hx hb hg inX2 hown hK hP 0 rfl rfl 6 (by decide) (hg _ tw_332) (fun _ h9 => h9) rfl dX2_settle_101 ?_
          refine lv_iconst (v := 1) hx hb dX2_settle_104 (by decide) ?_
          refine lv_isub hx hb dX2_settle_105 ?_
          refine va_put hx hb hg inX2 tyX2 tyX2_ok nmX2 hown hK hP hD hS 0 rfl rfl 6 (by decide) (hg _ tw_332) (fun _ h9 => h9) rfl (tyX2_ok 6 (by decide)) rfl rfl (Nat.le_of_ble_eq_true rfl) dX2_settle_106 (fun H locs hP hD hS => ?_)
          have hP : va_P D vwCl (wM ck ad th mi di po be (2 * mm) (ee - 1) fa fb) H := hP
          have hD : va_D A (wM ck ad th mi di po be (2 * mm) (ee - 1) fa fb) := hD
          refine lv_goto (tgt := 57) hx hb dX2_settle_109 (by decide) ?_
          exact ih _ _ _ _ _ _ _ _ _ _ _ _ _ hP hD hS (lv_sub hl [0] rfl) h
def jX2_settle_L21 : Nat → Int32 → NI → NL → NI → Int32 → Int64 → Int32 → NI → NI → Option (Int32 × Int32 × NI × NL × NI × Int32 × Int64 × Int32 × NI × NI)
  | 0, _, _, _, _, _, _, _, _, _ => none
  | k + 1, th, mi, di, po, be, mm, ee, fa, fb => (if mm < 9007199254740992 then jX2_settle_L57 FU th mi di po be mm ee fa fb else jX2_settle_L21 k th mi di po be (mm / 2) (ee + 1) fa fb)
set_option maxHeartbeats 4000000 in
set_option maxRecDepth 100000 in
theorem wX2_settle_L21 {p : Program} {l : Launch} {e : Env} {s : State} {m : MethodId} {args : Array Value} {below : List Frame} {meth : Method} {c : Code} {D : va_G} {A : Nat → Prop} {ck : Nat → ClassId} {ad : Nat → Nat} (C : CX p s m args meth c RX2 cX2_settle 1 (some .int)) (hA : ∀ q, s.heap.size ≤ q → A q) (hK : va_K D vwCl (tyM ck) s) (hX : XT s) : ∀ (k : Nat) (th : Int32) (mi : NI) (di : NL) (po : NI) (be : Int32) (mm : Int64) (ee : Int32) (fa : NI) (fb : NI) (ls : Array Slot) (H : Heap) (locs : List Loc) (u : Int32 × Int32 × NI × NL × NI × Int32 × Int64 × Int32 × NI × NI), va_P D vwCl (wM ck ad th mi di po be mm ee fa fb) H → va_D A (wM ck ad th mi di po be mm ee fa fb) → va_S A s.heap H locs → lv_has ls 1 [(0, .ref (ad 0))] → jX2_settle_L21 k th mi di po be mm ee fa fb = some u → W p l e (rmz 0 0) s m args below meth c H locs 0 0 (MQ below (HQ D A (wM ck ad u.2.1 u.2.2.1 u.2.2.2.1 u.2.2.2.2.1 u.2.2.2.2.2.1 u.2.2.2.2.2.2.1 u.2.2.2.2.2.2.2.1 u.2.2.2.2.2.2.2.2.1 u.2.2.2.2.2.2.2.2.2) (some (.int u.1))) args s 0 0 A) (F0 m 21 ls []) := by
  obtain ⟨hx, hb, hml, hown, hg, hr, hlocks⟩ := id C
  intro k
  induction k with
  | zero => intro th mi di po be mm ee fa fb ls H locs u hP hD hS hl h; cases h
  | succ k ih =>
    intro th mi di po be mm ee fa fb ls H locs u hP hD hS hl h
    unfold jX2_settle_L21 at h
    refine lv_aload_n hx hb dX2_settle_21 rfl (lv_at hl 0 rfl) ?_
    refine va_get hx hb hg inX2 hown hK hP 0 rfl rfl 5 (by decide) (hg _ tw_331) (fun _ h9 => h9) rfl dX2_settle_22 ?_
    refine lv_ldc2 hx hb hown (hg _ tw_366) dX2_settle_25 ?_
    refine lc_lt (tgt := 57) hx hb dX2_settle_28 dX2_settle_29 (by decide) (fun c_1 => ?_) (fun c_1 => ?_)
    · rw [if_pos c_1] at h
      exact wX2_settle_L57 C hA hK hX FU _ _ _ _ _ _ _ _ _ _ _ _ _ hP hD hS (lv_sub hl [0] rfl) h
    · rw [if_neg c_1] at h
      refine lv_aload_n hx hb dX2_settle_32 rfl (lv_at hl 0 rfl) ?_
      refine lv_aload_n hx hb dX2_settle_33 rfl (lv_at hl 0 rfl) ?_
      refine va_get hx hb hg inX2 hown hK hP 0 rfl rfl 5 (by decide) (hg _ tw_331) (fun _ h9 => h9) rfl dX2_settle_34 ?_
      refine lv_ldc2 hx hb hown (hg _ tw_397) dX2_settle_37 ?_
      refine lv_ldiv hx hb dX2_settle_40 (by decide) ?_
      refine va_put hx hb hg inX2 tyX2 tyX2_ok nmX2 hown hK hP hD hS 0 rfl rfl 5 (by decide) (hg _ tw_331) (fun _ h9 => h9) rfl (tyX2_ok 5 (by decide)) rfl rfl (Nat.le_of_ble_eq_true rfl) dX2_settle_41 (fun H locs hP hD hS => ?_)
      have hP : va_P D vwCl (wM ck ad th mi di po be (mm / 2) ee fa fb) H := hP
      have hD : va_D A (wM ck ad th mi di po be (mm / 2) ee fa fb) := hD
      refine lv_aload_n hx hb dX2_settle_44 rfl (lv_at hl 0 rfl) ?_
      refine lv_dup hx hb dX2_settle_45 rfl ?_
      refine va_get hx hb hg inX2 hown hK hP 0 rfl rfl 6 (by decide) (hg _ tw_332) (fun _ h9 => h9) rfl dX2_settle_46 ?_
      refine lv_iconst (v := 1) hx hb dX2_settle_49 (by decide) ?_
      refine lv_iadd hx hb dX2_settle_50 ?_
      refine va_put hx hb hg inX2 tyX2 tyX2_ok nmX2 hown hK hP hD hS 0 rfl rfl 6 (by decide) (hg _ tw_332) (fun _ h9 => h9) rfl (tyX2_ok 6 (by decide)) rfl rfl (Nat.le_of_ble_eq_true rfl) dX2_settle_51 (fun H locs hP hD hS => ?_)
      have hP : va_P D vwCl (wM ck ad th mi di po be (mm / 2) (ee + 1) fa fb) H := hP
      have hD : va_D A (wM ck ad th mi di po be (mm / 2) (ee + 1) fa fb) := hD
      refine lv_goto (tgt := 21) hx hb dX2_settle_54 (by decide) ?_
      exact ih _ _ _ _ _ _ _ _ _ _ _ _ _ hP hD hS (lv_sub hl [0] rfl) h
def jX2_settle (th : Int32) (mi : NI) (di : NL) (po : NI) (be : Int32) (mm : Int64) (ee : Int32) (fa : NI) (fb : NI) : Option (Int32 × Int32 × NI × NL × NI × Int32 × Int64 × Int32 × NI × NI) := (if mm = 0 then jX2_settle_L21 FU th mi di po 0 mm (-1074) fa fb else jX2_settle_L21 FU th mi di po be mm ee fa fb)
set_option maxHeartbeats 4000000 in
set_option maxRecDepth 100000 in
theorem wX2_settle_0 {p : Program} {l : Launch} {e : Env} {s : State} {m : MethodId} {args : Array Value} {below : List Frame} {meth : Method} {c : Code} {D : va_G} {A : Nat → Prop} {ck : Nat → ClassId} {ad : Nat → Nat} (C : CX p s m args meth c RX2 cX2_settle 1 (some .int)) (hA : ∀ q, s.heap.size ≤ q → A q) (hK : va_K D vwCl (tyM ck) s) (hX : XT s) (th : Int32) (mi : NI) (di : NL) (po : NI) (be : Int32) (mm : Int64) (ee : Int32) (fa : NI) (fb : NI) (ls : Array Slot) (H : Heap) (locs : List Loc) (u : Int32 × Int32 × NI × NL × NI × Int32 × Int64 × Int32 × NI × NI) (hP : va_P D vwCl (wM ck ad th mi di po be mm ee fa fb) H) (hD : va_D A (wM ck ad th mi di po be mm ee fa fb)) (hS : va_S A s.heap H locs) (hl : lv_has ls 1 [(0, .ref (ad 0))]) (h : jX2_settle th mi di po be mm ee fa fb = some u) : W p l e (rmz 0 0) s m args below meth c H locs 0 0 (MQ below (HQ D A (wM ck ad u.2.1 u.2.2.1 u.2.2.2.1 u.2.2.2.2.1 u.2.2.2.2.2.1 u.2.2.2.2.2.2.1 u.2.2.2.2.2.2.2.1 u.2.2.2.2.2.2.2.2.1 u.2.2.2.2.2.2.2.2.2) (some (.int u.1))) args s 0 0 A) (F0 m 0 ls []) := by
  obtain ⟨hx, hb, hml, hown, hg, hr, hlocks⟩ := id C
  unfold jX2_settle at h
  refine lv_aload_n hx hb dX2_settle_0 rfl (lv_at hl 0 rfl) ?_
  refine va_get hx hb hg inX2 hown hK hP 0 rfl rfl 5 (by decide) (hg _ tw_331) (fun _ h9 => h9) rfl dX2_settle_1 ?_
  refine lv_lconst (v := 0) hx hb dX2_settle_4 (by decide) ?_
  refine lc_ne (tgt := 21) hx hb dX2_settle_5 dX2_settle_6 (by decide) (fun c_1 => ?_) (fun c_1 => ?_)
  · rw [if_neg c_1] at h
    exact wX2_settle_L21 C hA hK hX FU _ _ _ _ _ _ _ _ _ _ _ _ _ hP hD hS (lv_sub hl [0] rfl) h
  · rw [if_pos c_1] at h
    refine lv_aload_n hx hb dX2_settle_9 rfl (lv_at hl 0 rfl) ?_
    refine lv_iconst (v := 0) hx hb dX2_settle_10 (by decide) ?_
    refine va_put hx hb hg inX2 tyX2 tyX2_ok nmX2 hown hK hP hD hS 0 rfl rfl 4 (by decide) (hg _ tw_330) (fun _ h9 => h9) rfl (tyX2_ok 4 (by decide)) (bz_n bz_0) (bz_f bz_0) (Nat.le_of_ble_eq_true rfl) dX2_settle_11 (fun H locs hP hD hS => ?_)
    have hP : va_P D vwCl (wM ck ad th mi di po 0 mm ee fa fb) H := hP
    have hD : va_D A (wM ck ad th mi di po 0 mm ee fa fb) := hD
    refine lv_aload_n hx hb dX2_settle_14 rfl (lv_at hl 0 rfl) ?_
    refine lv_sipush (v := (-1074)) hx hb dX2_settle_15 (by decide) ?_
    refine va_put hx hb hg inX2 tyX2 tyX2_ok nmX2 hown hK hP hD hS 0 rfl rfl 6 (by decide) (hg _ tw_332) (fun _ h9 => h9) rfl (tyX2_ok 6 (by decide)) rfl rfl (Nat.le_of_ble_eq_true rfl) dX2_settle_18 (fun H locs hP hD hS => ?_)
    have hP : va_P D vwCl (wM ck ad th mi di po 0 mm (-1074) fa fb) H := hP
    have hD : va_D A (wM ck ad th mi di po 0 mm (-1074) fa fb) := hD
    exact wX2_settle_L21 C hA hK hX FU _ _ _ _ _ _ _ _ _ _ _ _ _ hP hD hS (lv_sub hl [0] rfl) h
theorem vc_X2_settle : VC RX2 yX2_settle cX2_settle 1 (some .int) 0 := ⟨tw_400, ts_5, tw_2, tw_401, by decide +kernel⟩
theorem cX2_settle_met (l : Launch) (ck : Nat → ClassId) (ad : Nat → Nat) (th : Int32) (mi : NI) (di : NL) (po : NI) (be : Int32) (mm : Int64) (ee : Int32) (fa : NI) (fb : NI) (u : Int32 × Int32 × NI × NL × NI × Int32 × Int64 × Int32 × NI × NI) (h : jX2_settle th mi di po be mm ee fa fb = some u) : HM l yX2_settle cX2_settle 1 (some .int) (rmz 0 0) [.ref (ad 0)] (tyM ck) (wM ck ad th mi di po be mm ee fa fb) (some (.int u.1)) (wM ck ad u.2.1 u.2.2.1 u.2.2.2.1 u.2.2.2.2.1 u.2.2.2.2.2.1 u.2.2.2.2.2.2.1 u.2.2.2.2.2.2.2.1 u.2.2.2.2.2.2.2.2.1 u.2.2.2.2.2.2.2.2.2) :=
  hm_of (own := RX2) (by decide +kernel) rfl (Nat.le_of_ble_eq_true rfl) (fun D A p e s m below meth c ls C hA hK hX hP hD hS hl => wX2_settle_0 C hA hK hX th mi di po be mm ee fa fb ls _ _ u hP hD hS hl h)

/-! RealDeskModel.take(I)V -/
def jX2_take (th : Int32) (mi : NI) (di : NL) (po : NI) (be : Int32) (mm : Int64) (ee : Int32) (fa : NI) (fb : NI) (x1 : Int32) : Option (Int32 × NI × NL × NI × Int32 × Int64 × Int32 × NI × NI) := (if ok x1 16 = true then (if bz (mi x1.toNatClampNeg) = true then (if ok x1 16 = true then (if ok x1 16 = true then some (th, mi, di, po, mi x1.toNatClampNeg, di x1.toNatClampNeg, po x1.toNatClampNeg, fa, fb) else none) else none) else none) else none)
set_option maxHeartbeats 4000000 in
set_option maxRecDepth 100000 in
theorem wX2_take_0 {p : Program} {l : Launch} {e : Env} {s : State} {m : MethodId} {args : Array Value} {below : List Frame} {meth : Method} {c : Code} {D : va_G} {A : Nat → Prop} {ck : Nat → ClassId} {ad : Nat → Nat} (C : CX p s m args meth c RX2 cX2_take 2 none) (hA : ∀ q, s.heap.size ≤ q → A q) (hK : va_K D vwCl (tyM ck) s) (hX : XT s) (th : Int32) (mi : NI) (di : NL) (po : NI) (be : Int32) (mm : Int64) (ee : Int32) (fa : NI) (fb : NI) (x1 : Int32) (ls : Array Slot) (H : Heap) (locs : List Loc) (u : Int32 × NI × NL × NI × Int32 × Int64 × Int32 × NI × NI) (hP : va_P D vwCl (wM ck ad th mi di po be mm ee fa fb) H) (hD : va_D A (wM ck ad th mi di po be mm ee fa fb)) (hS : va_S A s.heap H locs) (hl : lv_has ls 2 [(0, .ref (ad 0)), (1, .int x1)]) (h : jX2_take th mi di po be mm ee fa fb x1 = some u) : W p l e (rmz 0 0) s m args below meth c H locs 0 0 (MQ below (HQ D A (wM ck ad u.1 u.2.1 u.2.2.1 u.2.2.2.1 u.2.2.2.2.1 u.2.2.2.2.2.1 u.2.2.2.2.2.2.1 u.2.2.2.2.2.2.2.1 u.2.2.2.2.2.2.2.2) none) args s 0 0 A) (F0 m 0 ls []) := by
  obtain ⟨hx, hb, hml, hown, hg, hr, hlocks⟩ := id C
  unfold jX2_take at h
  refine lv_aload_n hx hb dX2_take_0 rfl (lv_at hl 0 rfl) ?_
  refine lv_aload_n hx hb dX2_take_1 rfl (lv_at hl 0 rfl) ?_
  refine va_get hx hb hg inX2 hown hK hP 0 rfl rfl 1 (by decide) (hg _ tw_327) (fun _ h9 => h9) rfl dX2_take_2 ?_
  refine lv_iload_n hx hb dX2_take_5 rfl (lv_at hl 1 rfl) ?_
  obtain ⟨z_6, h⟩ := of_ite h
  refine va_zald hx hb hK hP 1 2 rfl rfl (ok_in z_6) dX2_take_6 ?_
  obtain ⟨z_7, h⟩ := of_ite h
  refine va_put hx hb hg inX2 tyX2 tyX2_ok nmX2 hown hK hP hD hS 0 rfl rfl 4 (by decide) (hg _ tw_330) (fun _ h9 => h9) rfl (tyX2_ok 4 (by decide)) (bz_n z_7) (bz_f z_7) (Nat.le_of_ble_eq_true rfl) dX2_take_7 (fun H locs hP hD hS => ?_)
  have hP : va_P D vwCl (wM ck ad th mi di po (mi x1.toNatClampNeg) mm ee fa fb) H := hP
  have hD : va_D A (wM ck ad th mi di po (mi x1.toNatClampNeg) mm ee fa fb) := hD
  refine lv_aload_n hx hb dX2_take_10 rfl (lv_at hl 0 rfl) ?_
  refine lv_aload_n hx hb dX2_take_11 rfl (lv_at hl 0 rfl) ?_
  refine va_get hx hb hg inX2 hown hK hP 0 rfl rfl 2 (by decide) (hg _ tw_328) (fun _ h9 => h9) rfl dX2_take_12 ?_
  refine lv_iload_n hx hb dX2_take_15 rfl (lv_at hl 1 rfl) ?_
  obtain ⟨z_16, h⟩ := of_ite h
  refine va_lald hx hb hK hP 2 1 rfl rfl (ok_in z_16) dX2_take_16 ?_
  refine va_put hx hb hg inX2 tyX2 tyX2_ok nmX2 hown hK hP hD hS 0 rfl rfl 5 (by decide) (hg _ tw_331) (fun _ h9 => h9) rfl (tyX2_ok 5 (by decide)) rfl rfl (Nat.le_of_ble_eq_true rfl) dX2_take_17 (fun H locs hP hD hS => ?_)
  have hP : va_P D vwCl (wM ck ad th mi di po (mi x1.toNatClampNeg) (di x1.toNatClampNeg) ee fa fb) H := hP
  have hD : va_D A (wM ck ad th mi di po (mi x1.toNatClampNeg) (di x1.toNatClampNeg) ee fa fb) := hD
  refine lv_aload_n hx hb dX2_take_20 rfl (lv_at hl 0 rfl) ?_
  refine lv_aload_n hx hb dX2_take_21 rfl (lv_at hl 0 rfl) ?_
  refine va_get hx hb hg inX2 hown hK hP 0 rfl rfl 3 (by decide) (hg _ tw_329) (fun _ h9 => h9) rfl dX2_take_22 ?_
  refine lv_iload_n hx hb dX2_take_25 rfl (lv_at hl 1 rfl) ?_
  obtain ⟨z_26, h⟩ := of_ite h
  refine va_iald hx hb hK hP 3 0 rfl rfl (ok_in z_26) dX2_take_26 ?_
  refine va_put hx hb hg inX2 tyX2 tyX2_ok nmX2 hown hK hP hD hS 0 rfl rfl 6 (by decide) (hg _ tw_332) (fun _ h9 => h9) rfl (tyX2_ok 6 (by decide)) rfl rfl (Nat.le_of_ble_eq_true rfl) dX2_take_27 (fun H locs hP hD hS => ?_)
  have hP : va_P D vwCl (wM ck ad th mi di po (mi x1.toNatClampNeg) (di x1.toNatClampNeg) (po x1.toNatClampNeg) fa fb) H := hP
  have hD : va_D A (wM ck ad th mi di po (mi x1.toNatClampNeg) (di x1.toNatClampNeg) (po x1.toNatClampNeg) fa fb) := hD
  cases h
  exact W.vret hx hb hr (fun t ht _ => ⟨rfl, by rw [ht]; exact hP, hD, hS.F ht⟩) hS.2.2 dX2_take_30
theorem vc_X2_take : VC RX2 yX2_take cX2_take 2 none 1 := ⟨tw_472, ts_14, tw_2, tw_473, by decide +kernel⟩
theorem cX2_take_met (l : Launch) (ck : Nat → ClassId) (ad : Nat → Nat) (th : Int32) (mi : NI) (di : NL) (po : NI) (be : Int32) (mm : Int64) (ee : Int32) (fa : NI) (fb : NI) (x1 : Int32) (u : Int32 × NI × NL × NI × Int32 × Int64 × Int32 × NI × NI) (h : jX2_take th mi di po be mm ee fa fb x1 = some u) : HM l yX2_take cX2_take 2 none (rmz 0 0) [.ref (ad 0), .int x1] (tyM ck) (wM ck ad th mi di po be mm ee fa fb) none (wM ck ad u.1 u.2.1 u.2.2.1 u.2.2.2.1 u.2.2.2.2.1 u.2.2.2.2.2.1 u.2.2.2.2.2.2.1 u.2.2.2.2.2.2.2.1 u.2.2.2.2.2.2.2.2) :=
  hm_of (own := RX2) (by decide +kernel) rfl (Nat.le_of_ble_eq_true rfl) (fun D A p e s m below meth c ls C hA hK hX hP hD hS hl => wX2_take_0 C hA hK hX th mi di po be mm ee fa fb x1 ls _ _ u hP hD hS hl h)

/-! RealDeskModel.keep(II)I -/
def jX2_keep (th : Int32) (mi : NI) (di : NL) (po : NI) (be : Int32) (mm : Int64) (ee : Int32) (fa : NI) (fb : NI) (x1 : Int32) (x2 : Int32) : Option (Int32 × Int32 × NI × NL × NI × Int32 × Int64 × Int32 × NI × NI) := (if x2 = 0 then (if ok x1 16 = true then (if ok x1 16 = true then (if ok x1 16 = true then some (x2, th, upd mi x1.toNatClampNeg (vp_nar .boolean be), vp_updL di x1.toNatClampNeg mm, upd po x1.toNatClampNeg ee, be, mm, ee, fa, fb) else none) else none) else none) else some (x2, th, mi, di, po, be, mm, ee, fa, fb))
set_option maxHeartbeats 4000000 in
set_option maxRecDepth 100000 in
theorem wX2_keep_0 {p : Program} {l : Launch} {e : Env} {s : State} {m : MethodId} {args : Array Value} {below : List Frame} {meth : Method} {c : Code} {D : va_G} {A : Nat → Prop} {ck : Nat → ClassId} {ad : Nat → Nat} (C : CX p s m args meth c RX2 cX2_keep 3 (some .int)) (hA : ∀ q, s.heap.size ≤ q → A q) (hK : va_K D vwCl (tyM ck) s) (hX : XT s) (th : Int32) (mi : NI) (di : NL) (po : NI) (be : Int32) (mm : Int64) (ee : Int32) (fa : NI) (fb : NI) (x1 : Int32) (x2 : Int32) (ls : Array Slot) (H : Heap) (locs : List Loc) (u : Int32 × Int32 × NI × NL × NI × Int32 × Int64 × Int32 × NI × NI) (hP : va_P D vwCl (wM ck ad th mi di po be mm ee fa fb) H) (hD : va_D A (wM ck ad th mi di po be mm ee fa fb)) (hS : va_S A s.heap H locs) (hl : lv_has ls 3 [(0, .ref (ad 0)), (1, .int x1), (2, .int x2)]) (h : jX2_keep th mi di po be mm ee fa fb x1 x2 = some u) : W p l e (rmz 0 0) s m args below meth c H locs 0 0 (MQ below (HQ D A (wM ck ad u.2.1 u.2.2.1 u.2.2.2.1 u.2.2.2.2.1 u.2.2.2.2.2.1 u.2.2.2.2.2.2.1 u.2.2.2.2.2.2.2.1 u.2.2.2.2.2.2.2.2.1 u.2.2.2.2.2.2.2.2.2) (some (.int u.1))) args s 0 0 A) (F0 m 0 ls []) := by
  obtain ⟨hx, hb, hml, hown, hg, hr, hlocks⟩ := id C
  unfold jX2_keep at h
  refine lv_iload_n hx hb dX2_keep_0 rfl (lv_at hl 2 rfl) ?_
  refine lv_if_ne (tgt := 34) hx hb dX2_keep_1 (by decide) (fun c_1 => ?_) (fun c_1 => ?_)
  · rw [if_neg c_1] at h
    refine lv_iload_n hx hb dX2_keep_34 rfl (lv_at hl 2 rfl) ?_
    cases h
    exact W.iret hx hb hr (fun t ht _ => ⟨rfl, by rw [ht]; exact hP, hD, hS.F ht⟩) hS.2.2 dX2_keep_35
  · rw [if_pos c_1] at h
    refine lv_aload_n hx hb dX2_keep_4 rfl (lv_at hl 0 rfl) ?_
    refine va_get hx hb hg inX2 hown hK hP 0 rfl rfl 1 (by decide) (hg _ tw_327) (fun _ h9 => h9) rfl dX2_keep_5 ?_
    refine lv_iload_n hx hb dX2_keep_8 rfl (lv_at hl 1 rfl) ?_
    refine lv_aload_n hx hb dX2_keep_9 rfl (lv_at hl 0 rfl) ?_
    refine va_get hx hb hg inX2 hown hK hP 0 rfl rfl 4 (by decide) (hg _ tw_330) (fun _ h9 => h9) rfl dX2_keep_10 ?_
    obtain ⟨z_13, h⟩ := of_ite h
    refine va_zast hx hb hK hP hD hS 1 2 rfl rfl (ok_in z_13) dX2_keep_13 (fun H locs hP hD hS => ?_)
    have hP : va_P D vwCl (wM ck ad th (upd mi x1.toNatClampNeg (vp_nar .boolean be)) di po be mm ee fa fb) H := hP
    have hD : va_D A (wM ck ad th (upd mi x1.toNatClampNeg (vp_nar .boolean be)) di po be mm ee fa fb) := hD
    refine lv_aload_n hx hb dX2_keep_14 rfl (lv_at hl 0 rfl) ?_
    refine va_get hx hb hg inX2 hown hK hP 0 rfl rfl 2 (by decide) (hg _ tw_328) (fun _ h9 => h9) rfl dX2_keep_15 ?_
    refine lv_iload_n hx hb dX2_keep_18 rfl (lv_at hl 1 rfl) ?_
    refine lv_aload_n hx hb dX2_keep_19 rfl (lv_at hl 0 rfl) ?_
    refine va_get hx hb hg inX2 hown hK hP 0 rfl rfl 5 (by decide) (hg _ tw_331) (fun _ h9 => h9) rfl dX2_keep_20 ?_
    obtain ⟨z_23, h⟩ := of_ite h
    refine va_last hx hb hK hP hD hS 2 1 rfl rfl (ok_in z_23) dX2_keep_23 (fun H locs hP hD hS => ?_)
    have hP : va_P D vwCl (wM ck ad th (upd mi x1.toNatClampNeg (vp_nar .boolean be)) (vp_updL di x1.toNatClampNeg mm) po be mm ee fa fb) H := hP
    have hD : va_D A (wM ck ad th (upd mi x1.toNatClampNeg (vp_nar .boolean be)) (vp_updL di x1.toNatClampNeg mm) po be mm ee fa fb) := hD
    refine lv_aload_n hx hb dX2_keep_24 rfl (lv_at hl 0 rfl) ?_
    refine va_get hx hb hg inX2 hown hK hP 0 rfl rfl 3 (by decide) (hg _ tw_329) (fun _ h9 => h9) rfl dX2_keep_25 ?_
    refine lv_iload_n hx hb dX2_keep_28 rfl (lv_at hl 1 rfl) ?_
    refine lv_aload_n hx hb dX2_keep_29 rfl (lv_at hl 0 rfl) ?_
    refine va_get hx hb hg inX2 hown hK hP 0 rfl rfl 6 (by decide) (hg _ tw_332) (fun _ h9 => h9) rfl dX2_keep_30 ?_
    obtain ⟨z_33, h⟩ := of_ite h
    refine va_iast hx hb hK hP hD hS 3 0 rfl rfl (ok_in z_33) dX2_keep_33 (fun H locs hP hD hS => ?_)
    have hP : va_P D vwCl (wM ck ad th (upd mi x1.toNatClampNeg (vp_nar .boolean be)) (vp_updL di x1.toNatClampNeg mm) (upd po x1.toNatClampNeg ee) be mm ee fa fb) H := hP
    have hD : va_D A (wM ck ad th (upd mi x1.toNatClampNeg (vp_nar .boolean be)) (vp_updL di x1.toNatClampNeg mm) (upd po x1.toNatClampNeg ee) be mm ee fa fb) := hD
    refine lv_iload_n hx hb dX2_keep_34 rfl (lv_at hl 2 rfl) ?_
    cases h
    exact W.iret hx hb hr (fun t ht _ => ⟨rfl, by rw [ht]; exact hP, hD, hS.F ht⟩) hS.2.2 dX2_keep_35
theorem vc_X2_keep : VC RX2 yX2_keep cX2_keep 3 (some .int) 2 := ⟨tw_405, ts_6, tw_2, tw_406, by decide +kernel⟩
theorem cX2_keep_met (l : Launch) (ck : Nat → ClassId) (ad : Nat → Nat) (th : Int32) (mi : NI) (di : NL) (po : NI) (be : Int32) (mm : Int64) (ee : Int32) (fa : NI) (fb : NI) (x1 : Int32) (x2 : Int32) (u : Int32 × Int32 × NI × NL × NI × Int32 × Int64 × Int32 × NI × NI) (h : jX2_keep th mi di po be mm ee fa fb x1 x2 = some u) : HM l yX2_keep cX2_keep 3 (some .int) (rmz 0 0) [.ref (ad 0), .int x1, .int x2] (tyM ck) (wM ck ad th mi di po be mm ee fa fb) (some (.int u.1)) (wM ck ad u.2.1 u.2.2.1 u.2.2.2.1 u.2.2.2.2.1 u.2.2.2.2.2.1 u.2.2.2.2.2.2.1 u.2.2.2.2.2.2.2.1 u.2.2.2.2.2.2.2.2.1 u.2.2.2.2.2.2.2.2.2) :=
  hm_of (own := RX2) (by decide +kernel) rfl (Nat.le_of_ble_eq_true rfl) (fun D A p e s m below meth c ls C hA hK hX hP hD hS hl => wX2_keep_0 C hA hK hX th mi di po be mm ee fa fb x1 x2 ls _ _ u hP hD hS hl h)

/-! RealDeskModel.nearest(ZIZ)I -/
def jX2_nearest_B162 (th : Int32) (mi : NI) (di : NL) (po : NI) (be : Int32) (mm : Int64) (ee : Int32) (fa : NI) (fb : NI) : Option (Int32 × Int32 × NI × NL × NI × Int32 × Int64 × Int32 × NI × NI) := (bM (jX2_settle th mi di po be mm ee fa fb) fun r_4 th_4 mi_4 di_4 po_4 be_4 mm_4 ee_4 fa_4 fb_4 => some (r_4, th_4, mi_4, di_4, po_4, be_4, mm_4, ee_4, fa_4, fb_4))
set_option maxHeartbeats 4000000 in
set_option maxRecDepth 100000 in
theorem wX2_nearest_B162 {p : Program} {l : Launch} {e : Env} {s : State} {m : MethodId} {args : Array Value} {below : List Frame} {meth : Method} {c : Code} {D : va_G} {A : Nat → Prop} {ck : Nat → ClassId} {ad : Nat → Nat} (C : CX p s m args meth c RX2 cX2_nearest 7 (some .int)) (hA : ∀ q, s.heap.size ≤ q → A q) (hK : va_K D vwCl (tyM ck) s) (hX : XT s) (th : Int32) (mi : NI) (di : NL) (po : NI) (be : Int32) (mm : Int64) (ee : Int32) (fa : NI) (fb : NI) (ls : Array Slot) (H : Heap) (locs : List Loc) (u : Int32 × Int32 × NI × NL × NI × Int32 × Int64 × Int32 × NI × NI) (hP : va_P D vwCl (wM ck ad th mi di po be mm ee fa fb) H) (hD : va_D A (wM ck ad th mi di po be mm ee fa fb)) (hS : va_S A s.heap H locs) (hl : lv_has ls 7 [(0, .ref (ad 0))]) (h : jX2_nearest_B162 th mi di po be mm ee fa fb = some u) : W p l e (rmz 2 45) s m args below meth c H locs 0 0 (MQ below (HQ D A (wM ck ad u.2.1 u.2.2.1 u.2.2.2.1 u.2.2.2.2.1 u.2.2.2.2.2.1 u.2.2.2.2.2.2.1 u.2.2.2.2.2.2.2.1 u.2.2.2.2.2.2.2.2.1 u.2.2.2.2.2.2.2.2.2) (some (.int u.1))) args s 0 0 A) (F0 m 162 ls []) := by
  obtain ⟨hx, hb, hml, hown, hg, hr, hlocks⟩ := id C
  unfold jX2_nearest_B162 at h
  refine lv_aload_n hx hb dX2_nearest_162 rfl (lv_at hl 0 rfl) ?_
  obtain ⟨r_4, th_4, mi_4, di_4, po_4, be_4, mm_4, ee_4, fa_4, fb_4, h_r_4, h⟩ := of_bM h
  refine callMM C hK hX hP hD hS hA (cX2_settle_met l ck ad _ _ _ _ _ _ _ _ _ _ h_r_4) vc_X2_settle tw_398 (by decide) rfl hl.1 (rest := []) rfl (Nat.le_of_ble_eq_true rfl) (by decide) dX2_nearest_163 (fun H locs hP hD hS => ?_)
  have hP : va_P D vwCl (wM ck ad th_4 mi_4 di_4 po_4 be_4 mm_4 ee_4 fa_4 fb_4) H := hP
  have hD : va_D A (wM ck ad th_4 mi_4 di_4 po_4 be_4 mm_4 ee_4 fa_4 fb_4) := hD
  refine W.eq (g2 := F0 m 166 ls [.int r_4]) rfl ?_
  cases h
  exact W.iret hx hb hr (fun t ht _ => ⟨rfl, by rw [ht]; exact hP, hD, hS.F ht⟩) hS.2.2 dX2_nearest_166
def jX2_nearest_B113 (th : Int32) (mi : NI) (di : NL) (po : NI) (be : Int32) (mm : Int64) (ee : Int32) (fa : NI) (fb : NI) (x5 : Int32) (x6 : Int32) : Option (Int32 × Int32 × NI × NL × NI × Int32 × Int64 × Int32 × NI × NI) := (b2 (jX1_bit fa (x5 - 1)) fun r_3 fa_3 => (if r_3 = 0 then jX2_nearest_B162 th mi di po be mm ee fa_3 fb else (if x6 = 0 then jX2_nearest_B162 th mi di po be (if (mm - mm / 2 * 2) = 1 then mm + 1 else mm : Int64) ee fa_3 fb else jX2_nearest_B162 th mi di po be (mm + 1) ee fa_3 fb)))
set_option maxHeartbeats 4000000 in
set_option maxRecDepth 100000 in
theorem wX2_nearest_B113 {p : Program} {l : Launch} {e : Env} {s : State} {m : MethodId} {args : Array Value} {below : List Frame} {meth : Method} {c : Code} {D : va_G} {A : Nat → Prop} {ck : Nat → ClassId} {ad : Nat → Nat} (C : CX p s m args meth c RX2 cX2_nearest 7 (some .int)) (hA : ∀ q, s.heap.size ≤ q → A q) (hK : va_K D vwCl (tyM ck) s) (hX : XT s) (th : Int32) (mi : NI) (di : NL) (po : NI) (be : Int32) (mm : Int64) (ee : Int32) (fa : NI) (fb : NI) (x5 : Int32) (x6 : Int32) (ls : Array Slot) (H : Heap) (locs : List Loc) (u : Int32 × Int32 × NI × NL × NI × Int32 × Int64 × Int32 × NI × NI) (hP : va_P D vwCl (wM ck ad th mi di po be mm ee fa fb) H) (hD : va_D A (wM ck ad th mi di po be mm ee fa fb)) (hS : va_S A s.heap H locs) (hl : lv_has ls 7 [(0, .ref (ad 0)), (5, .int x5), (6, .int x6)]) (h : jX2_nearest_B113 th mi di po be mm ee fa fb x5 x6 = some u) : W p l e (rmz 2 45) s m args below meth c H locs 0 0 (MQ below (HQ D A (wM ck ad u.2.1 u.2.2.1 u.2.2.2.1 u.2.2.2.2.1 u.2.2.2.2.2.1 u.2.2.2.2.2.2.1 u.2.2.2.2.2.2.2.1 u.2.2.2.2.2.2.2.2.1 u.2.2.2.2.2.2.2.2.2) (some (.int u.1))) args s 0 0 A) (F0 m 113 ls []) := by
  obtain ⟨hx, hb, hml, hown, hg, hr, hlocks⟩ := id C
  unfold jX2_nearest_B113 at h
  refine lv_aload_n hx hb dX2_nearest_113 rfl (lv_at hl 0 rfl) ?_
  refine lv_aload_n hx hb dX2_nearest_114 rfl (lv_at hl 0 rfl) ?_
  refine va_get hx hb hg inX2 hown hK hP 0 rfl rfl 7 (by decide) (hg _ tw_333) (fun _ h9 => h9) rfl dX2_nearest_115 ?_
  refine lv_iload hx hb dX2_nearest_118 (lv_at hl 1 rfl) ?_
  refine lv_iconst (v := 1) hx hb dX2_nearest_120 (by decide) ?_
  refine lv_isub hx hb dX2_nearest_121 ?_
  obtain ⟨r_3, fa_3, h_r_3, h⟩ := of_b2 h
  refine callMa C hK hX hP hD hS hA (cX1_bit_met l ck (fun i => ad (i + 4)) _ _ _ h_r_3) vc_X1_bit tw_396 (by decide) rfl hl.1 (rest := [.ref (ad 0)]) rfl (Nat.le_of_ble_eq_true rfl) (by decide) dX2_nearest_122 (fun H locs hP hD hS => ?_)
  have hP : va_P D vwCl (wM ck ad th mi di po be mm ee fa_3 fb) H := hP
  have hD : va_D A (wM ck ad th mi di po be mm ee fa_3 fb) := hD
  refine W.eq (g2 := F0 m 125 ls [.int r_3, .ref (ad 0)]) rfl ?_
  refine lv_if_eq (tgt := 155) hx hb dX2_nearest_125 (by decide) (fun c_1 => ?_) (fun c_1 => ?_)
  · rw [if_pos c_1] at h
    refine lv_aload_n hx hb dX2_nearest_155 rfl (lv_at hl 0 rfl) ?_
    refine va_get hx hb hg inX2 hown hK hP 0 rfl rfl 5 (by decide) (hg _ tw_331) (fun _ h9 => h9) rfl dX2_nearest_156 ?_
    refine va_put hx hb hg inX2 tyX2 tyX2_ok nmX2 hown hK hP hD hS 0 rfl rfl 5 (by decide) (hg _ tw_331) (fun _ h9 => h9) rfl (tyX2_ok 5 (by decide)) rfl rfl (Nat.le_of_ble_eq_true rfl) dX2_nearest_159 (fun H locs hP hD hS => ?_)
    have hP : va_P D vwCl (wM ck ad th mi di po be mm ee fa_3 fb) H := hP
    have hD : va_D A (wM ck ad th mi di po be mm ee fa_3 fb) := hD
    exact wX2_nearest_B162 C hA hK hX _ _ _ _ _ _ _ _ _ _ _ _ _ hP hD hS (lv_sub hl [0] rfl) h
  · rw [if_neg c_1] at h
    refine lv_iload hx hb dX2_nearest_128 (lv_at hl 2 rfl) ?_
    refine lv_if_ne (tgt := 146) hx hb dX2_nearest_130 (by decide) (fun c_2 => ?_) (fun c_2 => ?_)
    · rw [if_neg c_2] at h
      refine lv_aload_n hx hb dX2_nearest_146 rfl (lv_at hl 0 rfl) ?_
      refine va_get hx hb hg inX2 hown hK hP 0 rfl rfl 5 (by decide) (hg _ tw_331) (fun _ h9 => h9) rfl dX2_nearest_147 ?_
      refine lv_lconst (v := 1) hx hb dX2_nearest_150 (by decide) ?_
      refine lv_ladd hx hb dX2_nearest_151 ?_
      refine lv_goto (tgt := 159) hx hb dX2_nearest_152 (by decide) ?_
      refine va_put hx hb hg inX2 tyX2 tyX2_ok nmX2 hown hK hP hD hS 0 rfl rfl 5 (by decide) (hg _ tw_331) (fun _ h9 => h9) rfl (tyX2_ok 5 (by decide)) rfl rfl (Nat.le_of_ble_eq_true rfl) dX2_nearest_159 (fun H locs hP hD hS => ?_)
      have hP : va_P D vwCl (wM ck ad th mi di po be (mm + 1) ee fa_3 fb) H := hP
      have hD : va_D A (wM ck ad th mi di po be (mm + 1) ee fa_3 fb) := hD
      exact wX2_nearest_B162 C hA hK hX _ _ _ _ _ _ _ _ _ _ _ _ _ hP hD hS (lv_sub hl [0] rfl) h
    · rw [if_pos c_2] at h
      refine lv_aload_n hx hb dX2_nearest_133 rfl (lv_at hl 0 rfl) ?_
      refine va_get hx hb hg inX2 hown hK hP 0 rfl rfl 5 (by decide) (hg _ tw_331) (fun _ h9 => h9) rfl dX2_nearest_134 ?_
      refine lv_ldc2 hx hb hown (hg _ tw_397) dX2_nearest_137 ?_
      refine lv_lrem hx hb dX2_nearest_140 (by decide) ?_
      refine lv_lconst (v := 1) hx hb dX2_nearest_141 (by decide) ?_
      refine rg_l (pj := 159) (v := (if (mm - mm / 2 * 2) = 1 then mm + 1 else mm : Int64)) (ls := ls) (rest := [.ref (ad 0)]) (fun kJ => ?_) ?_
      · refine lc_ne (tgt := 155) hx hb dX2_nearest_142 dX2_nearest_143 (by decide) (fun c_3 => ?_) (fun c_3 => ?_)
        · refine lv_aload_n hx hb dX2_nearest_155 rfl (lv_at hl 0 rfl) ?_
          refine va_get hx hb hg inX2 hown hK hP 0 rfl rfl 5 (by decide) (hg _ tw_331) (fun _ h9 => h9) rfl dX2_nearest_156 ?_
          exact kJ _ (by rw [if_neg c_3])
        · refine lv_aload_n hx hb dX2_nearest_146 rfl (lv_at hl 0 rfl) ?_
          refine va_get hx hb hg inX2 hown hK hP 0 rfl rfl 5 (by decide) (hg _ tw_331) (fun _ h9 => h9) rfl dX2_nearest_147 ?_
          refine lv_lconst (v := 1) hx hb dX2_nearest_150 (by decide) ?_
          refine lv_ladd hx hb dX2_nearest_151 ?_
          refine lv_goto (tgt := 159) hx hb dX2_nearest_152 (by decide) ?_
          exact kJ _ (by rw [if_pos c_3])
      refine va_put hx hb hg inX2 tyX2 tyX2_ok nmX2 hown hK hP hD hS 0 rfl rfl 5 (by decide) (hg _ tw_331) (fun _ h9 => h9) rfl (tyX2_ok 5 (by decide)) rfl rfl (Nat.le_of_ble_eq_true rfl) dX2_nearest_159 (fun H locs hP hD hS => ?_)
      have hP : va_P D vwCl (wM ck ad th mi di po be (if (mm - mm / 2 * 2) = 1 then mm + 1 else mm : Int64) ee fa_3 fb) H := hP
      have hD : va_D A (wM ck ad th mi di po be (if (mm - mm / 2 * 2) = 1 then mm + 1 else mm : Int64) ee fa_3 fb) := hD
      exact wX2_nearest_B162 C hA hK hX _ _ _ _ _ _ _ _ _ _ _ _ _ hP hD hS (lv_sub hl [0] rfl) h
def jX2_nearest_B37 (th : Int32) (mi : NI) (di : NL) (po : NI) (be : Int32) (mm : Int64) (ee : Int32) (fa : NI) (fb : NI) (x1 : Int32) (x2 : Int32) (x3 : Int32) (x5 : Int32) : Option (Int32 × Int32 × NI × NL × NI × Int32 × Int64 × Int32 × NI × NI) := (if bz x1 = true then (if 0 < x5 then (b2 (jX1_places fa x5) fun r_2 fa_2 => (if x3 = 0 then (b2 (jX1_hasBelow fa_2 (x5 - 1)) fun r_5 fa_5 => jX2_nearest_B113 th mi di po x1 r_2 (x2 + x5) fa_5 fb x5 (if r_5 = 0 then 0 else 1 : Int32)) else jX2_nearest_B113 th mi di po x1 r_2 (x2 + x5) fa_2 fb x5 1)) else (b2 (jX1_places fa 0) fun r_6 fa_6 => jX2_nearest_B162 th mi di po x1 r_6 x2 fa_6 fb)) else none)
set_option maxHeartbeats 4000000 in
set_option maxRecDepth 100000 in
theorem wX2_nearest_B37 {p : Program} {l : Launch} {e : Env} {s : State} {m : MethodId} {args : Array Value} {below : List Frame} {meth : Method} {c : Code} {D : va_G} {A : Nat → Prop} {ck : Nat → ClassId} {ad : Nat → Nat} (C : CX p s m args meth c RX2 cX2_nearest 7 (some .int)) (hA : ∀ q, s.heap.size ≤ q → A q) (hK : va_K D vwCl (tyM ck) s) (hX : XT s) (th : Int32) (mi : NI) (di : NL) (po : NI) (be : Int32) (mm : Int64) (ee : Int32) (fa : NI) (fb : NI) (x1 : Int32) (x2 : Int32) (x3 : Int32) (x5 : Int32) (ls : Array Slot) (H : Heap) (locs : List Loc) (u : Int32 × Int32 × NI × NL × NI × Int32 × Int64 × Int32 × NI × NI) (hP : va_P D vwCl (wM ck ad th mi di po be mm ee fa fb) H) (hD : va_D A (wM ck ad th mi di po be mm ee fa fb)) (hS : va_S A s.heap H locs) (hl : lv_has ls 7 [(0, .ref (ad 0)), (1, .int x1), (2, .int x2), (3, .int x3), (5, .int x5)]) (h : jX2_nearest_B37 th mi di po be mm ee fa fb x1 x2 x3 x5 = some u) : W p l e (rmz 2 45) s m args below meth c H locs 0 0 (MQ below (HQ D A (wM ck ad u.2.1 u.2.2.1 u.2.2.2.1 u.2.2.2.2.1 u.2.2.2.2.2.1 u.2.2.2.2.2.2.1 u.2.2.2.2.2.2.2.1 u.2.2.2.2.2.2.2.2.1 u.2.2.2.2.2.2.2.2.2) (some (.int u.1))) args s 0 0 A) (F0 m 37 ls []) := by
  obtain ⟨hx, hb, hml, hown, hg, hr, hlocks⟩ := id C
  unfold jX2_nearest_B37 at h
  refine lv_aload_n hx hb dX2_nearest_37 rfl (lv_at hl 0 rfl) ?_
  refine lv_iload_n hx hb dX2_nearest_38 rfl (lv_at hl 1 rfl) ?_
  obtain ⟨z_39, h⟩ := of_ite h
  refine va_put hx hb hg inX2 tyX2 tyX2_ok nmX2 hown hK hP hD hS 0 rfl rfl 4 (by decide) (hg _ tw_330) (fun _ h9 => h9) rfl (tyX2_ok 4 (by decide)) (bz_n z_39) (bz_f z_39) (Nat.le_of_ble_eq_true rfl) dX2_nearest_39 (fun H locs hP hD hS => ?_)
  have hP : va_P D vwCl (wM ck ad th mi di po x1 mm ee fa fb) H := hP
  have hD : va_D A (wM ck ad th mi di po x1 mm ee fa fb) := hD
  refine lv_iload hx hb dX2_nearest_42 (lv_at hl 4 rfl) ?_
  refine lv_if_gt (tgt := 67) hx hb dX2_nearest_44 (by decide) (fun c_1 => ?_) (fun c_1 => ?_)
  · rw [if_pos c_1] at h
    refine lv_aload_n hx hb dX2_nearest_67 rfl (lv_at hl 0 rfl) ?_
    refine lv_aload_n hx hb dX2_nearest_68 rfl (lv_at hl 0 rfl) ?_
    refine va_get hx hb hg inX2 hown hK hP 0 rfl rfl 7 (by decide) (hg _ tw_333) (fun _ h9 => h9) rfl dX2_nearest_69 ?_
    refine lv_iload hx hb dX2_nearest_72 (lv_at hl 4 rfl) ?_
    obtain ⟨r_2, fa_2, h_r_2, h⟩ := of_b2 h
    refine callMa C hK hX hP hD hS hA (cX1_places_met l ck (fun i => ad (i + 4)) _ _ _ h_r_2) vc_X1_places tw_387 (by decide) rfl hl.1 (rest := [.ref (ad 0)]) rfl (Nat.le_of_ble_eq_true rfl) (by decide) dX2_nearest_74 (fun H locs hP hD hS => ?_)
    have hP : va_P D vwCl (wM ck ad th mi di po x1 mm ee fa_2 fb) H := hP
    have hD : va_D A (wM ck ad th mi di po x1 mm ee fa_2 fb) := hD
    refine W.eq (g2 := F0 m 77 ls [.long r_2, .ref (ad 0)]) rfl ?_
    refine va_put hx hb hg inX2 tyX2 tyX2_ok nmX2 hown hK hP hD hS 0 rfl rfl 5 (by decide) (hg _ tw_331) (fun _ h9 => h9) rfl (tyX2_ok 5 (by decide)) rfl rfl (Nat.le_of_ble_eq_true rfl) dX2_nearest_77 (fun H locs hP hD hS => ?_)
    have hP : va_P D vwCl (wM ck ad th mi di po x1 r_2 ee fa_2 fb) H := hP
    have hD : va_D A (wM ck ad th mi di po x1 r_2 ee fa_2 fb) := hD
    refine lv_aload_n hx hb dX2_nearest_80 rfl (lv_at hl 0 rfl) ?_
    refine lv_iload_n hx hb dX2_nearest_81 rfl (lv_at hl 2 rfl) ?_
    refine lv_iload hx hb dX2_nearest_82 (lv_at hl 4 rfl) ?_
    refine lv_iadd hx hb dX2_nearest_84 ?_
    refine va_put hx hb hg inX2 tyX2 tyX2_ok nmX2 hown hK hP hD hS 0 rfl rfl 6 (by decide) (hg _ tw_332) (fun _ h9 => h9) rfl (tyX2_ok 6 (by decide)) rfl rfl (Nat.le_of_ble_eq_true rfl) dX2_nearest_85 (fun H locs hP hD hS => ?_)
    have hP : va_P D vwCl (wM ck ad th mi di po x1 r_2 (x2 + x5) fa_2 fb) H := hP
    have hD : va_D A (wM ck ad th mi di po x1 r_2 (x2 + x5) fa_2 fb) := hD
    refine lv_iload_n hx hb dX2_nearest_88 rfl (lv_at hl 3 rfl) ?_
    refine lv_if_ne (tgt := 106) hx hb dX2_nearest_89 (by decide) (fun c_2 => ?_) (fun c_2 => ?_)
    · rw [if_neg c_2] at h
      refine lv_iconst (v := 1) hx hb dX2_nearest_106 (by decide) ?_
      refine lv_goto (tgt := 111) hx hb dX2_nearest_107 (by decide) ?_
      refine lv_istore (lv' := [(6, .int 1), (0, .ref (ad 0)), (1, .int x1), (2, .int x2), (3, .int x3), (5, .int x5)]) hx hb dX2_nearest_111 hl (by decide) rfl (fun ls hl => ?_)
      exact wX2_nearest_B113 C hA hK hX _ _ _ _ _ _ _ _ _ _ _ _ _ _ _ hP hD hS (lv_sub hl [1, 5, 0] rfl) h
    · rw [if_pos c_2] at h
      refine lv_aload_n hx hb dX2_nearest_92 rfl (lv_at hl 0 rfl) ?_
      refine va_get hx hb hg inX2 hown hK hP 0 rfl rfl 7 (by decide) (hg _ tw_333) (fun _ h9 => h9) rfl dX2_nearest_93 ?_
      refine lv_iload hx hb dX2_nearest_96 (lv_at hl 4 rfl) ?_
      refine lv_iconst (v := 1) hx hb dX2_nearest_98 (by decide) ?_
      refine lv_isub hx hb dX2_nearest_99 ?_
      obtain ⟨r_5, fa_5, h_r_5, h⟩ := of_b2 h
      refine callMa C hK hX hP hD hS hA (cX1_hasBelow_met l ck (fun i => ad (i + 4)) _ _ _ h_r_5) vc_X1_hasBelow tw_392 (by decide) rfl hl.1 (rest := []) rfl (Nat.le_of_ble_eq_true rfl) (by decide) dX2_nearest_100 (fun H locs hP hD hS => ?_)
      have hP : va_P D vwCl (wM ck ad th mi di po x1 r_2 (x2 + x5) fa_5 fb) H := hP
      have hD : va_D A (wM ck ad th mi di po x1 r_2 (x2 + x5) fa_5 fb) := hD
      refine W.eq (g2 := F0 m 103 ls [.int r_5]) rfl ?_
      refine rg_i (pj := 111) (v := (if r_5 = 0 then 0 else 1 : Int32)) (ls := ls) (rest := []) (fun kJ => ?_) ?_
      · refine lv_if_eq (tgt := 110) hx hb dX2_nearest_103 (by decide) (fun c_3 => ?_) (fun c_3 => ?_)
        · refine lv_iconst (v := 0) hx hb dX2_nearest_110 (by decide) ?_
          exact kJ _ (by rw [if_pos c_3])
        · refine lv_iconst (v := 1) hx hb dX2_nearest_106 (by decide) ?_
          refine lv_goto (tgt := 111) hx hb dX2_nearest_107 (by decide) ?_
          exact kJ _ (by rw [if_neg c_3])
      refine lv_istore (lv' := [(6, .int (if r_5 = 0 then 0 else 1 : Int32)), (0, .ref (ad 0)), (1, .int x1), (2, .int x2), (3, .int x3), (5, .int x5)]) hx hb dX2_nearest_111 hl (by decide) rfl (fun ls hl => ?_)
      exact wX2_nearest_B113 C hA hK hX _ _ _ _ _ _ _ _ _ _ _ _ _ _ _ hP hD hS (lv_sub hl [1, 5, 0] rfl) h
  · rw [if_neg c_1] at h
    refine lv_aload_n hx hb dX2_nearest_47 rfl (lv_at hl 0 rfl) ?_
    refine lv_aload_n hx hb dX2_nearest_48 rfl (lv_at hl 0 rfl) ?_
    refine va_get hx hb hg inX2 hown hK hP 0 rfl rfl 7 (by decide) (hg _ tw_333) (fun _ h9 => h9) rfl dX2_nearest_49 ?_
    refine lv_iconst (v := 0) hx hb dX2_nearest_52 (by decide) ?_
    obtain ⟨r_6, fa_6, h_r_6, h⟩ := of_b2 h
    refine callMa C hK hX hP hD hS hA (cX1_places_met l ck (fun i => ad (i + 4)) _ _ _ h_r_6) vc_X1_places tw_387 (by decide) rfl hl.1 (rest := [.ref (ad 0)]) rfl (Nat.le_of_ble_eq_true rfl) (by decide) dX2_nearest_53 (fun H locs hP hD hS => ?_)
    have hP : va_P D vwCl (wM ck ad th mi di po x1 mm ee fa_6 fb) H := hP
    have hD : va_D A (wM ck ad th mi di po x1 mm ee fa_6 fb) := hD
    refine W.eq (g2 := F0 m 56 ls [.long r_6, .ref (ad 0)]) rfl ?_
    refine va_put hx hb hg inX2 tyX2 tyX2_ok nmX2 hown hK hP hD hS 0 rfl rfl 5 (by decide) (hg _ tw_331) (fun _ h9 => h9) rfl (tyX2_ok 5 (by decide)) rfl rfl (Nat.le_of_ble_eq_true rfl) dX2_nearest_56 (fun H locs hP hD hS => ?_)
    have hP : va_P D vwCl (wM ck ad th mi di po x1 r_6 ee fa_6 fb) H := hP
    have hD : va_D A (wM ck ad th mi di po x1 r_6 ee fa_6 fb) := hD
    refine lv_aload_n hx hb dX2_nearest_59 rfl (lv_at hl 0 rfl) ?_
    refine lv_iload_n hx hb dX2_nearest_60 rfl (lv_at hl 2 rfl) ?_
    refine va_put hx hb hg inX2 tyX2 tyX2_ok nmX2 hown hK hP hD hS 0 rfl rfl 6 (by decide) (hg _ tw_332) (fun _ h9 => h9) rfl (tyX2_ok 6 (by decide)) rfl rfl (Nat.le_of_ble_eq_true rfl) dX2_nearest_61 (fun H locs hP hD hS => ?_)
    have hP : va_P D vwCl (wM ck ad th mi di po x1 r_6 x2 fa_6 fb) H := hP
    have hD : va_D A (wM ck ad th mi di po x1 r_6 x2 fa_6 fb) := hD
    refine lv_goto (tgt := 162) hx hb dX2_nearest_64 (by decide) ?_
    exact wX2_nearest_B162 C hA hK hX _ _ _ _ _ _ _ _ _ _ _ _ _ hP hD hS (lv_sub hl [0] rfl) h
def jX2_nearest (th : Int32) (mi : NI) (di : NL) (po : NI) (be : Int32) (mm : Int64) (ee : Int32) (fa : NI) (fb : NI) (x1 : Int32) (x2 : Int32) (x3 : Int32) : Option (Int32 × Int32 × NI × NL × NI × Int32 × Int64 × Int32 × NI × NI) := (b2 (jX1_length fa) fun r_1 fa_1 => jX2_nearest_B37 th mi di po be mm ee fa_1 fb x1 x2 x3 (if (r_1 - 53) ≤ ((-1074) - x2) then (-1074) - x2 else r_1 - 53 : Int32))
set_option maxHeartbeats 4000000 in
set_option maxRecDepth 100000 in
theorem wX2_nearest_0 {p : Program} {l : Launch} {e : Env} {s : State} {m : MethodId} {args : Array Value} {below : List Frame} {meth : Method} {c : Code} {D : va_G} {A : Nat → Prop} {ck : Nat → ClassId} {ad : Nat → Nat} (C : CX p s m args meth c RX2 cX2_nearest 7 (some .int)) (hA : ∀ q, s.heap.size ≤ q → A q) (hK : va_K D vwCl (tyM ck) s) (hX : XT s) (th : Int32) (mi : NI) (di : NL) (po : NI) (be : Int32) (mm : Int64) (ee : Int32) (fa : NI) (fb : NI) (x1 : Int32) (x2 : Int32) (x3 : Int32) (ls : Array Slot) (H : Heap) (locs : List Loc) (u : Int32 × Int32 × NI × NL × NI × Int32 × Int64 × Int32 × NI × NI) (hP : va_P D vwCl (wM ck ad th mi di po be mm ee fa fb) H) (hD : va_D A (wM ck ad th mi di po be mm ee fa fb)) (hS : va_S A s.heap H locs) (hl : lv_has ls 7 [(0, .ref (ad 0)), (1, .int x1), (2, .int x2), (3, .int x3)]) (h : jX2_nearest th mi di po be mm ee fa fb x1 x2 x3 = some u) : W p l e (rmz 2 45) s m args below meth c H locs 0 0 (MQ below (HQ D A (wM ck ad u.2.1 u.2.2.1 u.2.2.2.1 u.2.2.2.2.1 u.2.2.2.2.2.1 u.2.2.2.2.2.2.1 u.2.2.2.2.2.2.2.1 u.2.2.2.2.2.2.2.2.1 u.2.2.2.2.2.2.2.2.2) (some (.int u.1))) args s 0 0 A) (F0 m 0 ls []) := by
  obtain ⟨hx, hb, hml, hown, hg, hr, hlocks⟩ := id C
  unfold jX2_nearest at h
  refine lv_aload_n hx hb dX2_nearest_0 rfl (lv_at hl 0 rfl) ?_
  refine va_get hx hb hg inX2 hown hK hP 0 rfl rfl 7 (by decide) (hg _ tw_333) (fun _ h9 => h9) rfl dX2_nearest_1 ?_
  obtain ⟨r_1, fa_1, h_r_1, h⟩ := of_b2 h
  refine callMa C hK hX hP hD hS hA (cX1_length_met l ck (fun i => ad (i + 4)) _ _ h_r_1) vc_X1_length tw_379 (by decide) rfl hl.1 (rest := []) rfl (Nat.le_of_ble_eq_true rfl) (by decide) dX2_nearest_4 (fun H locs hP hD hS => ?_)
  have hP : va_P D vwCl (wM ck ad th mi di po be mm ee fa_1 fb) H := hP
  have hD : va_D A (wM ck ad th mi di po be mm ee fa_1 fb) := hD
  refine W.eq (g2 := F0 m 7 ls [.int r_1]) rfl ?_
  refine lv_istore (lv' := [(4, .int r_1), (0, .ref (ad 0)), (1, .int x1), (2, .int x2), (3, .int x3)]) hx hb dX2_nearest_7 hl (by decide) rfl (fun ls hl => ?_)
  refine lv_iload hx hb dX2_nearest_9 (lv_at hl 0 rfl) ?_
  refine lv_bipush (v := 53) hx hb dX2_nearest_11 (by decide) ?_
  refine lv_isub hx hb dX2_nearest_13 ?_
  refine lv_sipush (v := (-1074)) hx hb dX2_nearest_14 (by decide) ?_
  refine lv_iload_n hx hb dX2_nearest_17 rfl (lv_at hl 3 rfl) ?_
  refine lv_isub hx hb dX2_nearest_18 ?_
  refine rg_i (pj := 35) (v := (if (r_1 - 53) ≤ ((-1074) - x2) then (-1074) - x2 else r_1 - 53 : Int32)) (ls := ls) (rest := []) (fun kJ => ?_) ?_
  · refine lv_icmp_le (tgt := 30) hx hb dX2_nearest_19 (by decide) (fun c_1 => ?_) (fun c_1 => ?_)
    · refine lv_sipush (v := (-1074)) hx hb dX2_nearest_30 (by decide) ?_
      refine lv_iload_n hx hb dX2_nearest_33 rfl (lv_at hl 3 rfl) ?_
      refine lv_isub hx hb dX2_nearest_34 ?_
      exact kJ _ (by rw [if_pos c_1])
    · refine lv_iload hx hb dX2_nearest_22 (lv_at hl 0 rfl) ?_
      refine lv_bipush (v := 53) hx hb dX2_nearest_24 (by decide) ?_
      refine lv_isub hx hb dX2_nearest_26 ?_
      refine lv_goto (tgt := 35) hx hb dX2_nearest_27 (by decide) ?_
      exact kJ _ (by rw [if_neg c_1])
  refine lv_istore (lv' := [(5, .int (if (r_1 - 53) ≤ ((-1074) - x2) then (-1074) - x2 else r_1 - 53 : Int32)), (4, .int r_1), (0, .ref (ad 0)), (1, .int x1), (2, .int x2), (3, .int x3)]) hx hb dX2_nearest_35 hl (by decide) rfl (fun ls hl => ?_)
  exact wX2_nearest_B37 C hA hK hX _ _ _ _ _ _ _ _ _ _ _ _ _ _ _ _ _ hP hD hS (lv_sub hl [2, 3, 4, 5, 0] rfl) h
theorem vc_X2_nearest : VC RX2 yX2_nearest cX2_nearest 7 (some .int) 3 := ⟨tw_377, ts_4, tw_2, tw_378, by decide +kernel⟩
theorem cX2_nearest_met (l : Launch) (ck : Nat → ClassId) (ad : Nat → Nat) (th : Int32) (mi : NI) (di : NL) (po : NI) (be : Int32) (mm : Int64) (ee : Int32) (fa : NI) (fb : NI) (x1 : Int32) (x2 : Int32) (x3 : Int32) (u : Int32 × Int32 × NI × NL × NI × Int32 × Int64 × Int32 × NI × NI) (h : jX2_nearest th mi di po be mm ee fa fb x1 x2 x3 = some u) : HM l yX2_nearest cX2_nearest 7 (some .int) (rmz 2 45) [.ref (ad 0), .int x1, .int x2, .int x3] (tyM ck) (wM ck ad th mi di po be mm ee fa fb) (some (.int u.1)) (wM ck ad u.2.1 u.2.2.1 u.2.2.2.1 u.2.2.2.2.1 u.2.2.2.2.2.1 u.2.2.2.2.2.2.1 u.2.2.2.2.2.2.2.1 u.2.2.2.2.2.2.2.2.1 u.2.2.2.2.2.2.2.2.2) :=
  hm_of (own := RX2) (by decide +kernel) rfl (Nat.le_of_ble_eq_true rfl) (fun D A p e s m below meth c ls C hA hK hX hP hD hS hl => wX2_nearest_0 C hA hK hX th mi di po be mm ee fa fb x1 x2 x3 ls _ _ u hP hD hS hl h)

/-! RealDeskModel.sizes(II)I -/
def jX2_sizes (th : Int32) (mi : NI) (di : NL) (po : NI) (be : Int32) (mm : Int64) (ee : Int32) (fa : NI) (fb : NI) (x1 : Int32) (x2 : Int32) : Option (Int32 × Int32 × NI × NL × NI × Int32 × Int64 × Int32 × NI × NI) := (if ok x1 16 = true then (if (di x1.toNatClampNeg) = 0 then (if ok x1 16 = true then (if ok x2 16 = true then (if (di x1.toNatClampNeg) = (di x2.toNatClampNeg) then some (0, th, mi, di, po, be, mm, ee, fa, fb) else (if ok x1 16 = true then some ((if (di x1.toNatClampNeg) = 0 then (-1) else 1 : Int32), th, mi, di, po, be, mm, ee, fa, fb) else none)) else none) else none) else (if ok x2 16 = true then (if (di x2.toNatClampNeg) = 0 then (if ok x1 16 = true then (if ok x2 16 = true then (if (di x1.toNatClampNeg) = (di x2.toNatClampNeg) then some (0, th, mi, di, po, be, mm, ee, fa, fb) else (if ok x1 16 = true then some ((if (di x1.toNatClampNeg) = 0 then (-1) else 1 : Int32), th, mi, di, po, be, mm, ee, fa, fb) else none)) else none) else none) else (if ok x1 16 = true then (if ok x2 16 = true then (if (po x1.toNatClampNeg) = (po x2.toNatClampNeg) then (if ok x1 16 = true then (if ok x2 16 = true then (if (di x2.toNatClampNeg) ≤ (di x1.toNatClampNeg) then (if ok x1 16 = true then (if ok x2 16 = true then some ((if (di x1.toNatClampNeg) = (di x2.toNatClampNeg) then 0 else 1 : Int32), th, mi, di, po, be, mm, ee, fa, fb) else none) else none) else some ((-1), th, mi, di, po, be, mm, ee, fa, fb)) else none) else none) else (if ok x1 16 = true then (if ok x2 16 = true then some ((if (po x2.toNatClampNeg) ≤ (po x1.toNatClampNeg) then 1 else (-1) : Int32), th, mi, di, po, be, mm, ee, fa, fb) else none) else none)) else none) else none)) else none)) else none)
set_option maxHeartbeats 4000000 in
set_option maxRecDepth 100000 in
theorem wX2_sizes_0 {p : Program} {l : Launch} {e : Env} {s : State} {m : MethodId} {args : Array Value} {below : List Frame} {meth : Method} {c : Code} {D : va_G} {A : Nat → Prop} {ck : Nat → ClassId} {ad : Nat → Nat} (C : CX p s m args meth c RX2 cX2_sizes 3 (some .int)) (hA : ∀ q, s.heap.size ≤ q → A q) (hK : va_K D vwCl (tyM ck) s) (hX : XT s) (th : Int32) (mi : NI) (di : NL) (po : NI) (be : Int32) (mm : Int64) (ee : Int32) (fa : NI) (fb : NI) (x1 : Int32) (x2 : Int32) (ls : Array Slot) (H : Heap) (locs : List Loc) (u : Int32 × Int32 × NI × NL × NI × Int32 × Int64 × Int32 × NI × NI) (hP : va_P D vwCl (wM ck ad th mi di po be mm ee fa fb) H) (hD : va_D A (wM ck ad th mi di po be mm ee fa fb)) (hS : va_S A s.heap H locs) (hl : lv_has ls 3 [(0, .ref (ad 0)), (1, .int x1), (2, .int x2)]) (h : jX2_sizes th mi di po be mm ee fa fb x1 x2 = some u) : W p l e (rmz 0 0) s m args below meth c H locs 0 0 (MQ below (HQ D A (wM ck ad u.2.1 u.2.2.1 u.2.2.2.1 u.2.2.2.2.1 u.2.2.2.2.2.1 u.2.2.2.2.2.2.1 u.2.2.2.2.2.2.2.1 u.2.2.2.2.2.2.2.2.1 u.2.2.2.2.2.2.2.2.2) (some (.int u.1))) args s 0 0 A) (F0 m 0 ls []) := by
  obtain ⟨hx, hb, hml, hown, hg, hr, hlocks⟩ := id C
  unfold jX2_sizes at h
  refine lv_aload_n hx hb dX2_sizes_0 rfl (lv_at hl 0 rfl) ?_
  refine va_get hx hb hg inX2 hown hK hP 0 rfl rfl 2 (by decide) (hg _ tw_328) (fun _ h9 => h9) rfl dX2_sizes_1 ?_
  refine lv_iload_n hx hb dX2_sizes_4 rfl (lv_at hl 1 rfl) ?_
  obtain ⟨z_5, h⟩ := of_ite h
  refine va_lald hx hb hK hP 2 1 rfl rfl (ok_in z_5) dX2_sizes_5 ?_
  refine lv_lconst (v := 0) hx hb dX2_sizes_6 (by decide) ?_
  refine lc_eq (tgt := 22) hx hb dX2_sizes_7 dX2_sizes_8 (by decide) (fun c_1 => ?_) (fun c_1 => ?_)
  · rw [if_pos c_1] at h
    refine lv_aload_n hx hb dX2_sizes_22 rfl (lv_at hl 0 rfl) ?_
    refine va_get hx hb hg inX2 hown hK hP 0 rfl rfl 2 (by decide) (hg _ tw_328) (fun _ h9 => h9) rfl dX2_sizes_23 ?_
    refine lv_iload_n hx hb dX2_sizes_26 rfl (lv_at hl 1 rfl) ?_
    obtain ⟨z_27, h⟩ := of_ite h
    refine va_lald hx hb hK hP 2 1 rfl rfl (ok_in z_27) dX2_sizes_27 ?_
    refine lv_aload_n hx hb dX2_sizes_28 rfl (lv_at hl 0 rfl) ?_
    refine va_get hx hb hg inX2 hown hK hP 0 rfl rfl 2 (by decide) (hg _ tw_328) (fun _ h9 => h9) rfl dX2_sizes_29 ?_
    refine lv_iload_n hx hb dX2_sizes_32 rfl (lv_at hl 2 rfl) ?_
    obtain ⟨z_33, h⟩ := of_ite h
    refine va_lald hx hb hK hP 2 1 rfl rfl (ok_in z_33) dX2_sizes_33 ?_
    refine lc_ne (tgt := 42) hx hb dX2_sizes_34 dX2_sizes_35 (by decide) (fun c_2 => ?_) (fun c_2 => ?_)
    · rw [if_neg c_2] at h
      refine lv_aload_n hx hb dX2_sizes_42 rfl (lv_at hl 0 rfl) ?_
      refine va_get hx hb hg inX2 hown hK hP 0 rfl rfl 2 (by decide) (hg _ tw_328) (fun _ h9 => h9) rfl dX2_sizes_43 ?_
      refine lv_iload_n hx hb dX2_sizes_46 rfl (lv_at hl 1 rfl) ?_
      obtain ⟨z_47, h⟩ := of_ite h
      refine va_lald hx hb hK hP 2 1 rfl rfl (ok_in z_47) dX2_sizes_47 ?_
      refine lv_lconst (v := 0) hx hb dX2_sizes_48 (by decide) ?_
      refine rg_i (pj := 58) (v := (if (di x1.toNatClampNeg) = 0 then (-1) else 1 : Int32)) (ls := ls) (rest := []) (fun kJ => ?_) ?_
      · refine lc_ne (tgt := 57) hx hb dX2_sizes_49 dX2_sizes_50 (by decide) (fun c_3 => ?_) (fun c_3 => ?_)
        · refine lv_iconst (v := 1) hx hb dX2_sizes_57 (by decide) ?_
          exact kJ _ (by rw [if_neg c_3])
        · refine lv_iconst (v := (-1)) hx hb dX2_sizes_53 (by decide) ?_
          refine lv_goto (tgt := 58) hx hb dX2_sizes_54 (by decide) ?_
          exact kJ _ (by rw [if_pos c_3])
      cases h
      exact W.iret hx hb hr (fun t ht _ => ⟨rfl, by rw [ht]; exact hP, hD, hS.F ht⟩) hS.2.2 dX2_sizes_58
    · rw [if_pos c_2] at h
      refine lv_iconst (v := 0) hx hb dX2_sizes_38 (by decide) ?_
      refine lv_goto (tgt := 58) hx hb dX2_sizes_39 (by decide) ?_
      cases h
      exact W.iret hx hb hr (fun t ht _ => ⟨rfl, by rw [ht]; exact hP, hD, hS.F ht⟩) hS.2.2 dX2_sizes_58
  · rw [if_neg c_1] at h
    refine lv_aload_n hx hb dX2_sizes_11 rfl (lv_at hl 0 rfl) ?_
    refine va_get hx hb hg inX2 hown hK hP 0 rfl rfl 2 (by decide) (hg _ tw_328) (fun _ h9 => h9) rfl dX2_sizes_12 ?_
    refine lv_iload_n hx hb dX2_sizes_15 rfl (lv_at hl 2 rfl) ?_
    obtain ⟨z_16, h⟩ := of_ite h
    refine va_lald hx hb hK hP 2 1 rfl rfl (ok_in z_16) dX2_sizes_16 ?_
    refine lv_lconst (v := 0) hx hb dX2_sizes_17 (by decide) ?_
    refine lc_ne (tgt := 59) hx hb dX2_sizes_18 dX2_sizes_19 (by decide) (fun c_4 => ?_) (fun c_4 => ?_)
    · rw [if_neg c_4] at h
      refine lv_aload_n hx hb dX2_sizes_59 rfl (lv_at hl 0 rfl) ?_
      refine va_get hx hb hg inX2 hown hK hP 0 rfl rfl 3 (by decide) (hg _ tw_329) (fun _ h9 => h9) rfl dX2_sizes_60 ?_
      refine lv_iload_n hx hb dX2_sizes_63 rfl (lv_at hl 1 rfl) ?_
      obtain ⟨z_64, h⟩ := of_ite h
      refine va_iald hx hb hK hP 3 0 rfl rfl (ok_in z_64) dX2_sizes_64 ?_
      refine lv_aload_n hx hb dX2_sizes_65 rfl (lv_at hl 0 rfl) ?_
      refine va_get hx hb hg inX2 hown hK hP 0 rfl rfl 3 (by decide) (hg _ tw_329) (fun _ h9 => h9) rfl dX2_sizes_66 ?_
      refine lv_iload_n hx hb dX2_sizes_69 rfl (lv_at hl 2 rfl) ?_
      obtain ⟨z_70, h⟩ := of_ite h
      refine va_iald hx hb hK hP 3 0 rfl rfl (ok_in z_70) dX2_sizes_70 ?_
      refine lv_icmp_eq (tgt := 95) hx hb dX2_sizes_71 (by decide) (fun c_5 => ?_) (fun c_5 => ?_)
      · rw [if_pos c_5] at h
        refine lv_aload_n hx hb dX2_sizes_95 rfl (lv_at hl 0 rfl) ?_
        refine va_get hx hb hg inX2 hown hK hP 0 rfl rfl 2 (by decide) (hg _ tw_328) (fun _ h9 => h9) rfl dX2_sizes_96 ?_
        refine lv_iload_n hx hb dX2_sizes_99 rfl (lv_at hl 1 rfl) ?_
        obtain ⟨z_100, h⟩ := of_ite h
        refine va_lald hx hb hK hP 2 1 rfl rfl (ok_in z_100) dX2_sizes_100 ?_
        refine lv_aload_n hx hb dX2_sizes_101 rfl (lv_at hl 0 rfl) ?_
        refine va_get hx hb hg inX2 hown hK hP 0 rfl rfl 2 (by decide) (hg _ tw_328) (fun _ h9 => h9) rfl dX2_sizes_102 ?_
        refine lv_iload_n hx hb dX2_sizes_105 rfl (lv_at hl 2 rfl) ?_
        obtain ⟨z_106, h⟩ := of_ite h
        refine va_lald hx hb hK hP 2 1 rfl rfl (ok_in z_106) dX2_sizes_106 ?_
        refine lc_ge (tgt := 115) hx hb dX2_sizes_107 dX2_sizes_108 (by decide) (fun c_6 => ?_) (fun c_6 => ?_)
        · rw [if_pos c_6] at h
          refine lv_aload_n hx hb dX2_sizes_115 rfl (lv_at hl 0 rfl) ?_
          refine va_get hx hb hg inX2 hown hK hP 0 rfl rfl 2 (by decide) (hg _ tw_328) (fun _ h9 => h9) rfl dX2_sizes_116 ?_
          refine lv_iload_n hx hb dX2_sizes_119 rfl (lv_at hl 1 rfl) ?_
          obtain ⟨z_120, h⟩ := of_ite h
          refine va_lald hx hb hK hP 2 1 rfl rfl (ok_in z_120) dX2_sizes_120 ?_
          refine lv_aload_n hx hb dX2_sizes_121 rfl (lv_at hl 0 rfl) ?_
          refine va_get hx hb hg inX2 hown hK hP 0 rfl rfl 2 (by decide) (hg _ tw_328) (fun _ h9 => h9) rfl dX2_sizes_122 ?_
          refine lv_iload_n hx hb dX2_sizes_125 rfl (lv_at hl 2 rfl) ?_
          obtain ⟨z_126, h⟩ := of_ite h
          refine va_lald hx hb hK hP 2 1 rfl rfl (ok_in z_126) dX2_sizes_126 ?_
          refine rg_i (pj := 136) (v := (if (di x1.toNatClampNeg) = (di x2.toNatClampNeg) then 0 else 1 : Int32)) (ls := ls) (rest := []) (fun kJ => ?_) ?_
          · refine lc_ne (tgt := 135) hx hb dX2_sizes_127 dX2_sizes_128 (by decide) (fun c_7 => ?_) (fun c_7 => ?_)
            · refine lv_iconst (v := 1) hx hb dX2_sizes_135 (by decide) ?_
              exact kJ _ (by rw [if_neg c_7])
            · refine lv_iconst (v := 0) hx hb dX2_sizes_131 (by decide) ?_
              refine lv_goto (tgt := 136) hx hb dX2_sizes_132 (by decide) ?_
              exact kJ _ (by rw [if_pos c_7])
          cases h
          exact W.iret hx hb hr (fun t ht _ => ⟨rfl, by rw [ht]; exact hP, hD, hS.F ht⟩) hS.2.2 dX2_sizes_136
        · rw [if_neg c_6] at h
          refine lv_iconst (v := (-1)) hx hb dX2_sizes_111 (by decide) ?_
          refine lv_goto (tgt := 136) hx hb dX2_sizes_112 (by decide) ?_
          cases h
          exact W.iret hx hb hr (fun t ht _ => ⟨rfl, by rw [ht]; exact hP, hD, hS.F ht⟩) hS.2.2 dX2_sizes_136
      · rw [if_neg c_5] at h
        refine lv_aload_n hx hb dX2_sizes_74 rfl (lv_at hl 0 rfl) ?_
        refine va_get hx hb hg inX2 hown hK hP 0 rfl rfl 3 (by decide) (hg _ tw_329) (fun _ h9 => h9) rfl dX2_sizes_75 ?_
        refine lv_iload_n hx hb dX2_sizes_78 rfl (lv_at hl 1 rfl) ?_
        obtain ⟨z_79, h⟩ := of_ite h
        refine va_iald hx hb hK hP 3 0 rfl rfl (ok_in z_79) dX2_sizes_79 ?_
        refine lv_aload_n hx hb dX2_sizes_80 rfl (lv_at hl 0 rfl) ?_
        refine va_get hx hb hg inX2 hown hK hP 0 rfl rfl 3 (by decide) (hg _ tw_329) (fun _ h9 => h9) rfl dX2_sizes_81 ?_
        refine lv_iload_n hx hb dX2_sizes_84 rfl (lv_at hl 2 rfl) ?_
        obtain ⟨z_85, h⟩ := of_ite h
        refine va_iald hx hb hK hP 3 0 rfl rfl (ok_in z_85) dX2_sizes_85 ?_
        refine rg_i (pj := 94) (v := (if (po x2.toNatClampNeg) ≤ (po x1.toNatClampNeg) then 1 else (-1) : Int32)) (ls := ls) (rest := []) (fun kJ => ?_) ?_
        · refine lv_icmp_ge (tgt := 93) hx hb dX2_sizes_86 (by decide) (fun c_8 => ?_) (fun c_8 => ?_)
          · refine lv_iconst (v := 1) hx hb dX2_sizes_93 (by decide) ?_
            exact kJ _ (by rw [if_pos c_8])
          · refine lv_iconst (v := (-1)) hx hb dX2_sizes_89 (by decide) ?_
            refine lv_goto (tgt := 94) hx hb dX2_sizes_90 (by decide) ?_
            exact kJ _ (by rw [if_neg c_8])
        cases h
        exact W.iret hx hb hr (fun t ht _ => ⟨rfl, by rw [ht]; exact hP, hD, hS.F ht⟩) hS.2.2 dX2_sizes_94
    · rw [if_pos c_4] at h
      refine lv_aload_n hx hb dX2_sizes_22 rfl (lv_at hl 0 rfl) ?_
      refine va_get hx hb hg inX2 hown hK hP 0 rfl rfl 2 (by decide) (hg _ tw_328) (fun _ h9 => h9) rfl dX2_sizes_23 ?_
      refine lv_iload_n hx hb dX2_sizes_26 rfl (lv_at hl 1 rfl) ?_
      obtain ⟨z_27, h⟩ := of_ite h
      refine va_lald hx hb hK hP 2 1 rfl rfl (ok_in z_27) dX2_sizes_27 ?_
      refine lv_aload_n hx hb dX2_sizes_28 rfl (lv_at hl 0 rfl) ?_
      refine va_get hx hb hg inX2 hown hK hP 0 rfl rfl 2 (by decide) (hg _ tw_328) (fun _ h9 => h9) rfl dX2_sizes_29 ?_
      refine lv_iload_n hx hb dX2_sizes_32 rfl (lv_at hl 2 rfl) ?_
      obtain ⟨z_33, h⟩ := of_ite h
      refine va_lald hx hb hK hP 2 1 rfl rfl (ok_in z_33) dX2_sizes_33 ?_
      refine lc_ne (tgt := 42) hx hb dX2_sizes_34 dX2_sizes_35 (by decide) (fun c_9 => ?_) (fun c_9 => ?_)
      · rw [if_neg c_9] at h
        refine lv_aload_n hx hb dX2_sizes_42 rfl (lv_at hl 0 rfl) ?_
        refine va_get hx hb hg inX2 hown hK hP 0 rfl rfl 2 (by decide) (hg _ tw_328) (fun _ h9 => h9) rfl dX2_sizes_43 ?_
        refine lv_iload_n hx hb dX2_sizes_46 rfl (lv_at hl 1 rfl) ?_
        obtain ⟨z_47, h⟩ := of_ite h
        refine va_lald hx hb hK hP 2 1 rfl rfl (ok_in z_47) dX2_sizes_47 ?_
        refine lv_lconst (v := 0) hx hb dX2_sizes_48 (by decide) ?_
        refine rg_i (pj := 58) (v := (if (di x1.toNatClampNeg) = 0 then (-1) else 1 : Int32)) (ls := ls) (rest := []) (fun kJ => ?_) ?_
        · refine lc_ne (tgt := 57) hx hb dX2_sizes_49 dX2_sizes_50 (by decide) (fun c_10 => ?_) (fun c_10 => ?_)
          · refine lv_iconst (v := 1) hx hb dX2_sizes_57 (by decide) ?_
            exact kJ _ (by rw [if_neg c_10])
          · refine lv_iconst (v := (-1)) hx hb dX2_sizes_53 (by decide) ?_
            refine lv_goto (tgt := 58) hx hb dX2_sizes_54 (by decide) ?_
            exact kJ _ (by rw [if_pos c_10])
        cases h
        exact W.iret hx hb hr (fun t ht _ => ⟨rfl, by rw [ht]; exact hP, hD, hS.F ht⟩) hS.2.2 dX2_sizes_58
      · rw [if_pos c_9] at h
        refine lv_iconst (v := 0) hx hb dX2_sizes_38 (by decide) ?_
        refine lv_goto (tgt := 58) hx hb dX2_sizes_39 (by decide) ?_
        cases h
        exact W.iret hx hb hr (fun t ht _ => ⟨rfl, by rw [ht]; exact hP, hD, hS.F ht⟩) hS.2.2 dX2_sizes_58
theorem vc_X2_sizes : VC RX2 yX2_sizes cX2_sizes 3 (some .int) 2 := ⟨tw_480, ts_16, tw_2, tw_481, by decide +kernel⟩
theorem cX2_sizes_met (l : Launch) (ck : Nat → ClassId) (ad : Nat → Nat) (th : Int32) (mi : NI) (di : NL) (po : NI) (be : Int32) (mm : Int64) (ee : Int32) (fa : NI) (fb : NI) (x1 : Int32) (x2 : Int32) (u : Int32 × Int32 × NI × NL × NI × Int32 × Int64 × Int32 × NI × NI) (h : jX2_sizes th mi di po be mm ee fa fb x1 x2 = some u) : HM l yX2_sizes cX2_sizes 3 (some .int) (rmz 0 0) [.ref (ad 0), .int x1, .int x2] (tyM ck) (wM ck ad th mi di po be mm ee fa fb) (some (.int u.1)) (wM ck ad u.2.1 u.2.2.1 u.2.2.2.1 u.2.2.2.2.1 u.2.2.2.2.2.1 u.2.2.2.2.2.2.1 u.2.2.2.2.2.2.2.1 u.2.2.2.2.2.2.2.2.1 u.2.2.2.2.2.2.2.2.2) :=
  hm_of (own := RX2) (by decide +kernel) rfl (Nat.le_of_ble_eq_true rfl) (fun D A p e s m below meth c ls C hA hK hX hP hD hS hl => wX2_sizes_0 C hA hK hX th mi di po be mm ee fa fb x1 x2 ls _ _ u hP hD hS hl h)

/-! RealDeskModel.compareNumbers(II)I -/
def jX2_compareNumbers (th : Int32) (mi : NI) (di : NL) (po : NI) (be : Int32) (mm : Int64) (ee : Int32) (fa : NI) (fb : NI) (x1 : Int32) (x2 : Int32) : Option (Int32 × Int32 × NI × NL × NI × Int32 × Int64 × Int32 × NI × NI) := (bM (jX2_sizes th mi di po be mm ee fa fb x1 x2) fun r_1 th_1 mi_1 di_1 po_1 be_1 mm_1 ee_1 fa_1 fb_1 => (if ok x1 16 = true then (if ok x2 16 = true then (if (mi_1 x1.toNatClampNeg) = (mi_1 x2.toNatClampNeg) then (if ok x1 16 = true then some ((if (mi_1 x1.toNatClampNeg) = 0 then r_1 else -r_1 : Int32), th_1, mi_1, di_1, po_1, be_1, mm_1, ee_1, fa_1, fb_1) else none) else (if ok x1 16 = true then some ((if (mi_1 x1.toNatClampNeg) = 0 then 1 else (-1) : Int32), th_1, mi_1, di_1, po_1, be_1, mm_1, ee_1, fa_1, fb_1) else none)) else none) else none))
set_option maxHeartbeats 4000000 in
set_option maxRecDepth 100000 in
theorem wX2_compareNumbers_0 {p : Program} {l : Launch} {e : Env} {s : State} {m : MethodId} {args : Array Value} {below : List Frame} {meth : Method} {c : Code} {D : va_G} {A : Nat → Prop} {ck : Nat → ClassId} {ad : Nat → Nat} (C : CX p s m args meth c RX2 cX2_compareNumbers 4 (some .int)) (hA : ∀ q, s.heap.size ≤ q → A q) (hK : va_K D vwCl (tyM ck) s) (hX : XT s) (th : Int32) (mi : NI) (di : NL) (po : NI) (be : Int32) (mm : Int64) (ee : Int32) (fa : NI) (fb : NI) (x1 : Int32) (x2 : Int32) (ls : Array Slot) (H : Heap) (locs : List Loc) (u : Int32 × Int32 × NI × NL × NI × Int32 × Int64 × Int32 × NI × NI) (hP : va_P D vwCl (wM ck ad th mi di po be mm ee fa fb) H) (hD : va_D A (wM ck ad th mi di po be mm ee fa fb)) (hS : va_S A s.heap H locs) (hl : lv_has ls 4 [(0, .ref (ad 0)), (1, .int x1), (2, .int x2)]) (h : jX2_compareNumbers th mi di po be mm ee fa fb x1 x2 = some u) : W p l e (rmz 1 22) s m args below meth c H locs 0 0 (MQ below (HQ D A (wM ck ad u.2.1 u.2.2.1 u.2.2.2.1 u.2.2.2.2.1 u.2.2.2.2.2.1 u.2.2.2.2.2.2.1 u.2.2.2.2.2.2.2.1 u.2.2.2.2.2.2.2.2.1 u.2.2.2.2.2.2.2.2.2) (some (.int u.1))) args s 0 0 A) (F0 m 0 ls []) := by
  obtain ⟨hx, hb, hml, hown, hg, hr, hlocks⟩ := id C
  unfold jX2_compareNumbers at h
  refine lv_aload_n hx hb dX2_compareNumbers_0 rfl (lv_at hl 0 rfl) ?_
  refine lv_iload_n hx hb dX2_compareNumbers_1 rfl (lv_at hl 1 rfl) ?_
  refine lv_iload_n hx hb dX2_compareNumbers_2 rfl (lv_at hl 2 rfl) ?_
  obtain ⟨r_1, th_1, mi_1, di_1, po_1, be_1, mm_1, ee_1, fa_1, fb_1, h_r_1, h⟩ := of_bM h
  refine callMM C hK hX hP hD hS hA (cX2_sizes_met l ck ad _ _ _ _ _ _ _ _ _ _ _ _ h_r_1) vc_X2_sizes tw_478 (by decide) rfl hl.1 (rest := []) rfl (Nat.le_of_ble_eq_true rfl) (by decide) dX2_compareNumbers_3 (fun H locs hP hD hS => ?_)
  have hP : va_P D vwCl (wM ck ad th_1 mi_1 di_1 po_1 be_1 mm_1 ee_1 fa_1 fb_1) H := hP
  have hD : va_D A (wM ck ad th_1 mi_1 di_1 po_1 be_1 mm_1 ee_1 fa_1 fb_1) := hD
  refine W.eq (g2 := F0 m 6 ls [.int r_1]) rfl ?_
  refine lv_istore_n (lv' := [(3, .int r_1), (0, .ref (ad 0)), (1, .int x1), (2, .int x2)]) hx hb dX2_compareNumbers_6 rfl hl (by decide) rfl (fun ls hl => ?_)
  refine lv_aload_n hx hb dX2_compareNumbers_7 rfl (lv_at hl 1 rfl) ?_
  refine va_get hx hb hg inX2 hown hK hP 0 rfl rfl 1 (by decide) (hg _ tw_327) (fun _ h9 => h9) rfl dX2_compareNumbers_8 ?_
  refine lv_iload_n hx hb dX2_compareNumbers_11 rfl (lv_at hl 2 rfl) ?_
  obtain ⟨z_12, h⟩ := of_ite h
  refine va_zald hx hb hK hP 1 2 rfl rfl (ok_in z_12) dX2_compareNumbers_12 ?_
  refine lv_aload_n hx hb dX2_compareNumbers_13 rfl (lv_at hl 1 rfl) ?_
  refine va_get hx hb hg inX2 hown hK hP 0 rfl rfl 1 (by decide) (hg _ tw_327) (fun _ h9 => h9) rfl dX2_compareNumbers_14 ?_
  refine lv_iload_n hx hb dX2_compareNumbers_17 rfl (lv_at hl 3 rfl) ?_
  obtain ⟨z_18, h⟩ := of_ite h
  refine va_zald hx hb hK hP 1 2 rfl rfl (ok_in z_18) dX2_compareNumbers_18 ?_
  refine lv_icmp_eq (tgt := 37) hx hb dX2_compareNumbers_19 (by decide) (fun c_1 => ?_) (fun c_1 => ?_)
  · rw [if_pos c_1] at h
    refine lv_aload_n hx hb dX2_compareNumbers_37 rfl (lv_at hl 1 rfl) ?_
    refine va_get hx hb hg inX2 hown hK hP 0 rfl rfl 1 (by decide) (hg _ tw_327) (fun _ h9 => h9) rfl dX2_compareNumbers_38 ?_
    refine lv_iload_n hx hb dX2_compareNumbers_41 rfl (lv_at hl 2 rfl) ?_
    obtain ⟨z_42, h⟩ := of_ite h
    refine va_zald hx hb hK hP 1 2 rfl rfl (ok_in z_42) dX2_compareNumbers_42 ?_
    refine rg_i (pj := 52) (v := (if (mi_1 x1.toNatClampNeg) = 0 then r_1 else -r_1 : Int32)) (ls := ls) (rest := []) (fun kJ => ?_) ?_
    · refine lv_if_eq (tgt := 51) hx hb dX2_compareNumbers_43 (by decide) (fun c_2 => ?_) (fun c_2 => ?_)
      · refine lv_iload_n hx hb dX2_compareNumbers_51 rfl (lv_at hl 0 rfl) ?_
        exact kJ _ (by rw [if_pos c_2])
      · refine lv_iload_n hx hb dX2_compareNumbers_46 rfl (lv_at hl 0 rfl) ?_
        refine lv_ineg hx hb dX2_compareNumbers_47 ?_
        refine lv_goto (tgt := 52) hx hb dX2_compareNumbers_48 (by decide) ?_
        exact kJ _ (by rw [if_neg c_2])
    cases h
    exact W.iret hx hb hr (fun t ht _ => ⟨rfl, by rw [ht]; exact hP, hD, hS.F ht⟩) hS.2.2 dX2_compareNumbers_52
  · rw [if_neg c_1] at h
    refine lv_aload_n hx hb dX2_compareNumbers_22 rfl (lv_at hl 1 rfl) ?_
    refine va_get hx hb hg inX2 hown hK hP 0 rfl rfl 1 (by decide) (hg _ tw_327) (fun _ h9 => h9) rfl dX2_compareNumbers_23 ?_
    refine lv_iload_n hx hb dX2_compareNumbers_26 rfl (lv_at hl 2 rfl) ?_
    obtain ⟨z_27, h⟩ := of_ite h
    refine va_zald hx hb hK hP 1 2 rfl rfl (ok_in z_27) dX2_compareNumbers_27 ?_
    refine rg_i (pj := 36) (v := (if (mi_1 x1.toNatClampNeg) = 0 then 1 else (-1) : Int32)) (ls := ls) (rest := []) (fun kJ => ?_) ?_
    · refine lv_if_eq (tgt := 35) hx hb dX2_compareNumbers_28 (by decide) (fun c_3 => ?_) (fun c_3 => ?_)
      · refine lv_iconst (v := 1) hx hb dX2_compareNumbers_35 (by decide) ?_
        exact kJ _ (by rw [if_pos c_3])
      · refine lv_iconst (v := (-1)) hx hb dX2_compareNumbers_31 (by decide) ?_
        refine lv_goto (tgt := 36) hx hb dX2_compareNumbers_32 (by decide) ?_
        exact kJ _ (by rw [if_neg c_3])
    cases h
    exact W.iret hx hb hr (fun t ht _ => ⟨rfl, by rw [ht]; exact hP, hD, hS.F ht⟩) hS.2.2 dX2_compareNumbers_36
theorem vc_X2_compareNumbers : VC RX2 yX2_compareNumbers cX2_compareNumbers 4 (some .int) 2 := ⟨tw_476, ts_15, tw_2, tw_477, by decide +kernel⟩
theorem cX2_compareNumbers_met (l : Launch) (ck : Nat → ClassId) (ad : Nat → Nat) (th : Int32) (mi : NI) (di : NL) (po : NI) (be : Int32) (mm : Int64) (ee : Int32) (fa : NI) (fb : NI) (x1 : Int32) (x2 : Int32) (u : Int32 × Int32 × NI × NL × NI × Int32 × Int64 × Int32 × NI × NI) (h : jX2_compareNumbers th mi di po be mm ee fa fb x1 x2 = some u) : HM l yX2_compareNumbers cX2_compareNumbers 4 (some .int) (rmz 1 22) [.ref (ad 0), .int x1, .int x2] (tyM ck) (wM ck ad th mi di po be mm ee fa fb) (some (.int u.1)) (wM ck ad u.2.1 u.2.2.1 u.2.2.2.1 u.2.2.2.2.1 u.2.2.2.2.2.1 u.2.2.2.2.2.2.1 u.2.2.2.2.2.2.2.1 u.2.2.2.2.2.2.2.2.1 u.2.2.2.2.2.2.2.2.2) :=
  hm_of (own := RX2) (by decide +kernel) rfl (Nat.le_of_ble_eq_true rfl) (fun D A p e s m below meth c ls C hA hK hX hP hD hS hl => wX2_compareNumbers_0 C hA hK hX th mi di po be mm ee fa fb x1 x2 ls _ _ u hP hD hS hl h)

/-! RealDeskModel.swap()V -/
def jX2_swap_L2 : Nat → Int32 → NI → NL → NI → Int32 → Int64 → Int32 → NI → NI → Int32 → Option (Int32 × NI × NL × NI × Int32 × Int64 × Int32 × NI × NI)
  | 0, _, _, _, _, _, _, _, _, _, _ => none
  | k + 1, th, mi, di, po, be, mm, ee, fa, fb, x1 => (if 140 ≤ x1 then some (th, mi, di, po, be, mm, ee, fa, fb) else (if ok x1 140 = true then (if ok x1 140 = true then (if ok x1 140 = true then (if ok x1 140 = true then jX2_swap_L2 k th mi di po be mm ee (upd fa x1.toNatClampNeg (fb x1.toNatClampNeg)) (upd fb x1.toNatClampNeg (fa x1.toNatClampNeg)) (x1 + 1) else none) else none) else none) else none))
set_option maxHeartbeats 4000000 in
set_option maxRecDepth 100000 in
theorem wX2_swap_L2 {p : Program} {l : Launch} {e : Env} {s : State} {m : MethodId} {args : Array Value} {below : List Frame} {meth : Method} {c : Code} {D : va_G} {A : Nat → Prop} {ck : Nat → ClassId} {ad : Nat → Nat} (C : CX p s m args meth c RX2 cX2_swap 3 none) (hA : ∀ q, s.heap.size ≤ q → A q) (hK : va_K D vwCl (tyM ck) s) (hX : XT s) : ∀ (k : Nat) (th : Int32) (mi : NI) (di : NL) (po : NI) (be : Int32) (mm : Int64) (ee : Int32) (fa : NI) (fb : NI) (x1 : Int32) (ls : Array Slot) (H : Heap) (locs : List Loc) (u : Int32 × NI × NL × NI × Int32 × Int64 × Int32 × NI × NI), va_P D vwCl (wM ck ad th mi di po be mm ee fa fb) H → va_D A (wM ck ad th mi di po be mm ee fa fb) → va_S A s.heap H locs → lv_has ls 3 [(0, .ref (ad 0)), (1, .int x1)] → jX2_swap_L2 k th mi di po be mm ee fa fb x1 = some u → W p l e (rmz 0 0) s m args below meth c H locs 0 0 (MQ below (HQ D A (wM ck ad u.1 u.2.1 u.2.2.1 u.2.2.2.1 u.2.2.2.2.1 u.2.2.2.2.2.1 u.2.2.2.2.2.2.1 u.2.2.2.2.2.2.2.1 u.2.2.2.2.2.2.2.2) none) args s 0 0 A) (F0 m 2 ls []) := by
  obtain ⟨hx, hb, hml, hown, hg, hr, hlocks⟩ := id C
  intro k
  induction k with
  | zero => intro th mi di po be mm ee fa fb x1 ls H locs u hP hD hS hl h; cases h
  | succ k ih =>
    intro th mi di po be mm ee fa fb x1 ls H locs u hP hD hS hl h
    unfold jX2_swap_L2 at h
    refine lv_iload_n hx hb dX2_swap_2 rfl (lv_at hl 1 rfl) ?_
    refine lv_sipush (v := 140) hx hb dX2_swap_3 (by decide) ?_
    refine lv_icmp_ge (tgt := 53) hx hb dX2_swap_6 (by decide) (fun c_1 => ?_) (fun c_1 => ?_)
    · rw [if_pos c_1] at h
      cases h
      exact W.vret hx hb hr (fun t ht _ => ⟨rfl, by rw [ht]; exact hP, hD, hS.F ht⟩) hS.2.2 dX2_swap_53
    · rw [if_neg c_1] at h
      refine lv_aload_n hx hb dX2_swap_9 rfl (lv_at hl 0 rfl) ?_
      refine va_get hx hb hg inX2 hown hK hP 0 rfl rfl 7 (by decide) (hg _ tw_333) (fun _ h9 => h9) rfl dX2_swap_10 ?_
      refine va_getN hx hb hg inX1 hown hK hP 4 rfl rfl 0 (by decide) (va_Nw.use rfl hX.1) (fun _ h9 => h9) rfl dX2_swap_13 ?_
      refine lv_iload_n hx hb dX2_swap_16 rfl (lv_at hl 1 rfl) ?_
      obtain ⟨z_17, h⟩ := of_ite h
      refine va_iald hx hb hK hP 5 0 rfl rfl (ok_in z_17) dX2_swap_17 ?_
      refine lv_istore_n (lv' := [(2, .int (fa x1.toNatClampNeg)), (0, .ref (ad 0)), (1, .int x1)]) hx hb dX2_swap_18 rfl hl (by decide) rfl (fun ls hl => ?_)
      refine lv_aload_n hx hb dX2_swap_19 rfl (lv_at hl 1 rfl) ?_
      refine va_get hx hb hg inX2 hown hK hP 0 rfl rfl 7 (by decide) (hg _ tw_333) (fun _ h9 => h9) rfl dX2_swap_20 ?_
      refine va_getN hx hb hg inX1 hown hK hP 4 rfl rfl 0 (by decide) (va_Nw.use rfl hX.1) (fun _ h9 => h9) rfl dX2_swap_23 ?_
      refine lv_iload_n hx hb dX2_swap_26 rfl (lv_at hl 2 rfl) ?_
      refine lv_aload_n hx hb dX2_swap_27 rfl (lv_at hl 1 rfl) ?_
      refine va_get hx hb hg inX2 hown hK hP 0 rfl rfl 8 (by decide) (hg _ tw_334) (fun _ h9 => h9) rfl dX2_swap_28 ?_
      refine va_getN hx hb hg inX1 hown hK hP 6 rfl rfl 0 (by decide) (va_Nw.use rfl hX.1) (fun _ h9 => h9) rfl dX2_swap_31 ?_
      refine lv_iload_n hx hb dX2_swap_34 rfl (lv_at hl 2 rfl) ?_
      obtain ⟨z_35, h⟩ := of_ite h
      refine va_iald hx hb hK hP 7 0 rfl rfl (ok_in z_35) dX2_swap_35 ?_
      obtain ⟨z_36, h⟩ := of_ite h
      refine va_iast hx hb hK hP hD hS 5 0 rfl rfl (ok_in z_36) dX2_swap_36 (fun H locs hP hD hS => ?_)
      have hP : va_P D vwCl (wM ck ad th mi di po be mm ee (upd fa x1.toNatClampNeg (fb x1.toNatClampNeg)) fb) H := hP
      have hD : va_D A (wM ck ad th mi di po be mm ee (upd fa x1.toNatClampNeg (fb x1.toNatClampNeg)) fb) := hD
      refine lv_aload_n hx hb dX2_swap_37 rfl (lv_at hl 1 rfl) ?_
      refine va_get hx hb hg inX2 hown hK hP 0 rfl rfl 8 (by decide) (hg _ tw_334) (fun _ h9 => h9) rfl dX2_swap_38 ?_
      refine va_getN hx hb hg inX1 hown hK hP 6 rfl rfl 0 (by decide) (va_Nw.use rfl hX.1) (fun _ h9 => h9) rfl dX2_swap_41 ?_
      refine lv_iload_n hx hb dX2_swap_44 rfl (lv_at hl 2 rfl) ?_
      refine lv_iload_n hx hb dX2_swap_45 rfl (lv_at hl 0 rfl) ?_
      obtain ⟨z_46, h⟩ := of_ite h
      refine va_iast hx hb hK hP hD hS 7 0 rfl rfl (ok_in z_46) dX2_swap_46 (fun H locs hP hD hS => ?_)
      have hP : va_P D vwCl (wM ck ad th mi di po be mm ee (upd fa x1.toNatClampNeg (fb x1.toNatClampNeg)) (upd fb x1.toNatClampNeg (fa x1.toNatClampNeg))) H := hP
      have hD : va_D A (wM ck ad th mi di po be mm ee (upd fa x1.toNatClampNeg (fb x1.toNatClampNeg)) (upd fb x1.toNatClampNeg (fa x1.toNatClampNeg))) := hD
      refine lv_iinc (v := x1 + 1) (lv' := [(1, .int (x1 + 1)), (2, .int (fa x1.toNatClampNeg)), (0, .ref (ad 0))]) hx hb dX2_swap_47 hl (k := 2) rfl rfl (by decide) rfl (fun ls hl => ?_)
      refine lv_goto (tgt := 2) hx hb dX2_swap_50 (by decide) ?_
      exact ih _ _ _ _ _ _ _ _ _ _ _ _ _ _ hP hD hS (lv_sub hl [2, 0] rfl) h
def jX2_swap (th : Int32) (mi : NI) (di : NL) (po : NI) (be : Int32) (mm : Int64) (ee : Int32) (fa : NI) (fb : NI) : Option (Int32 × NI × NL × NI × Int32 × Int64 × Int32 × NI × NI) := jX2_swap_L2 FU th mi di po be mm ee fa fb 0
set_option maxHeartbeats 4000000 in
set_option maxRecDepth 100000 in
theorem wX2_swap_0 {p : Program} {l : Launch} {e : Env} {s : State} {m : MethodId} {args : Array Value} {below : List Frame} {meth : Method} {c : Code} {D : va_G} {A : Nat → Prop} {ck : Nat → ClassId} {ad : Nat → Nat} (C : CX p s m args meth c RX2 cX2_swap 3 none) (hA : ∀ q, s.heap.size ≤ q → A q) (hK : va_K D vwCl (tyM ck) s) (hX : XT s) (th : Int32) (mi : NI) (di : NL) (po : NI) (be : Int32) (mm : Int64) (ee : Int32) (fa : NI) (fb : NI) (ls : Array Slot) (H : Heap) (locs : List Loc) (u : Int32 × NI × NL × NI × Int32 × Int64 × Int32 × NI × NI) (hP : va_P D vwCl (wM ck ad th mi di po be mm ee fa fb) H) (hD : va_D A (wM ck ad th mi di po be mm ee fa fb)) (hS : va_S A s.heap H locs) (hl : lv_has ls 3 [(0, .ref (ad 0))]) (h : jX2_swap th mi di po be mm ee fa fb = some u) : W p l e (rmz 0 0) s m args below meth c H locs 0 0 (MQ below (HQ D A (wM ck ad u.1 u.2.1 u.2.2.1 u.2.2.2.1 u.2.2.2.2.1 u.2.2.2.2.2.1 u.2.2.2.2.2.2.1 u.2.2.2.2.2.2.2.1 u.2.2.2.2.2.2.2.2) none) args s 0 0 A) (F0 m 0 ls []) := by
  obtain ⟨hx, hb, hml, hown, hg, hr, hlocks⟩ := id C
  unfold jX2_swap at h
  refine lv_iconst (v := 0) hx hb dX2_swap_0 (by decide) ?_
  refine lv_istore_n (lv' := [(1, .int 0), (0, .ref (ad 0))]) hx hb dX2_swap_1 rfl hl (by decide) rfl (fun ls hl => ?_)
  exact wX2_swap_L2 C hA hK hX FU _ _ _ _ _ _ _ _ _ _ _ _ _ _ hP hD hS (lv_sub hl [1, 0] rfl) h
theorem vc_X2_swap : VC RX2 yX2_swap cX2_swap 3 none 0 := ⟨tw_442, ts_10, tw_2, tw_443, by decide +kernel⟩
theorem cX2_swap_met (l : Launch) (ck : Nat → ClassId) (ad : Nat → Nat) (th : Int32) (mi : NI) (di : NL) (po : NI) (be : Int32) (mm : Int64) (ee : Int32) (fa : NI) (fb : NI) (u : Int32 × NI × NL × NI × Int32 × Int64 × Int32 × NI × NI) (h : jX2_swap th mi di po be mm ee fa fb = some u) : HM l yX2_swap cX2_swap 3 none (rmz 0 0) [.ref (ad 0)] (tyM ck) (wM ck ad th mi di po be mm ee fa fb) none (wM ck ad u.1 u.2.1 u.2.2.1 u.2.2.2.1 u.2.2.2.2.1 u.2.2.2.2.2.1 u.2.2.2.2.2.2.1 u.2.2.2.2.2.2.2.1 u.2.2.2.2.2.2.2.2) :=
  hm_of (own := RX2) (by decide +kernel) rfl (Nat.le_of_ble_eq_true rfl) (fun D A p e s m below meth c ls C hA hK hX hP hD hS hl => wX2_swap_0 C hA hK hX th mi di po be mm ee fa fb ls _ _ u hP hD hS hl h)

/-! RealDeskModel.exactSum(IIZ)Z -/
def jX2_exactSum_B60 (th : Int32) (mi : NI) (di : NL) (po : NI) (be : Int32) (mm : Int64) (ee : Int32) (fa : NI) (fb : NI) (x1 : Int32) (x2 : Int32) (x4 : Int32) (x5 : Int32) : Option (Int32 × Int32 × NI × NL × NI × Int32 × Int64 × Int32 × NI × NI) := (if ok x1 16 = true then (Option.bind (jX1_set fa (di x1.toNatClampNeg)) fun fa_1 => (if ok x1 16 = true then (Option.bind (jX1_up fa_1 ((po x1.toNatClampNeg) - x4)) fun fa_2 => (if ok x2 16 = true then (Option.bind (jX1_set fb (di x2.toNatClampNeg)) fun fb_3 => (if ok x2 16 = true then (Option.bind (jX1_up fb_3 ((po x2.toNatClampNeg) - x4)) fun fb_4 => (if ok x1 16 = true then (if (mi x1.toNatClampNeg) = x5 then (b2 (jX1_add fa_2 fb_4) fun fa_9 fb_9 => (if ok x1 16 = true then (if bz (mi x1.toNatClampNeg) = true then some (mi x1.toNatClampNeg, th, mi, di, po, be, mm, ee, fa_9, fb_9) else none) else none)) else (b3 (jX1_compare fa_2 fb_4) fun r_5 fa_5 fb_5 => (if r_5 < 0 then (bMv (jX2_swap th mi di po be mm ee fa_5 fb_5) fun th_6 mi_6 di_6 po_6 be_6 mm_6 ee_6 fa_6 fb_6 => (b2 (jX1_less fa_6 fb_6) fun fa_7 fb_7 => (if bz x5 = true then some (x5, th_6, mi_6, di_6, po_6, be_6, mm_6, ee_6, fa_7, fb_7) else none))) else (b2 (jX1_less fa_5 fb_5) fun fa_8 fb_8 => (if ok x1 16 = true then (if bz (mi x1.toNatClampNeg) = true then some (mi x1.toNatClampNeg, th, mi, di, po, be, mm, ee, fa_8, fb_8) else none) else none))))) else none)) else none)) else none)) else none)) else none)
set_option maxHeartbeats 4000000 in
set_option maxRecDepth 100000 in
theorem wX2_exactSum_B60 {p : Program} {l : Launch} {e : Env} {s : State} {m : MethodId} {args : Array Value} {below : List Frame} {meth : Method} {c : Code} {D : va_G} {A : Nat → Prop} {ck : Nat → ClassId} {ad : Nat → Nat} (C : CX p s m args meth c RX2 cX2_exactSum 6 (some .boolean)) (hA : ∀ q, s.heap.size ≤ q → A q) (hK : va_K D vwCl (tyM ck) s) (hX : XT s) (th : Int32) (mi : NI) (di : NL) (po : NI) (be : Int32) (mm : Int64) (ee : Int32) (fa : NI) (fb : NI) (x1 : Int32) (x2 : Int32) (x4 : Int32) (x5 : Int32) (ls : Array Slot) (H : Heap) (locs : List Loc) (u : Int32 × Int32 × NI × NL × NI × Int32 × Int64 × Int32 × NI × NI) (hP : va_P D vwCl (wM ck ad th mi di po be mm ee fa fb) H) (hD : va_D A (wM ck ad th mi di po be mm ee fa fb)) (hS : va_S A s.heap H locs) (hl : lv_has ls 6 [(0, .ref (ad 0)), (1, .int x1), (2, .int x2), (4, .int x4), (5, .int x5)]) (h : jX2_exactSum_B60 th mi di po be mm ee fa fb x1 x2 x4 x5 = some u) : W p l e (rmz 1 25) s m args below meth c H locs 0 0 (MQ below (HQ D A (wM ck ad u.2.1 u.2.2.1 u.2.2.2.1 u.2.2.2.2.1 u.2.2.2.2.2.1 u.2.2.2.2.2.2.1 u.2.2.2.2.2.2.2.1 u.2.2.2.2.2.2.2.2.1 u.2.2.2.2.2.2.2.2.2) (some (.int u.1))) args s 0 0 A) (F0 m 60 ls []) := by
  obtain ⟨hx, hb, hml, hown, hg, hr, hlocks⟩ := id C
  unfold jX2_exactSum_B60 at h
  refine lv_aload_n hx hb dX2_exactSum_60 rfl (lv_at hl 0 rfl) ?_
  refine va_get hx hb hg inX2 hown hK hP 0 rfl rfl 7 (by decide) (hg _ tw_333) (fun _ h9 => h9) rfl dX2_exactSum_61 ?_
  refine lv_aload_n hx hb dX2_exactSum_64 rfl (lv_at hl 0 rfl) ?_
  refine va_get hx hb hg inX2 hown hK hP 0 rfl rfl 2 (by decide) (hg _ tw_328) (fun _ h9 => h9) rfl dX2_exactSum_65 ?_
  refine lv_iload_n hx hb dX2_exactSum_68 rfl (lv_at hl 1 rfl) ?_
  obtain ⟨z_69, h⟩ := of_ite h
  refine va_lald hx hb hK hP 2 1 rfl rfl (ok_in z_69) dX2_exactSum_69 ?_
  obtain ⟨fa_1, h_r_1, h⟩ := of_bind h
  refine callMa C hK hX hP hD hS hA (cX1_set_met l ck (fun i => ad (i + 4)) _ _ _ h_r_1) vc_X1_set tw_370 (by decide) rfl hl.1 (rest := []) rfl (Nat.le_of_ble_eq_true rfl) (by decide) dX2_exactSum_70 (fun H locs hP hD hS => ?_)
  have hP : va_P D vwCl (wM ck ad th mi di po be mm ee fa_1 fb) H := hP
  have hD : va_D A (wM ck ad th mi di po be mm ee fa_1 fb) := hD
  refine W.eq (g2 := F0 m 73 ls []) rfl ?_
  refine lv_aload_n hx hb dX2_exactSum_73 rfl (lv_at hl 0 rfl) ?_
  refine va_get hx hb hg inX2 hown hK hP 0 rfl rfl 7 (by decide) (hg _ tw_333) (fun _ h9 => h9) rfl dX2_exactSum_74 ?_
  refine lv_aload_n hx hb dX2_exactSum_77 rfl (lv_at hl 0 rfl) ?_
  refine va_get hx hb hg inX2 hown hK hP 0 rfl rfl 3 (by decide) (hg _ tw_329) (fun _ h9 => h9) rfl dX2_exactSum_78 ?_
  refine lv_iload_n hx hb dX2_exactSum_81 rfl (lv_at hl 1 rfl) ?_
  obtain ⟨z_82, h⟩ := of_ite h
  refine va_iald hx hb hK hP 3 0 rfl rfl (ok_in z_82) dX2_exactSum_82 ?_
  refine lv_iload hx hb dX2_exactSum_83 (lv_at hl 3 rfl) ?_
  refine lv_isub hx hb dX2_exactSum_85 ?_
  obtain ⟨fa_2, h_r_2, h⟩ := of_bind h
  refine callMa C hK hX hP hD hS hA (cX1_up_met l ck (fun i => ad (i + 4)) _ _ _ h_r_2) vc_X1_up tw_423 (by decide) rfl hl.1 (rest := []) rfl (Nat.le_of_ble_eq_true rfl) (by decide) dX2_exactSum_86 (fun H locs hP hD hS => ?_)
  have hP : va_P D vwCl (wM ck ad th mi di po be mm ee fa_2 fb) H := hP
  have hD : va_D A (wM ck ad th mi di po be mm ee fa_2 fb) := hD
  refine W.eq (g2 := F0 m 89 ls []) rfl ?_
  refine lv_aload_n hx hb dX2_exactSum_89 rfl (lv_at hl 0 rfl) ?_
  refine va_get hx hb hg inX2 hown hK hP 0 rfl rfl 8 (by decide) (hg _ tw_334) (fun _ h9 => h9) rfl dX2_exactSum_90 ?_
  refine lv_aload_n hx hb dX2_exactSum_93 rfl (lv_at hl 0 rfl) ?_
  refine va_get hx hb hg inX2 hown hK hP 0 rfl rfl 2 (by decide) (hg _ tw_328) (fun _ h9 => h9) rfl dX2_exactSum_94 ?_
  refine lv_iload_n hx hb dX2_exactSum_97 rfl (lv_at hl 2 rfl) ?_
  obtain ⟨z_98, h⟩ := of_ite h
  refine va_lald hx hb hK hP 2 1 rfl rfl (ok_in z_98) dX2_exactSum_98 ?_
  obtain ⟨fb_3, h_r_3, h⟩ := of_bind h
  refine callMb C hK hX hP hD hS hA (cX1_set_met l ck (fun i => ad (i + 6)) _ _ _ h_r_3) vc_X1_set tw_370 (by decide) rfl hl.1 (rest := []) rfl (Nat.le_of_ble_eq_true rfl) (by decide) dX2_exactSum_99 (fun H locs hP hD hS => ?_)
  have hP : va_P D vwCl (wM ck ad th mi di po be mm ee fa_2 fb_3) H := hP
  have hD : va_D A (wM ck ad th mi di po be mm ee fa_2 fb_3) := hD
  refine W.eq (g2 := F0 m 102 ls []) rfl ?_
  refine lv_aload_n hx hb dX2_exactSum_102 rfl (lv_at hl 0 rfl) ?_
  refine va_get hx hb hg inX2 hown hK hP 0 rfl rfl 8 (by decide) (hg _ tw_334) (fun _ h9 => h9) rfl dX2_exactSum_103 ?_
  refine lv_aload_n hx hb dX2_exactSum_106 rfl (lv_at hl 0 rfl) ?_
  refine va_get hx hb hg inX2 hown hK hP 0 rfl rfl 3 (by decide) (hg _ tw_329) (fun _ h9 => h9) rfl dX2_exactSum_107 ?_
  refine lv_iload_n hx hb dX2_exactSum_110 rfl (lv_at hl 2 rfl) ?_
  obtain ⟨z_111, h⟩ := of_ite h
  refine va_iald hx hb hK hP 3 0 rfl rfl (ok_in z_111) dX2_exactSum_111 ?_
  refine lv_iload hx hb dX2_exactSum_112 (lv_at hl 3 rfl) ?_
  refine lv_isub hx hb dX2_exactSum_114 ?_
  obtain ⟨fb_4, h_r_4, h⟩ := of_bind h
  refine callMb C hK hX hP hD hS hA (cX1_up_met l ck (fun i => ad (i + 6)) _ _ _ h_r_4) vc_X1_up tw_423 (by decide) rfl hl.1 (rest := []) rfl (Nat.le_of_ble_eq_true rfl) (by decide) dX2_exactSum_115 (fun H locs hP hD hS => ?_)
  have hP : va_P D vwCl (wM ck ad th mi di po be mm ee fa_2 fb_4) H := hP
  have hD : va_D A (wM ck ad th mi di po be mm ee fa_2 fb_4) := hD
  refine W.eq (g2 := F0 m 118 ls []) rfl ?_
  refine lv_aload_n hx hb dX2_exactSum_118 rfl (lv_at hl 0 rfl) ?_
  refine va_get hx hb hg inX2 hown hK hP 0 rfl rfl 1 (by decide) (hg _ tw_327) (fun _ h9 => h9) rfl dX2_exactSum_119 ?_
  refine lv_iload_n hx hb dX2_exactSum_122 rfl (lv_at hl 1 rfl) ?_
  obtain ⟨z_123, h⟩ := of_ite h
  refine va_zald hx hb hK hP 1 2 rfl rfl (ok_in z_123) dX2_exactSum_123 ?_
  refine lv_iload hx hb dX2_exactSum_124 (lv_at hl 4 rfl) ?_
  refine lv_icmp_ne (tgt := 147) hx hb dX2_exactSum_126 (by decide) (fun c_1 => ?_) (fun c_1 => ?_)
  · rw [if_neg c_1] at h
    refine lv_aload_n hx hb dX2_exactSum_147 rfl (lv_at hl 0 rfl) ?_
    refine va_get hx hb hg inX2 hown hK hP 0 rfl rfl 7 (by decide) (hg _ tw_333) (fun _ h9 => h9) rfl dX2_exactSum_148 ?_
    refine lv_aload_n hx hb dX2_exactSum_151 rfl (lv_at hl 0 rfl) ?_
    refine va_get hx hb hg inX2 hown hK hP 0 rfl rfl 8 (by decide) (hg _ tw_334) (fun _ h9 => h9) rfl dX2_exactSum_152 ?_
    obtain ⟨r_5, fa_5, fb_5, h_r_5, h⟩ := of_b3 h
    refine callMab C hK hX hP hD hS hA (cX1_compare_met l ck (fun i => ad (i + 4)) _ _ _ h_r_5) vc_X1_compare tw_432 (by decide) rfl hl.1 (rest := []) rfl (Nat.le_of_ble_eq_true rfl) (by decide) dX2_exactSum_155 (fun H locs hP hD hS => ?_)
    have hP : va_P D vwCl (wM ck ad th mi di po be mm ee fa_5 fb_5) H := hP
    have hD : va_D A (wM ck ad th mi di po be mm ee fa_5 fb_5) := hD
    refine W.eq (g2 := F0 m 158 ls [.int r_5]) rfl ?_
    refine lv_if_lt (tgt := 179) hx hb dX2_exactSum_158 (by decide) (fun c_2 => ?_) (fun c_2 => ?_)
    · rw [if_pos c_2] at h
      refine lv_aload_n hx hb dX2_exactSum_179 rfl (lv_at hl 0 rfl) ?_
      obtain ⟨th_6, mi_6, di_6, po_6, be_6, mm_6, ee_6, fa_6, fb_6, h_r_6, h⟩ := of_bMv h
      refine callMM C hK hX hP hD hS hA (cX2_swap_met l ck ad _ _ _ _ _ _ _ _ _ _ h_r_6) vc_X2_swap tw_440 (by decide) rfl hl.1 (rest := []) rfl (Nat.le_of_ble_eq_true rfl) (by decide) dX2_exactSum_180 (fun H locs hP hD hS => ?_)
      have hP : va_P D vwCl (wM ck ad th_6 mi_6 di_6 po_6 be_6 mm_6 ee_6 fa_6 fb_6) H := hP
      have hD : va_D A (wM ck ad th_6 mi_6 di_6 po_6 be_6 mm_6 ee_6 fa_6 fb_6) := hD
      refine W.eq (g2 := F0 m 183 ls []) rfl ?_
      refine lv_aload_n hx hb dX2_exactSum_183 rfl (lv_at hl 0 rfl) ?_
      refine va_get hx hb hg inX2 hown hK hP 0 rfl rfl 7 (by decide) (hg _ tw_333) (fun _ h9 => h9) rfl dX2_exactSum_184 ?_
      refine lv_aload_n hx hb dX2_exactSum_187 rfl (lv_at hl 0 rfl) ?_
      refine va_get hx hb hg inX2 hown hK hP 0 rfl rfl 8 (by decide) (hg _ tw_334) (fun _ h9 => h9) rfl dX2_exactSum_188 ?_
      obtain ⟨fa_7, fb_7, h_r_7, h⟩ := of_b2 h
      refine callMab C hK hX hP hD hS hA (cX1_less_met l ck (fun i => ad (i + 4)) _ _ _ h_r_7) vc_X1_less tw_436 (by decide) rfl hl.1 (rest := []) rfl (Nat.le_of_ble_eq_true rfl) (by decide) dX2_exactSum_191 (fun H locs hP hD hS => ?_)
      have hP : va_P D vwCl (wM ck ad th_6 mi_6 di_6 po_6 be_6 mm_6 ee_6 fa_7 fb_7) H := hP
      have hD : va_D A (wM ck ad th_6 mi_6 di_6 po_6 be_6 mm_6 ee_6 fa_7 fb_7) := hD
      refine W.eq (g2 := F0 m 194 ls []) rfl ?_
      refine lv_iload hx hb dX2_exactSum_194 (lv_at hl 4 rfl) ?_
      obtain ⟨z_196, h⟩ := of_ite h
      cases h
      exact W.zret hx hb hr (bz_n z_196) (fun t ht _ => ⟨rfl, by rw [ht]; exact hP, hD, hS.F ht⟩) hS.2.2 dX2_exactSum_196
    · rw [if_neg c_2] at h
      refine lv_aload_n hx hb dX2_exactSum_161 rfl (lv_at hl 0 rfl) ?_
      refine va_get hx hb hg inX2 hown hK hP 0 rfl rfl 7 (by decide) (hg _ tw_333) (fun _ h9 => h9) rfl dX2_exactSum_162 ?_
      refine lv_aload_n hx hb dX2_exactSum_165 rfl (lv_at hl 0 rfl) ?_
      refine va_get hx hb hg inX2 hown hK hP 0 rfl rfl 8 (by decide) (hg _ tw_334) (fun _ h9 => h9) rfl dX2_exactSum_166 ?_
      obtain ⟨fa_8, fb_8, h_r_8, h⟩ := of_b2 h
      refine callMab C hK hX hP hD hS hA (cX1_less_met l ck (fun i => ad (i + 4)) _ _ _ h_r_8) vc_X1_less tw_436 (by decide) rfl hl.1 (rest := []) rfl (Nat.le_of_ble_eq_true rfl) (by decide) dX2_exactSum_169 (fun H locs hP hD hS => ?_)
      have hP : va_P D vwCl (wM ck ad th mi di po be mm ee fa_8 fb_8) H := hP
      have hD : va_D A (wM ck ad th mi di po be mm ee fa_8 fb_8) := hD
      refine W.eq (g2 := F0 m 172 ls []) rfl ?_
      refine lv_aload_n hx hb dX2_exactSum_172 rfl (lv_at hl 0 rfl) ?_
      refine va_get hx hb hg inX2 hown hK hP 0 rfl rfl 1 (by decide) (hg _ tw_327) (fun _ h9 => h9) rfl dX2_exactSum_173 ?_
      refine lv_iload_n hx hb dX2_exactSum_176 rfl (lv_at hl 1 rfl) ?_
      obtain ⟨z_177, h⟩ := of_ite h
      refine va_zald hx hb hK hP 1 2 rfl rfl (ok_in z_177) dX2_exactSum_177 ?_
      obtain ⟨z_178, h⟩ := of_ite h
      cases h
      exact W.zret hx hb hr (bz_n z_178) (fun t ht _ => ⟨rfl, by rw [ht]; exact hP, hD, hS.F ht⟩) hS.2.2 dX2_exactSum_178
  · rw [if_pos c_1] at h
    refine lv_aload_n hx hb dX2_exactSum_129 rfl (lv_at hl 0 rfl) ?_
    refine va_get hx hb hg inX2 hown hK hP 0 rfl rfl 7 (by decide) (hg _ tw_333) (fun _ h9 => h9) rfl dX2_exactSum_130 ?_
    refine lv_aload_n hx hb dX2_exactSum_133 rfl (lv_at hl 0 rfl) ?_
    refine va_get hx hb hg inX2 hown hK hP 0 rfl rfl 8 (by decide) (hg _ tw_334) (fun _ h9 => h9) rfl dX2_exactSum_134 ?_
    obtain ⟨fa_9, fb_9, h_r_9, h⟩ := of_b2 h
    refine callMab C hK hX hP hD hS hA (cX1_add_met l ck (fun i => ad (i + 4)) _ _ _ h_r_9) vc_X1_add tw_428 (by decide) rfl hl.1 (rest := []) rfl (Nat.le_of_ble_eq_true rfl) (by decide) dX2_exactSum_137 (fun H locs hP hD hS => ?_)
    have hP : va_P D vwCl (wM ck ad th mi di po be mm ee fa_9 fb_9) H := hP
    have hD : va_D A (wM ck ad th mi di po be mm ee fa_9 fb_9) := hD
    refine W.eq (g2 := F0 m 140 ls []) rfl ?_
    refine lv_aload_n hx hb dX2_exactSum_140 rfl (lv_at hl 0 rfl) ?_
    refine va_get hx hb hg inX2 hown hK hP 0 rfl rfl 1 (by decide) (hg _ tw_327) (fun _ h9 => h9) rfl dX2_exactSum_141 ?_
    refine lv_iload_n hx hb dX2_exactSum_144 rfl (lv_at hl 1 rfl) ?_
    obtain ⟨z_145, h⟩ := of_ite h
    refine va_zald hx hb hK hP 1 2 rfl rfl (ok_in z_145) dX2_exactSum_145 ?_
    obtain ⟨z_146, h⟩ := of_ite h
    cases h
    exact W.zret hx hb hr (bz_n z_146) (fun t ht _ => ⟨rfl, by rw [ht]; exact hP, hD, hS.F ht⟩) hS.2.2 dX2_exactSum_146
def jX2_exactSum_B32 (th : Int32) (mi : NI) (di : NL) (po : NI) (be : Int32) (mm : Int64) (ee : Int32) (fa : NI) (fb : NI) (x1 : Int32) (x2 : Int32) (x3 : Int32) (x4 : Int32) : Option (Int32 × Int32 × NI × NL × NI × Int32 × Int64 × Int32 × NI × NI) := (if ok x2 16 = true then (if (mi x2.toNatClampNeg) = x3 then jX2_exactSum_B60 th mi di po be mm ee fa fb x1 x2 x4 0 else (if ok x2 16 = true then jX2_exactSum_B60 th mi di po be mm ee fa fb x1 x2 x4 (if (di x2.toNatClampNeg) ≤ 0 then 0 else 1 : Int32) else none)) else none)
set_option maxHeartbeats 4000000 in
set_option maxRecDepth 100000 in
theorem wX2_exactSum_B32 {p : Program} {l : Launch} {e : Env} {s : State} {m : MethodId} {args : Array Value} {below : List Frame} {meth : Method} {c : Code} {D : va_G} {A : Nat → Prop} {ck : Nat → ClassId} {ad : Nat → Nat} (C : CX p s m args meth c RX2 cX2_exactSum 6 (some .boolean)) (hA : ∀ q, s.heap.size ≤ q → A q) (hK : va_K D vwCl (tyM ck) s) (hX : XT s) (th : Int32) (mi : NI) (di : NL) (po : NI) (be : Int32) (mm : Int64) (ee : Int32) (fa : NI) (fb : NI) (x1 : Int32) (x2 : Int32) (x3 : Int32) (x4 : Int32) (ls : Array Slot) (H : Heap) (locs : List Loc) (u : Int32 × Int32 × NI × NL × NI × Int32 × Int64 × Int32 × NI × NI) (hP : va_P D vwCl (wM ck ad th mi di po be mm ee fa fb) H) (hD : va_D A (wM ck ad th mi di po be mm ee fa fb)) (hS : va_S A s.heap H locs) (hl : lv_has ls 6 [(0, .ref (ad 0)), (1, .int x1), (2, .int x2), (3, .int x3), (4, .int x4)]) (h : jX2_exactSum_B32 th mi di po be mm ee fa fb x1 x2 x3 x4 = some u) : W p l e (rmz 1 25) s m args below meth c H locs 0 0 (MQ below (HQ D A (wM ck ad u.2.1 u.2.2.1 u.2.2.2.1 u.2.2.2.2.1 u.2.2.2.2.2.1 u.2.2.2.2.2.2.1 u.2.2.2.2.2.2.2.1 u.2.2.2.2.2.2.2.2.1 u.2.2.2.2.2.2.2.2.2) (some (.int u.1))) args s 0 0 A) (F0 m 32 ls []) := by
  obtain ⟨hx, hb, hml, hown, hg, hr, hlocks⟩ := id C
  unfold jX2_exactSum_B32 at h
  refine lv_aload_n hx hb dX2_exactSum_32 rfl (lv_at hl 0 rfl) ?_
  refine va_get hx hb hg inX2 hown hK hP 0 rfl rfl 1 (by decide) (hg _ tw_327) (fun _ h9 => h9) rfl dX2_exactSum_33 ?_
  refine lv_iload_n hx hb dX2_exactSum_36 rfl (lv_at hl 2 rfl) ?_
  obtain ⟨z_37, h⟩ := of_ite h
  refine va_zald hx hb hK hP 1 2 rfl rfl (ok_in z_37) dX2_exactSum_37 ?_
  refine lv_iload_n hx hb dX2_exactSum_38 rfl (lv_at hl 3 rfl) ?_
  refine lv_icmp_eq (tgt := 57) hx hb dX2_exactSum_39 (by decide) (fun c_1 => ?_) (fun c_1 => ?_)
  · rw [if_pos c_1] at h
    refine lv_iconst (v := 0) hx hb dX2_exactSum_57 (by decide) ?_
    refine lv_istore (lv' := [(5, .int 0), (0, .ref (ad 0)), (1, .int x1), (2, .int x2), (3, .int x3), (4, .int x4)]) hx hb dX2_exactSum_58 hl (by decide) rfl (fun ls hl => ?_)
    exact wX2_exactSum_B60 C hA hK hX _ _ _ _ _ _ _ _ _ _ _ _ _ _ _ _ _ hP hD hS (lv_sub hl [1, 2, 3, 5, 0] rfl) h
  · rw [if_neg c_1] at h
    refine lv_aload_n hx hb dX2_exactSum_42 rfl (lv_at hl 0 rfl) ?_
    refine va_get hx hb hg inX2 hown hK hP 0 rfl rfl 2 (by decide) (hg _ tw_328) (fun _ h9 => h9) rfl dX2_exactSum_43 ?_
    refine lv_iload_n hx hb dX2_exactSum_46 rfl (lv_at hl 2 rfl) ?_
    obtain ⟨z_47, h⟩ := of_ite h
    refine va_lald hx hb hK hP 2 1 rfl rfl (ok_in z_47) dX2_exactSum_47 ?_
    refine lv_lconst (v := 0) hx hb dX2_exactSum_48 (by decide) ?_
    refine rg_i (pj := 58) (v := (if (di x2.toNatClampNeg) ≤ 0 then 0 else 1 : Int32)) (ls := ls) (rest := []) (fun kJ => ?_) ?_
    · refine lc_le (tgt := 57) hx hb dX2_exactSum_49 dX2_exactSum_50 (by decide) (fun c_2 => ?_) (fun c_2 => ?_)
      · refine lv_iconst (v := 0) hx hb dX2_exactSum_57 (by decide) ?_
        exact kJ _ (by rw [if_pos c_2])
      · refine lv_iconst (v := 1) hx hb dX2_exactSum_53 (by decide) ?_
        refine lv_goto (tgt := 58) hx hb dX2_exactSum_54 (by decide) ?_
        exact kJ _ (by rw [if_neg c_2])
    refine lv_istore (lv' := [(5, .int (if (di x2.toNatClampNeg) ≤ 0 then 0 else 1 : Int32)), (0, .ref (ad 0)), (1, .int x1), (2, .int x2), (3, .int x3), (4, .int x4)]) hx hb dX2_exactSum_58 hl (by decide) rfl (fun ls hl => ?_)
    exact wX2_exactSum_B60 C hA hK hX _ _ _ _ _ _ _ _ _ _ _ _ _ _ _ _ _ hP hD hS (lv_sub hl [1, 2, 3, 5, 0] rfl) h
def jX2_exactSum (th : Int32) (mi : NI) (di : NL) (po : NI) (be : Int32) (mm : Int64) (ee : Int32) (fa : NI) (fb : NI) (x1 : Int32) (x2 : Int32) (x3 : Int32) : Option (Int32 × Int32 × NI × NL × NI × Int32 × Int64 × Int32 × NI × NI) := (if ok x1 16 = true then (if ok x2 16 = true then (if (po x2.toNatClampNeg) ≤ (po x1.toNatClampNeg) then (if ok x2 16 = true then jX2_exactSum_B32 th mi di po be mm ee fa fb x1 x2 x3 (po x2.toNatClampNeg) else none) else (if ok x1 16 = true then jX2_exactSum_B32 th mi di po be mm ee fa fb x1 x2 x3 (po x1.toNatClampNeg) else none)) else none) else none)
set_option maxHeartbeats 4000000 in
set_option maxRecDepth 100000 in
theorem wX2_exactSum_0 {p : Program} {l : Launch} {e : Env} {s : State} {m : MethodId} {args : Array Value} {below : List Frame} {meth : Method} {c : Code} {D : va_G} {A : Nat → Prop} {ck : Nat → ClassId} {ad : Nat → Nat} (C : CX p s m args meth c RX2 cX2_exactSum 6 (some .boolean)) (hA : ∀ q, s.heap.size ≤ q → A q) (hK : va_K D vwCl (tyM ck) s) (hX : XT s) (th : Int32) (mi : NI) (di : NL) (po : NI) (be : Int32) (mm : Int64) (ee : Int32) (fa : NI) (fb : NI) (x1 : Int32) (x2 : Int32) (x3 : Int32) (ls : Array Slot) (H : Heap) (locs : List Loc) (u : Int32 × Int32 × NI × NL × NI × Int32 × Int64 × Int32 × NI × NI) (hP : va_P D vwCl (wM ck ad th mi di po be mm ee fa fb) H) (hD : va_D A (wM ck ad th mi di po be mm ee fa fb)) (hS : va_S A s.heap H locs) (hl : lv_has ls 6 [(0, .ref (ad 0)), (1, .int x1), (2, .int x2), (3, .int x3)]) (h : jX2_exactSum th mi di po be mm ee fa fb x1 x2 x3 = some u) : W p l e (rmz 1 25) s m args below meth c H locs 0 0 (MQ below (HQ D A (wM ck ad u.2.1 u.2.2.1 u.2.2.2.1 u.2.2.2.2.1 u.2.2.2.2.2.1 u.2.2.2.2.2.2.1 u.2.2.2.2.2.2.2.1 u.2.2.2.2.2.2.2.2.1 u.2.2.2.2.2.2.2.2.2) (some (.int u.1))) args s 0 0 A) (F0 m 0 ls []) := by
  obtain ⟨hx, hb, hml, hown, hg, hr, hlocks⟩ := id C
  unfold jX2_exactSum at h
  refine lv_aload_n hx hb dX2_exactSum_0 rfl (lv_at hl 0 rfl) ?_
  refine va_get hx hb hg inX2 hown hK hP 0 rfl rfl 3 (by decide) (hg _ tw_329) (fun _ h9 => h9) rfl dX2_exactSum_1 ?_
  refine lv_iload_n hx hb dX2_exactSum_4 rfl (lv_at hl 1 rfl) ?_
  obtain ⟨z_5, h⟩ := of_ite h
  refine va_iald hx hb hK hP 3 0 rfl rfl (ok_in z_5) dX2_exactSum_5 ?_
  refine lv_aload_n hx hb dX2_exactSum_6 rfl (lv_at hl 0 rfl) ?_
  refine va_get hx hb hg inX2 hown hK hP 0 rfl rfl 3 (by decide) (hg _ tw_329) (fun _ h9 => h9) rfl dX2_exactSum_7 ?_
  refine lv_iload_n hx hb dX2_exactSum_10 rfl (lv_at hl 2 rfl) ?_
  obtain ⟨z_11, h⟩ := of_ite h
  refine va_iald hx hb hK hP 3 0 rfl rfl (ok_in z_11) dX2_exactSum_11 ?_
  refine lv_icmp_ge (tgt := 24) hx hb dX2_exactSum_12 (by decide) (fun c_1 => ?_) (fun c_1 => ?_)
  · rw [if_pos c_1] at h
    refine lv_aload_n hx hb dX2_exactSum_24 rfl (lv_at hl 0 rfl) ?_
    refine va_get hx hb hg inX2 hown hK hP 0 rfl rfl 3 (by decide) (hg _ tw_329) (fun _ h9 => h9) rfl dX2_exactSum_25 ?_
    refine lv_iload_n hx hb dX2_exactSum_28 rfl (lv_at hl 2 rfl) ?_
    obtain ⟨z_29, h⟩ := of_ite h
    refine va_iald hx hb hK hP 3 0 rfl rfl (ok_in z_29) dX2_exactSum_29 ?_
    refine lv_istore (lv' := [(4, .int (po x2.toNatClampNeg)), (0, .ref (ad 0)), (1, .int x1), (2, .int x2), (3, .int x3)]) hx hb dX2_exactSum_30 hl (by decide) rfl (fun ls hl => ?_)
    exact wX2_exactSum_B32 C hA hK hX _ _ _ _ _ _ _ _ _ _ _ _ _ _ _ _ _ hP hD hS (lv_sub hl [1, 2, 3, 4, 0] rfl) h
  · rw [if_neg c_1] at h
    refine lv_aload_n hx hb dX2_exactSum_15 rfl (lv_at hl 0 rfl) ?_
    refine va_get hx hb hg inX2 hown hK hP 0 rfl rfl 3 (by decide) (hg _ tw_329) (fun _ h9 => h9) rfl dX2_exactSum_16 ?_
    refine lv_iload_n hx hb dX2_exactSum_19 rfl (lv_at hl 1 rfl) ?_
    obtain ⟨z_20, h⟩ := of_ite h
    refine va_iald hx hb hK hP 3 0 rfl rfl (ok_in z_20) dX2_exactSum_20 ?_
    refine lv_goto (tgt := 30) hx hb dX2_exactSum_21 (by decide) ?_
    refine lv_istore (lv' := [(4, .int (po x1.toNatClampNeg)), (0, .ref (ad 0)), (1, .int x1), (2, .int x2), (3, .int x3)]) hx hb dX2_exactSum_30 hl (by decide) rfl (fun ls hl => ?_)
    exact wX2_exactSum_B32 C hA hK hX _ _ _ _ _ _ _ _ _ _ _ _ _ _ _ _ _ hP hD hS (lv_sub hl [1, 2, 3, 4, 0] rfl) h
theorem vc_X2_exactSum : VC RX2 yX2_exactSum cX2_exactSum 6 (some .boolean) 3 := ⟨tw_421, ts_9, tw_2, tw_422, by decide +kernel⟩
theorem cX2_exactSum_met (l : Launch) (ck : Nat → ClassId) (ad : Nat → Nat) (th : Int32) (mi : NI) (di : NL) (po : NI) (be : Int32) (mm : Int64) (ee : Int32) (fa : NI) (fb : NI) (x1 : Int32) (x2 : Int32) (x3 : Int32) (u : Int32 × Int32 × NI × NL × NI × Int32 × Int64 × Int32 × NI × NI) (h : jX2_exactSum th mi di po be mm ee fa fb x1 x2 x3 = some u) : HM l yX2_exactSum cX2_exactSum 6 (some .boolean) (rmz 1 25) [.ref (ad 0), .int x1, .int x2, .int x3] (tyM ck) (wM ck ad th mi di po be mm ee fa fb) (some (.int u.1)) (wM ck ad u.2.1 u.2.2.1 u.2.2.2.1 u.2.2.2.2.1 u.2.2.2.2.2.1 u.2.2.2.2.2.2.1 u.2.2.2.2.2.2.2.1 u.2.2.2.2.2.2.2.2.1 u.2.2.2.2.2.2.2.2.2) :=
  hm_of (own := RX2) (by decide +kernel) rfl (Nat.le_of_ble_eq_true rfl) (fun D A p e s m below meth c ls C hA hK hX hP hD hS hl => wX2_exactSum_0 C hA hK hX th mi di po be mm ee fa fb x1 x2 x3 ls _ _ u hP hD hS hl h)

/-! RealDeskModel.sum(IIZ)I -/
def jX2_sum (th : Int32) (mi : NI) (di : NL) (po : NI) (be : Int32) (mm : Int64) (ee : Int32) (fa : NI) (fb : NI) (x1 : Int32) (x2 : Int32) (x3 : Int32) : Option (Int32 × Int32 × NI × NL × NI × Int32 × Int64 × Int32 × NI × NI) := (bM (jX2_exactSum th mi di po be mm ee fa fb x1 x2 x3) fun r_1 th_1 mi_1 di_1 po_1 be_1 mm_1 ee_1 fa_1 fb_1 => (if ok x1 16 = true then (if ok x2 16 = true then (if (po_1 x2.toNatClampNeg) ≤ (po_1 x1.toNatClampNeg) then (if ok x2 16 = true then (bM (jX2_nearest th_1 mi_1 di_1 po_1 be_1 mm_1 ee_1 fa_1 fb_1 r_1 (po_1 x2.toNatClampNeg) 0) fun r_2 th_2 mi_2 di_2 po_2 be_2 mm_2 ee_2 fa_2 fb_2 => some (r_2, th_2, mi_2, di_2, po_2, be_2, mm_2, ee_2, fa_2, fb_2)) else none) else (if ok x1 16 = true then (bM (jX2_nearest th_1 mi_1 di_1 po_1 be_1 mm_1 ee_1 fa_1 fb_1 r_1 (po_1 x1.toNatClampNeg) 0) fun r_3 th_3 mi_3 di_3 po_3 be_3 mm_3 ee_3 fa_3 fb_3 => some (r_3, th_3, mi_3, di_3, po_3, be_3, mm_3, ee_3, fa_3, fb_3)) else none)) else none) else none))
set_option maxHeartbeats 4000000 in
set_option maxRecDepth 100000 in
theorem wX2_sum_0 {p : Program} {l : Launch} {e : Env} {s : State} {m : MethodId} {args : Array Value} {below : List Frame} {meth : Method} {c : Code} {D : va_G} {A : Nat → Prop} {ck : Nat → ClassId} {ad : Nat → Nat} (C : CX p s m args meth c RX2 cX2_sum 5 (some .int)) (hA : ∀ q, s.heap.size ≤ q → A q) (hK : va_K D vwCl (tyM ck) s) (hX : XT s) (th : Int32) (mi : NI) (di : NL) (po : NI) (be : Int32) (mm : Int64) (ee : Int32) (fa : NI) (fb : NI) (x1 : Int32) (x2 : Int32) (x3 : Int32) (ls : Array Slot) (H : Heap) (locs : List Loc) (u : Int32 × Int32 × NI × NL × NI × Int32 × Int64 × Int32 × NI × NI) (hP : va_P D vwCl (wM ck ad th mi di po be mm ee fa fb) H) (hD : va_D A (wM ck ad th mi di po be mm ee fa fb)) (hS : va_S A s.heap H locs) (hl : lv_has ls 5 [(0, .ref (ad 0)), (1, .int x1), (2, .int x2), (3, .int x3)]) (h : jX2_sum th mi di po be mm ee fa fb x1 x2 x3 = some u) : W p l e (rmz 3 71) s m args below meth c H locs 0 0 (MQ below (HQ D A (wM ck ad u.2.1 u.2.2.1 u.2.2.2.1 u.2.2.2.2.1 u.2.2.2.2.2.1 u.2.2.2.2.2.2.1 u.2.2.2.2.2.2.2.1 u.2.2.2.2.2.2.2.2.1 u.2.2.2.2.2.2.2.2.2) (some (.int u.1))) args s 0 0 A) (F0 m 0 ls []) := by
  obtain ⟨hx, hb, hml, hown, hg, hr, hlocks⟩ := id C
  unfold jX2_sum at h
  refine lv_aload_n hx hb dX2_sum_0 rfl (lv_at hl 0 rfl) ?_
  refine lv_iload_n hx hb dX2_sum_1 rfl (lv_at hl 1 rfl) ?_
  refine lv_iload_n hx hb dX2_sum_2 rfl (lv_at hl 2 rfl) ?_
  refine lv_iload_n hx hb dX2_sum_3 rfl (lv_at hl 3 rfl) ?_
  obtain ⟨r_1, th_1, mi_1, di_1, po_1, be_1, mm_1, ee_1, fa_1, fb_1, h_r_1, h⟩ := of_bM h
  refine callMM C hK hX hP hD hS hA (cX2_exactSum_met l ck ad _ _ _ _ _ _ _ _ _ _ _ _ _ h_r_1) vc_X2_exactSum tw_419 (by decide) rfl hl.1 (rest := []) rfl (Nat.le_of_ble_eq_true rfl) (by decide) dX2_sum_4 (fun H locs hP hD hS => ?_)
  have hP : va_P D vwCl (wM ck ad th_1 mi_1 di_1 po_1 be_1 mm_1 ee_1 fa_1 fb_1) H := hP
  have hD : va_D A (wM ck ad th_1 mi_1 di_1 po_1 be_1 mm_1 ee_1 fa_1 fb_1) := hD
  refine W.eq (g2 := F0 m 7 ls [.int r_1]) rfl ?_
  refine lv_istore (lv' := [(4, .int r_1), (0, .ref (ad 0)), (1, .int x1), (2, .int x2), (3, .int x3)]) hx hb dX2_sum_7 hl (by decide) rfl (fun ls hl => ?_)
  refine lv_aload_n hx hb dX2_sum_9 rfl (lv_at hl 1 rfl) ?_
  refine lv_iload hx hb dX2_sum_10 (lv_at hl 0 rfl) ?_
  refine lv_aload_n hx hb dX2_sum_12 rfl (lv_at hl 1 rfl) ?_
  refine va_get hx hb hg inX2 hown hK hP 0 rfl rfl 3 (by decide) (hg _ tw_329) (fun _ h9 => h9) rfl dX2_sum_13 ?_
  refine lv_iload_n hx hb dX2_sum_16 rfl (lv_at hl 2 rfl) ?_
  obtain ⟨z_17, h⟩ := of_ite h
  refine va_iald hx hb hK hP 3 0 rfl rfl (ok_in z_17) dX2_sum_17 ?_
  refine lv_aload_n hx hb dX2_sum_18 rfl (lv_at hl 1 rfl) ?_
  refine va_get hx hb hg inX2 hown hK hP 0 rfl rfl 3 (by decide) (hg _ tw_329) (fun _ h9 => h9) rfl dX2_sum_19 ?_
  refine lv_iload_n hx hb dX2_sum_22 rfl (lv_at hl 3 rfl) ?_
  obtain ⟨z_23, h⟩ := of_ite h
  refine va_iald hx hb hK hP 3 0 rfl rfl (ok_in z_23) dX2_sum_23 ?_
  refine lv_icmp_ge (tgt := 36) hx hb dX2_sum_24 (by decide) (fun c_1 => ?_) (fun c_1 => ?_)
  · rw [if_pos c_1] at h
    refine lv_aload_n hx hb dX2_sum_36 rfl (lv_at hl 1 rfl) ?_
    refine va_get hx hb hg inX2 hown hK hP 0 rfl rfl 3 (by decide) (hg _ tw_329) (fun _ h9 => h9) rfl dX2_sum_37 ?_
    refine lv_iload_n hx hb dX2_sum_40 rfl (lv_at hl 3 rfl) ?_
    obtain ⟨z_41, h⟩ := of_ite h
    refine va_iald hx hb hK hP 3 0 rfl rfl (ok_in z_41) dX2_sum_41 ?_
    refine lv_iconst (v := 0) hx hb dX2_sum_42 (by decide) ?_
    obtain ⟨r_2, th_2, mi_2, di_2, po_2, be_2, mm_2, ee_2, fa_2, fb_2, h_r_2, h⟩ := of_bM h
    refine callMM C hK hX hP hD hS hA (cX2_nearest_met l ck ad _ _ _ _ _ _ _ _ _ _ _ _ _ h_r_2) vc_X2_nearest tw_375 (by decide) rfl hl.1 (rest := []) rfl (Nat.le_of_ble_eq_true rfl) (by decide) dX2_sum_43 (fun H locs hP hD hS => ?_)
    have hP : va_P D vwCl (wM ck ad th_2 mi_2 di_2 po_2 be_2 mm_2 ee_2 fa_2 fb_2) H := hP
    have hD : va_D A (wM ck ad th_2 mi_2 di_2 po_2 be_2 mm_2 ee_2 fa_2 fb_2) := hD
    refine W.eq (g2 := F0 m 46 ls [.int r_2]) rfl ?_
    cases h
    exact W.iret hx hb hr (fun t ht _ => ⟨rfl, by rw [ht]; exact hP, hD, hS.F ht⟩) hS.2.2 dX2_sum_46
  · rw [if_neg c_1] at h
    refine lv_aload_n hx hb dX2_sum_27 rfl (lv_at hl 1 rfl) ?_
    refine va_get hx hb hg inX2 hown hK hP 0 rfl rfl 3 (by decide) (hg _ tw_329) (fun _ h9 => h9) rfl dX2_sum_28 ?_
    refine lv_iload_n hx hb dX2_sum_31 rfl (lv_at hl 2 rfl) ?_
    obtain ⟨z_32, h⟩ := of_ite h
    refine va_iald hx hb hK hP 3 0 rfl rfl (ok_in z_32) dX2_sum_32 ?_
    refine lv_goto (tgt := 42) hx hb dX2_sum_33 (by decide) ?_
    refine lv_iconst (v := 0) hx hb dX2_sum_42 (by decide) ?_
    obtain ⟨r_3, th_3, mi_3, di_3, po_3, be_3, mm_3, ee_3, fa_3, fb_3, h_r_3, h⟩ := of_bM h
    refine callMM C hK hX hP hD hS hA (cX2_nearest_met l ck ad _ _ _ _ _ _ _ _ _ _ _ _ _ h_r_3) vc_X2_nearest tw_375 (by decide) rfl hl.1 (rest := []) rfl (Nat.le_of_ble_eq_true rfl) (by decide) dX2_sum_43 (fun H locs hP hD hS => ?_)
    have hP : va_P D vwCl (wM ck ad th_3 mi_3 di_3 po_3 be_3 mm_3 ee_3 fa_3 fb_3) H := hP
    have hD : va_D A (wM ck ad th_3 mi_3 di_3 po_3 be_3 mm_3 ee_3 fa_3 fb_3) := hD
    refine W.eq (g2 := F0 m 46 ls [.int r_3]) rfl ?_
    cases h
    exact W.iret hx hb hr (fun t ht _ => ⟨rfl, by rw [ht]; exact hP, hD, hS.F ht⟩) hS.2.2 dX2_sum_46
theorem vc_X2_sum : VC RX2 yX2_sum cX2_sum 5 (some .int) 3 := ⟨tw_417, ts_8, tw_2, tw_418, by decide +kernel⟩
theorem cX2_sum_met (l : Launch) (ck : Nat → ClassId) (ad : Nat → Nat) (th : Int32) (mi : NI) (di : NL) (po : NI) (be : Int32) (mm : Int64) (ee : Int32) (fa : NI) (fb : NI) (x1 : Int32) (x2 : Int32) (x3 : Int32) (u : Int32 × Int32 × NI × NL × NI × Int32 × Int64 × Int32 × NI × NI) (h : jX2_sum th mi di po be mm ee fa fb x1 x2 x3 = some u) : HM l yX2_sum cX2_sum 5 (some .int) (rmz 3 71) [.ref (ad 0), .int x1, .int x2, .int x3] (tyM ck) (wM ck ad th mi di po be mm ee fa fb) (some (.int u.1)) (wM ck ad u.2.1 u.2.2.1 u.2.2.2.1 u.2.2.2.2.1 u.2.2.2.2.2.1 u.2.2.2.2.2.2.1 u.2.2.2.2.2.2.2.1 u.2.2.2.2.2.2.2.2.1 u.2.2.2.2.2.2.2.2.2) :=
  hm_of (own := RX2) (by decide +kernel) rfl (Nat.le_of_ble_eq_true rfl) (fun D A p e s m below meth c ls C hA hK hX hP hD hS hl => wX2_sum_0 C hA hK hX th mi di po be mm ee fa fb x1 x2 x3 ls _ _ u hP hD hS hl h)

/-! RealDeskModel.product(II)I -/
def jX2_product (th : Int32) (mi : NI) (di : NL) (po : NI) (be : Int32) (mm : Int64) (ee : Int32) (fa : NI) (fb : NI) (x1 : Int32) (x2 : Int32) : Option (Int32 × Int32 × NI × NL × NI × Int32 × Int64 × Int32 × NI × NI) := (if ok x1 16 = true then (if ok x2 16 = true then (Option.bind (jX1_product fa (di x1.toNatClampNeg) (di x2.toNatClampNeg)) fun fa_1 => (if ok x1 16 = true then (if ok x2 16 = true then (if ok x1 16 = true then (if ok x2 16 = true then (bM (jX2_nearest th mi di po be mm ee fa_1 fb (if (mi x1.toNatClampNeg) = (mi x2.toNatClampNeg) then 0 else 1 : Int32) ((po x1.toNatClampNeg) + (po x2.toNatClampNeg)) 0) fun r_2 th_2 mi_2 di_2 po_2 be_2 mm_2 ee_2 fa_2 fb_2 => some (r_2, th_2, mi_2, di_2, po_2, be_2, mm_2, ee_2, fa_2, fb_2)) else none) else none) else none) else none)) else none) else none)
set_option maxHeartbeats 4000000 in
set_option maxRecDepth 100000 in
theorem wX2_product_0 {p : Program} {l : Launch} {e : Env} {s : State} {m : MethodId} {args : Array Value} {below : List Frame} {meth : Method} {c : Code} {D : va_G} {A : Nat → Prop} {ck : Nat → ClassId} {ad : Nat → Nat} (C : CX p s m args meth c RX2 cX2_product 3 (some .int)) (hA : ∀ q, s.heap.size ≤ q → A q) (hK : va_K D vwCl (tyM ck) s) (hX : XT s) (th : Int32) (mi : NI) (di : NL) (po : NI) (be : Int32) (mm : Int64) (ee : Int32) (fa : NI) (fb : NI) (x1 : Int32) (x2 : Int32) (ls : Array Slot) (H : Heap) (locs : List Loc) (u : Int32 × Int32 × NI × NL × NI × Int32 × Int64 × Int32 × NI × NI) (hP : va_P D vwCl (wM ck ad th mi di po be mm ee fa fb) H) (hD : va_D A (wM ck ad th mi di po be mm ee fa fb)) (hS : va_S A s.heap H locs) (hl : lv_has ls 3 [(0, .ref (ad 0)), (1, .int x1), (2, .int x2)]) (h : jX2_product th mi di po be mm ee fa fb x1 x2 = some u) : W p l e (rmz 3 71) s m args below meth c H locs 0 0 (MQ below (HQ D A (wM ck ad u.2.1 u.2.2.1 u.2.2.2.1 u.2.2.2.2.1 u.2.2.2.2.2.1 u.2.2.2.2.2.2.1 u.2.2.2.2.2.2.2.1 u.2.2.2.2.2.2.2.2.1 u.2.2.2.2.2.2.2.2.2) (some (.int u.1))) args s 0 0 A) (F0 m 0 ls []) := by
  obtain ⟨hx, hb, hml, hown, hg, hr, hlocks⟩ := id C
  unfold jX2_product at h
  refine lv_aload_n hx hb dX2_product_0 rfl (lv_at hl 0 rfl) ?_
  refine va_get hx hb hg inX2 hown hK hP 0 rfl rfl 7 (by decide) (hg _ tw_333) (fun _ h9 => h9) rfl dX2_product_1 ?_
  refine lv_aload_n hx hb dX2_product_4 rfl (lv_at hl 0 rfl) ?_
  refine va_get hx hb hg inX2 hown hK hP 0 rfl rfl 2 (by decide) (hg _ tw_328) (fun _ h9 => h9) rfl dX2_product_5 ?_
  refine lv_iload_n hx hb dX2_product_8 rfl (lv_at hl 1 rfl) ?_
  obtain ⟨z_9, h⟩ := of_ite h
  refine va_lald hx hb hK hP 2 1 rfl rfl (ok_in z_9) dX2_product_9 ?_
  refine lv_aload_n hx hb dX2_product_10 rfl (lv_at hl 0 rfl) ?_
  refine va_get hx hb hg inX2 hown hK hP 0 rfl rfl 2 (by decide) (hg _ tw_328) (fun _ h9 => h9) rfl dX2_product_11 ?_
  refine lv_iload_n hx hb dX2_product_14 rfl (lv_at hl 2 rfl) ?_
  obtain ⟨z_15, h⟩ := of_ite h
  refine va_lald hx hb hK hP 2 1 rfl rfl (ok_in z_15) dX2_product_15 ?_
  obtain ⟨fa_1, h_r_1, h⟩ := of_bind h
  refine callMa C hK hX hP hD hS hA (cX1_product_met l ck (fun i => ad (i + 4)) _ _ _ _ h_r_1) vc_X1_product tw_448 (by decide) rfl hl.1 (rest := []) rfl (Nat.le_of_ble_eq_true rfl) (by decide) dX2_product_16 (fun H locs hP hD hS => ?_)
  have hP : va_P D vwCl (wM ck ad th mi di po be mm ee fa_1 fb) H := hP
  have hD : va_D A (wM ck ad th mi di po be mm ee fa_1 fb) := hD
  refine W.eq (g2 := F0 m 19 ls []) rfl ?_
  refine lv_aload_n hx hb dX2_product_19 rfl (lv_at hl 0 rfl) ?_
  refine lv_aload_n hx hb dX2_product_20 rfl (lv_at hl 0 rfl) ?_
  refine va_get hx hb hg inX2 hown hK hP 0 rfl rfl 1 (by decide) (hg _ tw_327) (fun _ h9 => h9) rfl dX2_product_21 ?_
  refine lv_iload_n hx hb dX2_product_24 rfl (lv_at hl 1 rfl) ?_
  obtain ⟨z_25, h⟩ := of_ite h
  refine va_zald hx hb hK hP 1 2 rfl rfl (ok_in z_25) dX2_product_25 ?_
  refine lv_aload_n hx hb dX2_product_26 rfl (lv_at hl 0 rfl) ?_
  refine va_get hx hb hg inX2 hown hK hP 0 rfl rfl 1 (by decide) (hg _ tw_327) (fun _ h9 => h9) rfl dX2_product_27 ?_
  refine lv_iload_n hx hb dX2_product_30 rfl (lv_at hl 2 rfl) ?_
  obtain ⟨z_31, h⟩ := of_ite h
  refine va_zald hx hb hK hP 1 2 rfl rfl (ok_in z_31) dX2_product_31 ?_
  refine rg_i (pj := 40) (v := (if (mi x1.toNatClampNeg) = (mi x2.toNatClampNeg) then 0 else 1 : Int32)) (ls := ls) (rest := [.ref (ad 0)]) (fun kJ => ?_) ?_
  · refine lv_icmp_eq (tgt := 39) hx hb dX2_product_32 (by decide) (fun c_1 => ?_) (fun c_1 => ?_)
    · refine lv_iconst (v := 0) hx hb dX2_product_39 (by decide) ?_
      exact kJ _ (by rw [if_pos c_1])
    · refine lv_iconst (v := 1) hx hb dX2_product_35 (by decide) ?_
      refine lv_goto (tgt := 40) hx hb dX2_product_36 (by decide) ?_
      exact kJ _ (by rw [if_neg c_1])
  refine lv_aload_n hx hb dX2_product_40 rfl (lv_at hl 0 rfl) ?_
  refine va_get hx hb hg inX2 hown hK hP 0 rfl rfl 3 (by decide) (hg _ tw_329) (fun _ h9 => h9) rfl dX2_product_41 ?_
  refine lv_iload_n hx hb dX2_product_44 rfl (lv_at hl 1 rfl) ?_
  obtain ⟨z_45, h⟩ := of_ite h
  refine va_iald hx hb hK hP 3 0 rfl rfl (ok_in z_45) dX2_product_45 ?_
  refine lv_aload_n hx hb dX2_product_46 rfl (lv_at hl 0 rfl) ?_
  refine va_get hx hb hg inX2 hown hK hP 0 rfl rfl 3 (by decide) (hg _ tw_329) (fun _ h9 => h9) rfl dX2_product_47 ?_
  refine lv_iload_n hx hb dX2_product_50 rfl (lv_at hl 2 rfl) ?_
  obtain ⟨z_51, h⟩ := of_ite h
  refine va_iald hx hb hK hP 3 0 rfl rfl (ok_in z_51) dX2_product_51 ?_
  refine lv_iadd hx hb dX2_product_52 ?_
  refine lv_iconst (v := 0) hx hb dX2_product_53 (by decide) ?_
  obtain ⟨r_2, th_2, mi_2, di_2, po_2, be_2, mm_2, ee_2, fa_2, fb_2, h_r_2, h⟩ := of_bM h
  refine callMM C hK hX hP hD hS hA (cX2_nearest_met l ck ad _ _ _ _ _ _ _ _ _ _ _ _ _ h_r_2) vc_X2_nearest tw_375 (by decide) rfl hl.1 (rest := []) rfl (Nat.le_of_ble_eq_true rfl) (by decide) dX2_product_54 (fun H locs hP hD hS => ?_)
  have hP : va_P D vwCl (wM ck ad th_2 mi_2 di_2 po_2 be_2 mm_2 ee_2 fa_2 fb_2) H := hP
  have hD : va_D A (wM ck ad th_2 mi_2 di_2 po_2 be_2 mm_2 ee_2 fa_2 fb_2) := hD
  refine W.eq (g2 := F0 m 57 ls [.int r_2]) rfl ?_
  cases h
  exact W.iret hx hb hr (fun t ht _ => ⟨rfl, by rw [ht]; exact hP, hD, hS.F ht⟩) hS.2.2 dX2_product_57
theorem vc_X2_product : VC RX2 yX2_product cX2_product 3 (some .int) 2 := ⟨tw_446, ts_11, tw_2, tw_447, by decide +kernel⟩
theorem cX2_product_met (l : Launch) (ck : Nat → ClassId) (ad : Nat → Nat) (th : Int32) (mi : NI) (di : NL) (po : NI) (be : Int32) (mm : Int64) (ee : Int32) (fa : NI) (fb : NI) (x1 : Int32) (x2 : Int32) (u : Int32 × Int32 × NI × NL × NI × Int32 × Int64 × Int32 × NI × NI) (h : jX2_product th mi di po be mm ee fa fb x1 x2 = some u) : HM l yX2_product cX2_product 3 (some .int) (rmz 3 71) [.ref (ad 0), .int x1, .int x2] (tyM ck) (wM ck ad th mi di po be mm ee fa fb) (some (.int u.1)) (wM ck ad u.2.1 u.2.2.1 u.2.2.2.1 u.2.2.2.2.1 u.2.2.2.2.2.1 u.2.2.2.2.2.2.1 u.2.2.2.2.2.2.2.1 u.2.2.2.2.2.2.2.2.1 u.2.2.2.2.2.2.2.2.2) :=
  hm_of (own := RX2) (by decide +kernel) rfl (Nat.le_of_ble_eq_true rfl) (fun D A p e s m below meth c ls C hA hK hX hP hD hS hl => wX2_product_0 C hA hK hX th mi di po be mm ee fa fb x1 x2 ls _ _ u hP hD hS hl h)

/-! RealDeskModel.quotient(ZJIJI)I -/
def jX2_quotient_L20 : Nat → Int32 → NI → NL → NI → Int32 → Int64 → Int32 → NI → NI → Int32 → Int32 → Int64 → Int32 → Int64 → Int32 → Option (Int32 × Int32 × NI × NL × NI × Int32 × Int64 × Int32 × NI × NI)
  | 0, _, _, _, _, _, _, _, _, _, _, _, _, _, _, _ => none
  | k + 1, th, mi, di, po, be, mm, ee, fa, fb, x1, x4, x5, x7, x8, x10 => (if 120 ≤ x10 then (bM (jX2_nearest th mi di po be mm ee fa fb x1 ((x4 - x7) - 120) (if x8 ≤ 0 then 0 else 1 : Int32)) fun r_2 th_2 mi_2 di_2 po_2 be_2 mm_2 ee_2 fa_2 fb_2 => some (r_2, th_2, mi_2, di_2, po_2, be_2, mm_2, ee_2, fa_2, fb_2)) else (Option.bind (jX1_twice fa (if (2 * x8) < x5 then 0 else 1 : Int32)) fun fa_3 => jX2_quotient_L20 k th mi di po be mm ee fa_3 fb x1 x4 x5 x7 (if (2 * x8) < x5 then 2 * x8 else (2 * x8) - x5 : Int64) (x10 + 1)))
set_option maxHeartbeats 4000000 in
set_option maxRecDepth 100000 in
theorem wX2_quotient_L20 {p : Program} {l : Launch} {e : Env} {s : State} {m : MethodId} {args : Array Value} {below : List Frame} {meth : Method} {c : Code} {D : va_G} {A : Nat → Prop} {ck : Nat → ClassId} {ad : Nat → Nat} (C : CX p s m args meth c RX2 cX2_quotient 11 (some .int)) (hA : ∀ q, s.heap.size ≤ q → A q) (hK : va_K D vwCl (tyM ck) s) (hX : XT s) : ∀ (k : Nat) (th : Int32) (mi : NI) (di : NL) (po : NI) (be : Int32) (mm : Int64) (ee : Int32) (fa : NI) (fb : NI) (x1 : Int32) (x4 : Int32) (x5 : Int64) (x7 : Int32) (x8 : Int64) (x10 : Int32) (ls : Array Slot) (H : Heap) (locs : List Loc) (u : Int32 × Int32 × NI × NL × NI × Int32 × Int64 × Int32 × NI × NI), va_P D vwCl (wM ck ad th mi di po be mm ee fa fb) H → va_D A (wM ck ad th mi di po be mm ee fa fb) → va_S A s.heap H locs → lv_has ls 11 [(0, .ref (ad 0)), (1, .int x1), (4, .int x4), (5, .long x5), (7, .int x7), (8, .long x8), (10, .int x10)] → jX2_quotient_L20 k th mi di po be mm ee fa fb x1 x4 x5 x7 x8 x10 = some u → W p l e (rmz 3 71) s m args below meth c H locs 0 0 (MQ below (HQ D A (wM ck ad u.2.1 u.2.2.1 u.2.2.2.1 u.2.2.2.2.1 u.2.2.2.2.2.1 u.2.2.2.2.2.2.1 u.2.2.2.2.2.2.2.1 u.2.2.2.2.2.2.2.2.1 u.2.2.2.2.2.2.2.2.2) (some (.int u.1))) args s 0 0 A) (F0 m 20 ls []) := by
  obtain ⟨hx, hb, hml, hown, hg, hr, hlocks⟩ := id C
  intro k
  induction k with
  | zero => intro th mi di po be mm ee fa fb x1 x4 x5 x7 x8 x10 ls H locs u hP hD hS hl h; cases h
  | succ k ih =>
    intro th mi di po be mm ee fa fb x1 x4 x5 x7 x8 x10 ls H locs u hP hD hS hl h
    unfold jX2_quotient_L20 at h
    refine lv_iload hx hb dX2_quotient_20 (lv_at hl 6 rfl) ?_
    refine lv_bipush (v := 120) hx hb dX2_quotient_22 (by decide) ?_
    refine lv_icmp_ge (tgt := 81) hx hb dX2_quotient_24 (by decide) (fun c_1 => ?_) (fun c_1 => ?_)
    · rw [if_pos c_1] at h
      refine lv_aload_n hx hb dX2_quotient_81 rfl (lv_at hl 0 rfl) ?_
      refine lv_iload_n hx hb dX2_quotient_82 rfl (lv_at hl 1 rfl) ?_
      refine lv_iload hx hb dX2_quotient_83 (lv_at hl 2 rfl) ?_
      refine lv_iload hx hb dX2_quotient_85 (lv_at hl 4 rfl) ?_
      refine lv_isub hx hb dX2_quotient_87 ?_
      refine lv_bipush (v := 120) hx hb dX2_quotient_88 (by decide) ?_
      refine lv_isub hx hb dX2_quotient_90 ?_
      refine lv_lload hx hb dX2_quotient_91 (lv_at hl 5 rfl) ?_
      refine lv_lconst (v := 0) hx hb dX2_quotient_93 (by decide) ?_
      refine rg_i (pj := 103) (v := (if x8 ≤ 0 then 0 else 1 : Int32)) (ls := ls) (rest := [.int ((x4 - x7) - 120), .int x1, .ref (ad 0)]) (fun kJ => ?_) ?_
      · refine lc_le (tgt := 102) hx hb dX2_quotient_94 dX2_quotient_95 (by decide) (fun c_2 => ?_) (fun c_2 => ?_)
        · refine lv_iconst (v := 0) hx hb dX2_quotient_102 (by decide) ?_
          exact kJ _ (by rw [if_pos c_2])
        · refine lv_iconst (v := 1) hx hb dX2_quotient_98 (by decide) ?_
          refine lv_goto (tgt := 103) hx hb dX2_quotient_99 (by decide) ?_
          exact kJ _ (by rw [if_neg c_2])
      obtain ⟨r_2, th_2, mi_2, di_2, po_2, be_2, mm_2, ee_2, fa_2, fb_2, h_r_2, h⟩ := of_bM h
      refine callMM C hK hX hP hD hS hA (cX2_nearest_met l ck ad _ _ _ _ _ _ _ _ _ _ _ _ _ h_r_2) vc_X2_nearest tw_375 (by decide) rfl hl.1 (rest := []) rfl (Nat.le_of_ble_eq_true rfl) (by decide) dX2_quotient_103 (fun H locs hP hD hS => ?_)
      have hP : va_P D vwCl (wM ck ad th_2 mi_2 di_2 po_2 be_2 mm_2 ee_2 fa_2 fb_2) H := hP
      have hD : va_D A (wM ck ad th_2 mi_2 di_2 po_2 be_2 mm_2 ee_2 fa_2 fb_2) := hD
      refine W.eq (g2 := F0 m 106 ls [.int r_2]) rfl ?_
      cases h
      exact W.iret hx hb hr (fun t ht _ => ⟨rfl, by rw [ht]; exact hP, hD, hS.F ht⟩) hS.2.2 dX2_quotient_106
    · rw [if_neg c_1] at h
      refine lv_ldc2 hx hb hown (hg _ tw_397) dX2_quotient_27 ?_
      refine lv_lload hx hb dX2_quotient_30 (lv_at hl 5 rfl) ?_
      refine lv_lmul hx hb dX2_quotient_32 ?_
      refine lv_lstore (lv' := [(8, .long (2 * x8)), (0, .ref (ad 0)), (1, .int x1), (4, .int x4), (5, .long x5), (7, .int x7), (10, .int x10)]) hx hb dX2_quotient_33 hl (by decide) rfl (fun ls hl => ?_)
      refine lv_aload_n hx hb dX2_quotient_35 rfl (lv_at hl 1 rfl) ?_
      refine va_get hx hb hg inX2 hown hK hP 0 rfl rfl 7 (by decide) (hg _ tw_333) (fun _ h9 => h9) rfl dX2_quotient_36 ?_
      refine lv_lload hx hb dX2_quotient_39 (lv_at hl 0 rfl) ?_
      refine lv_lload hx hb dX2_quotient_41 (lv_at hl 4 rfl) ?_
      refine rg_i (pj := 52) (v := (if (2 * x8) < x5 then 0 else 1 : Int32)) (ls := ls) (rest := [.ref (ad 4)]) (fun kJ => ?_) ?_
      · refine lc_lt (tgt := 51) hx hb dX2_quotient_43 dX2_quotient_44 (by decide) (fun c_3 => ?_) (fun c_3 => ?_)
        · refine lv_iconst (v := 0) hx hb dX2_quotient_51 (by decide) ?_
          exact kJ _ (by rw [if_pos c_3])
        · refine lv_iconst (v := 1) hx hb dX2_quotient_47 (by decide) ?_
          refine lv_goto (tgt := 52) hx hb dX2_quotient_48 (by decide) ?_
          exact kJ _ (by rw [if_neg c_3])
      obtain ⟨fa_3, h_r_3, h⟩ := of_bind h
      refine callMa C hK hX hP hD hS hA (cX1_twice_met l ck (fun i => ad (i + 4)) _ _ _ h_r_3) vc_X1_twice tw_465 (by decide) rfl hl.1 (rest := []) rfl (Nat.le_of_ble_eq_true rfl) (by decide) dX2_quotient_52 (fun H locs hP hD hS => ?_)
      have hP : va_P D vwCl (wM ck ad th mi di po be mm ee fa_3 fb) H := hP
      have hD : va_D A (wM ck ad th mi di po be mm ee fa_3 fb) := hD
      refine W.eq (g2 := F0 m 55 ls []) rfl ?_
      refine lv_lload hx hb dX2_quotient_55 (lv_at hl 0 rfl) ?_
      refine lv_lload hx hb dX2_quotient_57 (lv_at hl 4 rfl) ?_
      refine rg_l (pj := 73) (v := (if (2 * x8) < x5 then 2 * x8 else (2 * x8) - x5 : Int64)) (ls := ls) (rest := []) (fun kJ => ?_) ?_
      · refine lc_lt (tgt := 71) hx hb dX2_quotient_59 dX2_quotient_60 (by decide) (fun c_4 => ?_) (fun c_4 => ?_)
        · refine lv_lload hx hb dX2_quotient_71 (lv_at hl 0 rfl) ?_
          exact kJ _ (by rw [if_pos c_4])
        · refine lv_lload hx hb dX2_quotient_63 (lv_at hl 0 rfl) ?_
          refine lv_lload hx hb dX2_quotient_65 (lv_at hl 4 rfl) ?_
          refine lv_lsub hx hb dX2_quotient_67 ?_
          refine lv_goto (tgt := 73) hx hb dX2_quotient_68 (by decide) ?_
          exact kJ _ (by rw [if_neg c_4])
      refine lv_lstore (lv' := [(8, .long (if (2 * x8) < x5 then 2 * x8 else (2 * x8) - x5 : Int64)), (0, .ref (ad 0)), (1, .int x1), (4, .int x4), (5, .long x5), (7, .int x7), (10, .int x10)]) hx hb dX2_quotient_73 hl (by decide) rfl (fun ls hl => ?_)
      refine lv_iinc (v := x10 + 1) (lv' := [(10, .int (x10 + 1)), (8, .long (if (2 * x8) < x5 then 2 * x8 else (2 * x8) - x5 : Int64)), (0, .ref (ad 0)), (1, .int x1), (4, .int x4), (5, .long x5), (7, .int x7)]) hx hb dX2_quotient_75 hl (k := 6) rfl rfl (by decide) rfl (fun ls hl => ?_)
      refine lv_goto (tgt := 20) hx hb dX2_quotient_78 (by decide) ?_
      exact ih _ _ _ _ _ _ _ _ _ _ _ _ _ _ _ _ _ _ _ hP hD hS (lv_sub hl [2, 3, 4, 5, 6, 1, 0] rfl) h
def jX2_quotient (th : Int32) (mi : NI) (di : NL) (po : NI) (be : Int32) (mm : Int64) (ee : Int32) (fa : NI) (fb : NI) (x1 : Int32) (x2 : Int64) (x4 : Int32) (x5 : Int64) (x7 : Int32) : Option (Int32 × Int32 × NI × NL × NI × Int32 × Int64 × Int32 × NI × NI) := (if x5 = 0 then none else (Option.bind (jX1_set fa (x2 / x5)) fun fa_1 => (if x5 = 0 then none else jX2_quotient_L20 FU th mi di po be mm ee fa_1 fb x1 x4 x5 x7 (x2 - x2 / x5 * x5) 0)))
set_option maxHeartbeats 4000000 in
set_option maxRecDepth 100000 in
theorem wX2_quotient_0 {p : Program} {l : Launch} {e : Env} {s : State} {m : MethodId} {args : Array Value} {below : List Frame} {meth : Method} {c : Code} {D : va_G} {A : Nat → Prop} {ck : Nat → ClassId} {ad : Nat → Nat} (C : CX p s m args meth c RX2 cX2_quotient 11 (some .int)) (hA : ∀ q, s.heap.size ≤ q → A q) (hK : va_K D vwCl (tyM ck) s) (hX : XT s) (th : Int32) (mi : NI) (di : NL) (po : NI) (be : Int32) (mm : Int64) (ee : Int32) (fa : NI) (fb : NI) (x1 : Int32) (x2 : Int64) (x4 : Int32) (x5 : Int64) (x7 : Int32) (ls : Array Slot) (H : Heap) (locs : List Loc) (u : Int32 × Int32 × NI × NL × NI × Int32 × Int64 × Int32 × NI × NI) (hP : va_P D vwCl (wM ck ad th mi di po be mm ee fa fb) H) (hD : va_D A (wM ck ad th mi di po be mm ee fa fb)) (hS : va_S A s.heap H locs) (hl : lv_has ls 11 [(0, .ref (ad 0)), (1, .int x1), (2, .long x2), (4, .int x4), (5, .long x5), (7, .int x7)]) (h : jX2_quotient th mi di po be mm ee fa fb x1 x2 x4 x5 x7 = some u) : W p l e (rmz 3 71) s m args below meth c H locs 0 0 (MQ below (HQ D A (wM ck ad u.2.1 u.2.2.1 u.2.2.2.1 u.2.2.2.2.1 u.2.2.2.2.2.1 u.2.2.2.2.2.2.1 u.2.2.2.2.2.2.2.1 u.2.2.2.2.2.2.2.2.1 u.2.2.2.2.2.2.2.2.2) (some (.int u.1))) args s 0 0 A) (F0 m 0 ls []) := by
  obtain ⟨hx, hb, hml, hown, hg, hr, hlocks⟩ := id C
  unfold jX2_quotient at h
  refine lv_aload_n hx hb dX2_quotient_0 rfl (lv_at hl 0 rfl) ?_
  refine va_get hx hb hg inX2 hown hK hP 0 rfl rfl 7 (by decide) (hg _ tw_333) (fun _ h9 => h9) rfl dX2_quotient_1 ?_
  refine lv_lload_n hx hb dX2_quotient_4 rfl (lv_at hl 2 rfl) ?_
  refine lv_lload hx hb dX2_quotient_5 (lv_at hl 4 rfl) ?_
  obtain ⟨z_7, h⟩ := of_ite2 h
  refine lv_ldiv hx hb dX2_quotient_7 z_7 ?_
  obtain ⟨fa_1, h_r_1, h⟩ := of_bind h
  refine callMa C hK hX hP hD hS hA (cX1_set_met l ck (fun i => ad (i + 4)) _ _ _ h_r_1) vc_X1_set tw_370 (by decide) rfl hl.1 (rest := []) rfl (Nat.le_of_ble_eq_true rfl) (by decide) dX2_quotient_8 (fun H locs hP hD hS => ?_)
  have hP : va_P D vwCl (wM ck ad th mi di po be mm ee fa_1 fb) H := hP
  have hD : va_D A (wM ck ad th mi di po be mm ee fa_1 fb) := hD
  refine W.eq (g2 := F0 m 11 ls []) rfl ?_
  refine lv_lload_n hx hb dX2_quotient_11 rfl (lv_at hl 2 rfl) ?_
  refine lv_lload hx hb dX2_quotient_12 (lv_at hl 4 rfl) ?_
  obtain ⟨z_14, h⟩ := of_ite2 h
  refine lv_lrem hx hb dX2_quotient_14 z_14 ?_
  refine lv_lstore (lv' := [(8, .long (x2 - x2 / x5 * x5)), (0, .ref (ad 0)), (1, .int x1), (2, .long x2), (4, .int x4), (5, .long x5), (7, .int x7)]) hx hb dX2_quotient_15 hl (by decide) rfl (fun ls hl => ?_)
  refine lv_iconst (v := 0) hx hb dX2_quotient_17 (by decide) ?_
  refine lv_istore (lv' := [(10, .int 0), (8, .long (x2 - x2 / x5 * x5)), (0, .ref (ad 0)), (1, .int x1), (2, .long x2), (4, .int x4), (5, .long x5), (7, .int x7)]) hx hb dX2_quotient_18 hl (by decide) rfl (fun ls hl => ?_)
  exact wX2_quotient_L20 C hA hK hX FU _ _ _ _ _ _ _ _ _ _ _ _ _ _ _ _ _ _ _ hP hD hS (lv_sub hl [2, 3, 5, 6, 7, 1, 0] rfl) h
theorem vc_X2_quotient : VC RX2 yX2_quotient cX2_quotient 11 (some .int) 5 := ⟨tw_463, ts_12, tw_2, tw_464, by decide +kernel⟩
theorem cX2_quotient_met (l : Launch) (ck : Nat → ClassId) (ad : Nat → Nat) (th : Int32) (mi : NI) (di : NL) (po : NI) (be : Int32) (mm : Int64) (ee : Int32) (fa : NI) (fb : NI) (x1 : Int32) (x2 : Int64) (x4 : Int32) (x5 : Int64) (x7 : Int32) (u : Int32 × Int32 × NI × NL × NI × Int32 × Int64 × Int32 × NI × NI) (h : jX2_quotient th mi di po be mm ee fa fb x1 x2 x4 x5 x7 = some u) : HM l yX2_quotient cX2_quotient 11 (some .int) (rmz 3 71) [.ref (ad 0), .int x1, .long x2, .int x4, .long x5, .int x7] (tyM ck) (wM ck ad th mi di po be mm ee fa fb) (some (.int u.1)) (wM ck ad u.2.1 u.2.2.1 u.2.2.2.1 u.2.2.2.2.1 u.2.2.2.2.2.1 u.2.2.2.2.2.2.1 u.2.2.2.2.2.2.2.1 u.2.2.2.2.2.2.2.2.1 u.2.2.2.2.2.2.2.2.2) :=
  hm_of (own := RX2) (by decide +kernel) rfl (Nat.le_of_ble_eq_true rfl) (fun D A p e s m below meth c ls C hA hK hX hP hD hS hl => wX2_quotient_0 C hA hK hX th mi di po be mm ee fa fb x1 x2 x4 x5 x7 ls _ _ u hP hD hS hl h)

/-! RealDeskModel.rest(II)I -/
def jX2_rest_L41 : Nat → Int32 → NI → NL → NI → Int32 → Int64 → Int32 → NI → NI → Int32 → Int32 → Int64 → Int32 → Option (Int32 × Int32 × NI × NL × NI × Int32 × Int64 × Int32 × NI × NI)
  | 0, _, _, _, _, _, _, _, _, _, _, _, _, _ => none
  | k + 1, th, mi, di, po, be, mm, ee, fa, fb, x2, x3, x4, x6 => (if x3 ≤ x6 then (if ok x2 16 = true then (bM (jX2_settle th mi di po be x4 (po x2.toNatClampNeg) fa fb) fun r_5 th_5 mi_5 di_5 po_5 be_5 mm_5 ee_5 fa_5 fb_5 => some (r_5, th_5, mi_5, di_5, po_5, be_5, mm_5, ee_5, fa_5, fb_5)) else none) else (if ok x2 16 = true then (if (di x2.toNatClampNeg) = 0 then none else jX2_rest_L41 k th mi di po be mm ee fa fb x2 x3 ((2 * x4) - (2 * x4) / (di x2.toNatClampNeg) * (di x2.toNatClampNeg)) (x6 + 1)) else none))
set_option maxHeartbeats 4000000 in
set_option maxRecDepth 100000 in
theorem wX2_rest_L41 {p : Program} {l : Launch} {e : Env} {s : State} {m : MethodId} {args : Array Value} {below : List Frame} {meth : Method} {c : Code} {D : va_G} {A : Nat → Prop} {ck : Nat → ClassId} {ad : Nat → Nat} (C : CX p s m args meth c RX2 cX2_rest 7 (some .int)) (hA : ∀ q, s.heap.size ≤ q → A q) (hK : va_K D vwCl (tyM ck) s) (hX : XT s) : ∀ (k : Nat) (th : Int32) (mi : NI) (di : NL) (po : NI) (be : Int32) (mm : Int64) (ee : Int32) (fa : NI) (fb : NI) (x2 : Int32) (x3 : Int32) (x4 : Int64) (x6 : Int32) (ls : Array Slot) (H : Heap) (locs : List Loc) (u : Int32 × Int32 × NI × NL × NI × Int32 × Int64 × Int32 × NI × NI), va_P D vwCl (wM ck ad th mi di po be mm ee fa fb) H → va_D A (wM ck ad th mi di po be mm ee fa fb) → va_S A s.heap H locs → lv_has ls 7 [(0, .ref (ad 0)), (2, .int x2), (3, .int x3), (4, .long x4), (6, .int x6)] → jX2_rest_L41 k th mi di po be mm ee fa fb x2 x3 x4 x6 = some u → W p l e (rmz 1 21) s m args below meth c H locs 0 0 (MQ below (HQ D A (wM ck ad u.2.1 u.2.2.1 u.2.2.2.1 u.2.2.2.2.1 u.2.2.2.2.2.1 u.2.2.2.2.2.2.1 u.2.2.2.2.2.2.2.1 u.2.2.2.2.2.2.2.2.1 u.2.2.2.2.2.2.2.2.2) (some (.int u.1))) args s 0 0 A) (F0 m 41 ls []) := by
  obtain ⟨hx, hb, hml, hown, hg, hr, hlocks⟩ := id C
  intro k
  induction k with
  | zero => intro th mi di po be mm ee fa fb x2 x3 x4 x6 ls H locs u hP hD hS hl h; cases h
  | succ k ih =>
    intro th mi di po be mm ee fa fb x2 x3 x4 x6 ls H locs u hP hD hS hl h
    unfold jX2_rest_L41 at h
    refine lv_iload hx hb dX2_rest_41 (lv_at hl 4 rfl) ?_
    refine lv_iload_n hx hb dX2_rest_43 rfl (lv_at hl 2 rfl) ?_
    refine lv_icmp_ge (tgt := 68) hx hb dX2_rest_44 (by decide) (fun c_1 => ?_) (fun c_1 => ?_)
    · rw [if_pos c_1] at h
      refine lv_aload_n hx hb dX2_rest_68 rfl (lv_at hl 0 rfl) ?_
      refine lv_lload hx hb dX2_rest_69 (lv_at hl 3 rfl) ?_
      refine va_put hx hb hg inX2 tyX2 tyX2_ok nmX2 hown hK hP hD hS 0 rfl rfl 5 (by decide) (hg _ tw_331) (fun _ h9 => h9) rfl (tyX2_ok 5 (by decide)) rfl rfl (Nat.le_of_ble_eq_true rfl) dX2_rest_71 (fun H locs hP hD hS => ?_)
      have hP : va_P D vwCl (wM ck ad th mi di po be x4 ee fa fb) H := hP
      have hD : va_D A (wM ck ad th mi di po be x4 ee fa fb) := hD
      refine lv_aload_n hx hb dX2_rest_74 rfl (lv_at hl 0 rfl) ?_
      refine lv_aload_n hx hb dX2_rest_75 rfl (lv_at hl 0 rfl) ?_
      refine va_get hx hb hg inX2 hown hK hP 0 rfl rfl 3 (by decide) (hg _ tw_329) (fun _ h9 => h9) rfl dX2_rest_76 ?_
      refine lv_iload_n hx hb dX2_rest_79 rfl (lv_at hl 1 rfl) ?_
      obtain ⟨z_80, h⟩ := of_ite h
      refine va_iald hx hb hK hP 3 0 rfl rfl (ok_in z_80) dX2_rest_80 ?_
      refine va_put hx hb hg inX2 tyX2 tyX2_ok nmX2 hown hK hP hD hS 0 rfl rfl 6 (by decide) (hg _ tw_332) (fun _ h9 => h9) rfl (tyX2_ok 6 (by decide)) rfl rfl (Nat.le_of_ble_eq_true rfl) dX2_rest_81 (fun H locs hP hD hS => ?_)
      have hP : va_P D vwCl (wM ck ad th mi di po be x4 (po x2.toNatClampNeg) fa fb) H := hP
      have hD : va_D A (wM ck ad th mi di po be x4 (po x2.toNatClampNeg) fa fb) := hD
      refine lv_goto (tgt := 133) hx hb dX2_rest_84 (by decide) ?_
      refine lv_aload_n hx hb dX2_rest_133 rfl (lv_at hl 0 rfl) ?_
      obtain ⟨r_5, th_5, mi_5, di_5, po_5, be_5, mm_5, ee_5, fa_5, fb_5, h_r_5, h⟩ := of_bM h
      refine callMM C hK hX hP hD hS hA (cX2_settle_met l ck ad _ _ _ _ _ _ _ _ _ _ h_r_5) vc_X2_settle tw_398 (by decide) rfl hl.1 (rest := []) rfl (Nat.le_of_ble_eq_true rfl) (by decide) dX2_rest_134 (fun H locs hP hD hS => ?_)
      have hP : va_P D vwCl (wM ck ad th_5 mi_5 di_5 po_5 be_5 mm_5 ee_5 fa_5 fb_5) H := hP
      have hD : va_D A (wM ck ad th_5 mi_5 di_5 po_5 be_5 mm_5 ee_5 fa_5 fb_5) := hD
      refine W.eq (g2 := F0 m 137 ls [.int r_5]) rfl ?_
      cases h
      exact W.iret hx hb hr (fun t ht _ => ⟨rfl, by rw [ht]; exact hP, hD, hS.F ht⟩) hS.2.2 dX2_rest_137
    · rw [if_neg c_1] at h
      refine lv_ldc2 hx hb hown (hg _ tw_397) dX2_rest_47 ?_
      refine lv_lload hx hb dX2_rest_50 (lv_at hl 3 rfl) ?_
      refine lv_lmul hx hb dX2_rest_52 ?_
      refine lv_aload_n hx hb dX2_rest_53 rfl (lv_at hl 0 rfl) ?_
      refine va_get hx hb hg inX2 hown hK hP 0 rfl rfl 2 (by decide) (hg _ tw_328) (fun _ h9 => h9) rfl dX2_rest_54 ?_
      refine lv_iload_n hx hb dX2_rest_57 rfl (lv_at hl 1 rfl) ?_
      obtain ⟨z_58, h⟩ := of_ite h
      refine va_lald hx hb hK hP 2 1 rfl rfl (ok_in z_58) dX2_rest_58 ?_
      obtain ⟨z_59, h⟩ := of_ite2 h
      refine lv_lrem hx hb dX2_rest_59 z_59 ?_
      refine lv_lstore (lv' := [(4, .long ((2 * x4) - (2 * x4) / (di x2.toNatClampNeg) * (di x2.toNatClampNeg))), (0, .ref (ad 0)), (2, .int x2), (3, .int x3), (6, .int x6)]) hx hb dX2_rest_60 hl (by decide) rfl (fun ls hl => ?_)
      refine lv_iinc (v := x6 + 1) (lv' := [(6, .int (x6 + 1)), (4, .long ((2 * x4) - (2 * x4) / (di x2.toNatClampNeg) * (di x2.toNatClampNeg))), (0, .ref (ad 0)), (2, .int x2), (3, .int x3)]) hx hb dX2_rest_62 hl (k := 4) rfl rfl (by decide) rfl (fun ls hl => ?_)
      refine lv_goto (tgt := 41) hx hb dX2_rest_65 (by decide) ?_
      exact ih _ _ _ _ _ _ _ _ _ _ _ _ _ _ _ _ _ hP hD hS (lv_sub hl [2, 3, 4, 1, 0] rfl) h
def jX2_rest (th : Int32) (mi : NI) (di : NL) (po : NI) (be : Int32) (mm : Int64) (ee : Int32) (fa : NI) (fb : NI) (x1 : Int32) (x2 : Int32) : Option (Int32 × Int32 × NI × NL × NI × Int32 × Int64 × Int32 × NI × NI) := (bMv (jX2_take th mi di po be mm ee fa fb x1) fun th_1 mi_1 di_1 po_1 be_1 mm_1 ee_1 fa_1 fb_1 => (if ok x1 16 = true then (if ok x2 16 = true then (if ((po_1 x1.toNatClampNeg) - (po_1 x2.toNatClampNeg)) < 0 then (if 60 ≤ (-((po_1 x1.toNatClampNeg) - (po_1 x2.toNatClampNeg))) then (bM (jX2_settle th_1 mi_1 di_1 po_1 be_1 mm_1 ee_1 fa_1 fb_1) fun r_2 th_2 mi_2 di_2 po_2 be_2 mm_2 ee_2 fa_2 fb_2 => some (r_2, th_2, mi_2, di_2, po_2, be_2, mm_2, ee_2, fa_2, fb_2)) else (if ok x2 16 = true then (if ok x1 16 = true then (if (sr (di_1 x1.toNatClampNeg) (-((po_1 x1.toNatClampNeg) - (po_1 x2.toNatClampNeg)))) < (di_1 x2.toNatClampNeg) then (bM (jX2_settle th_1 mi_1 di_1 po_1 be_1 mm_1 ee_1 fa_1 fb_1) fun r_3 th_3 mi_3 di_3 po_3 be_3 mm_3 ee_3 fa_3 fb_3 => some (r_3, th_3, mi_3, di_3, po_3, be_3, mm_3, ee_3, fa_3, fb_3)) else (if ok x1 16 = true then (if ok x2 16 = true then (if (sl (di_1 x2.toNatClampNeg) (-((po_1 x1.toNatClampNeg) - (po_1 x2.toNatClampNeg)))) = 0 then none else (bM (jX2_settle th_1 mi_1 di_1 po_1 be_1 ((di_1 x1.toNatClampNeg) - (di_1 x1.toNatClampNeg) / (sl (di_1 x2.toNatClampNeg) (-((po_1 x1.toNatClampNeg) - (po_1 x2.toNatClampNeg)))) * (sl (di_1 x2.toNatClampNeg) (-((po_1 x1.toNatClampNeg) - (po_1 x2.toNatClampNeg))))) ee_1 fa_1 fb_1) fun r_4 th_4 mi_4 di_4 po_4 be_4 mm_4 ee_4 fa_4 fb_4 => some (r_4, th_4, mi_4, di_4, po_4, be_4, mm_4, ee_4, fa_4, fb_4))) else none) else none)) else none) else none)) else (if ok x1 16 = true then (if ok x2 16 = true then (if (di_1 x2.toNatClampNeg) = 0 then none else jX2_rest_L41 FU th_1 mi_1 di_1 po_1 be_1 mm_1 ee_1 fa_1 fb_1 x2 ((po_1 x1.toNatClampNeg) - (po_1 x2.toNatClampNeg)) ((di_1 x1.toNatClampNeg) - (di_1 x1.toNatClampNeg) / (di_1 x2.toNatClampNeg) * (di_1 x2.toNatClampNeg)) 0) else none) else none)) else none) else none))
set_option maxHeartbeats 4000000 in
set_option maxRecDepth 100000 in
theorem wX2_rest_0 {p : Program} {l : Launch} {e : Env} {s : State} {m : MethodId} {args : Array Value} {below : List Frame} {meth : Method} {c : Code} {D : va_G} {A : Nat → Prop} {ck : Nat → ClassId} {ad : Nat → Nat} (C : CX p s m args meth c RX2 cX2_rest 7 (some .int)) (hA : ∀ q, s.heap.size ≤ q → A q) (hK : va_K D vwCl (tyM ck) s) (hX : XT s) (th : Int32) (mi : NI) (di : NL) (po : NI) (be : Int32) (mm : Int64) (ee : Int32) (fa : NI) (fb : NI) (x1 : Int32) (x2 : Int32) (ls : Array Slot) (H : Heap) (locs : List Loc) (u : Int32 × Int32 × NI × NL × NI × Int32 × Int64 × Int32 × NI × NI) (hP : va_P D vwCl (wM ck ad th mi di po be mm ee fa fb) H) (hD : va_D A (wM ck ad th mi di po be mm ee fa fb)) (hS : va_S A s.heap H locs) (hl : lv_has ls 7 [(0, .ref (ad 0)), (1, .int x1), (2, .int x2)]) (h : jX2_rest th mi di po be mm ee fa fb x1 x2 = some u) : W p l e (rmz 1 21) s m args below meth c H locs 0 0 (MQ below (HQ D A (wM ck ad u.2.1 u.2.2.1 u.2.2.2.1 u.2.2.2.2.1 u.2.2.2.2.2.1 u.2.2.2.2.2.2.1 u.2.2.2.2.2.2.2.1 u.2.2.2.2.2.2.2.2.1 u.2.2.2.2.2.2.2.2.2) (some (.int u.1))) args s 0 0 A) (F0 m 0 ls []) := by
  obtain ⟨hx, hb, hml, hown, hg, hr, hlocks⟩ := id C
  unfold jX2_rest at h
  refine lv_aload_n hx hb dX2_rest_0 rfl (lv_at hl 0 rfl) ?_
  refine lv_iload_n hx hb dX2_rest_1 rfl (lv_at hl 1 rfl) ?_
  obtain ⟨th_1, mi_1, di_1, po_1, be_1, mm_1, ee_1, fa_1, fb_1, h_r_1, h⟩ := of_bMv h
  refine callMM C hK hX hP hD hS hA (cX2_take_met l ck ad _ _ _ _ _ _ _ _ _ _ _ h_r_1) vc_X2_take tw_470 (by decide) rfl hl.1 (rest := []) rfl (Nat.le_of_ble_eq_true rfl) (by decide) dX2_rest_2 (fun H locs hP hD hS => ?_)
  have hP : va_P D vwCl (wM ck ad th_1 mi_1 di_1 po_1 be_1 mm_1 ee_1 fa_1 fb_1) H := hP
  have hD : va_D A (wM ck ad th_1 mi_1 di_1 po_1 be_1 mm_1 ee_1 fa_1 fb_1) := hD
  refine W.eq (g2 := F0 m 5 ls []) rfl ?_
  refine lv_aload_n hx hb dX2_rest_5 rfl (lv_at hl 0 rfl) ?_
  refine va_get hx hb hg inX2 hown hK hP 0 rfl rfl 3 (by decide) (hg _ tw_329) (fun _ h9 => h9) rfl dX2_rest_6 ?_
  refine lv_iload_n hx hb dX2_rest_9 rfl (lv_at hl 1 rfl) ?_
  obtain ⟨z_10, h⟩ := of_ite h
  refine va_iald hx hb hK hP 3 0 rfl rfl (ok_in z_10) dX2_rest_10 ?_
  refine lv_aload_n hx hb dX2_rest_11 rfl (lv_at hl 0 rfl) ?_
  refine va_get hx hb hg inX2 hown hK hP 0 rfl rfl 3 (by decide) (hg _ tw_329) (fun _ h9 => h9) rfl dX2_rest_12 ?_
  refine lv_iload_n hx hb dX2_rest_15 rfl (lv_at hl 2 rfl) ?_
  obtain ⟨z_16, h⟩ := of_ite h
  refine va_iald hx hb hK hP 3 0 rfl rfl (ok_in z_16) dX2_rest_16 ?_
  refine lv_isub hx hb dX2_rest_17 ?_
  refine lv_istore_n (lv' := [(3, .int ((po_1 x1.toNatClampNeg) - (po_1 x2.toNatClampNeg))), (0, .ref (ad 0)), (1, .int x1), (2, .int x2)]) hx hb dX2_rest_18 rfl hl (by decide) rfl (fun ls hl => ?_)
  refine lv_iload_n hx hb dX2_rest_19 rfl (lv_at hl 0 rfl) ?_
  refine lv_if_lt (tgt := 87) hx hb dX2_rest_20 (by decide) (fun c_1 => ?_) (fun c_1 => ?_)
  · rw [if_pos c_1] at h
    refine lv_iload_n hx hb dX2_rest_87 rfl (lv_at hl 0 rfl) ?_
    refine lv_ineg hx hb dX2_rest_88 ?_
    refine lv_bipush (v := 60) hx hb dX2_rest_89 (by decide) ?_
    refine lv_icmp_ge (tgt := 133) hx hb dX2_rest_91 (by decide) (fun c_2 => ?_) (fun c_2 => ?_)
    · rw [if_pos c_2] at h
      refine lv_aload_n hx hb dX2_rest_133 rfl (lv_at hl 1 rfl) ?_
      obtain ⟨r_2, th_2, mi_2, di_2, po_2, be_2, mm_2, ee_2, fa_2, fb_2, h_r_2, h⟩ := of_bM h
      refine callMM C hK hX hP hD hS hA (cX2_settle_met l ck ad _ _ _ _ _ _ _ _ _ _ h_r_2) vc_X2_settle tw_398 (by decide) rfl hl.1 (rest := []) rfl (Nat.le_of_ble_eq_true rfl) (by decide) dX2_rest_134 (fun H locs hP hD hS => ?_)
      have hP : va_P D vwCl (wM ck ad th_2 mi_2 di_2 po_2 be_2 mm_2 ee_2 fa_2 fb_2) H := hP
      have hD : va_D A (wM ck ad th_2 mi_2 di_2 po_2 be_2 mm_2 ee_2 fa_2 fb_2) := hD
      refine W.eq (g2 := F0 m 137 ls [.int r_2]) rfl ?_
      cases h
      exact W.iret hx hb hr (fun t ht _ => ⟨rfl, by rw [ht]; exact hP, hD, hS.F ht⟩) hS.2.2 dX2_rest_137
    · rw [if_neg c_2] at h
      refine lv_aload_n hx hb dX2_rest_94 rfl (lv_at hl 1 rfl) ?_
      refine va_get hx hb hg inX2 hown hK hP 0 rfl rfl 2 (by decide) (hg _ tw_328) (fun _ h9 => h9) rfl dX2_rest_95 ?_
      refine lv_iload_n hx hb dX2_rest_98 rfl (lv_at hl 3 rfl) ?_
      obtain ⟨z_99, h⟩ := of_ite h
      refine va_lald hx hb hK hP 2 1 rfl rfl (ok_in z_99) dX2_rest_99 ?_
      refine lv_aload_n hx hb dX2_rest_100 rfl (lv_at hl 1 rfl) ?_
      refine va_get hx hb hg inX2 hown hK hP 0 rfl rfl 2 (by decide) (hg _ tw_328) (fun _ h9 => h9) rfl dX2_rest_101 ?_
      refine lv_iload_n hx hb dX2_rest_104 rfl (lv_at hl 2 rfl) ?_
      obtain ⟨z_105, h⟩ := of_ite h
      refine va_lald hx hb hK hP 2 1 rfl rfl (ok_in z_105) dX2_rest_105 ?_
      refine lv_iload_n hx hb dX2_rest_106 rfl (lv_at hl 0 rfl) ?_
      refine lv_ineg hx hb dX2_rest_107 ?_
      refine lv_lshr (v := sr (di_1 x1.toNatClampNeg) (-((po_1 x1.toNatClampNeg) - (po_1 x2.toNatClampNeg)))) hx hb dX2_rest_108 rfl ?_
      refine lc_gt (tgt := 133) hx hb dX2_rest_109 dX2_rest_110 (by decide) (fun c_3 => ?_) (fun c_3 => ?_)
      · rw [if_pos c_3] at h
        refine lv_aload_n hx hb dX2_rest_133 rfl (lv_at hl 1 rfl) ?_
        obtain ⟨r_3, th_3, mi_3, di_3, po_3, be_3, mm_3, ee_3, fa_3, fb_3, h_r_3, h⟩ := of_bM h
        refine callMM C hK hX hP hD hS hA (cX2_settle_met l ck ad _ _ _ _ _ _ _ _ _ _ h_r_3) vc_X2_settle tw_398 (by decide) rfl hl.1 (rest := []) rfl (Nat.le_of_ble_eq_true rfl) (by decide) dX2_rest_134 (fun H locs hP hD hS => ?_)
        have hP : va_P D vwCl (wM ck ad th_3 mi_3 di_3 po_3 be_3 mm_3 ee_3 fa_3 fb_3) H := hP
        have hD : va_D A (wM ck ad th_3 mi_3 di_3 po_3 be_3 mm_3 ee_3 fa_3 fb_3) := hD
        refine W.eq (g2 := F0 m 137 ls [.int r_3]) rfl ?_
        cases h
        exact W.iret hx hb hr (fun t ht _ => ⟨rfl, by rw [ht]; exact hP, hD, hS.F ht⟩) hS.2.2 dX2_rest_137
      · rw [if_neg c_3] at h
        refine lv_aload_n hx hb dX2_rest_113 rfl (lv_at hl 1 rfl) ?_
        refine lv_aload_n hx hb dX2_rest_114 rfl (lv_at hl 1 rfl) ?_
        refine va_get hx hb hg inX2 hown hK hP 0 rfl rfl 2 (by decide) (hg _ tw_328) (fun _ h9 => h9) rfl dX2_rest_115 ?_
        refine lv_iload_n hx hb dX2_rest_118 rfl (lv_at hl 2 rfl) ?_
        obtain ⟨z_119, h⟩ := of_ite h
        refine va_lald hx hb hK hP 2 1 rfl rfl (ok_in z_119) dX2_rest_119 ?_
        refine lv_aload_n hx hb dX2_rest_120 rfl (lv_at hl 1 rfl) ?_
        refine va_get hx hb hg inX2 hown hK hP 0 rfl rfl 2 (by decide) (hg _ tw_328) (fun _ h9 => h9) rfl dX2_rest_121 ?_
        refine lv_iload_n hx hb dX2_rest_124 rfl (lv_at hl 3 rfl) ?_
        obtain ⟨z_125, h⟩ := of_ite h
        refine va_lald hx hb hK hP 2 1 rfl rfl (ok_in z_125) dX2_rest_125 ?_
        refine lv_iload_n hx hb dX2_rest_126 rfl (lv_at hl 0 rfl) ?_
        refine lv_ineg hx hb dX2_rest_127 ?_
        refine lv_lshl (v := sl (di_1 x2.toNatClampNeg) (-((po_1 x1.toNatClampNeg) - (po_1 x2.toNatClampNeg)))) hx hb dX2_rest_128 rfl ?_
        obtain ⟨z_129, h⟩ := of_ite2 h
        refine lv_lrem hx hb dX2_rest_129 z_129 ?_
        refine va_put hx hb hg inX2 tyX2 tyX2_ok nmX2 hown hK hP hD hS 0 rfl rfl 5 (by decide) (hg _ tw_331) (fun _ h9 => h9) rfl (tyX2_ok 5 (by decide)) rfl rfl (Nat.le_of_ble_eq_true rfl) dX2_rest_130 (fun H locs hP hD hS => ?_)
        have hP : va_P D vwCl (wM ck ad th_1 mi_1 di_1 po_1 be_1 ((di_1 x1.toNatClampNeg) - (di_1 x1.toNatClampNeg) / (sl (di_1 x2.toNatClampNeg) (-((po_1 x1.toNatClampNeg) - (po_1 x2.toNatClampNeg)))) * (sl (di_1 x2.toNatClampNeg) (-((po_1 x1.toNatClampNeg) - (po_1 x2.toNatClampNeg))))) ee_1 fa_1 fb_1) H := hP
        have hD : va_D A (wM ck ad th_1 mi_1 di_1 po_1 be_1 ((di_1 x1.toNatClampNeg) - (di_1 x1.toNatClampNeg) / (sl (di_1 x2.toNatClampNeg) (-((po_1 x1.toNatClampNeg) - (po_1 x2.toNatClampNeg)))) * (sl (di_1 x2.toNatClampNeg) (-((po_1 x1.toNatClampNeg) - (po_1 x2.toNatClampNeg))))) ee_1 fa_1 fb_1) := hD
        refine lv_aload_n hx hb dX2_rest_133 rfl (lv_at hl 1 rfl) ?_
        obtain ⟨r_4, th_4, mi_4, di_4, po_4, be_4, mm_4, ee_4, fa_4, fb_4, h_r_4, h⟩ := of_bM h
        refine callMM C hK hX hP hD hS hA (cX2_settle_met l ck ad _ _ _ _ _ _ _ _ _ _ h_r_4) vc_X2_settle tw_398 (by decide) rfl hl.1 (rest := []) rfl (Nat.le_of_ble_eq_true rfl) (by decide) dX2_rest_134 (fun H locs hP hD hS => ?_)
        have hP : va_P D vwCl (wM ck ad th_4 mi_4 di_4 po_4 be_4 mm_4 ee_4 fa_4 fb_4) H := hP
        have hD : va_D A (wM ck ad th_4 mi_4 di_4 po_4 be_4 mm_4 ee_4 fa_4 fb_4) := hD
        refine W.eq (g2 := F0 m 137 ls [.int r_4]) rfl ?_
        cases h
        exact W.iret hx hb hr (fun t ht _ => ⟨rfl, by rw [ht]; exact hP, hD, hS.F ht⟩) hS.2.2 dX2_rest_137
  · rw [if_neg c_1] at h
    refine lv_aload_n hx hb dX2_rest_23 rfl (lv_at hl 1 rfl) ?_
    refine va_get hx hb hg inX2 hown hK hP 0 rfl rfl 2 (by decide) (hg _ tw_328) (fun _ h9 => h9) rfl dX2_rest_24 ?_
    refine lv_iload_n hx hb dX2_rest_27 rfl (lv_at hl 2 rfl) ?_
    obtain ⟨z_28, h⟩ := of_ite h
    refine va_lald hx hb hK hP 2 1 rfl rfl (ok_in z_28) dX2_rest_28 ?_
    refine lv_aload_n hx hb dX2_rest_29 rfl (lv_at hl 1 rfl) ?_
    refine va_get hx hb hg inX2 hown hK hP 0 rfl rfl 2 (by decide) (hg _ tw_328) (fun _ h9 => h9) rfl dX2_rest_30 ?_
    refine lv_iload_n hx hb dX2_rest_33 rfl (lv_at hl 3 rfl) ?_
    obtain ⟨z_34, h⟩ := of_ite h
    refine va_lald hx hb hK hP 2 1 rfl rfl (ok_in z_34) dX2_rest_34 ?_
    obtain ⟨z_35, h⟩ := of_ite2 h
    refine lv_lrem hx hb dX2_rest_35 z_35 ?_
    refine lv_lstore (lv' := [(4, .long ((di_1 x1.toNatClampNeg) - (di_1 x1.toNatClampNeg) / (di_1 x2.toNatClampNeg) * (di_1 x2.toNatClampNeg))), (3, .int ((po_1 x1.toNatClampNeg) - (po_1 x2.toNatClampNeg))), (0, .ref (ad 0)), (1, .int x1), (2, .int x2)]) hx hb dX2_rest_36 hl (by decide) rfl (fun ls hl => ?_)
    refine lv_iconst (v := 0) hx hb dX2_rest_38 (by decide) ?_
    refine lv_istore (lv' := [(6, .int 0), (4, .long ((di_1 x1.toNatClampNeg) - (di_1 x1.toNatClampNeg) / (di_1 x2.toNatClampNeg) * (di_1 x2.toNatClampNeg))), (3, .int ((po_1 x1.toNatClampNeg) - (po_1 x2.toNatClampNeg))), (0, .ref (ad 0)), (1, .int x1), (2, .int x2)]) hx hb dX2_rest_39 hl (by decide) rfl (fun ls hl => ?_)
    exact wX2_rest_L41 C hA hK hX FU _ _ _ _ _ _ _ _ _ _ _ _ _ _ _ _ _ hP hD hS (lv_sub hl [3, 5, 2, 1, 0] rfl) h
theorem vc_X2_rest : VC RX2 yX2_rest cX2_rest 7 (some .int) 2 := ⟨tw_468, ts_13, tw_2, tw_469, by decide +kernel⟩
theorem cX2_rest_met (l : Launch) (ck : Nat → ClassId) (ad : Nat → Nat) (th : Int32) (mi : NI) (di : NL) (po : NI) (be : Int32) (mm : Int64) (ee : Int32) (fa : NI) (fb : NI) (x1 : Int32) (x2 : Int32) (u : Int32 × Int32 × NI × NL × NI × Int32 × Int64 × Int32 × NI × NI) (h : jX2_rest th mi di po be mm ee fa fb x1 x2 = some u) : HM l yX2_rest cX2_rest 7 (some .int) (rmz 1 21) [.ref (ad 0), .int x1, .int x2] (tyM ck) (wM ck ad th mi di po be mm ee fa fb) (some (.int u.1)) (wM ck ad u.2.1 u.2.2.1 u.2.2.2.1 u.2.2.2.2.1 u.2.2.2.2.2.1 u.2.2.2.2.2.2.1 u.2.2.2.2.2.2.2.1 u.2.2.2.2.2.2.2.2.1 u.2.2.2.2.2.2.2.2.2) :=
  hm_of (own := RX2) (by decide +kernel) rfl (Nat.le_of_ble_eq_true rfl) (fun D A p e s m below meth c ls C hA hK hX hP hD hS hl => wX2_rest_0 C hA hK hX th mi di po be mm ee fa fb x1 x2 ls _ _ u hP hD hS hl h)

/-! RealDeskModel.lower(I)V -/
def jX2_lower_L0 : Nat → Int32 → NI → NL → NI → Int32 → Int64 → Int32 → NI → NI → Int32 → Option (Int32 × NI × NL × NI × Int32 × Int64 × Int32 × NI × NI)
  | 0, _, _, _, _, _, _, _, _, _, _ => none
  | k + 1, th, mi, di, po, be, mm, ee, fa, fb, x1 => (if x1 ≤ ee then some (th, mi, di, po, be, mm, ee, fa, fb) else jX2_lower_L0 k th mi di po be (mm / 2) (ee + 1) fa fb x1)
set_option maxHeartbeats 4000000 in
set_option maxRecDepth 100000 in
theorem wX2_lower_L0 {p : Program} {l : Launch} {e : Env} {s : State} {m : MethodId} {args : Array Value} {below : List Frame} {meth : Method} {c : Code} {D : va_G} {A : Nat → Prop} {ck : Nat → ClassId} {ad : Nat → Nat} (C : CX p s m args meth c RX2 cX2_lower 2 none) (hA : ∀ q, s.heap.size ≤ q → A q) (hK : va_K D vwCl (tyM ck) s) (hX : XT s) : ∀ (k : Nat) (th : Int32) (mi : NI) (di : NL) (po : NI) (be : Int32) (mm : Int64) (ee : Int32) (fa : NI) (fb : NI) (x1 : Int32) (ls : Array Slot) (H : Heap) (locs : List Loc) (u : Int32 × NI × NL × NI × Int32 × Int64 × Int32 × NI × NI), va_P D vwCl (wM ck ad th mi di po be mm ee fa fb) H → va_D A (wM ck ad th mi di po be mm ee fa fb) → va_S A s.heap H locs → lv_has ls 2 [(0, .ref (ad 0)), (1, .int x1)] → jX2_lower_L0 k th mi di po be mm ee fa fb x1 = some u → W p l e (rmz 0 0) s m args below meth c H locs 0 0 (MQ below (HQ D A (wM ck ad u.1 u.2.1 u.2.2.1 u.2.2.2.1 u.2.2.2.2.1 u.2.2.2.2.2.1 u.2.2.2.2.2.2.1 u.2.2.2.2.2.2.2.1 u.2.2.2.2.2.2.2.2) none) args s 0 0 A) (F0 m 0 ls []) := by
  obtain ⟨hx, hb, hml, hown, hg, hr, hlocks⟩ := id C
  intro k
  induction k with
  | zero => intro th mi di po be mm ee fa fb x1 ls H locs u hP hD hS hl h; cases h
  | succ k ih =>
    intro th mi di po be mm ee fa fb x1 ls H locs u hP hD hS hl h
    unfold jX2_lower_L0 at h
    refine lv_aload_n hx hb dX2_lower_0 rfl (lv_at hl 0 rfl) ?_
    refine va_get hx hb hg inX2 hown hK hP 0 rfl rfl 6 (by decide) (hg _ tw_332) (fun _ h9 => h9) rfl dX2_lower_1 ?_
    refine lv_iload_n hx hb dX2_lower_4 rfl (lv_at hl 1 rfl) ?_
    refine lv_icmp_ge (tgt := 33) hx hb dX2_lower_5 (by decide) (fun c_1 => ?_) (fun c_1 => ?_)
    · rw [if_pos c_1] at h
      cases h
      exact W.vret hx hb hr (fun t ht _ => ⟨rfl, by rw [ht]; exact hP, hD, hS.F ht⟩) hS.2.2 dX2_lower_33
    · rw [if_neg c_1] at h
      refine lv_aload_n hx hb dX2_lower_8 rfl (lv_at hl 0 rfl) ?_
      refine lv_aload_n hx hb dX2_lower_9 rfl (lv_at hl 0 rfl) ?_
      refine va_get hx hb hg inX2 hown hK hP 0 rfl rfl 5 (by decide) (hg _ tw_331) (fun _ h9 => h9) rfl dX2_lower_10 ?_
      refine lv_ldc2 hx hb hown (hg _ tw_397) dX2_lower_13 ?_
      refine lv_ldiv hx hb dX2_lower_16 (by decide) ?_
      refine va_put hx hb hg inX2 tyX2 tyX2_ok nmX2 hown hK hP hD hS 0 rfl rfl 5 (by decide) (hg _ tw_331) (fun _ h9 => h9) rfl (tyX2_ok 5 (by decide)) rfl rfl (Nat.le_of_ble_eq_true rfl) dX2_lower_17 (fun H locs hP hD hS => ?_)
      have hP : va_P D vwCl (wM ck ad th mi di po be (mm / 2) ee fa fb) H := hP
      have hD : va_D A (wM ck ad th mi di po be (mm / 2) ee fa fb) := hD
      refine lv_aload_n hx hb dX2_lower_20 rfl (lv_at hl 0 rfl) ?_
      refine lv_dup hx hb dX2_lower_21 rfl ?_
      refine va_get hx hb hg inX2 hown hK hP 0 rfl rfl 6 (by decide) (hg _ tw_332) (fun _ h9 => h9) rfl dX2_lower_22 ?_
      refine lv_iconst (v := 1) hx hb dX2_lower_25 (by decide) ?_
      refine lv_iadd hx hb dX2_lower_26 ?_
      refine va_put hx hb hg inX2 tyX2 tyX2_ok nmX2 hown hK hP hD hS 0 rfl rfl 6 (by decide) (hg _ tw_332) (fun _ h9 => h9) rfl (tyX2_ok 6 (by decide)) rfl rfl (Nat.le_of_ble_eq_true rfl) dX2_lower_27 (fun H locs hP hD hS => ?_)
      have hP : va_P D vwCl (wM ck ad th mi di po be (mm / 2) (ee + 1) fa fb) H := hP
      have hD : va_D A (wM ck ad th mi di po be (mm / 2) (ee + 1) fa fb) := hD
      refine lv_goto (tgt := 0) hx hb dX2_lower_30 (by decide) ?_
      exact ih _ _ _ _ _ _ _ _ _ _ _ _ _ _ hP hD hS (lv_sub hl [0, 1] rfl) h
def jX2_lower (th : Int32) (mi : NI) (di : NL) (po : NI) (be : Int32) (mm : Int64) (ee : Int32) (fa : NI) (fb : NI) (x1 : Int32) : Option (Int32 × NI × NL × NI × Int32 × Int64 × Int32 × NI × NI) := jX2_lower_L0 FU th mi di po be mm ee fa fb x1
set_option maxHeartbeats 4000000 in
set_option maxRecDepth 100000 in
theorem wX2_lower_0 {p : Program} {l : Launch} {e : Env} {s : State} {m : MethodId} {args : Array Value} {below : List Frame} {meth : Method} {c : Code} {D : va_G} {A : Nat → Prop} {ck : Nat → ClassId} {ad : Nat → Nat} (C : CX p s m args meth c RX2 cX2_lower 2 none) (hA : ∀ q, s.heap.size ≤ q → A q) (hK : va_K D vwCl (tyM ck) s) (hX : XT s) (th : Int32) (mi : NI) (di : NL) (po : NI) (be : Int32) (mm : Int64) (ee : Int32) (fa : NI) (fb : NI) (x1 : Int32) (ls : Array Slot) (H : Heap) (locs : List Loc) (u : Int32 × NI × NL × NI × Int32 × Int64 × Int32 × NI × NI) (hP : va_P D vwCl (wM ck ad th mi di po be mm ee fa fb) H) (hD : va_D A (wM ck ad th mi di po be mm ee fa fb)) (hS : va_S A s.heap H locs) (hl : lv_has ls 2 [(0, .ref (ad 0)), (1, .int x1)]) (h : jX2_lower th mi di po be mm ee fa fb x1 = some u) : W p l e (rmz 0 0) s m args below meth c H locs 0 0 (MQ below (HQ D A (wM ck ad u.1 u.2.1 u.2.2.1 u.2.2.2.1 u.2.2.2.2.1 u.2.2.2.2.2.1 u.2.2.2.2.2.2.1 u.2.2.2.2.2.2.2.1 u.2.2.2.2.2.2.2.2) none) args s 0 0 A) (F0 m 0 ls []) := by
  obtain ⟨hx, hb, hml, hown, hg, hr, hlocks⟩ := id C
  unfold jX2_lower at h
  exact wX2_lower_L0 C hA hK hX FU _ _ _ _ _ _ _ _ _ _ _ _ _ _ hP hD hS (lv_sub hl [0, 1] rfl) h
theorem vc_X2_lower : VC RX2 yX2_lower cX2_lower 2 none 1 := ⟨tw_492, ts_19, tw_2, tw_493, by decide +kernel⟩
theorem cX2_lower_met (l : Launch) (ck : Nat → ClassId) (ad : Nat → Nat) (th : Int32) (mi : NI) (di : NL) (po : NI) (be : Int32) (mm : Int64) (ee : Int32) (fa : NI) (fb : NI) (x1 : Int32) (u : Int32 × NI × NL × NI × Int32 × Int64 × Int32 × NI × NI) (h : jX2_lower th mi di po be mm ee fa fb x1 = some u) : HM l yX2_lower cX2_lower 2 none (rmz 0 0) [.ref (ad 0), .int x1] (tyM ck) (wM ck ad th mi di po be mm ee fa fb) none (wM ck ad u.1 u.2.1 u.2.2.1 u.2.2.2.1 u.2.2.2.2.1 u.2.2.2.2.2.1 u.2.2.2.2.2.2.1 u.2.2.2.2.2.2.2.1 u.2.2.2.2.2.2.2.2) :=
  hm_of (own := RX2) (by decide +kernel) rfl (Nat.le_of_ble_eq_true rfl) (fun D A p e s m below meth c ls C hA hK hX hP hD hS hl => wX2_lower_0 C hA hK hX th mi di po be mm ee fa fb x1 ls _ _ u hP hD hS hl h)

/-! RealDeskModel.errorOf(ZI)I -/
def jX2_errorOf_B44 (th : Int32) (mi : NI) (di : NL) (po : NI) (be : Int32) (mm : Int64) (ee : Int32) (fa : NI) (fb : NI) (x1 : Int32) (x2 : Int32) (x3 : Int32) : Option (Int32 × Int32 × NI × NL × NI × Int32 × Int64 × Int32 × NI × NI) := (b2 (jX1_less fa fb) fun fa_4 fb_4 => (bM (jX2_nearest th mi di po be mm ee fa_4 fb_4 (if x1 = (if 0 ≤ x3 then 0 else 1 : Int32) then 0 else 1 : Int32) x2 0) fun r_5 th_5 mi_5 di_5 po_5 be_5 mm_5 ee_5 fa_5 fb_5 => some (r_5, th_5, mi_5, di_5, po_5, be_5, mm_5, ee_5, fa_5, fb_5)))
set_option maxHeartbeats 4000000 in
set_option maxRecDepth 100000 in
theorem wX2_errorOf_B44 {p : Program} {l : Launch} {e : Env} {s : State} {m : MethodId} {args : Array Value} {below : List Frame} {meth : Method} {c : Code} {D : va_G} {A : Nat → Prop} {ck : Nat → ClassId} {ad : Nat → Nat} (C : CX p s m args meth c RX2 cX2_errorOf 4 (some .int)) (hA : ∀ q, s.heap.size ≤ q → A q) (hK : va_K D vwCl (tyM ck) s) (hX : XT s) (th : Int32) (mi : NI) (di : NL) (po : NI) (be : Int32) (mm : Int64) (ee : Int32) (fa : NI) (fb : NI) (x1 : Int32) (x2 : Int32) (x3 : Int32) (ls : Array Slot) (H : Heap) (locs : List Loc) (u : Int32 × Int32 × NI × NL × NI × Int32 × Int64 × Int32 × NI × NI) (hP : va_P D vwCl (wM ck ad th mi di po be mm ee fa fb) H) (hD : va_D A (wM ck ad th mi di po be mm ee fa fb)) (hS : va_S A s.heap H locs) (hl : lv_has ls 4 [(0, .ref (ad 0)), (1, .int x1), (2, .int x2), (3, .int x3)]) (h : jX2_errorOf_B44 th mi di po be mm ee fa fb x1 x2 x3 = some u) : W p l e (rmz 3 71) s m args below meth c H locs 0 0 (MQ below (HQ D A (wM ck ad u.2.1 u.2.2.1 u.2.2.2.1 u.2.2.2.2.1 u.2.2.2.2.2.1 u.2.2.2.2.2.2.1 u.2.2.2.2.2.2.2.1 u.2.2.2.2.2.2.2.2.1 u.2.2.2.2.2.2.2.2.2) (some (.int u.1))) args s 0 0 A) (F0 m 44 ls []) := by
  obtain ⟨hx, hb, hml, hown, hg, hr, hlocks⟩ := id C
  unfold jX2_errorOf_B44 at h
  refine lv_aload_n hx hb dX2_errorOf_44 rfl (lv_at hl 0 rfl) ?_
  refine va_get hx hb hg inX2 hown hK hP 0 rfl rfl 7 (by decide) (hg _ tw_333) (fun _ h9 => h9) rfl dX2_errorOf_45 ?_
  refine lv_aload_n hx hb dX2_errorOf_48 rfl (lv_at hl 0 rfl) ?_
  refine va_get hx hb hg inX2 hown hK hP 0 rfl rfl 8 (by decide) (hg _ tw_334) (fun _ h9 => h9) rfl dX2_errorOf_49 ?_
  obtain ⟨fa_4, fb_4, h_r_4, h⟩ := of_b2 h
  refine callMab C hK hX hP hD hS hA (cX1_less_met l ck (fun i => ad (i + 4)) _ _ _ h_r_4) vc_X1_less tw_436 (by decide) rfl hl.1 (rest := []) rfl (Nat.le_of_ble_eq_true rfl) (by decide) dX2_errorOf_52 (fun H locs hP hD hS => ?_)
  have hP : va_P D vwCl (wM ck ad th mi di po be mm ee fa_4 fb_4) H := hP
  have hD : va_D A (wM ck ad th mi di po be mm ee fa_4 fb_4) := hD
  refine W.eq (g2 := F0 m 55 ls []) rfl ?_
  refine lv_aload_n hx hb dX2_errorOf_55 rfl (lv_at hl 0 rfl) ?_
  refine lv_iload_n hx hb dX2_errorOf_56 rfl (lv_at hl 1 rfl) ?_
  refine lv_iload_n hx hb dX2_errorOf_57 rfl (lv_at hl 3 rfl) ?_
  refine rg_i (pj := 66) (v := (if 0 ≤ x3 then 0 else 1 : Int32)) (ls := ls) (rest := [.int x1, .ref (ad 0)]) (fun kJ => ?_) ?_
  · refine lv_if_ge (tgt := 65) hx hb dX2_errorOf_58 (by decide) (fun c_1 => ?_) (fun c_1 => ?_)
    · refine lv_iconst (v := 0) hx hb dX2_errorOf_65 (by decide) ?_
      exact kJ _ (by rw [if_pos c_1])
    · refine lv_iconst (v := 1) hx hb dX2_errorOf_61 (by decide) ?_
      refine lv_goto (tgt := 66) hx hb dX2_errorOf_62 (by decide) ?_
      exact kJ _ (by rw [if_neg c_1])
  refine rg_i (pj := 74) (v := (if x1 = (if 0 ≤ x3 then 0 else 1 : Int32) then 0 else 1 : Int32)) (ls := ls) (rest := [.ref (ad 0)]) (fun kJ => ?_) ?_
  · refine lv_icmp_eq (tgt := 73) hx hb dX2_errorOf_66 (by decide) (fun c_2 => ?_) (fun c_2 => ?_)
    · refine lv_iconst (v := 0) hx hb dX2_errorOf_73 (by decide) ?_
      exact kJ _ (by rw [if_pos c_2])
    · refine lv_iconst (v := 1) hx hb dX2_errorOf_69 (by decide) ?_
      refine lv_goto (tgt := 74) hx hb dX2_errorOf_70 (by decide) ?_
      exact kJ _ (by rw [if_neg c_2])
  refine lv_iload_n hx hb dX2_errorOf_74 rfl (lv_at hl 2 rfl) ?_
  refine lv_iconst (v := 0) hx hb dX2_errorOf_75 (by decide) ?_
  obtain ⟨r_5, th_5, mi_5, di_5, po_5, be_5, mm_5, ee_5, fa_5, fb_5, h_r_5, h⟩ := of_bM h
  refine callMM C hK hX hP hD hS hA (cX2_nearest_met l ck ad _ _ _ _ _ _ _ _ _ _ _ _ _ h_r_5) vc_X2_nearest tw_375 (by decide) rfl hl.1 (rest := []) rfl (Nat.le_of_ble_eq_true rfl) (by decide) dX2_errorOf_76 (fun H locs hP hD hS => ?_)
  have hP : va_P D vwCl (wM ck ad th_5 mi_5 di_5 po_5 be_5 mm_5 ee_5 fa_5 fb_5) H := hP
  have hD : va_D A (wM ck ad th_5 mi_5 di_5 po_5 be_5 mm_5 ee_5 fa_5 fb_5) := hD
  refine W.eq (g2 := F0 m 79 ls [.int r_5]) rfl ?_
  cases h
  exact W.iret hx hb hr (fun t ht _ => ⟨rfl, by rw [ht]; exact hP, hD, hS.F ht⟩) hS.2.2 dX2_errorOf_79
def jX2_errorOf (th : Int32) (mi : NI) (di : NL) (po : NI) (be : Int32) (mm : Int64) (ee : Int32) (fa : NI) (fb : NI) (x1 : Int32) (x2 : Int32) : Option (Int32 × Int32 × NI × NL × NI × Int32 × Int64 × Int32 × NI × NI) := (Option.bind (jX1_set fb mm) fun fb_1 => (Option.bind (jX1_up fb_1 (ee - x2)) fun fb_2 => (b3 (jX1_compare fa fb_2) fun r_3 fa_3 fb_3 => (if 0 ≤ r_3 then jX2_errorOf_B44 th mi di po be mm ee fa_3 fb_3 x1 x2 r_3 else (bMv (jX2_swap th mi di po be mm ee fa_3 fb_3) fun th_6 mi_6 di_6 po_6 be_6 mm_6 ee_6 fa_6 fb_6 => jX2_errorOf_B44 th_6 mi_6 di_6 po_6 be_6 mm_6 ee_6 fa_6 fb_6 x1 x2 r_3)))))
set_option maxHeartbeats 4000000 in
set_option maxRecDepth 100000 in
theorem wX2_errorOf_0 {p : Program} {l : Launch} {e : Env} {s : State} {m : MethodId} {args : Array Value} {below : List Frame} {meth : Method} {c : Code} {D : va_G} {A : Nat → Prop} {ck : Nat → ClassId} {ad : Nat → Nat} (C : CX p s m args meth c RX2 cX2_errorOf 4 (some .int)) (hA : ∀ q, s.heap.size ≤ q → A q) (hK : va_K D vwCl (tyM ck) s) (hX : XT s) (th : Int32) (mi : NI) (di : NL) (po : NI) (be : Int32) (mm : Int64) (ee : Int32) (fa : NI) (fb : NI) (x1 : Int32) (x2 : Int32) (ls : Array Slot) (H : Heap) (locs : List Loc) (u : Int32 × Int32 × NI × NL × NI × Int32 × Int64 × Int32 × NI × NI) (hP : va_P D vwCl (wM ck ad th mi di po be mm ee fa fb) H) (hD : va_D A (wM ck ad th mi di po be mm ee fa fb)) (hS : va_S A s.heap H locs) (hl : lv_has ls 4 [(0, .ref (ad 0)), (1, .int x1), (2, .int x2)]) (h : jX2_errorOf th mi di po be mm ee fa fb x1 x2 = some u) : W p l e (rmz 3 71) s m args below meth c H locs 0 0 (MQ below (HQ D A (wM ck ad u.2.1 u.2.2.1 u.2.2.2.1 u.2.2.2.2.1 u.2.2.2.2.2.1 u.2.2.2.2.2.2.1 u.2.2.2.2.2.2.2.1 u.2.2.2.2.2.2.2.2.1 u.2.2.2.2.2.2.2.2.2) (some (.int u.1))) args s 0 0 A) (F0 m 0 ls []) := by
  obtain ⟨hx, hb, hml, hown, hg, hr, hlocks⟩ := id C
  unfold jX2_errorOf at h
  refine lv_aload_n hx hb dX2_errorOf_0 rfl (lv_at hl 0 rfl) ?_
  refine va_get hx hb hg inX2 hown hK hP 0 rfl rfl 8 (by decide) (hg _ tw_334) (fun _ h9 => h9) rfl dX2_errorOf_1 ?_
  refine lv_aload_n hx hb dX2_errorOf_4 rfl (lv_at hl 0 rfl) ?_
  refine va_get hx hb hg inX2 hown hK hP 0 rfl rfl 5 (by decide) (hg _ tw_331) (fun _ h9 => h9) rfl dX2_errorOf_5 ?_
  obtain ⟨fb_1, h_r_1, h⟩ := of_bind h
  refine callMb C hK hX hP hD hS hA (cX1_set_met l ck (fun i => ad (i + 6)) _ _ _ h_r_1) vc_X1_set tw_370 (by decide) rfl hl.1 (rest := []) rfl (Nat.le_of_ble_eq_true rfl) (by decide) dX2_errorOf_8 (fun H locs hP hD hS => ?_)
  have hP : va_P D vwCl (wM ck ad th mi di po be mm ee fa fb_1) H := hP
  have hD : va_D A (wM ck ad th mi di po be mm ee fa fb_1) := hD
  refine W.eq (g2 := F0 m 11 ls []) rfl ?_
  refine lv_aload_n hx hb dX2_errorOf_11 rfl (lv_at hl 0 rfl) ?_
  refine va_get hx hb hg inX2 hown hK hP 0 rfl rfl 8 (by decide) (hg _ tw_334) (fun _ h9 => h9) rfl dX2_errorOf_12 ?_
  refine lv_aload_n hx hb dX2_errorOf_15 rfl (lv_at hl 0 rfl) ?_
  refine va_get hx hb hg inX2 hown hK hP 0 rfl rfl 6 (by decide) (hg _ tw_332) (fun _ h9 => h9) rfl dX2_errorOf_16 ?_
  refine lv_iload_n hx hb dX2_errorOf_19 rfl (lv_at hl 2 rfl) ?_
  refine lv_isub hx hb dX2_errorOf_20 ?_
  obtain ⟨fb_2, h_r_2, h⟩ := of_bind h
  refine callMb C hK hX hP hD hS hA (cX1_up_met l ck (fun i => ad (i + 6)) _ _ _ h_r_2) vc_X1_up tw_423 (by decide) rfl hl.1 (rest := []) rfl (Nat.le_of_ble_eq_true rfl) (by decide) dX2_errorOf_21 (fun H locs hP hD hS => ?_)
  have hP : va_P D vwCl (wM ck ad th mi di po be mm ee fa fb_2) H := hP
  have hD : va_D A (wM ck ad th mi di po be mm ee fa fb_2) := hD
  refine W.eq (g2 := F0 m 24 ls []) rfl ?_
  refine lv_aload_n hx hb dX2_errorOf_24 rfl (lv_at hl 0 rfl) ?_
  refine va_get hx hb hg inX2 hown hK hP 0 rfl rfl 7 (by decide) (hg _ tw_333) (fun _ h9 => h9) rfl dX2_errorOf_25 ?_
  refine lv_aload_n hx hb dX2_errorOf_28 rfl (lv_at hl 0 rfl) ?_
  refine va_get hx hb hg inX2 hown hK hP 0 rfl rfl 8 (by decide) (hg _ tw_334) (fun _ h9 => h9) rfl dX2_errorOf_29 ?_
  obtain ⟨r_3, fa_3, fb_3, h_r_3, h⟩ := of_b3 h
  refine callMab C hK hX hP hD hS hA (cX1_compare_met l ck (fun i => ad (i + 4)) _ _ _ h_r_3) vc_X1_compare tw_432 (by decide) rfl hl.1 (rest := []) rfl (Nat.le_of_ble_eq_true rfl) (by decide) dX2_errorOf_32 (fun H locs hP hD hS => ?_)
  have hP : va_P D vwCl (wM ck ad th mi di po be mm ee fa_3 fb_3) H := hP
  have hD : va_D A (wM ck ad th mi di po be mm ee fa_3 fb_3) := hD
  refine W.eq (g2 := F0 m 35 ls [.int r_3]) rfl ?_
  refine lv_istore_n (lv' := [(3, .int r_3), (0, .ref (ad 0)), (1, .int x1), (2, .int x2)]) hx hb dX2_errorOf_35 rfl hl (by decide) rfl (fun ls hl => ?_)
  refine lv_iload_n hx hb dX2_errorOf_36 rfl (lv_at hl 0 rfl) ?_
  refine lv_if_ge (tgt := 44) hx hb dX2_errorOf_37 (by decide) (fun c_1 => ?_) (fun c_1 => ?_)
  · rw [if_pos c_1] at h
    exact wX2_errorOf_B44 C hA hK hX _ _ _ _ _ _ _ _ _ _ _ _ _ _ _ _ hP hD hS (lv_sub hl [1, 2, 3, 0] rfl) h
  · rw [if_neg c_1] at h
    refine lv_aload_n hx hb dX2_errorOf_40 rfl (lv_at hl 1 rfl) ?_
    obtain ⟨th_6, mi_6, di_6, po_6, be_6, mm_6, ee_6, fa_6, fb_6, h_r_6, h⟩ := of_bMv h
    refine callMM C hK hX hP hD hS hA (cX2_swap_met l ck ad _ _ _ _ _ _ _ _ _ _ h_r_6) vc_X2_swap tw_440 (by decide) rfl hl.1 (rest := []) rfl (Nat.le_of_ble_eq_true rfl) (by decide) dX2_errorOf_41 (fun H locs hP hD hS => ?_)
    have hP : va_P D vwCl (wM ck ad th_6 mi_6 di_6 po_6 be_6 mm_6 ee_6 fa_6 fb_6) H := hP
    have hD : va_D A (wM ck ad th_6 mi_6 di_6 po_6 be_6 mm_6 ee_6 fa_6 fb_6) := hD
    refine W.eq (g2 := F0 m 44 ls []) rfl ?_
    exact wX2_errorOf_B44 C hA hK hX _ _ _ _ _ _ _ _ _ _ _ _ _ _ _ _ hP hD hS (lv_sub hl [1, 2, 3, 0] rfl) h
theorem vc_X2_errorOf : VC RX2 yX2_errorOf cX2_errorOf 4 (some .int) 2 := ⟨tw_496, ts_20, tw_2, tw_497, by decide +kernel⟩
theorem cX2_errorOf_met (l : Launch) (ck : Nat → ClassId) (ad : Nat → Nat) (th : Int32) (mi : NI) (di : NL) (po : NI) (be : Int32) (mm : Int64) (ee : Int32) (fa : NI) (fb : NI) (x1 : Int32) (x2 : Int32) (u : Int32 × Int32 × NI × NL × NI × Int32 × Int64 × Int32 × NI × NI) (h : jX2_errorOf th mi di po be mm ee fa fb x1 x2 = some u) : HM l yX2_errorOf cX2_errorOf 4 (some .int) (rmz 3 71) [.ref (ad 0), .int x1, .int x2] (tyM ck) (wM ck ad th mi di po be mm ee fa fb) (some (.int u.1)) (wM ck ad u.2.1 u.2.2.1 u.2.2.2.1 u.2.2.2.2.1 u.2.2.2.2.2.1 u.2.2.2.2.2.2.1 u.2.2.2.2.2.2.2.1 u.2.2.2.2.2.2.2.2.1 u.2.2.2.2.2.2.2.2.2) :=
  hm_of (own := RX2) (by decide +kernel) rfl (Nat.le_of_ble_eq_true rfl) (fun D A p e s m below meth c ls C hA hK hX hP hD hS hl => wX2_errorOf_0 C hA hK hX th mi di po be mm ee fa fb x1 x2 ls _ _ u hP hD hS hl h)

/-! RealDeskModel.sumError(II)I -/
def jX2_sumError (th : Int32) (mi : NI) (di : NL) (po : NI) (be : Int32) (mm : Int64) (ee : Int32) (fa : NI) (fb : NI) (x1 : Int32) (x2 : Int32) : Option (Int32 × Int32 × NI × NL × NI × Int32 × Int64 × Int32 × NI × NI) := (bM (jX2_exactSum th mi di po be mm ee fa fb x1 x2 0) fun r_1 th_1 mi_1 di_1 po_1 be_1 mm_1 ee_1 fa_1 fb_1 => (if ok x1 16 = true then (if ok x2 16 = true then (if (po_1 x2.toNatClampNeg) ≤ (po_1 x1.toNatClampNeg) then (if ok x2 16 = true then (bM (jX2_nearest th_1 mi_1 di_1 po_1 be_1 mm_1 ee_1 fa_1 fb_1 r_1 (po_1 x2.toNatClampNeg) 0) fun r_2 th_2 mi_2 di_2 po_2 be_2 mm_2 ee_2 fa_2 fb_2 => (if r_2 = (-1) then some ((-1), th_2, mi_2, di_2, po_2, be_2, mm_2, ee_2, fa_2, fb_2) else (bMv (jX2_lower th_2 mi_2 di_2 po_2 be_2 mm_2 ee_2 fa_2 fb_2 (po_1 x2.toNatClampNeg)) fun th_3 mi_3 di_3 po_3 be_3 mm_3 ee_3 fa_3 fb_3 => (bM (jX2_errorOf th_3 mi_3 di_3 po_3 be_3 mm_3 ee_3 fa_3 fb_3 r_1 (po_1 x2.toNatClampNeg)) fun r_4 th_4 mi_4 di_4 po_4 be_4 mm_4 ee_4 fa_4 fb_4 => some (r_4, th_4, mi_4, di_4, po_4, be_4, mm_4, ee_4, fa_4, fb_4))))) else none) else (if ok x1 16 = true then (bM (jX2_nearest th_1 mi_1 di_1 po_1 be_1 mm_1 ee_1 fa_1 fb_1 r_1 (po_1 x1.toNatClampNeg) 0) fun r_5 th_5 mi_5 di_5 po_5 be_5 mm_5 ee_5 fa_5 fb_5 => (if r_5 = (-1) then some ((-1), th_5, mi_5, di_5, po_5, be_5, mm_5, ee_5, fa_5, fb_5) else (bMv (jX2_lower th_5 mi_5 di_5 po_5 be_5 mm_5 ee_5 fa_5 fb_5 (po_1 x1.toNatClampNeg)) fun th_6 mi_6 di_6 po_6 be_6 mm_6 ee_6 fa_6 fb_6 => (bM (jX2_errorOf th_6 mi_6 di_6 po_6 be_6 mm_6 ee_6 fa_6 fb_6 r_1 (po_1 x1.toNatClampNeg)) fun r_7 th_7 mi_7 di_7 po_7 be_7 mm_7 ee_7 fa_7 fb_7 => some (r_7, th_7, mi_7, di_7, po_7, be_7, mm_7, ee_7, fa_7, fb_7))))) else none)) else none) else none))
set_option maxHeartbeats 4000000 in
set_option maxRecDepth 100000 in
theorem wX2_sumError_0 {p : Program} {l : Launch} {e : Env} {s : State} {m : MethodId} {args : Array Value} {below : List Frame} {meth : Method} {c : Code} {D : va_G} {A : Nat → Prop} {ck : Nat → ClassId} {ad : Nat → Nat} (C : CX p s m args meth c RX2 cX2_sumError 5 (some .int)) (hA : ∀ q, s.heap.size ≤ q → A q) (hK : va_K D vwCl (tyM ck) s) (hX : XT s) (th : Int32) (mi : NI) (di : NL) (po : NI) (be : Int32) (mm : Int64) (ee : Int32) (fa : NI) (fb : NI) (x1 : Int32) (x2 : Int32) (ls : Array Slot) (H : Heap) (locs : List Loc) (u : Int32 × Int32 × NI × NL × NI × Int32 × Int64 × Int32 × NI × NI) (hP : va_P D vwCl (wM ck ad th mi di po be mm ee fa fb) H) (hD : va_D A (wM ck ad th mi di po be mm ee fa fb)) (hS : va_S A s.heap H locs) (hl : lv_has ls 5 [(0, .ref (ad 0)), (1, .int x1), (2, .int x2)]) (h : jX2_sumError th mi di po be mm ee fa fb x1 x2 = some u) : W p l e (rmz 4 94) s m args below meth c H locs 0 0 (MQ below (HQ D A (wM ck ad u.2.1 u.2.2.1 u.2.2.2.1 u.2.2.2.2.1 u.2.2.2.2.2.1 u.2.2.2.2.2.2.1 u.2.2.2.2.2.2.2.1 u.2.2.2.2.2.2.2.2.1 u.2.2.2.2.2.2.2.2.2) (some (.int u.1))) args s 0 0 A) (F0 m 0 ls []) := by
  obtain ⟨hx, hb, hml, hown, hg, hr, hlocks⟩ := id C
  unfold jX2_sumError at h
  refine lv_aload_n hx hb dX2_sumError_0 rfl (lv_at hl 0 rfl) ?_
  refine lv_iload_n hx hb dX2_sumError_1 rfl (lv_at hl 1 rfl) ?_
  refine lv_iload_n hx hb dX2_sumError_2 rfl (lv_at hl 2 rfl) ?_
  refine lv_iconst (v := 0) hx hb dX2_sumError_3 (by decide) ?_
  obtain ⟨r_1, th_1, mi_1, di_1, po_1, be_1, mm_1, ee_1, fa_1, fb_1, h_r_1, h⟩ := of_bM h
  refine callMM C hK hX hP hD hS hA (cX2_exactSum_met l ck ad _ _ _ _ _ _ _ _ _ _ _ _ _ h_r_1) vc_X2_exactSum tw_419 (by decide) rfl hl.1 (rest := []) rfl (Nat.le_of_ble_eq_true rfl) (by decide) dX2_sumError_4 (fun H locs hP hD hS => ?_)
  have hP : va_P D vwCl (wM ck ad th_1 mi_1 di_1 po_1 be_1 mm_1 ee_1 fa_1 fb_1) H := hP
  have hD : va_D A (wM ck ad th_1 mi_1 di_1 po_1 be_1 mm_1 ee_1 fa_1 fb_1) := hD
  refine W.eq (g2 := F0 m 7 ls [.int r_1]) rfl ?_
  refine lv_istore_n (lv' := [(3, .int r_1), (0, .ref (ad 0)), (1, .int x1), (2, .int x2)]) hx hb dX2_sumError_7 rfl hl (by decide) rfl (fun ls hl => ?_)
  refine lv_aload_n hx hb dX2_sumError_8 rfl (lv_at hl 1 rfl) ?_
  refine va_get hx hb hg inX2 hown hK hP 0 rfl rfl 3 (by decide) (hg _ tw_329) (fun _ h9 => h9) rfl dX2_sumError_9 ?_
  refine lv_iload_n hx hb dX2_sumError_12 rfl (lv_at hl 2 rfl) ?_
  obtain ⟨z_13, h⟩ := of_ite h
  refine va_iald hx hb hK hP 3 0 rfl rfl (ok_in z_13) dX2_sumError_13 ?_
  refine lv_aload_n hx hb dX2_sumError_14 rfl (lv_at hl 1 rfl) ?_
  refine va_get hx hb hg inX2 hown hK hP 0 rfl rfl 3 (by decide) (hg _ tw_329) (fun _ h9 => h9) rfl dX2_sumError_15 ?_
  refine lv_iload_n hx hb dX2_sumError_18 rfl (lv_at hl 3 rfl) ?_
  obtain ⟨z_19, h⟩ := of_ite h
  refine va_iald hx hb hK hP 3 0 rfl rfl (ok_in z_19) dX2_sumError_19 ?_
  refine lv_icmp_ge (tgt := 32) hx hb dX2_sumError_20 (by decide) (fun c_1 => ?_) (fun c_1 => ?_)
  · rw [if_pos c_1] at h
    refine lv_aload_n hx hb dX2_sumError_32 rfl (lv_at hl 1 rfl) ?_
    refine va_get hx hb hg inX2 hown hK hP 0 rfl rfl 3 (by decide) (hg _ tw_329) (fun _ h9 => h9) rfl dX2_sumError_33 ?_
    refine lv_iload_n hx hb dX2_sumError_36 rfl (lv_at hl 3 rfl) ?_
    obtain ⟨z_37, h⟩ := of_ite h
    refine va_iald hx hb hK hP 3 0 rfl rfl (ok_in z_37) dX2_sumError_37 ?_
    refine lv_istore (lv' := [(4, .int (po_1 x2.toNatClampNeg)), (3, .int r_1), (0, .ref (ad 0)), (1, .int x1), (2, .int x2)]) hx hb dX2_sumError_38 hl (by decide) rfl (fun ls hl => ?_)
    refine lv_aload_n hx hb dX2_sumError_40 rfl (lv_at hl 2 rfl) ?_
    refine lv_iload_n hx hb dX2_sumError_41 rfl (lv_at hl 1 rfl) ?_
    refine lv_iload hx hb dX2_sumError_42 (lv_at hl 0 rfl) ?_
    refine lv_iconst (v := 0) hx hb dX2_sumError_44 (by decide) ?_
    obtain ⟨r_2, th_2, mi_2, di_2, po_2, be_2, mm_2, ee_2, fa_2, fb_2, h_r_2, h⟩ := of_bM h
    refine callMM C hK hX hP hD hS hA (cX2_nearest_met l ck ad _ _ _ _ _ _ _ _ _ _ _ _ _ h_r_2) vc_X2_nearest tw_375 (by decide) rfl hl.1 (rest := []) rfl (Nat.le_of_ble_eq_true rfl) (by decide) dX2_sumError_45 (fun H locs hP hD hS => ?_)
    have hP : va_P D vwCl (wM ck ad th_2 mi_2 di_2 po_2 be_2 mm_2 ee_2 fa_2 fb_2) H := hP
    have hD : va_D A (wM ck ad th_2 mi_2 di_2 po_2 be_2 mm_2 ee_2 fa_2 fb_2) := hD
    refine W.eq (g2 := F0 m 48 ls [.int r_2]) rfl ?_
    refine lv_iconst (v := (-1)) hx hb dX2_sumError_48 (by decide) ?_
    refine lv_icmp_ne (tgt := 54) hx hb dX2_sumError_49 (by decide) (fun c_2 => ?_) (fun c_2 => ?_)
    · rw [if_neg c_2] at h
      refine lv_aload_n hx hb dX2_sumError_54 rfl (lv_at hl 2 rfl) ?_
      refine lv_iload hx hb dX2_sumError_55 (lv_at hl 0 rfl) ?_
      obtain ⟨th_3, mi_3, di_3, po_3, be_3, mm_3, ee_3, fa_3, fb_3, h_r_3, h⟩ := of_bMv h
      refine callMM C hK hX hP hD hS hA (cX2_lower_met l ck ad _ _ _ _ _ _ _ _ _ _ _ h_r_3) vc_X2_lower tw_490 (by decide) rfl hl.1 (rest := []) rfl (Nat.le_of_ble_eq_true rfl) (by decide) dX2_sumError_57 (fun H locs hP hD hS => ?_)
      have hP : va_P D vwCl (wM ck ad th_3 mi_3 di_3 po_3 be_3 mm_3 ee_3 fa_3 fb_3) H := hP
      have hD : va_D A (wM ck ad th_3 mi_3 di_3 po_3 be_3 mm_3 ee_3 fa_3 fb_3) := hD
      refine W.eq (g2 := F0 m 60 ls []) rfl ?_
      refine lv_aload_n hx hb dX2_sumError_60 rfl (lv_at hl 2 rfl) ?_
      refine lv_iload_n hx hb dX2_sumError_61 rfl (lv_at hl 1 rfl) ?_
      refine lv_iload hx hb dX2_sumError_62 (lv_at hl 0 rfl) ?_
      obtain ⟨r_4, th_4, mi_4, di_4, po_4, be_4, mm_4, ee_4, fa_4, fb_4, h_r_4, h⟩ := of_bM h
      refine callMM C hK hX hP hD hS hA (cX2_errorOf_met l ck ad _ _ _ _ _ _ _ _ _ _ _ _ h_r_4) vc_X2_errorOf tw_494 (by decide) rfl hl.1 (rest := []) rfl (Nat.le_of_ble_eq_true rfl) (by decide) dX2_sumError_64 (fun H locs hP hD hS => ?_)
      have hP : va_P D vwCl (wM ck ad th_4 mi_4 di_4 po_4 be_4 mm_4 ee_4 fa_4 fb_4) H := hP
      have hD : va_D A (wM ck ad th_4 mi_4 di_4 po_4 be_4 mm_4 ee_4 fa_4 fb_4) := hD
      refine W.eq (g2 := F0 m 67 ls [.int r_4]) rfl ?_
      cases h
      exact W.iret hx hb hr (fun t ht _ => ⟨rfl, by rw [ht]; exact hP, hD, hS.F ht⟩) hS.2.2 dX2_sumError_67
    · rw [if_pos c_2] at h
      refine lv_iconst (v := (-1)) hx hb dX2_sumError_52 (by decide) ?_
      cases h
      exact W.iret hx hb hr (fun t ht _ => ⟨rfl, by rw [ht]; exact hP, hD, hS.F ht⟩) hS.2.2 dX2_sumError_53
  · rw [if_neg c_1] at h
    refine lv_aload_n hx hb dX2_sumError_23 rfl (lv_at hl 1 rfl) ?_
    refine va_get hx hb hg inX2 hown hK hP 0 rfl rfl 3 (by decide) (hg _ tw_329) (fun _ h9 => h9) rfl dX2_sumError_24 ?_
    refine lv_iload_n hx hb dX2_sumError_27 rfl (lv_at hl 2 rfl) ?_
    obtain ⟨z_28, h⟩ := of_ite h
    refine va_iald hx hb hK hP 3 0 rfl rfl (ok_in z_28) dX2_sumError_28 ?_
    refine lv_goto (tgt := 38) hx hb dX2_sumError_29 (by decide) ?_
    refine lv_istore (lv' := [(4, .int (po_1 x1.toNatClampNeg)), (3, .int r_1), (0, .ref (ad 0)), (1, .int x1), (2, .int x2)]) hx hb dX2_sumError_38 hl (by decide) rfl (fun ls hl => ?_)
    refine lv_aload_n hx hb dX2_sumError_40 rfl (lv_at hl 2 rfl) ?_
    refine lv_iload_n hx hb dX2_sumError_41 rfl (lv_at hl 1 rfl) ?_
    refine lv_iload hx hb dX2_sumError_42 (lv_at hl 0 rfl) ?_
    refine lv_iconst (v := 0) hx hb dX2_sumError_44 (by decide) ?_
    obtain ⟨r_5, th_5, mi_5, di_5, po_5, be_5, mm_5, ee_5, fa_5, fb_5, h_r_5, h⟩ := of_bM h
    refine callMM C hK hX hP hD hS hA (cX2_nearest_met l ck ad _ _ _ _ _ _ _ _ _ _ _ _ _ h_r_5) vc_X2_nearest tw_375 (by decide) rfl hl.1 (rest := []) rfl (Nat.le_of_ble_eq_true rfl) (by decide) dX2_sumError_45 (fun H locs hP hD hS => ?_)
    have hP : va_P D vwCl (wM ck ad th_5 mi_5 di_5 po_5 be_5 mm_5 ee_5 fa_5 fb_5) H := hP
    have hD : va_D A (wM ck ad th_5 mi_5 di_5 po_5 be_5 mm_5 ee_5 fa_5 fb_5) := hD
    refine W.eq (g2 := F0 m 48 ls [.int r_5]) rfl ?_
    refine lv_iconst (v := (-1)) hx hb dX2_sumError_48 (by decide) ?_
    refine lv_icmp_ne (tgt := 54) hx hb dX2_sumError_49 (by decide) (fun c_3 => ?_) (fun c_3 => ?_)
    · rw [if_neg c_3] at h
      refine lv_aload_n hx hb dX2_sumError_54 rfl (lv_at hl 2 rfl) ?_
      refine lv_iload hx hb dX2_sumError_55 (lv_at hl 0 rfl) ?_
      obtain ⟨th_6, mi_6, di_6, po_6, be_6, mm_6, ee_6, fa_6, fb_6, h_r_6, h⟩ := of_bMv h
      refine callMM C hK hX hP hD hS hA (cX2_lower_met l ck ad _ _ _ _ _ _ _ _ _ _ _ h_r_6) vc_X2_lower tw_490 (by decide) rfl hl.1 (rest := []) rfl (Nat.le_of_ble_eq_true rfl) (by decide) dX2_sumError_57 (fun H locs hP hD hS => ?_)
      have hP : va_P D vwCl (wM ck ad th_6 mi_6 di_6 po_6 be_6 mm_6 ee_6 fa_6 fb_6) H := hP
      have hD : va_D A (wM ck ad th_6 mi_6 di_6 po_6 be_6 mm_6 ee_6 fa_6 fb_6) := hD
      refine W.eq (g2 := F0 m 60 ls []) rfl ?_
      refine lv_aload_n hx hb dX2_sumError_60 rfl (lv_at hl 2 rfl) ?_
      refine lv_iload_n hx hb dX2_sumError_61 rfl (lv_at hl 1 rfl) ?_
      refine lv_iload hx hb dX2_sumError_62 (lv_at hl 0 rfl) ?_
      obtain ⟨r_7, th_7, mi_7, di_7, po_7, be_7, mm_7, ee_7, fa_7, fb_7, h_r_7, h⟩ := of_bM h
      refine callMM C hK hX hP hD hS hA (cX2_errorOf_met l ck ad _ _ _ _ _ _ _ _ _ _ _ _ h_r_7) vc_X2_errorOf tw_494 (by decide) rfl hl.1 (rest := []) rfl (Nat.le_of_ble_eq_true rfl) (by decide) dX2_sumError_64 (fun H locs hP hD hS => ?_)
      have hP : va_P D vwCl (wM ck ad th_7 mi_7 di_7 po_7 be_7 mm_7 ee_7 fa_7 fb_7) H := hP
      have hD : va_D A (wM ck ad th_7 mi_7 di_7 po_7 be_7 mm_7 ee_7 fa_7 fb_7) := hD
      refine W.eq (g2 := F0 m 67 ls [.int r_7]) rfl ?_
      cases h
      exact W.iret hx hb hr (fun t ht _ => ⟨rfl, by rw [ht]; exact hP, hD, hS.F ht⟩) hS.2.2 dX2_sumError_67
    · rw [if_pos c_3] at h
      refine lv_iconst (v := (-1)) hx hb dX2_sumError_52 (by decide) ?_
      cases h
      exact W.iret hx hb hr (fun t ht _ => ⟨rfl, by rw [ht]; exact hP, hD, hS.F ht⟩) hS.2.2 dX2_sumError_53
theorem vc_X2_sumError : VC RX2 yX2_sumError cX2_sumError 5 (some .int) 2 := ⟨tw_488, ts_18, tw_2, tw_489, by decide +kernel⟩
theorem cX2_sumError_met (l : Launch) (ck : Nat → ClassId) (ad : Nat → Nat) (th : Int32) (mi : NI) (di : NL) (po : NI) (be : Int32) (mm : Int64) (ee : Int32) (fa : NI) (fb : NI) (x1 : Int32) (x2 : Int32) (u : Int32 × Int32 × NI × NL × NI × Int32 × Int64 × Int32 × NI × NI) (h : jX2_sumError th mi di po be mm ee fa fb x1 x2 = some u) : HM l yX2_sumError cX2_sumError 5 (some .int) (rmz 4 94) [.ref (ad 0), .int x1, .int x2] (tyM ck) (wM ck ad th mi di po be mm ee fa fb) (some (.int u.1)) (wM ck ad u.2.1 u.2.2.1 u.2.2.2.1 u.2.2.2.2.1 u.2.2.2.2.2.1 u.2.2.2.2.2.2.1 u.2.2.2.2.2.2.2.1 u.2.2.2.2.2.2.2.2.1 u.2.2.2.2.2.2.2.2.2) :=
  hm_of (own := RX2) (by decide +kernel) rfl (Nat.le_of_ble_eq_true rfl) (fun D A p e s m below meth c ls C hA hK hX hP hD hS hl => wX2_sumError_0 C hA hK hX th mi di po be mm ee fa fb x1 x2 ls _ _ u hP hD hS hl h)

/-! RealDeskModel.productError(II)I -/
def jX2_productError (th : Int32) (mi : NI) (di : NL) (po : NI) (be : Int32) (mm : Int64) (ee : Int32) (fa : NI) (fb : NI) (x1 : Int32) (x2 : Int32) : Option (Int32 × Int32 × NI × NL × NI × Int32 × Int64 × Int32 × NI × NI) := (bM (jX2_product th mi di po be mm ee fa fb x1 x2) fun r_1 th_1 mi_1 di_1 po_1 be_1 mm_1 ee_1 fa_1 fb_1 => (if r_1 = (-1) then some ((-1), th_1, mi_1, di_1, po_1, be_1, mm_1, ee_1, fa_1, fb_1) else (if ok x1 16 = true then (if (di_1 x1.toNatClampNeg) = 0 then (bM (jX2_settle th_1 mi_1 di_1 po_1 be_1 mm_1 ee_1 fa_1 fb_1) fun r_2 th_2 mi_2 di_2 po_2 be_2 mm_2 ee_2 fa_2 fb_2 => some (r_2, th_2, mi_2, di_2, po_2, be_2, mm_2, ee_2, fa_2, fb_2)) else (if ok x2 16 = true then (if (di_1 x2.toNatClampNeg) = 0 then (bM (jX2_settle th_1 mi_1 di_1 po_1 be_1 mm_1 ee_1 fa_1 fb_1) fun r_6 th_6 mi_6 di_6 po_6 be_6 mm_6 ee_6 fa_6 fb_6 => some (r_6, th_6, mi_6, di_6, po_6, be_6, mm_6, ee_6, fa_6, fb_6)) else (if ok x1 16 = true then (if ok x2 16 = true then (b2 (jX1_length fa_1) fun r_3 fa_3 => (if (-960) ≤ ((r_3 - 1) + ((po_1 x1.toNatClampNeg) + (po_1 x2.toNatClampNeg))) then (bMv (jX2_lower th_1 mi_1 di_1 po_1 be_1 mm_1 ee_1 fa_3 fb_1 ((po_1 x1.toNatClampNeg) + (po_1 x2.toNatClampNeg))) fun th_4 mi_4 di_4 po_4 be_4 mm_4 ee_4 fa_4 fb_4 => (bM (jX2_errorOf th_4 mi_4 di_4 po_4 be_4 mm_4 ee_4 fa_4 fb_4 be_4 ((po_1 x1.toNatClampNeg) + (po_1 x2.toNatClampNeg))) fun r_5 th_5 mi_5 di_5 po_5 be_5 mm_5 ee_5 fa_5 fb_5 => some (r_5, th_5, mi_5, di_5, po_5, be_5, mm_5, ee_5, fa_5, fb_5))) else some ((-4), th_1, mi_1, di_1, po_1, be_1, mm_1, ee_1, fa_3, fb_1))) else none) else none)) else none)) else none)))
set_option maxHeartbeats 4000000 in
set_option maxRecDepth 100000 in
theorem wX2_productError_0 {p : Program} {l : Launch} {e : Env} {s : State} {m : MethodId} {args : Array Value} {below : List Frame} {meth : Method} {c : Code} {D : va_G} {A : Nat → Prop} {ck : Nat → ClassId} {ad : Nat → Nat} (C : CX p s m args meth c RX2 cX2_productError 4 (some .int)) (hA : ∀ q, s.heap.size ≤ q → A q) (hK : va_K D vwCl (tyM ck) s) (hX : XT s) (th : Int32) (mi : NI) (di : NL) (po : NI) (be : Int32) (mm : Int64) (ee : Int32) (fa : NI) (fb : NI) (x1 : Int32) (x2 : Int32) (ls : Array Slot) (H : Heap) (locs : List Loc) (u : Int32 × Int32 × NI × NL × NI × Int32 × Int64 × Int32 × NI × NI) (hP : va_P D vwCl (wM ck ad th mi di po be mm ee fa fb) H) (hD : va_D A (wM ck ad th mi di po be mm ee fa fb)) (hS : va_S A s.heap H locs) (hl : lv_has ls 4 [(0, .ref (ad 0)), (1, .int x1), (2, .int x2)]) (h : jX2_productError th mi di po be mm ee fa fb x1 x2 = some u) : W p l e (rmz 4 94) s m args below meth c H locs 0 0 (MQ below (HQ D A (wM ck ad u.2.1 u.2.2.1 u.2.2.2.1 u.2.2.2.2.1 u.2.2.2.2.2.1 u.2.2.2.2.2.2.1 u.2.2.2.2.2.2.2.1 u.2.2.2.2.2.2.2.2.1 u.2.2.2.2.2.2.2.2.2) (some (.int u.1))) args s 0 0 A) (F0 m 0 ls []) := by
  obtain ⟨hx, hb, hml, hown, hg, hr, hlocks⟩ := id C
  unfold jX2_productError at h
  refine lv_aload_n hx hb dX2_productError_0 rfl (lv_at hl 0 rfl) ?_
  refine lv_iload_n hx hb dX2_productError_1 rfl (lv_at hl 1 rfl) ?_
  refine lv_iload_n hx hb dX2_productError_2 rfl (lv_at hl 2 rfl) ?_
  obtain ⟨r_1, th_1, mi_1, di_1, po_1, be_1, mm_1, ee_1, fa_1, fb_1, h_r_1, h⟩ := of_bM h
  refine callMM C hK hX hP hD hS hA (cX2_product_met l ck ad _ _ _ _ _ _ _ _ _ _ _ _ h_r_1) vc_X2_product tw_444 (by decide) rfl hl.1 (rest := []) rfl (Nat.le_of_ble_eq_true rfl) (by decide) dX2_productError_3 (fun H locs hP hD hS => ?_)
  have hP : va_P D vwCl (wM ck ad th_1 mi_1 di_1 po_1 be_1 mm_1 ee_1 fa_1 fb_1) H := hP
  have hD : va_D A (wM ck ad th_1 mi_1 di_1 po_1 be_1 mm_1 ee_1 fa_1 fb_1) := hD
  refine W.eq (g2 := F0 m 6 ls [.int r_1]) rfl ?_
  refine lv_iconst (v := (-1)) hx hb dX2_productError_6 (by decide) ?_
  refine lv_icmp_ne (tgt := 12) hx hb dX2_productError_7 (by decide) (fun c_1 => ?_) (fun c_1 => ?_)
  · rw [if_neg c_1] at h
    refine lv_aload_n hx hb dX2_productError_12 rfl (lv_at hl 0 rfl) ?_
    refine va_get hx hb hg inX2 hown hK hP 0 rfl rfl 2 (by decide) (hg _ tw_328) (fun _ h9 => h9) rfl dX2_productError_13 ?_
    refine lv_iload_n hx hb dX2_productError_16 rfl (lv_at hl 1 rfl) ?_
    obtain ⟨z_17, h⟩ := of_ite h
    refine va_lald hx hb hK hP 2 1 rfl rfl (ok_in z_17) dX2_productError_17 ?_
    refine lv_lconst (v := 0) hx hb dX2_productError_18 (by decide) ?_
    refine lc_eq (tgt := 34) hx hb dX2_productError_19 dX2_productError_20 (by decide) (fun c_2 => ?_) (fun c_2 => ?_)
    · rw [if_pos c_2] at h
      refine lv_aload_n hx hb dX2_productError_34 rfl (lv_at hl 0 rfl) ?_
      obtain ⟨r_2, th_2, mi_2, di_2, po_2, be_2, mm_2, ee_2, fa_2, fb_2, h_r_2, h⟩ := of_bM h
      refine callMM C hK hX hP hD hS hA (cX2_settle_met l ck ad _ _ _ _ _ _ _ _ _ _ h_r_2) vc_X2_settle tw_398 (by decide) rfl hl.1 (rest := []) rfl (Nat.le_of_ble_eq_true rfl) (by decide) dX2_productError_35 (fun H locs hP hD hS => ?_)
      have hP : va_P D vwCl (wM ck ad th_2 mi_2 di_2 po_2 be_2 mm_2 ee_2 fa_2 fb_2) H := hP
      have hD : va_D A (wM ck ad th_2 mi_2 di_2 po_2 be_2 mm_2 ee_2 fa_2 fb_2) := hD
      refine W.eq (g2 := F0 m 38 ls [.int r_2]) rfl ?_
      cases h
      exact W.iret hx hb hr (fun t ht _ => ⟨rfl, by rw [ht]; exact hP, hD, hS.F ht⟩) hS.2.2 dX2_productError_38
    · rw [if_neg c_2] at h
      refine lv_aload_n hx hb dX2_productError_23 rfl (lv_at hl 0 rfl) ?_
      refine va_get hx hb hg inX2 hown hK hP 0 rfl rfl 2 (by decide) (hg _ tw_328) (fun _ h9 => h9) rfl dX2_productError_24 ?_
      refine lv_iload_n hx hb dX2_productError_27 rfl (lv_at hl 2 rfl) ?_
      obtain ⟨z_28, h⟩ := of_ite h
      refine va_lald hx hb hK hP 2 1 rfl rfl (ok_in z_28) dX2_productError_28 ?_
      refine lv_lconst (v := 0) hx hb dX2_productError_29 (by decide) ?_
      refine lc_ne (tgt := 39) hx hb dX2_productError_30 dX2_productError_31 (by decide) (fun c_3 => ?_) (fun c_3 => ?_)
      · rw [if_neg c_3] at h
        refine lv_aload_n hx hb dX2_productError_39 rfl (lv_at hl 0 rfl) ?_
        refine va_get hx hb hg inX2 hown hK hP 0 rfl rfl 3 (by decide) (hg _ tw_329) (fun _ h9 => h9) rfl dX2_productError_40 ?_
        refine lv_iload_n hx hb dX2_productError_43 rfl (lv_at hl 1 rfl) ?_
        obtain ⟨z_44, h⟩ := of_ite h
        refine va_iald hx hb hK hP 3 0 rfl rfl (ok_in z_44) dX2_productError_44 ?_
        refine lv_aload_n hx hb dX2_productError_45 rfl (lv_at hl 0 rfl) ?_
        refine va_get hx hb hg inX2 hown hK hP 0 rfl rfl 3 (by decide) (hg _ tw_329) (fun _ h9 => h9) rfl dX2_productError_46 ?_
        refine lv_iload_n hx hb dX2_productError_49 rfl (lv_at hl 2 rfl) ?_
        obtain ⟨z_50, h⟩ := of_ite h
        refine va_iald hx hb hK hP 3 0 rfl rfl (ok_in z_50) dX2_productError_50 ?_
        refine lv_iadd hx hb dX2_productError_51 ?_
        refine lv_istore_n (lv' := [(3, .int ((po_1 x1.toNatClampNeg) + (po_1 x2.toNatClampNeg))), (0, .ref (ad 0)), (1, .int x1), (2, .int x2)]) hx hb dX2_productError_52 rfl hl (by decide) rfl (fun ls hl => ?_)
        refine lv_aload_n hx hb dX2_productError_53 rfl (lv_at hl 1 rfl) ?_
        refine va_get hx hb hg inX2 hown hK hP 0 rfl rfl 7 (by decide) (hg _ tw_333) (fun _ h9 => h9) rfl dX2_productError_54 ?_
        obtain ⟨r_3, fa_3, h_r_3, h⟩ := of_b2 h
        refine callMa C hK hX hP hD hS hA (cX1_length_met l ck (fun i => ad (i + 4)) _ _ h_r_3) vc_X1_length tw_379 (by decide) rfl hl.1 (rest := []) rfl (Nat.le_of_ble_eq_true rfl) (by decide) dX2_productError_57 (fun H locs hP hD hS => ?_)
        have hP : va_P D vwCl (wM ck ad th_1 mi_1 di_1 po_1 be_1 mm_1 ee_1 fa_3 fb_1) H := hP
        have hD : va_D A (wM ck ad th_1 mi_1 di_1 po_1 be_1 mm_1 ee_1 fa_3 fb_1) := hD
        refine W.eq (g2 := F0 m 60 ls [.int r_3]) rfl ?_
        refine lv_iconst (v := 1) hx hb dX2_productError_60 (by decide) ?_
        refine lv_isub hx hb dX2_productError_61 ?_
        refine lv_iload_n hx hb dX2_productError_62 rfl (lv_at hl 0 rfl) ?_
        refine lv_iadd hx hb dX2_productError_63 ?_
        refine lv_sipush (v := (-960)) hx hb dX2_productError_64 (by decide) ?_
        refine lv_icmp_ge (tgt := 73) hx hb dX2_productError_67 (by decide) (fun c_4 => ?_) (fun c_4 => ?_)
        · rw [if_pos c_4] at h
          refine lv_aload_n hx hb dX2_productError_73 rfl (lv_at hl 1 rfl) ?_
          refine lv_iload_n hx hb dX2_productError_74 rfl (lv_at hl 0 rfl) ?_
          obtain ⟨th_4, mi_4, di_4, po_4, be_4, mm_4, ee_4, fa_4, fb_4, h_r_4, h⟩ := of_bMv h
          refine callMM C hK hX hP hD hS hA (cX2_lower_met l ck ad _ _ _ _ _ _ _ _ _ _ _ h_r_4) vc_X2_lower tw_490 (by decide) rfl hl.1 (rest := []) rfl (Nat.le_of_ble_eq_true rfl) (by decide) dX2_productError_75 (fun H locs hP hD hS => ?_)
          have hP : va_P D vwCl (wM ck ad th_4 mi_4 di_4 po_4 be_4 mm_4 ee_4 fa_4 fb_4) H := hP
          have hD : va_D A (wM ck ad th_4 mi_4 di_4 po_4 be_4 mm_4 ee_4 fa_4 fb_4) := hD
          refine W.eq (g2 := F0 m 78 ls []) rfl ?_
          refine lv_aload_n hx hb dX2_productError_78 rfl (lv_at hl 1 rfl) ?_
          refine lv_aload_n hx hb dX2_productError_79 rfl (lv_at hl 1 rfl) ?_
          refine va_get hx hb hg inX2 hown hK hP 0 rfl rfl 4 (by decide) (hg _ tw_330) (fun _ h9 => h9) rfl dX2_productError_80 ?_
          refine lv_iload_n hx hb dX2_productError_83 rfl (lv_at hl 0 rfl) ?_
          obtain ⟨r_5, th_5, mi_5, di_5, po_5, be_5, mm_5, ee_5, fa_5, fb_5, h_r_5, h⟩ := of_bM h
          refine callMM C hK hX hP hD hS hA (cX2_errorOf_met l ck ad _ _ _ _ _ _ _ _ _ _ _ _ h_r_5) vc_X2_errorOf tw_494 (by decide) rfl hl.1 (rest := []) rfl (Nat.le_of_ble_eq_true rfl) (by decide) dX2_productError_84 (fun H locs hP hD hS => ?_)
          have hP : va_P D vwCl (wM ck ad th_5 mi_5 di_5 po_5 be_5 mm_5 ee_5 fa_5 fb_5) H := hP
          have hD : va_D A (wM ck ad th_5 mi_5 di_5 po_5 be_5 mm_5 ee_5 fa_5 fb_5) := hD
          refine W.eq (g2 := F0 m 87 ls [.int r_5]) rfl ?_
          cases h
          exact W.iret hx hb hr (fun t ht _ => ⟨rfl, by rw [ht]; exact hP, hD, hS.F ht⟩) hS.2.2 dX2_productError_87
        · rw [if_neg c_4] at h
          refine lv_bipush (v := (-4)) hx hb dX2_productError_70 (by decide) ?_
          cases h
          exact W.iret hx hb hr (fun t ht _ => ⟨rfl, by rw [ht]; exact hP, hD, hS.F ht⟩) hS.2.2 dX2_productError_72
      · rw [if_pos c_3] at h
        refine lv_aload_n hx hb dX2_productError_34 rfl (lv_at hl 0 rfl) ?_
        obtain ⟨r_6, th_6, mi_6, di_6, po_6, be_6, mm_6, ee_6, fa_6, fb_6, h_r_6, h⟩ := of_bM h
        refine callMM C hK hX hP hD hS hA (cX2_settle_met l ck ad _ _ _ _ _ _ _ _ _ _ h_r_6) vc_X2_settle tw_398 (by decide) rfl hl.1 (rest := []) rfl (Nat.le_of_ble_eq_true rfl) (by decide) dX2_productError_35 (fun H locs hP hD hS => ?_)
        have hP : va_P D vwCl (wM ck ad th_6 mi_6 di_6 po_6 be_6 mm_6 ee_6 fa_6 fb_6) H := hP
        have hD : va_D A (wM ck ad th_6 mi_6 di_6 po_6 be_6 mm_6 ee_6 fa_6 fb_6) := hD
        refine W.eq (g2 := F0 m 38 ls [.int r_6]) rfl ?_
        cases h
        exact W.iret hx hb hr (fun t ht _ => ⟨rfl, by rw [ht]; exact hP, hD, hS.F ht⟩) hS.2.2 dX2_productError_38
  · rw [if_pos c_1] at h
    refine lv_iconst (v := (-1)) hx hb dX2_productError_10 (by decide) ?_
    cases h
    exact W.iret hx hb hr (fun t ht _ => ⟨rfl, by rw [ht]; exact hP, hD, hS.F ht⟩) hS.2.2 dX2_productError_11
theorem vc_X2_productError : VC RX2 yX2_productError cX2_productError 4 (some .int) 2 := ⟨tw_500, ts_21, tw_2, tw_501, by decide +kernel⟩
theorem cX2_productError_met (l : Launch) (ck : Nat → ClassId) (ad : Nat → Nat) (th : Int32) (mi : NI) (di : NL) (po : NI) (be : Int32) (mm : Int64) (ee : Int32) (fa : NI) (fb : NI) (x1 : Int32) (x2 : Int32) (u : Int32 × Int32 × NI × NL × NI × Int32 × Int64 × Int32 × NI × NI) (h : jX2_productError th mi di po be mm ee fa fb x1 x2 = some u) : HM l yX2_productError cX2_productError 4 (some .int) (rmz 4 94) [.ref (ad 0), .int x1, .int x2] (tyM ck) (wM ck ad th mi di po be mm ee fa fb) (some (.int u.1)) (wM ck ad u.2.1 u.2.2.1 u.2.2.2.1 u.2.2.2.2.1 u.2.2.2.2.2.1 u.2.2.2.2.2.2.1 u.2.2.2.2.2.2.2.1 u.2.2.2.2.2.2.2.2.1 u.2.2.2.2.2.2.2.2.2) :=
  hm_of (own := RX2) (by decide +kernel) rfl (Nat.le_of_ble_eq_true rfl) (fun D A p e s m below meth c ls C hA hK hX hP hD hS hl => wX2_productError_0 C hA hK hX th mi di po be mm ee fa fb x1 x2 ls _ _ u hP hD hS hl h)
