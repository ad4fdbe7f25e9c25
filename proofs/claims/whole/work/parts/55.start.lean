/-! the law's start: what the Statement gives, the objects that the law makes -/
theorem lw_flags {l : Launch} (h : l.flags = flags0) : l.stackTraces = false := by
  unfold Launch.stackTraces
  rw [h]
  decide +kernel
theorem tb_in {w : Cond} {k : Nat} (h : tables_1[k]? = some w) : w ∈ lw_tbl := List.mem_append_right _ (List.mem_of_getElem? h)
theorem arr_of {args : Array Value} {s : State} {ty : FieldType} (h : (Cond.arrayClass ty).before args s = true) : ∃ c, ArrOfT s c ty ∧ s.vm.findClass ("[" ++ ty.toString) = some c := by
  obtain ⟨c, k, comp, h1, h2, h3⟩ := Cond.arrayClass_spec h
  exact ⟨c, fun n z => ⟨fun k9 h9 => (nomatch h9), k, h2, comp, h3⟩, h1⟩
theorem str_of {args : Array Value} {s : State} {k : Nat} {tx : String} (h1 : (Cond.stringRef "RealDesk" k tx).before args s = true) (h2 : (Cond.exactly (.string "RealDesk" k) "java/lang/String").before args s = true) : ∃ a, vk_R "RealDesk" k tx a s := by
  obtain ⟨a, c, cell, k9, ha, -⟩ := Cond.exactly_spec h2
  exact ⟨a, vk_R.of h1 ha⟩
def sel7 (a0 a1 a2 a3 a4 a5 a6 : Nat) (i : Nat) : Nat := match i with
  | 0 => a0
  | 1 => a1
  | 2 => a2
  | 3 => a3
  | 4 => a4
  | 5 => a5
  | _ => a6
def sel4 (a0 a1 a2 a3 : ClassId) (i : Nat) : ClassId := match i with
  | 0 => a0
  | 1 => a1
  | 2 => a2
  | _ => a3
def sel3 {α : Type} (a0 a1 a2 : α) (i : Nat) : α := match i with
  | 0 => a0
  | 1 => a1
  | _ => a2
def adW (q0 q1 q2 q3 m0 m1 m2 m3 m4 m5 m6 m7 : Nat) (i : Nat) : Nat := match i with
  | 0 => q0
  | 1 => q1
  | 2 => q2
  | 3 => q3
  | 4 => m0
  | 5 => m1
  | 6 => m2
  | 7 => m3
  | 8 => m4
  | 9 => m5
  | 10 => m6
  | _ => m7
set_option maxHeartbeats 4000000 in
set_option maxRecDepth 100000 in
theorem law_LX {p : Program} {s : State} {m : MethodId} {meth : Method} {c : Code} {l : Launch} {b L : Nat} {xs : Nat → Int32} (hl0 : l.stackTraces = false) (C0 : lw_At p s m meth c b L xs) : ∃ (D : va_G) (ck : Nat → ClassId) (sa : Nat → Nat), LX p l s m meth c b L xs D ck sa := by
  obtain ⟨hx, hb, hr, hml, hown, hts, hX, hbl, hlocks, hgv⟩ := id C0
  have hs := flat_of_before _ hgv
  have hg : ∀ w ∈ gtbl, w.before #[Value.ref b] s = true := fun w hw => hts w (gt_in hw)
  obtain ⟨c0, iS0, hKn0⟩ := u_known (C := RX0) (T := TX0) (N := 1) (n := 1) hg inX0 (hg _ tw_13)
  obtain ⟨c1, iS1, hKn1⟩ := u_known (C := RX1) (T := TX1) (N := 1) (n := 1) hg inX1 (hg _ tw_314)
  obtain ⟨c2, iS2, hKn2⟩ := u_known (C := RX2) (T := TX2) (N := 9) (n := 9) hg inX2 (hg _ tw_308)
  obtain ⟨kI, aI, fI⟩ := arr_of (hg _ tw_325)
  obtain ⟨kJ, aJ, fJ⟩ := arr_of (hg _ tw_24)
  obtain ⟨kZ, aZ, fZ⟩ := arr_of (hg _ tw_324)
  obtain ⟨kD, aD, fD⟩ := arr_of (hg _ tw_564)
  obtain ⟨s0, hs0⟩ := str_of (hts _ (tb_in (k := 76) rfl)) (hs (.exactly (.string "RealDesk" 105) "java/lang/String") (by decide +kernel))
  obtain ⟨s1, hs1⟩ := str_of (hts _ (tb_in (k := 105) rfl)) (hs (.exactly (.string "RealDesk" 23) "java/lang/String") (by decide +kernel))
  obtain ⟨s2, hs2⟩ := str_of (hts _ (tb_in (k := 106) rfl)) (hs (.exactly (.string "RealDesk" 28) "java/lang/String") (by decide +kernel))
  obtain ⟨s3, hs3⟩ := str_of (hts _ (tb_in (k := 151) rfl)) (hs (.exactly (.string "RealDesk" 107) "java/lang/String") (by decide +kernel))
  obtain ⟨s4, hs4⟩ := str_of (hts _ (tb_in (k := 238) rfl)) (hs (.exactly (.string "RealDesk" 59) "java/lang/String") (by decide +kernel))
  obtain ⟨s5, hs5⟩ := str_of (hts _ (tb_in (k := 299) rfl)) (hs (.exactly (.string "RealDesk" 93) "java/lang/String") (by decide +kernel))
  obtain ⟨s6, hs6⟩ := str_of (hts _ (tb_in (k := 306) rfl)) (hs (.exactly (.string "RealDesk" 103) "java/lang/String") (by decide +kernel))
  have hK : va_K (sel3 c0 c1 c2, sel3 iS0 iS1 iS2) vwCl (tyW (sel4 kI kJ kZ kD)) s := by
    refine ⟨?_, ?_⟩
    · intro k q hq
      match k, hq with
      | 0, hq => cases hq; exact hKn0
      | 1, hq => cases hq; exact hKn1
      | 2, hq => cases hq; exact hKn2
      | k + 3, hq => cases hq
    · intro k q hq
      match k, hq with
      | 0, hq => cases hq; exact ⟨aI, fI⟩
      | 1, hq => cases hq; exact ⟨aJ, fJ⟩
      | 2, hq => cases hq; exact ⟨aZ, fZ⟩
      | 3, hq => cases hq; exact ⟨aD, fD⟩
      | k + 4, hq => cases hq
  refine ⟨(sel3 c0 c1 c2, sel3 iS0 iS1 iS2), sel4 kI kJ kZ kD, sel7 s0 s1 s2 s3 s4 s5 s6, ⟨hx, hb, hml, hown, hg, hr, hlocks⟩, hK, ?_, ⟨hs0, hs1, hs2, hs3, hs4, hs5, hs6⟩, ?_, hX, hbl, hl0⟩
  · exact ⟨va_Nw.of rfl (hts _ (tb_in (k := 320) rfl)), va_Nw.of rfl (hts _ (tb_in (k := 38) rfl)), va_Nw.of rfl (hts _ (tb_in (k := 292) rfl)), va_Nc.of (hs (.not (.castable ISE IAE)) (by decide +kernel)), va_Nw.of rfl (hts _ (tb_in (k := 40) rfl)), va_Nw.of rfl (hts _ (tb_in (k := 42) rfl)), va_Nw.of rfl (hts _ (tb_in (k := 44) rfl)), va_Nw.of rfl (hts _ (tb_in (k := 315) rfl))⟩
  · exact ⟨vx_Zqof (hts _ (tb_in (k := 63) rfl)) (hg _ tw_4) (hs _ (by decide +kernel)) (fun a h1 h2 => Nat.not_le.mpr h1 h2), vx_Zqof (hts _ (tb_in (k := 65) rfl)) (hg _ tw_4) (hs _ (by decide +kernel)) (fun a h1 h2 => Nat.not_le.mpr h1 h2)⟩
theorem rel_start : Rel (fun _ => 0) (fun _ => 0) (fun _ => 0) (pwi 16) := by
  intro r hr
  have e : pwi 16 r = -1074 := if_pos hr
  rw [e]
  show Rel1 0 0 0 (-1074)
  unfold Rel1
  decide
set_option maxHeartbeats 4000000 in
set_option maxRecDepth 100000 in
theorem whole_start {p : Program} {e : Env} {s : State} {m : MethodId} {below : List Frame} {meth : Method} {c : Code} (l : Launch) (hl0 : l.stackTraces = false) {b L : Nat} {xs : Nat → Int32} (hL : L ≤ 2560) (C0 : lw_At p s m meth c b L xs) : W p l e room_1 s m #[Value.ref b] below meth c s.heap [] 0 0 (lw_Z below #[Value.ref b] s) (entryFrame m ([Value.ref b] : List Value).toArray 9) := by
  obtain ⟨D, ck, sa, X⟩ := law_LX hl0 C0
  obtain ⟨C, hK, hX9, hS9, hZ9, hX, hbl, -⟩ := id X
  obtain ⟨hx, hb, hml, hown, hg, hr, hlocks⟩ := id C
  have hA : ∀ q : Nat, s.heap.size ≤ q → AA s q := fun _ h => h
  have hS : va_S (AA s) s.heap s.heap [] := va_S.rf
  have hP : va_P D vwCl [] s.heap := fun k q h => by simp at h
  have hD : va_D (AA s) [] := ⟨fun i j p q h => by simp at h, fun k q h => by simp at h⟩
  have hl := lv_entry ([.ref b]) (n := 9) (Nat.le_of_ble_eq_true rfl)
  rw [lg_entry_eq]
  generalize (lg_sl ([.ref b]) ++ List.replicate (9 - (lg_sl ([.ref b])).length) Slot.unset).toArray = ls at hl ⊢
  have hl : lv_has ls 9 [(0, .ref b)] := hl
  refine va_new (ci := 0) (fs := [.null]) (C := RX0) (T := TX0) (N := 1) hx hb hg inX0 tyX0 tyX0_ok hown (hg _ tw_12) (hg _ tw_13) (hg _ tw_1) hK hP hD hS hA rfl (fun j hj => by rcases (show j = 0 by omega) with rfl; rfl) (by decide) (by decide) dL_law_0 (fun q0 H hP hD hS => ?_)
  have hP : va_P D vwCl [(q0, .inr (0, [.null]))] H := hP
  have hD : va_D (AA s) [(q0, .inr (0, [.null]))] := hD
  refine lv_dup hx hb dL_law_3 rfl ?_
  have hPc := hP.sub (ws' := [(q0, .inr (0, [.null]))]) [0] rfl
  have hDc := hD.sub (ws' := [(q0, .inr (0, [.null]))]) [0] (by decide) rfl
  refine irun (P := fun w => ∃ q, w = [(q0, .inr (0, [.ref q])), (q, .inl (ck 1, 16, .inr (.inl (fun _ => 0))))]) (As := [.ref q0]) (mc := 1) (ms := 16) (wr := []) (wc := [(q0, .inr (0, [.null]))]) (g := F0 m 4 ls [.ref q0, .ref q0]) (rest := [.ref q0]) hP hD hS hA [0] [] rfl rfl rfl (by decide) (W.runI (Ts := gtbl) (cc := code) (nL := 9) (As := []) (rest := [.ref q0]) (b := q0) (g := F0 m 4 ls [.ref q0, .ref q0]) ⟨hx, hb, hml, hown, hg⟩ (cX0_init_met l ck q0 D H.size) (cwI 0 hg (fun w hw => gt_good w (by rcases List.mem_cons.mp hw with rfl | h9; exact tw_16; exact h9)) rfl rfl rfl (hg _ tw_1) (hg _ tw_14) (hg _ tw_15) rfl (by decide +kernel) (by decide))
      ⟨HP.blind, fun U hU hW9 => ⟨rfl, by rw [hU], by rw [hU]; exact hPc, (va_K.moved hW9.alike hK).sub [1] rfl, hDc.weaken (fun _ _ _ _ => trivial), hX9.warm hW9⟩⟩ rfl rfl hl.1 rfl (lv_room (Nat.le_of_ble_eq_true rfl)) dL_law_4 (by decide)) (fun w1 H locs hw hP hD hS => ?_)
  obtain ⟨p0, rfl⟩ := hw
  have hP : va_P D vwCl [(q0, .inr (0, [.ref p0])), (p0, .inl (ck 1, 16, .inr (.inl (fun _ => 0))))] H := hP
  have hD : va_D (AA s) [(q0, .inr (0, [.ref p0])), (p0, .inl (ck 1, 16, .inr (.inl (fun _ => 0))))] := hD
  refine W.eq (g2 := F0 m 7 ls [.ref q0]) rfl ?_
  refine lv_astore_n (lv' := [(1, .ref q0), (0, .ref b)]) hx hb dL_law_7 rfl hl (by decide) rfl (fun ls hl => ?_)
  refine va_new (ci := 2) (fs := [.int 0, .null, .null, .null, .int 0, .long 0, .int 0, .null, .null]) (C := RX2) (T := TX2) (N := 9) hx hb hg inX2 tyX2 tyX2_ok hown (hg _ tw_307) (hg _ tw_308) (hg _ tw_2) hK hP hD hS hA rfl (fun j hj => by rcases (show j = 0 ∨ j = 1 ∨ j = 2 ∨ j = 3 ∨ j = 4 ∨ j = 5 ∨ j = 6 ∨ j = 7 ∨ j = 8 by omega) with rfl | rfl | rfl | rfl | rfl | rfl | rfl | rfl | rfl <;> rfl) (by decide) (by decide) dL_law_8 (fun q2 H hP hD hS => ?_)
  have hP : va_P D vwCl [(q0, .inr (0, [.ref p0])), (p0, .inl (ck 1, 16, .inr (.inl (fun _ => 0)))), (q2, .inr (2, [.int 0, .null, .null, .null, .int 0, .long 0, .int 0, .null, .null]))] H := hP
  have hD : va_D (AA s) [(q0, .inr (0, [.ref p0])), (p0, .inl (ck 1, 16, .inr (.inl (fun _ => 0)))), (q2, .inr (2, [.int 0, .null, .null, .null, .int 0, .long 0, .int 0, .null, .null]))] := hD
  refine lv_dup hx hb dL_law_11 rfl ?_
  have hPc := hP.sub (ws' := [(q2, .inr (2, [.int 0, .null, .null, .null, .int 0, .long 0, .int 0, .null, .null]))]) [2] rfl
  have hDc := hD.sub (ws' := [(q2, .inr (2, [.int 0, .null, .null, .null, .int 0, .long 0, .int 0, .null, .null]))]) [2] (by decide) rfl
  refine irun (P := MIP ck q2) (As := [.ref q2]) (mc := 7) (ms := 330) (wr := [(q0, .inr (0, [.ref p0])), (p0, .inl (ck 1, 16, .inr (.inl (fun _ => 0))))]) (wc := [(q2, .inr (2, [.int 0, .null, .null, .null, .int 0, .long 0, .int 0, .null, .null]))]) (g := F0 m 12 ls [.ref q2, .ref q2]) (rest := [.ref q2]) hP hD hS hA [2] [0, 1] rfl rfl rfl (by decide) (W.runI (Ts := gtbl) (cc := code) (nL := 9) (As := []) (rest := [.ref q2]) (b := q2) (g := F0 m 12 ls [.ref q2, .ref q2]) ⟨hx, hb, hml, hown, hg⟩ (cX2_init_met l ck q2 D H.size) (cwI 0 hg (fun w hw => gt_good w (by rcases List.mem_cons.mp hw with rfl | h9; exact tw_311; exact h9)) rfl rfl rfl (hg _ tw_2) (hg _ tw_309) (hg _ tw_310) rfl (by decide +kernel) (by decide))
      ⟨HP.blind, fun U hU hW9 => ⟨rfl, by rw [hU], by rw [hU]; exact hPc, (va_K.moved hW9.alike hK).sub [0, 1, 2] rfl, hDc.weaken (fun _ _ _ _ => trivial), hX9.warm hW9⟩⟩ rfl rfl hl.1 rfl (lv_room (Nat.le_of_ble_eq_true rfl)) dL_law_12 (by decide)) (fun w1 H locs hw hP hD hS => ?_)
  obtain ⟨m1, m2, m3, m4, m5, m6, m7, rfl⟩ := hw
  have hP : va_P D vwCl ([(q0, .inr (0, [.ref p0])), (p0, .inl (ck 1, 16, .inr (.inl (fun _ => 0))))] ++ wM ck (adM q2 m1 m2 m3 m4 m5 m6 m7) 0 (fun _ => 0) (fun _ => 0) (pwi 16) 0 0 0 (fun _ => 0) (fun _ => 0)) H := hP
  have hD : va_D (AA s) ([(q0, .inr (0, [.ref p0])), (p0, .inl (ck 1, 16, .inr (.inl (fun _ => 0))))] ++ wM ck (adM q2 m1 m2 m3 m4 m5 m6 m7) 0 (fun _ => 0) (fun _ => 0) (pwi 16) 0 0 0 (fun _ => 0) (fun _ => 0)) := hD
  refine W.eq (g2 := F0 m 15 ls [.ref q2]) rfl ?_
  refine lv_astore_n (lv' := [(2, .ref q2), (1, .ref q0), (0, .ref b)]) hx hb dL_law_15 rfl hl (by decide) rfl (fun ls hl => ?_)
  refine lv_iconst (v := 1) hx hb dL_law_16 (by decide) ?_
  refine newa2 (atype := .long) hx hb (hg _ tw_24) (hK.2 1 _ rfl).2 hP hD hS hA (N' := 1) (a0 := (1, .inr (.inl (fun _ => 0)))) rfl (by decide) (by decide) (Nat.le_of_ble_eq_true rfl) (Nat.le_of_ble_eq_true rfl) (Nat.le_of_ble_eq_true rfl) dL_law_17 (fun qo H hP hD hS => ?_)
  have hP : va_P D vwCl ([(q0, .inr (0, [.ref p0])), (p0, .inl (ck 1, 16, .inr (.inl (fun _ => 0))))] ++ wM ck (adM q2 m1 m2 m3 m4 m5 m6 m7) 0 (fun _ => 0) (fun _ => 0) (pwi 16) 0 0 0 (fun _ => 0) (fun _ => 0) ++ [(qo, .inl (ck 1, 1, .inr (.inl (fun _ => 0))))]) H := hP
  have hD : va_D (AA s) ([(q0, .inr (0, [.ref p0])), (p0, .inl (ck 1, 16, .inr (.inl (fun _ => 0))))] ++ wM ck (adM q2 m1 m2 m3 m4 m5 m6 m7) 0 (fun _ => 0) (fun _ => 0) (pwi 16) 0 0 0 (fun _ => 0) (fun _ => 0) ++ [(qo, .inl (ck 1, 1, .inr (.inl (fun _ => 0))))]) := hD
  refine lv_astore_n (lv' := [(3, .ref qo), (2, .ref q2), (1, .ref q0), (0, .ref b)]) hx hb dL_law_19 rfl hl (by decide) rfl (fun ls hl => ?_)
  refine lv_iconst (v := 1) hx hb dL_law_20 (by decide) ?_
  refine newa2 (atype := .double) hx hb (hg _ tw_564) (hK.2 3 _ rfl).2 hP hD hS hA (N' := 1) (a0 := (1, .inr (.inr (.inr (.inl (fun _ => 0)))))) rfl (by decide) (by decide) (Nat.le_of_ble_eq_true rfl) (Nat.le_of_ble_eq_true rfl) (Nat.le_of_ble_eq_true rfl) dL_law_21 (fun qd H hP hD hS => ?_)
  have hP : va_P D vwCl ([(q0, .inr (0, [.ref p0])), (p0, .inl (ck 1, 16, .inr (.inl (fun _ => 0))))] ++ wM ck (adM q2 m1 m2 m3 m4 m5 m6 m7) 0 (fun _ => 0) (fun _ => 0) (pwi 16) 0 0 0 (fun _ => 0) (fun _ => 0) ++ [(qo, .inl (ck 1, 1, .inr (.inl (fun _ => 0))))] ++ [(qd, .inl (ck 3, 1, .inr (.inr (.inr (.inl (fun _ => 0))))))]) H := hP
  have hD : va_D (AA s) ([(q0, .inr (0, [.ref p0])), (p0, .inl (ck 1, 16, .inr (.inl (fun _ => 0))))] ++ wM ck (adM q2 m1 m2 m3 m4 m5 m6 m7) 0 (fun _ => 0) (fun _ => 0) (pwi 16) 0 0 0 (fun _ => 0) (fun _ => 0) ++ [(qo, .inl (ck 1, 1, .inr (.inl (fun _ => 0))))] ++ [(qd, .inl (ck 3, 1, .inr (.inr (.inr (.inl (fun _ => 0))))))]) := hD
  refine lv_astore (lv' := [(4, .ref qd), (3, .ref qo), (2, .ref q2), (1, .ref q0), (0, .ref b)]) hx hb dL_law_23 hl (by decide) rfl (fun ls hl => ?_)
  refine lv_iconst (v := 0) hx hb dL_law_25 (by decide) ?_
  refine lv_istore (lv' := [(5, .int 0), (4, .ref qd), (3, .ref qo), (2, .ref q2), (1, .ref q0), (0, .ref b)]) hx hb dL_law_26 hl (by decide) rfl (fun ls hl => ?_)
  have hP : va_P D vwCl (wW ck (adW q0 p0 qo qd q2 m1 m2 m3 m4 m5 m6 m7) (fun _ => 0) (fun _ => 0) (fun _ => 0) 0 (fun _ => 0) (fun _ => 0) (pwi 16) 0 0 0 (fun _ => 0) (fun _ => 0)) H := hP.sub [0, 1, 10, 11, 2, 3, 4, 5, 6, 7, 8, 9] rfl
  have hD : va_D (AA s) (wW ck (adW q0 p0 qo qd q2 m1 m2 m3 m4 m5 m6 m7) (fun _ => 0) (fun _ => 0) (fun _ => 0) 0 (fun _ => 0) (fun _ => 0) (pwi 16) 0 0 0 (fun _ => 0) (fun _ => 0)) := hD.sub [0, 1, 10, 11, 2, 3, 4, 5, 6, 7, 8, 9] (by decide) rfl
  exact law_loop hL X 515 0 (by omega) (by omega) 12 358 (by omega) (by omega) _ _ _ _ _ _ _ _ _ _ _ _ rel_start H _ ls 0 nI_0.symm hP hD hS (lv_sub hl [5, 4, 3, 2, 1, 0] rfl)
