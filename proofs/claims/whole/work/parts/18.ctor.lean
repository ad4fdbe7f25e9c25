/-! constructors: what they make -/
def IQ (D : va_G) (A : Nat → Prop) (P : va_W → Prop) : Array Value → State → Outcome → State → Prop := fun _ st o t => o = .returned none ∧ (∃ w, P w ∧ va_P D vwCl w t.heap ∧ va_D A w) ∧ va_F A st t
def IM (l : Launch) (y : MethodName) (cc : ByteArray) (n : Nat) (rm : Room) (As : List Value) (tys : List (ClassId × FieldType)) (w : va_W) (P : va_W → Prop) (mc ms : Nat) : Prop :=
  ∀ (D : va_G) (sz : Nat), Met l y (WS y cc n none) rm (va_Pc As (HP D tys w sz)) (IQ D (va_A w sz) P) mc ms (va_A w sz)
theorem im_of {l : Launch} {y : MethodName} {cc : ByteArray} {n : Nat} {own : String} {rm : Room} {As : List Value} {tys : List (ClassId × FieldType)} {w : va_W} {P : va_W → Prop} {mc ms : Nat} (hy : plainName y.cls = true) (hown : y.cls = own) (hlen : (lg_sl As).length ≤ n)
    (body : ∀ (D : va_G) (A : Nat → Prop) (p : Program) (e : Env) (s : State) (m : MethodId) (below : List Frame) (meth : Method) (c : Code) (ls : Array Slot), CX p s m As.toArray meth c own cc n none → meth.name = y.name → (∀ q, s.heap.size ≤ q → A q) → va_K D vwCl tys s → XT s → va_P D vwCl w s.heap → va_D A w → va_S A s.heap s.heap [] → lv_has ls n (lv_args 0 As) →
      W p l e rm s m As.toArray below meth c s.heap [] 0 0 (MQ below (IQ D A P) As.toArray s mc ms A) (F0 m 0 ls [])) : IM l y cc n rm As tys w P mc ms := by
  intro D sz
  refine met_of hy hown hlen (fun p e s m below meth c ls C hm hB hl => ?_)
  obtain ⟨rfl, hP, hK, hD, hX⟩ := hB
  exact body D _ p e s m below meth c ls C hm (fun q h => Or.inr h) hK hX hP hD.self va_S.rf hl
section CT
variable {p : Program} {l : Launch} {e : Env} {R : Room} {s : State} {m : MethodId} {args : Array Value} {below : List Frame} {meth : Method} {c : Code} {H : Heap} {locs : List Loc} {cells slots : Nat} {Q : State → Prop}
variable {cc : ByteArray} {pc : Nat} {ls : Array Slot} {rest : List Value} {D : va_G} {A : Nat → Prop} {ws : va_W} {H0 : Heap}
theorem newa2 (hexec : p.tables.exec = Jvm.exec) (hb : c.code = cc) {atype : ArrayType} (harr : (Cond.arrayClass (newarray.typeOf atype)).before args s = true) {cB : ClassId} (hra : va_RA s cB (newarray.typeOf atype)) (hP : va_P D vwCl ws H) (hD : va_D A ws) (hS : va_S A H0 H locs) (hA : ∀ q, H0.size ≤ q → A q)
    {n : Int32} {N' : Nat} {a0 : vp_A} (ha : vp_cell cB a0 = arrV cB N' (fun _ => defaultValue (newarray.typeOf atype))) (hn : ¬ n < 0) (hN : n.toNatClampNeg = N') (hbytes : N' * componentBytes (newarray.typeOf atype) ≤ 536870912) (hcells : cells + 1 ≤ R.cells) (hslots : slots + N' ≤ R.slots) (hdg : decode cc pc = .ok (.newarray atype, 2))
    (kk : ∀ (q : Nat) (H1 : Heap), va_P D vwCl (ws ++ [(q, .inl (cB, a0))]) H1 → va_D A (ws ++ [(q, .inl (cB, a0))]) → va_S A H0 H1 locs →
      W p l e R s m args below meth c H1 locs (cells + 1) (slots + N') Q (F0 m (pc + 2) ls (.ref q :: rest))) : W p l e R s m args below meth c H locs cells slots Q (F0 m pc ls (.int n :: rest)) := by
  have hcB : s.vm.findClass ("[" ++ (newarray.typeOf atype).toString) = some cB := by cases atype <;> exact hra
  refine va_newaK hexec hb harr rfl hdg rfl hn hN hbytes hcells hslots rfl fun H1 cA e1 z1 o1 hAr hNm => ?_
  cases Option.some.inj (hcB.symm.trans hNm)
  have hk : ∀ (k : Nat) (x : Nat × va_E), ws[k]? = some x → H1[x.1]? = H[x.1]? := fun k x hx => o1 x.1 ((hP k x hx).lt)
  refine kk H.size H1 ((hP.kept hk).app (fun k x hx => ?_)) (hD.push hP rfl (hA _ hS.1)) ⟨Nat.le_trans hS.1 (by omega), fun x h1 h2 => (o1 x (Nat.lt_of_lt_of_le h1 hS.1)).trans (hS.2.1 x h1 h2), hS.2.2⟩
  have hz : k < 1 := (List.getElem?_eq_some_iff.mp hx).1
  rw [show k = 0 by omega] at hx
  cases hx
  show H1[H.size]? = some (vp_cell _ _)
  rw [ha]
  exact e1
theorem irun {mc ms : Nat} {g : JFrame} {As : List Value} {wc wr : va_W} {P : va_W → Prop} (hP : va_P D vwCl ws H) (hD : va_D A ws) (hS : va_S A s.heap H locs) (hA : ∀ q, s.heap.size ≤ q → A q) (isC isR : List Nat) (hC : isC.map (fun i => ws[i]?) = wc.map some) (hR : isR.map (fun i => ws[i]?) = wr.map some) (hn : va_nd isR = true) (hdis : ∀ i ∈ isR, i ∉ isC)
    (hr : CallRun p l e R s m args below meth c H locs cells slots mc ms g rest (IQ D (va_A wc H.size) P As.toArray) (va_A wc H.size))
    (k : ∀ (w1 : va_W) (H1 : Heap) (locs1 : List Loc), P w1 → va_P D vwCl (wr ++ w1) H1 → va_D A (wr ++ w1) → va_S A s.heap H1 locs1 → W p l e R s m args below meth c H1 locs1 (cells + mc) (slots + ms) Q { g with pc := g.pc + 3, stack := rest }) : W p l e R s m args below meth c H locs cells slots Q g := by
  intro T hT X
  obtain ⟨v9, st₀, t, T', L, h0, X', hL, e1, ⟨hv, ⟨w1, hw, hP1, hD1⟩, hF⟩, st⟩ := hr T hT X
  cases hv
  have hFc := va_free (wc := wc) hD hS hA isC hC
  obtain ⟨hz, hk⟩ := hF
  rw [h0] at hz hk
  obtain ⟨hP2, hD2⟩ := va_join (wr := wr) (w1 := w1) (H1 := T'.heap) hP hD isC isR hC hR hn hdis (fun q h1 h2 => by rw [e1]; exact hk q h1 h2) hFc (by rw [e1]; exact hP1) hD1
  have hS2 : va_S A s.heap T'.heap (locs ++ L) := ⟨Nat.le_trans hS.1 (by rw [e1]; exact hz), fun q h1 h2 => by
      rw [e1, hk q (Nat.lt_of_lt_of_le h1 hS.1) (fun z => h2 (hFc q z))]; exact hS.2.1 q h1 h2, fun q hq => by
      rcases List.mem_append.mp hq with h | h
      · exact hS.2.2 q h
      · exact hFc _ (hL q h)⟩
  obtain ⟨t2, a1, b1⟩ := k w1 T'.heap (locs ++ L) hw hP2 hD2 hS2 T' rfl X'
  exact ⟨t2, st t2 a1, b1⟩
end CT

set_option maxHeartbeats 4000000 in
set_option maxRecDepth 100000 in
theorem cX0_init_met (l : Launch) (ck : Nat → ClassId) (h : Nat) : IM l yX0_init cX0_init 1 { frames := 1, cells := 1, slots := 16, locals := 12 } [.ref h] [(ck 1, .long)] [(h, .inr (0, [.null]))] (fun w => ∃ q, w = [(h, .inr (0, [.ref q])), (q, .inl (ck 1, 16, .inr (.inl (fun _ => 0))))]) 1 16 := by
  refine im_of (own := RX0) (by decide +kernel) rfl (Nat.le_of_ble_eq_true rfl) (fun D A p e s m below meth c ls C hin hA hK hX hP hD hS hl => ?_)
  obtain ⟨hx, hb, hml, hown, hg, hr, hlocks⟩ := id C
  have hl : lv_has ls 1 [(0, .ref h)] := hl
  refine lv_aload_n hx hb dX0_init_0 rfl (lv_at hl 0 rfl) ?_
  refine W.objInit hx hb hown (hg _ tw_17) (hg _ tw_18) (hg _ tw_19) rfl (by rw [hml]; exact hl.1) rfl dX0_init_1 (Nat.le_of_ble_eq_true rfl) (Nat.le_of_ble_eq_true rfl) ?_
  refine W.eq (g2 := F0 m 4 ls []) rfl ?_
  refine lv_aload_n hx hb dX0_init_4 rfl (lv_at hl 0 rfl) ?_
  refine lv_bipush (v := 16) hx hb dX0_init_5 (by decide) ?_
  refine newa2 (atype := .long) hx hb (hg _ tw_24) (hK.2 0 _ rfl).2 hP hD hS hA (N' := 16) (a0 := (16, .inr (.inl (fun _ => 0)))) rfl (by decide) (by decide) (Nat.le_of_ble_eq_true rfl) (Nat.le_of_ble_eq_true rfl) (Nat.le_of_ble_eq_true rfl) dX0_init_7 (fun q H hP hD hS => ?_)
  refine va_putF hx hb hg inX0 tyX0 tyX0_ok nmX0 hown hK hP hD hS 0 rfl rfl 0 (by decide) (hg _ tw_20) (fun _ h9 => h9) rfl hin rfl (tyX0_ok 0 (by decide)) rfl rfl (Nat.le_of_ble_eq_true rfl) dX0_init_9 (fun H locs hP hD hS => ?_)
  have hP : va_P D vwCl [(h, .inr (0, [.ref q])), (q, .inl (ck 1, 16, .inr (.inl (fun _ => 0))))] H := hP
  have hD : va_D A [(h, .inr (0, [.ref q])), (q, .inl (ck 1, 16, .inr (.inl (fun _ => 0))))] := hD
  exact W.vret hx hb hr (fun t ht _ => ⟨rfl, ⟨_, ⟨q, rfl⟩, by rw [ht]; exact hP, hD⟩, hS.F ht⟩) hS.2.2 dX0_init_12
set_option maxHeartbeats 4000000 in
set_option maxRecDepth 100000 in
theorem cX1_init_met (l : Launch) (ck : Nat → ClassId) (h : Nat) : IM l yX1_init cX1_init 1 { frames := 1, cells := 1, slots := 140, locals := 12 } [.ref h] [(ck 0, .int)] [(h, .inr (1, [.null]))] (fun w => ∃ q, w = [(h, .inr (1, [.ref q])), (q, .inl (ck 0, 140, .inl (fun _ => 0)))]) 1 140 := by
  refine im_of (own := RX1) (by decide +kernel) rfl (Nat.le_of_ble_eq_true rfl) (fun D A p e s m below meth c ls C hin hA hK hX hP hD hS hl => ?_)
  obtain ⟨hx, hb, hml, hown, hg, hr, hlocks⟩ := id C
  have hl : lv_has ls 1 [(0, .ref h)] := hl
  refine lv_aload_n hx hb dX1_init_0 rfl (lv_at hl 0 rfl) ?_
  refine W.objInit hx hb hown (hg _ tw_318) (hg _ tw_18) (hg _ tw_19) rfl (by rw [hml]; exact hl.1) rfl dX1_init_1 (Nat.le_of_ble_eq_true rfl) (Nat.le_of_ble_eq_true rfl) ?_
  refine W.eq (g2 := F0 m 4 ls []) rfl ?_
  refine lv_aload_n hx hb dX1_init_4 rfl (lv_at hl 0 rfl) ?_
  refine lv_sipush (v := 140) hx hb dX1_init_5 (by decide) ?_
  refine newa2 (atype := .int) hx hb (hg _ tw_325) (hK.2 0 _ rfl).2 hP hD hS hA (N' := 140) (a0 := (140, .inl (fun _ => 0))) rfl (by decide) (by decide) (Nat.le_of_ble_eq_true rfl) (Nat.le_of_ble_eq_true rfl) (Nat.le_of_ble_eq_true rfl) dX1_init_8 (fun q H hP hD hS => ?_)
  refine va_putF hx hb hg inX1 tyX1 tyX1_ok nmX1 hown hK hP hD hS 0 rfl rfl 0 (by decide) (hg _ tw_319) (fun _ h9 => h9) rfl hin rfl (tyX1_ok 0 (by decide)) rfl rfl (Nat.le_of_ble_eq_true rfl) dX1_init_10 (fun H locs hP hD hS => ?_)
  have hP : va_P D vwCl [(h, .inr (1, [.ref q])), (q, .inl (ck 0, 140, .inl (fun _ => 0)))] H := hP
  have hD : va_D A [(h, .inr (1, [.ref q])), (q, .inl (ck 0, 140, .inl (fun _ => 0)))] := hD
  exact W.vret hx hb hr (fun t ht _ => ⟨rfl, ⟨_, ⟨q, rfl⟩, by rw [ht]; exact hP, hD⟩, hS.F ht⟩) hS.2.2 dX1_init_13
def adM (h q1 q2 q3 q4 q5 q6 q7 : Nat) (i : Nat) : Nat := match i with
  | 0 => h
  | 1 => q1
  | 2 => q2
  | 3 => q3
  | 4 => q4
  | 5 => q5
  | 6 => q6
  | _ => q7
def pwi (i : Nat) : NI := fun j => if j < i then -1074 else 0
theorem pwi_0 : pwi 0 = fun _ => 0 := by funext j; simp [pwi]
theorem pwi_s (i : Nat) : upd (pwi i) i (-1074) = pwi (i + 1) := by
  funext j
  unfold upd pwi
  by_cases h1 : j = i
  · rw [if_pos h1, if_pos (by omega)]
  · rw [if_neg h1]
    by_cases h2 : j < i
    · rw [if_pos h2, if_pos (by omega)]
    · rw [if_neg h2, if_neg (by omega)]
abbrev MIP (ck : Nat → ClassId) (h : Nat) (w : va_W) : Prop := ∃ q1 q2 q3 q4 q5 q6 q7, w = wM ck (adM h q1 q2 q3 q4 q5 q6 q7) 0 (fun _ => 0) (fun _ => 0) (pwi 16) 0 0 0 (fun _ => 0) (fun _ => 0)
set_option maxHeartbeats 4000000 in
set_option maxRecDepth 100000 in
theorem wX2_init_L {p : Program} {l : Launch} {e : Env} {s : State} {m : MethodId} {args : Array Value} {below : List Frame} {meth : Method} {c : Code} {D : va_G} {A : Nat → Prop} {ck : Nat → ClassId} {h q1 q2 q3 q4 q5 q6 q7 : Nat} {rm : Room} (C : CX p s m args meth c RX2 cX2_init 2 none) (hK : va_K D vwCl (tyM ck) s) :
    ∀ (n i : Nat) (ls : Array Slot) (H : Heap) (locs : List Loc), i + n = 16 → va_P D vwCl (wM ck (adM h q1 q2 q3 q4 q5 q6 q7) 0 (fun _ => 0) (fun _ => 0) (pwi i) 0 0 0 (fun _ => 0) (fun _ => 0)) H → va_D A (wM ck (adM h q1 q2 q3 q4 q5 q6 q7) 0 (fun _ => 0) (fun _ => 0) (pwi i) 0 0 0 (fun _ => 0) (fun _ => 0)) → va_S A s.heap H locs → lv_has ls 2 [(0, .ref h), (1, .int (nI i))] →
      W p l e rm s m args below meth c H locs 7 330 (MQ below (IQ D A (MIP ck h)) args s 7 330 A) (F0 m 52 ls []) := by
  obtain ⟨hx, hb, hml, hown, hg, hr, hlocks⟩ := id C
  intro n
  induction n with
  | zero =>
    intro i ls H locs hi hP hD hS hl
    obtain rfl : i = 16 := by omega
    refine lv_iload_n hx hb dX2_init_52 rfl (lv_at hl 1 rfl) ?_
    refine lv_bipush (v := 16) hx hb dX2_init_53 (by decide) ?_
    refine lv_icmp_ge (tgt := 73) hx hb dX2_init_55 (by decide) (fun c1 => ?_) (fun c1 => absurd (by decide) c1)
    exact W.vret hx hb hr (fun t ht _ => ⟨rfl, ⟨_, ⟨q1, q2, q3, q4, q5, q6, q7, rfl⟩, by rw [ht]; exact hP, hD⟩, hS.F ht⟩) hS.2.2 dX2_init_73
  | succ n ih =>
    intro i ls H locs hi hP hD hS hl
    refine lv_iload_n hx hb dX2_init_52 rfl (lv_at hl 1 rfl) ?_
    refine lv_bipush (v := 16) hx hb dX2_init_53 (by decide) ?_
    refine lv_icmp_ge (tgt := 73) hx hb dX2_init_55 (by decide) (fun c1 => absurd c1 (show ¬ nI 16 ≤ nI i from nI_ge (by omega) (by decide))) (fun c1 => ?_)
    refine lv_aload_n hx hb dX2_init_58 rfl (lv_at hl 0 rfl) ?_
    refine va_get hx hb hg inX2 hown hK hP 0 rfl rfl 3 (by decide) (hg _ tw_329) (fun _ h9 => h9) rfl dX2_init_59 ?_
    refine lv_iload_n hx hb dX2_init_62 rfl (lv_at hl 1 rfl) ?_
    refine lv_sipush (v := -1074) hx hb dX2_init_63 (by decide) ?_
    refine va_iast hx hb hK hP hD hS 3 0 rfl rfl (vp_in_nI (by omega) (by decide)) dX2_init_66 (fun H locs hP hD hS => ?_)
    rw [nI_clamp (by omega), pwi_s] at hP hD
    have hP : va_P D vwCl (wM ck (adM h q1 q2 q3 q4 q5 q6 q7) 0 (fun _ => 0) (fun _ => 0) (pwi (i + 1)) 0 0 0 (fun _ => 0) (fun _ => 0)) H := hP
    have hD : va_D A (wM ck (adM h q1 q2 q3 q4 q5 q6 q7) 0 (fun _ => 0) (fun _ => 0) (pwi (i + 1)) 0 0 0 (fun _ => 0) (fun _ => 0)) := hD
    refine lv_iinc (v := nI (i + 1)) (lv' := [(1, .int (nI (i + 1))), (0, .ref h)]) hx hb dX2_init_67 hl (k := 1) rfl (nI_1 i) (by decide) rfl (fun ls hl => ?_)
    refine lv_goto (tgt := 52) hx hb dX2_init_70 (by decide) ?_
    exact ih (i + 1) ls H locs (by omega) hP hD hS (lv_sub hl [1, 0] rfl)
set_option maxHeartbeats 4000000 in
set_option maxRecDepth 100000 in
theorem cX2_init_met (l : Launch) (ck : Nat → ClassId) (h : Nat) : IM l yX2_init cX2_init 2 { frames := 2, cells := 7, slots := 330, locals := 60 } [.ref h] (tyM ck) [(h, .inr (2, [.int 0, .null, .null, .null, .int 0, .long 0, .int 0, .null, .null]))] (MIP ck h) 7 330 := by
  refine im_of (own := RX2) (by decide +kernel) rfl (Nat.le_of_ble_eq_true rfl) (fun D A p e s m below meth c ls C hin hA hK hX hP hD hS hl => ?_)
  obtain ⟨hx, hb, hml, hown, hg, hr, hlocks⟩ := id C
  have hl : lv_has ls 2 [(0, .ref h)] := hl
  refine lv_aload_n hx hb dX2_init_0 rfl (lv_at hl 0 rfl) ?_
  refine W.objInit hx hb hown (hg _ tw_312) (hg _ tw_18) (hg _ tw_19) rfl (by rw [hml]; exact hl.1) rfl dX2_init_1 (Nat.le_of_ble_eq_true rfl) (Nat.le_of_ble_eq_true rfl) ?_
  refine W.eq (g2 := F0 m 4 ls []) rfl ?_
  refine lv_aload_n hx hb dX2_init_4 rfl (lv_at hl 0 rfl) ?_
  refine lv_bipush (v := 16) hx hb dX2_init_5 (by decide) ?_
  refine newa2 (atype := .boolean) hx hb (hg _ tw_324) (hK.2 2 _ rfl).2 hP hD hS hA (N' := 16) (a0 := (16, .inl (fun _ => 0))) rfl (by decide) (by decide) (Nat.le_of_ble_eq_true rfl) (Nat.le_of_ble_eq_true rfl) (Nat.le_of_ble_eq_true rfl) dX2_init_7 (fun q1 H hP hD hS => ?_)
  refine va_putF hx hb hg inX2 tyX2 tyX2_ok nmX2 hown hK hP hD hS 0 rfl rfl 1 (by decide) (hg _ tw_327) (fun _ h9 => h9) rfl hin rfl (tyX2_ok 1 (by decide)) rfl rfl (Nat.le_of_ble_eq_true rfl) dX2_init_9 (fun H locs hP hD hS => ?_)
  have hP : va_P D vwCl [(h, .inr (2, [.int 0, .ref q1, .null, .null, .int 0, .long 0, .int 0, .null, .null])), (q1, .inl (ck 2, 16, .inl (fun _ => 0)))] H := hP
  have hD : va_D A [(h, .inr (2, [.int 0, .ref q1, .null, .null, .int 0, .long 0, .int 0, .null, .null])), (q1, .inl (ck 2, 16, .inl (fun _ => 0)))] := hD
  refine lv_aload_n hx hb dX2_init_12 rfl (lv_at hl 0 rfl) ?_
  refine lv_bipush (v := 16) hx hb dX2_init_13 (by decide) ?_
  refine newa2 (atype := .long) hx hb (hg _ tw_24) (hK.2 1 _ rfl).2 hP hD hS hA (N' := 16) (a0 := (16, .inr (.inl (fun _ => 0)))) rfl (by decide) (by decide) (Nat.le_of_ble_eq_true rfl) (Nat.le_of_ble_eq_true rfl) (Nat.le_of_ble_eq_true rfl) dX2_init_15 (fun q2 H hP hD hS => ?_)
  refine va_putF hx hb hg inX2 tyX2 tyX2_ok nmX2 hown hK hP hD hS 0 rfl rfl 2 (by decide) (hg _ tw_328) (fun _ h9 => h9) rfl hin rfl (tyX2_ok 2 (by decide)) rfl rfl (Nat.le_of_ble_eq_true rfl) dX2_init_17 (fun H locs hP hD hS => ?_)
  have hP : va_P D vwCl [(h, .inr (2, [.int 0, .ref q1, .ref q2, .null, .int 0, .long 0, .int 0, .null, .null])), (q1, .inl (ck 2, 16, .inl (fun _ => 0))), (q2, .inl (ck 1, 16, .inr (.inl (fun _ => 0))))] H := hP
  have hD : va_D A [(h, .inr (2, [.int 0, .ref q1, .ref q2, .null, .int 0, .long 0, .int 0, .null, .null])), (q1, .inl (ck 2, 16, .inl (fun _ => 0))), (q2, .inl (ck 1, 16, .inr (.inl (fun _ => 0))))] := hD
  refine lv_aload_n hx hb dX2_init_20 rfl (lv_at hl 0 rfl) ?_
  refine lv_bipush (v := 16) hx hb dX2_init_21 (by decide) ?_
  refine newa2 (atype := .int) hx hb (hg _ tw_325) (hK.2 0 _ rfl).2 hP hD hS hA (N' := 16) (a0 := (16, .inl (fun _ => 0))) rfl (by decide) (by decide) (Nat.le_of_ble_eq_true rfl) (Nat.le_of_ble_eq_true rfl) (Nat.le_of_ble_eq_true rfl) dX2_init_23 (fun q3 H hP hD hS => ?_)
  refine va_putF hx hb hg inX2 tyX2 tyX2_ok nmX2 hown hK hP hD hS 0 rfl rfl 3 (by decide) (hg _ tw_329) (fun _ h9 => h9) rfl hin rfl (tyX2_ok 3 (by decide)) rfl rfl (Nat.le_of_ble_eq_true rfl) dX2_init_25 (fun H locs hP hD hS => ?_)
  have hP : va_P D vwCl [(h, .inr (2, [.int 0, .ref q1, .ref q2, .ref q3, .int 0, .long 0, .int 0, .null, .null])), (q1, .inl (ck 2, 16, .inl (fun _ => 0))), (q2, .inl (ck 1, 16, .inr (.inl (fun _ => 0)))), (q3, .inl (ck 0, 16, .inl (fun _ => 0)))] H := hP
  have hD : va_D A [(h, .inr (2, [.int 0, .ref q1, .ref q2, .ref q3, .int 0, .long 0, .int 0, .null, .null])), (q1, .inl (ck 2, 16, .inl (fun _ => 0))), (q2, .inl (ck 1, 16, .inr (.inl (fun _ => 0)))), (q3, .inl (ck 0, 16, .inl (fun _ => 0)))] := hD
  refine lv_aload_n hx hb dX2_init_28 rfl (lv_at hl 0 rfl) ?_
  refine va_new (ci := 1) (fs := [.null]) (C := RX1) (T := TX1) (N := 1) hx hb hg inX1 tyX1 tyX1_ok hown (hg _ tw_313) (hg _ tw_314) (hg _ tw_3) hK hP hD hS hA rfl (fun j hj => by rcases (show j = 0 by omega) with rfl; rfl) (by decide) (by decide) dX2_init_29 (fun q4 H hP hD hS => ?_)
  have hP : va_P D vwCl [(h, .inr (2, [.int 0, .ref q1, .ref q2, .ref q3, .int 0, .long 0, .int 0, .null, .null])), (q1, .inl (ck 2, 16, .inl (fun _ => 0))), (q2, .inl (ck 1, 16, .inr (.inl (fun _ => 0)))), (q3, .inl (ck 0, 16, .inl (fun _ => 0))), (q4, .inr (1, [.null]))] H := hP
  have hD : va_D A [(h, .inr (2, [.int 0, .ref q1, .ref q2, .ref q3, .int 0, .long 0, .int 0, .null, .null])), (q1, .inl (ck 2, 16, .inl (fun _ => 0))), (q2, .inl (ck 1, 16, .inr (.inl (fun _ => 0)))), (q3, .inl (ck 0, 16, .inl (fun _ => 0))), (q4, .inr (1, [.null]))] := hD
  refine lv_dup hx hb dX2_init_32 rfl ?_
  have hPc := hP.sub (ws' := [(q4, .inr (1, [.null]))]) [4] rfl
  have hDc := hD.sub (ws' := [(q4, .inr (1, [.null]))]) [4] (by decide) rfl
  have hZ : H.size = H.size := rfl
  refine irun (P := fun w => ∃ q, w = [(q4, .inr (1, [.ref q])), (q, .inl (ck 0, 140, .inl (fun _ => 0)))]) (As := [.ref q4]) (mc := 1) (ms := 140) (wr := [(h, .inr (2, [.int 0, .ref q1, .ref q2, .ref q3, .int 0, .long 0, .int 0, .null, .null])), (q1, .inl (ck 2, 16, .inl (fun _ => 0))), (q2, .inl (ck 1, 16, .inr (.inl (fun _ => 0)))), (q3, .inl (ck 0, 16, .inl (fun _ => 0)))]) (wc := [(q4, .inr (1, [.null]))]) (g := F0 m 33 ls [.ref q4, .ref q4, .ref h]) (rest := [.ref q4, .ref h]) hP hD hS hA [4] [0, 1, 2, 3] rfl rfl rfl (by decide) (fun T9 hT9 X9 => ?_) (fun w1 H locs hw hP hD hS => ?_)
  · obtain ⟨v9, st9, t9, T8, L9, u1, u2, u3, u4, u5, u6, u7⟩ := va_runIN (Ts := gtbl) (cc := cX2_init) (nL := 2) (As := []) (rest := [.ref q4, .ref h]) (b := q4) (g := F0 m 33 ls [.ref q4, .ref q4, .ref h]) ⟨hx, hb, hml, hown, hg⟩ (cX1_init_met l ck q4 D H.size) ⟨va_cnB 0 hg (fun w hw => gt_good w (by rcases List.mem_cons.mp hw with rfl | h9; exact tw_317; exact h9)) rfl rfl rfl hX.2.2.2.2.2.2.2 (hg _ tw_3) (by decide +kernel) (by decide), rfl, hg _ tw_316⟩
      ⟨HP.blind, fun U hU hW9 => ⟨rfl, by rw [hU], by rw [hU]; exact hPc, (va_K.moved hW9.alike hK).sub [0] rfl, hDc.weaken (fun _ _ _ _ => trivial), hX.warm hW9⟩⟩ rfl rfl hl.1 rfl (lv_room (Nat.le_of_ble_eq_true rfl)) dX2_init_33 (by decide) T9 hT9 X9
    exact ⟨v9, st9, t9, T8, L9, u1, u2, u3, u4, u6, u7⟩
  obtain ⟨q5, rfl⟩ := hw
  have hP : va_P D vwCl [(h, .inr (2, [.int 0, .ref q1, .ref q2, .ref q3, .int 0, .long 0, .int 0, .null, .null])), (q1, .inl (ck 2, 16, .inl (fun _ => 0))), (q2, .inl (ck 1, 16, .inr (.inl (fun _ => 0)))), (q3, .inl (ck 0, 16, .inl (fun _ => 0))), (q4, .inr (1, [.ref q5])), (q5, .inl (ck 0, 140, .inl (fun _ => 0)))] H := hP
  have hD : va_D A [(h, .inr (2, [.int 0, .ref q1, .ref q2, .ref q3, .int 0, .long 0, .int 0, .null, .null])), (q1, .inl (ck 2, 16, .inl (fun _ => 0))), (q2, .inl (ck 1, 16, .inr (.inl (fun _ => 0)))), (q3, .inl (ck 0, 16, .inl (fun _ => 0))), (q4, .inr (1, [.ref q5])), (q5, .inl (ck 0, 140, .inl (fun _ => 0)))] := hD
  refine W.eq (g2 := F0 m 36 ls [.ref q4, .ref h]) rfl ?_
  refine va_putF hx hb hg inX2 tyX2 tyX2_ok nmX2 hown hK hP hD hS 0 rfl rfl 7 (by decide) (hg _ tw_333) (fun _ h9 => h9) rfl hin rfl (tyX2_ok 7 (by decide)) rfl rfl (Nat.le_of_ble_eq_true rfl) dX2_init_36 (fun H locs hP hD hS => ?_)
  have hP : va_P D vwCl [(h, .inr (2, [.int 0, .ref q1, .ref q2, .ref q3, .int 0, .long 0, .int 0, .ref q4, .null])), (q1, .inl (ck 2, 16, .inl (fun _ => 0))), (q2, .inl (ck 1, 16, .inr (.inl (fun _ => 0)))), (q3, .inl (ck 0, 16, .inl (fun _ => 0))), (q4, .inr (1, [.ref q5])), (q5, .inl (ck 0, 140, .inl (fun _ => 0)))] H := hP
  have hD : va_D A [(h, .inr (2, [.int 0, .ref q1, .ref q2, .ref q3, .int 0, .long 0, .int 0, .ref q4, .null])), (q1, .inl (ck 2, 16, .inl (fun _ => 0))), (q2, .inl (ck 1, 16, .inr (.inl (fun _ => 0)))), (q3, .inl (ck 0, 16, .inl (fun _ => 0))), (q4, .inr (1, [.ref q5])), (q5, .inl (ck 0, 140, .inl (fun _ => 0)))] := hD
  refine lv_aload_n hx hb dX2_init_39 rfl (lv_at hl 0 rfl) ?_
  refine va_new (ci := 1) (fs := [.null]) (C := RX1) (T := TX1) (N := 1) hx hb hg inX1 tyX1 tyX1_ok hown (hg _ tw_313) (hg _ tw_314) (hg _ tw_3) hK hP hD hS hA rfl (fun j hj => by rcases (show j = 0 by omega) with rfl; rfl) (by decide) (by decide) dX2_init_40 (fun q6 H hP hD hS => ?_)
  have hP : va_P D vwCl [(h, .inr (2, [.int 0, .ref q1, .ref q2, .ref q3, .int 0, .long 0, .int 0, .ref q4, .null])), (q1, .inl (ck 2, 16, .inl (fun _ => 0))), (q2, .inl (ck 1, 16, .inr (.inl (fun _ => 0)))), (q3, .inl (ck 0, 16, .inl (fun _ => 0))), (q4, .inr (1, [.ref q5])), (q5, .inl (ck 0, 140, .inl (fun _ => 0))), (q6, .inr (1, [.null]))] H := hP
  have hD : va_D A [(h, .inr (2, [.int 0, .ref q1, .ref q2, .ref q3, .int 0, .long 0, .int 0, .ref q4, .null])), (q1, .inl (ck 2, 16, .inl (fun _ => 0))), (q2, .inl (ck 1, 16, .inr (.inl (fun _ => 0)))), (q3, .inl (ck 0, 16, .inl (fun _ => 0))), (q4, .inr (1, [.ref q5])), (q5, .inl (ck 0, 140, .inl (fun _ => 0))), (q6, .inr (1, [.null]))] := hD
  refine lv_dup hx hb dX2_init_43 rfl ?_
  have hPc := hP.sub (ws' := [(q6, .inr (1, [.null]))]) [6] rfl
  have hDc := hD.sub (ws' := [(q6, .inr (1, [.null]))]) [6] (by decide) rfl
  have hZ : H.size = H.size := rfl
  refine irun (P := fun w => ∃ q, w = [(q6, .inr (1, [.ref q])), (q, .inl (ck 0, 140, .inl (fun _ => 0)))]) (As := [.ref q6]) (mc := 1) (ms := 140) (wr := [(h, .inr (2, [.int 0, .ref q1, .ref q2, .ref q3, .int 0, .long 0, .int 0, .ref q4, .null])), (q1, .inl (ck 2, 16, .inl (fun _ => 0))), (q2, .inl (ck 1, 16, .inr (.inl (fun _ => 0)))), (q3, .inl (ck 0, 16, .inl (fun _ => 0))), (q4, .inr (1, [.ref q5])), (q5, .inl (ck 0, 140, .inl (fun _ => 0)))]) (wc := [(q6, .inr (1, [.null]))]) (g := F0 m 44 ls [.ref q6, .ref q6, .ref h]) (rest := [.ref q6, .ref h]) hP hD hS hA [6] [0, 1, 2, 3, 4, 5] rfl rfl rfl (by decide) (fun T9 hT9 X9 => ?_) (fun w1 H locs hw hP hD hS => ?_)
  · obtain ⟨v9, st9, t9, T8, L9, u1, u2, u3, u4, u5, u6, u7⟩ := va_runIN (Ts := gtbl) (cc := cX2_init) (nL := 2) (As := []) (rest := [.ref q6, .ref h]) (b := q6) (g := F0 m 44 ls [.ref q6, .ref q6, .ref h]) ⟨hx, hb, hml, hown, hg⟩ (cX1_init_met l ck q6 D H.size) ⟨va_cnB 0 hg (fun w hw => gt_good w (by rcases List.mem_cons.mp hw with rfl | h9; exact tw_317; exact h9)) rfl rfl rfl hX.2.2.2.2.2.2.2 (hg _ tw_3) (by decide +kernel) (by decide), rfl, hg _ tw_316⟩
      ⟨HP.blind, fun U hU hW9 => ⟨rfl, by rw [hU], by rw [hU]; exact hPc, (va_K.moved hW9.alike hK).sub [0] rfl, hDc.weaken (fun _ _ _ _ => trivial), hX.warm hW9⟩⟩ rfl rfl hl.1 rfl (lv_room (Nat.le_of_ble_eq_true rfl)) dX2_init_44 (by decide) T9 hT9 X9
    exact ⟨v9, st9, t9, T8, L9, u1, u2, u3, u4, u6, u7⟩
  obtain ⟨q7, rfl⟩ := hw
  have hP : va_P D vwCl [(h, .inr (2, [.int 0, .ref q1, .ref q2, .ref q3, .int 0, .long 0, .int 0, .ref q4, .null])), (q1, .inl (ck 2, 16, .inl (fun _ => 0))), (q2, .inl (ck 1, 16, .inr (.inl (fun _ => 0)))), (q3, .inl (ck 0, 16, .inl (fun _ => 0))), (q4, .inr (1, [.ref q5])), (q5, .inl (ck 0, 140, .inl (fun _ => 0))), (q6, .inr (1, [.ref q7])), (q7, .inl (ck 0, 140, .inl (fun _ => 0)))] H := hP
  have hD : va_D A [(h, .inr (2, [.int 0, .ref q1, .ref q2, .ref q3, .int 0, .long 0, .int 0, .ref q4, .null])), (q1, .inl (ck 2, 16, .inl (fun _ => 0))), (q2, .inl (ck 1, 16, .inr (.inl (fun _ => 0)))), (q3, .inl (ck 0, 16, .inl (fun _ => 0))), (q4, .inr (1, [.ref q5])), (q5, .inl (ck 0, 140, .inl (fun _ => 0))), (q6, .inr (1, [.ref q7])), (q7, .inl (ck 0, 140, .inl (fun _ => 0)))] := hD
  refine W.eq (g2 := F0 m 47 ls [.ref q6, .ref h]) rfl ?_
  refine va_putF hx hb hg inX2 tyX2 tyX2_ok nmX2 hown hK hP hD hS 0 rfl rfl 8 (by decide) (hg _ tw_334) (fun _ h9 => h9) rfl hin rfl (tyX2_ok 8 (by decide)) rfl rfl (Nat.le_of_ble_eq_true rfl) dX2_init_47 (fun H locs hP hD hS => ?_)
  have hP : va_P D vwCl [(h, .inr (2, [.int 0, .ref q1, .ref q2, .ref q3, .int 0, .long 0, .int 0, .ref q4, .ref q6])), (q1, .inl (ck 2, 16, .inl (fun _ => 0))), (q2, .inl (ck 1, 16, .inr (.inl (fun _ => 0)))), (q3, .inl (ck 0, 16, .inl (fun _ => 0))), (q4, .inr (1, [.ref q5])), (q5, .inl (ck 0, 140, .inl (fun _ => 0))), (q6, .inr (1, [.ref q7])), (q7, .inl (ck 0, 140, .inl (fun _ => 0)))] H := hP
  have hD : va_D A [(h, .inr (2, [.int 0, .ref q1, .ref q2, .ref q3, .int 0, .long 0, .int 0, .ref q4, .ref q6])), (q1, .inl (ck 2, 16, .inl (fun _ => 0))), (q2, .inl (ck 1, 16, .inr (.inl (fun _ => 0)))), (q3, .inl (ck 0, 16, .inl (fun _ => 0))), (q4, .inr (1, [.ref q5])), (q5, .inl (ck 0, 140, .inl (fun _ => 0))), (q6, .inr (1, [.ref q7])), (q7, .inl (ck 0, 140, .inl (fun _ => 0)))] := hD
  refine lv_iconst (v := 0) hx hb dX2_init_50 (by decide) ?_
  refine lv_istore_n (lv' := [(1, .int 0), (0, .ref h)]) hx hb dX2_init_51 rfl hl (by decide) rfl (fun ls hl => ?_)
  have e0 : (fun _ => 0 : NI) = pwi 0 := pwi_0.symm
  have hP : va_P D vwCl (wM ck (adM h q1 q2 q3 q4 q5 q6 q7) 0 (fun _ => 0) (fun _ => 0) (pwi 0) 0 0 0 (fun _ => 0) (fun _ => 0)) H := by rw [← e0]; exact hP
  have hD : va_D A (wM ck (adM h q1 q2 q3 q4 q5 q6 q7) 0 (fun _ => 0) (fun _ => 0) (pwi 0) 0 0 0 (fun _ => 0) (fun _ => 0)) := by rw [← e0]; exact hD
  exact wX2_init_L C hK 16 0 ls H locs (by decide) hP hD hS (lv_sub hl [1, 0] rfl)
