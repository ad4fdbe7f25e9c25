section
-- ===== PART A: goes FIRST, ahead of the names: the tables' words, and 'selects' of the private methods out of them =====
/-- a private method of a class that the tables say can be made, by its rows of tables_1 -/
def lw_okq (q : MethodName × Nat) : Prop := (q.1.cls ≠ "java/lang/invoke/MethodHandle" ∧ q.1.cls ≠ "java/lang/invoke/VarHandle") ∧ Cond.instantiable q.1.cls q.2 ∈ tables_1 ∧ Cond.privateMethod q.1 ∈ tables_1 ∧ Cond.instanceMethod q.1 ∈ tables_1
theorem lw_p0 : lw_okq (⟨"java/lang/Throwable", "fillInStackTrace", "(I)Ljava/lang/Throwable;"⟩, 6) := ⟨⟨by decide +kernel, by decide +kernel⟩, List.mem_of_getElem? (i := 74) (by decide +kernel), List.mem_of_getElem? (i := 72) (by decide +kernel), List.mem_of_getElem? (i := 73) (by decide +kernel)⟩
theorem lw_p1 : lw_okq (⟨"RealDesk", "keep", "(IJ)I"⟩, 1) := ⟨⟨by decide +kernel, by decide +kernel⟩, List.mem_of_getElem? (i := 13) (by decide +kernel), List.mem_of_getElem? (i := 134) (by decide +kernel), List.mem_of_getElem? (i := 135) (by decide +kernel)⟩
theorem lw_p2 : lw_okq (⟨"RealDesk", "combineRanks", "(IIJJ)I"⟩, 1) := ⟨⟨by decide +kernel, by decide +kernel⟩, List.mem_of_getElem? (i := 13) (by decide +kernel), List.mem_of_getElem? (i := 153) (by decide +kernel), List.mem_of_getElem? (i := 154) (by decide +kernel)⟩
theorem lw_p3 : lw_okq (⟨"RealDesk", "changeRank", "(IIJ)I"⟩, 1) := ⟨⟨by decide +kernel, by decide +kernel⟩, List.mem_of_getElem? (i := 13) (by decide +kernel), List.mem_of_getElem? (i := 222) (by decide +kernel), List.mem_of_getElem? (i := 223) (by decide +kernel)⟩
theorem lw_p4 : lw_okq (⟨"RealDeskModel", "nearest", "(ZIZ)I"⟩, 9) := ⟨⟨by decide +kernel, by decide +kernel⟩, List.mem_of_getElem? (i := 308) (by decide +kernel), List.mem_of_getElem? (i := 376) (by decide +kernel), List.mem_of_getElem? (i := 377) (by decide +kernel)⟩
theorem lw_p5 : lw_okq (⟨"RealDeskModel", "settle", "()I"⟩, 9) := ⟨⟨by decide +kernel, by decide +kernel⟩, List.mem_of_getElem? (i := 308) (by decide +kernel), List.mem_of_getElem? (i := 399) (by decide +kernel), List.mem_of_getElem? (i := 400) (by decide +kernel)⟩
theorem lw_p6 : lw_okq (⟨"RealDeskModel", "keep", "(II)I"⟩, 9) := ⟨⟨by decide +kernel, by decide +kernel⟩, List.mem_of_getElem? (i := 308) (by decide +kernel), List.mem_of_getElem? (i := 404) (by decide +kernel), List.mem_of_getElem? (i := 405) (by decide +kernel)⟩
theorem lw_p7 : lw_okq (⟨"RealDeskModel", "combined", "(III)I"⟩, 9) := ⟨⟨by decide +kernel, by decide +kernel⟩, List.mem_of_getElem? (i := 308) (by decide +kernel), List.mem_of_getElem? (i := 412) (by decide +kernel), List.mem_of_getElem? (i := 413) (by decide +kernel)⟩
theorem lw_p8 : lw_okq (⟨"RealDeskModel", "sum", "(IIZ)I"⟩, 9) := ⟨⟨by decide +kernel, by decide +kernel⟩, List.mem_of_getElem? (i := 308) (by decide +kernel), List.mem_of_getElem? (i := 416) (by decide +kernel), List.mem_of_getElem? (i := 417) (by decide +kernel)⟩
theorem lw_p9 : lw_okq (⟨"RealDeskModel", "exactSum", "(IIZ)Z"⟩, 9) := ⟨⟨by decide +kernel, by decide +kernel⟩, List.mem_of_getElem? (i := 308) (by decide +kernel), List.mem_of_getElem? (i := 420) (by decide +kernel), List.mem_of_getElem? (i := 421) (by decide +kernel)⟩
theorem lw_p10 : lw_okq (⟨"RealDeskModel", "swap", "()V"⟩, 9) := ⟨⟨by decide +kernel, by decide +kernel⟩, List.mem_of_getElem? (i := 308) (by decide +kernel), List.mem_of_getElem? (i := 441) (by decide +kernel), List.mem_of_getElem? (i := 442) (by decide +kernel)⟩
theorem lw_p11 : lw_okq (⟨"RealDeskModel", "product", "(II)I"⟩, 9) := ⟨⟨by decide +kernel, by decide +kernel⟩, List.mem_of_getElem? (i := 308) (by decide +kernel), List.mem_of_getElem? (i := 445) (by decide +kernel), List.mem_of_getElem? (i := 446) (by decide +kernel)⟩
theorem lw_p12 : lw_okq (⟨"RealDeskModel", "quotient", "(ZJIJI)I"⟩, 9) := ⟨⟨by decide +kernel, by decide +kernel⟩, List.mem_of_getElem? (i := 308) (by decide +kernel), List.mem_of_getElem? (i := 462) (by decide +kernel), List.mem_of_getElem? (i := 463) (by decide +kernel)⟩
theorem lw_p13 : lw_okq (⟨"RealDeskModel", "rest", "(II)I"⟩, 9) := ⟨⟨by decide +kernel, by decide +kernel⟩, List.mem_of_getElem? (i := 308) (by decide +kernel), List.mem_of_getElem? (i := 467) (by decide +kernel), List.mem_of_getElem? (i := 468) (by decide +kernel)⟩
theorem lw_p14 : lw_okq (⟨"RealDeskModel", "take", "(I)V"⟩, 9) := ⟨⟨by decide +kernel, by decide +kernel⟩, List.mem_of_getElem? (i := 308) (by decide +kernel), List.mem_of_getElem? (i := 471) (by decide +kernel), List.mem_of_getElem? (i := 472) (by decide +kernel)⟩
theorem lw_p15 : lw_okq (⟨"RealDeskModel", "compareNumbers", "(II)I"⟩, 9) := ⟨⟨by decide +kernel, by decide +kernel⟩, List.mem_of_getElem? (i := 308) (by decide +kernel), List.mem_of_getElem? (i := 475) (by decide +kernel), List.mem_of_getElem? (i := 476) (by decide +kernel)⟩
def lw_privs_1 : List (MethodName × Nat) := [(⟨"java/lang/Throwable", "fillInStackTrace", "(I)Ljava/lang/Throwable;"⟩, 6), (⟨"RealDesk", "keep", "(IJ)I"⟩, 1), (⟨"RealDesk", "combineRanks", "(IIJJ)I"⟩, 1), (⟨"RealDesk", "changeRank", "(IIJ)I"⟩, 1), (⟨"RealDeskModel", "nearest", "(ZIZ)I"⟩, 9), (⟨"RealDeskModel", "settle", "()I"⟩, 9), (⟨"RealDeskModel", "keep", "(II)I"⟩, 9), (⟨"RealDeskModel", "combined", "(III)I"⟩, 9), (⟨"RealDeskModel", "sum", "(IIZ)I"⟩, 9), (⟨"RealDeskModel", "exactSum", "(IIZ)Z"⟩, 9), (⟨"RealDeskModel", "swap", "()V"⟩, 9), (⟨"RealDeskModel", "product", "(II)I"⟩, 9), (⟨"RealDeskModel", "quotient", "(ZJIJI)I"⟩, 9), (⟨"RealDeskModel", "rest", "(II)I"⟩, 9), (⟨"RealDeskModel", "take", "(I)V"⟩, 9), (⟨"RealDeskModel", "compareNumbers", "(II)I"⟩, 9)]
theorem lw_r1 : ∀ q ∈ lw_privs_1, lw_okq q := List.forall_mem_cons.mpr ⟨lw_p0, List.forall_mem_cons.mpr ⟨lw_p1, List.forall_mem_cons.mpr ⟨lw_p2, List.forall_mem_cons.mpr ⟨lw_p3, List.forall_mem_cons.mpr ⟨lw_p4, List.forall_mem_cons.mpr ⟨lw_p5, List.forall_mem_cons.mpr ⟨lw_p6, List.forall_mem_cons.mpr ⟨lw_p7, List.forall_mem_cons.mpr ⟨lw_p8, List.forall_mem_cons.mpr ⟨lw_p9, List.forall_mem_cons.mpr ⟨lw_p10, List.forall_mem_cons.mpr ⟨lw_p11, List.forall_mem_cons.mpr ⟨lw_p12, List.forall_mem_cons.mpr ⟨lw_p13, List.forall_mem_cons.mpr ⟨lw_p14, List.forall_mem_cons.mpr ⟨lw_p15, fun _ h => absurd h List.not_mem_nil⟩⟩⟩⟩⟩⟩⟩⟩⟩⟩⟩⟩⟩⟩⟩⟩
theorem lw_p16 : lw_okq (⟨"RealDeskModel", "sizes", "(II)I"⟩, 9) := ⟨⟨by decide +kernel, by decide +kernel⟩, List.mem_of_getElem? (i := 308) (by decide +kernel), List.mem_of_getElem? (i := 479) (by decide +kernel), List.mem_of_getElem? (i := 480) (by decide +kernel)⟩
theorem lw_p17 : lw_okq (⟨"RealDeskModel", "pick", "(I)I"⟩, 9) := ⟨⟨by decide +kernel, by decide +kernel⟩, List.mem_of_getElem? (i := 308) (by decide +kernel), List.mem_of_getElem? (i := 483) (by decide +kernel), List.mem_of_getElem? (i := 484) (by decide +kernel)⟩
theorem lw_p18 : lw_okq (⟨"RealDeskModel", "sumError", "(II)I"⟩, 9) := ⟨⟨by decide +kernel, by decide +kernel⟩, List.mem_of_getElem? (i := 308) (by decide +kernel), List.mem_of_getElem? (i := 487) (by decide +kernel), List.mem_of_getElem? (i := 488) (by decide +kernel)⟩
theorem lw_p19 : lw_okq (⟨"RealDeskModel", "lower", "(I)V"⟩, 9) := ⟨⟨by decide +kernel, by decide +kernel⟩, List.mem_of_getElem? (i := 308) (by decide +kernel), List.mem_of_getElem? (i := 491) (by decide +kernel), List.mem_of_getElem? (i := 492) (by decide +kernel)⟩
theorem lw_p20 : lw_okq (⟨"RealDeskModel", "errorOf", "(ZI)I"⟩, 9) := ⟨⟨by decide +kernel, by decide +kernel⟩, List.mem_of_getElem? (i := 308) (by decide +kernel), List.mem_of_getElem? (i := 495) (by decide +kernel), List.mem_of_getElem? (i := 496) (by decide +kernel)⟩
theorem lw_p21 : lw_okq (⟨"RealDeskModel", "productError", "(II)I"⟩, 9) := ⟨⟨by decide +kernel, by decide +kernel⟩, List.mem_of_getElem? (i := 308) (by decide +kernel), List.mem_of_getElem? (i := 499) (by decide +kernel), List.mem_of_getElem? (i := 500) (by decide +kernel)⟩
theorem lw_p22 : lw_okq (⟨"RealDeskModel", "changed", "(II)I"⟩, 9) := ⟨⟨by decide +kernel, by decide +kernel⟩, List.mem_of_getElem? (i := 308) (by decide +kernel), List.mem_of_getElem? (i := 507) (by decide +kernel), List.mem_of_getElem? (i := 508) (by decide +kernel)⟩
theorem lw_p23 : lw_okq (⟨"RealDeskModel", "root", "(I)I"⟩, 9) := ⟨⟨by decide +kernel, by decide +kernel⟩, List.mem_of_getElem? (i := 308) (by decide +kernel), List.mem_of_getElem? (i := 511) (by decide +kernel), List.mem_of_getElem? (i := 512) (by decide +kernel)⟩
theorem lw_p24 : lw_okq (⟨"RealDeskModel", "neighbour", "(IZ)I"⟩, 9) := ⟨⟨by decide +kernel, by decide +kernel⟩, List.mem_of_getElem? (i := 308) (by decide +kernel), List.mem_of_getElem? (i := 516) (by decide +kernel), List.mem_of_getElem? (i := 517) (by decide +kernel)⟩
theorem lw_p25 : lw_okq (⟨"RealDeskModel", "wholeOf", "(II)I"⟩, 9) := ⟨⟨by decide +kernel, by decide +kernel⟩, List.mem_of_getElem? (i := 308) (by decide +kernel), List.mem_of_getElem? (i := 521) (by decide +kernel), List.mem_of_getElem? (i := 522) (by decide +kernel)⟩
theorem lw_p26 : lw_okq (⟨"RealDeskModel", "raised", "(II)I"⟩, 9) := ⟨⟨by decide +kernel, by decide +kernel⟩, List.mem_of_getElem? (i := 308) (by decide +kernel), List.mem_of_getElem? (i := 529) (by decide +kernel), List.mem_of_getElem? (i := 530) (by decide +kernel)⟩
theorem lw_p27 : lw_okq (⟨"RealDeskModel", "multiply", "(ZJI)I"⟩, 9) := ⟨⟨by decide +kernel, by decide +kernel⟩, List.mem_of_getElem? (i := 308) (by decide +kernel), List.mem_of_getElem? (i := 533) (by decide +kernel), List.mem_of_getElem? (i := 534) (by decide +kernel)⟩
theorem lw_p28 : lw_okq (⟨"RealDeskModel", "refuse", "(I)I"⟩, 9) := ⟨⟨by decide +kernel, by decide +kernel⟩, List.mem_of_getElem? (i := 308) (by decide +kernel), List.mem_of_getElem? (i := 560) (by decide +kernel), List.mem_of_getElem? (i := 561) (by decide +kernel)⟩
def lw_privs_2 : List (MethodName × Nat) := [(⟨"RealDeskModel", "sizes", "(II)I"⟩, 9), (⟨"RealDeskModel", "pick", "(I)I"⟩, 9), (⟨"RealDeskModel", "sumError", "(II)I"⟩, 9), (⟨"RealDeskModel", "lower", "(I)V"⟩, 9), (⟨"RealDeskModel", "errorOf", "(ZI)I"⟩, 9), (⟨"RealDeskModel", "productError", "(II)I"⟩, 9), (⟨"RealDeskModel", "changed", "(II)I"⟩, 9), (⟨"RealDeskModel", "root", "(I)I"⟩, 9), (⟨"RealDeskModel", "neighbour", "(IZ)I"⟩, 9), (⟨"RealDeskModel", "wholeOf", "(II)I"⟩, 9), (⟨"RealDeskModel", "raised", "(II)I"⟩, 9), (⟨"RealDeskModel", "multiply", "(ZJI)I"⟩, 9), (⟨"RealDeskModel", "refuse", "(I)I"⟩, 9)]
theorem lw_r2 : ∀ q ∈ lw_privs_2, lw_okq q := List.forall_mem_cons.mpr ⟨lw_p16, List.forall_mem_cons.mpr ⟨lw_p17, List.forall_mem_cons.mpr ⟨lw_p18, List.forall_mem_cons.mpr ⟨lw_p19, List.forall_mem_cons.mpr ⟨lw_p20, List.forall_mem_cons.mpr ⟨lw_p21, List.forall_mem_cons.mpr ⟨lw_p22, List.forall_mem_cons.mpr ⟨lw_p23, List.forall_mem_cons.mpr ⟨lw_p24, List.forall_mem_cons.mpr ⟨lw_p25, List.forall_mem_cons.mpr ⟨lw_p26, List.forall_mem_cons.mpr ⟨lw_p27, List.forall_mem_cons.mpr ⟨lw_p28, fun _ h => absurd h List.not_mem_nil⟩⟩⟩⟩⟩⟩⟩⟩⟩⟩⟩⟩⟩
def lw_privs : List (MethodName × Nat) := lw_privs_1 ++ (lw_privs_2)
def lw_tbl : List Cond := k2_sels lw_privs ++ tables_1
theorem lw_privs_ok : ∀ q ∈ lw_privs, lw_okq q := by
  show ∀ q ∈ lw_privs_1 ++ (lw_privs_2), lw_okq q
  exact List.forall_mem_append.mpr ⟨lw_r1, lw_r2⟩
end
section
/-! a throw that a row of the method's own table takes, the row's class resolved or not yet: the search, then one step -/
section XC
variable {e : Env} {s : State} {f : JFrame} {a : Addr}
def xc_To (e : Env) (s : State) (f : JFrame) (a : Addr) (t : List ExceptionTableEntry) (h : Handler) (vm' : Vm) : Prop :=
  ∀ (Q : Handler → Pre) (E : CtlPost) (d : Bool) (acts : List Action), wp (findHandler.go f a t) Q E e d acts s ↔ Q h d acts (s.setVm vm')
theorem xc_take {x : ExceptionTableEntry} {t : List ExceptionTableEntry} {c : ClassId} {cell : Cell} (hx : covers x f.pc = true) (h0 : x.catchType ≠ 0)
    (hl : s.vm.ClassLinks e.platform f.method.cls x.catchType c) (hcell : s.heap[a]? = some cell) (hobj : ∀ k, cell.vm ≠ .statics k)
    (hk : ∃ k, s.vm.classes[cell.cls]? = some k) (hc : ∃ k, s.vm.classes[c]? = some k) (hfit : s.vm.assignable cell.cls c = true) :
    xc_To e s f a (x :: t) (.found x.handlerPc) (s.vm.noted f.method.cls x.catchType (.cls c)) := by
  intro Q E d acts
  simp only [covers] at hx
  obtain ⟨ha, ht⟩ := (resolveClass_links e.toSetting hl).op (op := VmOp.resolveClass f.method.cls x.catchType) rfl
  have hal : s.vm.Alike (s.vm.noted f.method.cls x.catchType (.cls c)) := (Vm.Alike.refl s.vm).noted _ _ _
  obtain ⟨k1, hk1⟩ := hk
  obtain ⟨k2, hk2⟩ := hc
  obtain ⟨k3, hk3, -⟩ := hal.2.2 _ _ hk1
  obtain ⟨k4, hk4, -⟩ := hal.2.2 _ _ hk2
  have hf2 : (s.vm.noted f.method.cls x.catchType (.cls c)).assignable cell.cls c = true := by rw [hal.assignable]; exact hfit
  simp [findHandler.go, hx, h0, ha, ht, hcell, hobj, hk3, hk4, hf2, VmOp.dirties, VmOp.acts]
theorem xc_pass {x : ExceptionTableEntry} {t : List ExceptionTableEntry} {c : ClassId} {cell : Cell} {h : Handler} {vm' : Vm} (hx : covers x f.pc = true) (h0 : x.catchType ≠ 0)
    (hl : s.vm.ClassLinks e.platform f.method.cls x.catchType c) (hcell : s.heap[a]? = some cell) (hobj : ∀ k, cell.vm ≠ .statics k)
    (hk : ∃ k, s.vm.classes[cell.cls]? = some k) (hc : ∃ k, s.vm.classes[c]? = some k) (hno : s.vm.assignable cell.cls c = false)
    (hr : xc_To e (s.setVm (s.vm.noted f.method.cls x.catchType (.cls c))) f a t h vm') : xc_To e s f a (x :: t) h vm' := by
  intro Q E d acts
  simp only [covers] at hx
  obtain ⟨ha, ht⟩ := (resolveClass_links e.toSetting hl).op (op := VmOp.resolveClass f.method.cls x.catchType) rfl
  have hal : s.vm.Alike (s.vm.noted f.method.cls x.catchType (.cls c)) := (Vm.Alike.refl s.vm).noted _ _ _
  obtain ⟨k1, hk1⟩ := hk
  obtain ⟨k2, hk2⟩ := hc
  obtain ⟨k3, hk3, -⟩ := hal.2.2 _ _ hk1
  obtain ⟨k4, hk4, -⟩ := hal.2.2 _ _ hk2
  have hf2 : (s.vm.noted f.method.cls x.catchType (.cls c)).assignable cell.cls c = false := by rw [hal.assignable]; exact hno
  have hr2 := hr Q E d acts
  rw [State.setVm_twice] at hr2
  rw [← hr2]
  simp [findHandler.go, hx, h0, ha, ht, hcell, hobj, hk3, hk4, hf2, VmOp.dirties, VmOp.acts]
theorem xc_skip {x : ExceptionTableEntry} {t : List ExceptionTableEntry} {h : Handler} {vm' : Vm} (hx : covers x f.pc = false) (hr : xc_To e s f a t h vm') : xc_To e s f a (x :: t) h vm' := fun Q E d acts => by
  rw [Jvm.W.findHandler_go_skip hx]; exact hr Q E d acts
/-- rows that don't take it, then one that does; s₀ is the state whose tables are spoken of -/
theorem xc_rows {s₀ : State} {cell : Cell} (hobj : ∀ k, cell.vm ≠ .statics k) (hk0 : ∃ k, s₀.vm.classes[cell.cls]? = some k)
    (x : ExceptionTableEntry) (suf : List ExceptionTableEntry) (hx : covers x f.pc = true) (h0 : x.catchType ≠ 0) {c : ClassId} (hl : s₀.vm.ClassLinks e.platform f.method.cls x.catchType c) (hfit : s₀.vm.assignable cell.cls c = true) :
    ∀ (pre : List ExceptionTableEntry) (S : State), s₀.WarmedH S.vm → S.heap[a]? = some cell →
      (∀ y ∈ pre, covers y f.pc = false ∨ (y.catchType ≠ 0 ∧ ∃ c2, s₀.vm.ClassLinks e.platform f.method.cls y.catchType c2 ∧ s₀.vm.assignable cell.cls c2 = false)) →
      ∃ vm', s₀.WarmedH vm' ∧ xc_To e S f a (pre ++ x :: suf) (.found x.handlerPc) vm' := by
  obtain ⟨k0, hk0⟩ := hk0
  intro pre
  induction pre with
  | nil =>
    intro S hW hcell _
    obtain ⟨k1, hk1, -⟩ := hW.alike.2.2 _ _ hk0
    obtain ⟨dk, _, _, kt, hd, _, _, _, _, hkt, _, hopen⟩ := hl.here
    obtain ⟨kt', hkt', -⟩ := hW.alike.2.2 _ _ hkt
    exact ⟨_, hW.noted hd hopen (State.rightAt_cls hl), xc_take hx h0 (hW.classLinks hl) hcell hobj ⟨k1, hk1⟩ ⟨kt', hkt'⟩ (by rw [hW.alike.assignable]; exact hfit)⟩
  | cons y ys ih =>
    intro S hW hcell hp
    obtain ⟨k1, hk1, -⟩ := hW.alike.2.2 _ _ hk0
    have hp2 := fun z (hz : z ∈ ys) => hp z (List.mem_cons_of_mem _ hz)
    cases hcov : covers y f.pc with
    | false =>
      obtain ⟨vm', w1, w2⟩ := ih S hW hcell hp2
      exact ⟨vm', w1, xc_skip hcov w2⟩
    | true =>
      rcases hp y List.mem_cons_self with h | ⟨hy0, c2, hl2, hno⟩
      · rw [h] at hcov; cases hcov
      · obtain ⟨dk, _, _, kt, hd, _, _, _, _, hkt, _, hopen⟩ := hl2.here
        obtain ⟨kt', hkt', -⟩ := hW.alike.2.2 _ _ hkt
        obtain ⟨vm', w1, w2⟩ := ih (S.setVm (S.vm.noted f.method.cls y.catchType (.cls c2))) (hW.noted hd hopen (State.rightAt_cls hl2)) hcell hp2
        exact ⟨vm', w1, xc_pass hcov hy0 (hW.classLinks hl2) hcell hobj ⟨k1, hk1⟩ ⟨kt', hkt'⟩ (by rw [hW.alike.assignable]; exact hno) w2⟩
theorem xc_step {r : List Frame} {pc : Nat} {vm' : Vm} {meth : Method} {code : Code} (hm : s.vm.method? f.method = some meth) (hc : meth.code = some code) (hfind : xc_To e s f a code.exceptionTable.toList (.found pc) vm') :
    (stepThrowing e s a (.java f :: r)).Is ((s.setVm vm').setFrames (.java { f with pc := pc, stack := [.ref a] } :: r)) [] := by
  have h2 : ∀ (Q : Handler → Pre) (E : CtlPost) (d : Bool) (acts : List Action), wp (findHandler f a) Q E e d acts s ↔ Q (.found pc) d acts (s.setVm vm') := fun Q E d acts => (Jvm.W.findHandler_eq hm hc).trans (hfind Q E d acts)
  simp only [stepThrowing, searchFrame, vmDo]
  generalize hr : Sem.go _ e false [] s = res
  obtain ⟨as, rfl, ha⟩ := Sem.eq_ok_of hr (a := Handler.found pc) (s' := s.setVm vm') (acts' := []) (by simp [h2 _ _ _ _])
  exact ⟨rfl, ha⟩
end XC
theorem xc_through {p : Program} {l : Launch} {e : Env} {R : Room} {s : State} {m₀ : MethodId} {args : Array Value} {below : List Frame} {meth : Method} {c : Code} {T : State} {locs : List Loc} {cells slots : Nat}
    (X : Stand p l e R s m₀ args below meth c T locs cells slots) (a : Addr) {g : JFrame} (hg : g.method = m₀)
    {cell : Cell} (hcell : T.heap[a]? = some cell) (hobj : cell.vm.isStatics = false) (hk0 : ∃ k, s.vm.classes[cell.cls]? = some k)
    (pre : List ExceptionTableEntry) (x : ExceptionTableEntry) (rest : List ExceptionTableEntry) (hsplit : c.exceptionTable.toList = pre ++ x :: rest)
    (hpass : ∀ y ∈ pre, covers y g.pc = false ∨ (y.catchType ≠ 0 ∧ ∃ c2, s.vm.ClassLinks e.platform m₀.cls y.catchType c2 ∧ s.vm.assignable cell.cls c2 = false)) (hx : covers x g.pc = true)
    (h0 : x.catchType ≠ 0) {cT : ClassId} (hl : s.vm.ClassLinks e.platform m₀.cls x.catchType cT) (hfit : s.vm.assignable cell.cls cT = true) :
    ∃ vm', Stand p l e R s m₀ args below meth c (T.setVm vm') locs cells slots ∧ Steps p.tables e below ((T.setTop g).pushFrame (.throwing a)) ((T.setVm vm').setTop { g with pc := x.handlerPc, stack := [.ref a] }) := by
  subst hg
  obtain ⟨vm', hW', hf⟩ := xc_rows (e := e) (f := g) (a := a) (s₀ := s) (VmData.ne_statics_of hobj) hk0 x rest hx h0 hl hfit pre ((T.setTop g).pushFrame (.throwing a)) X.warmed hcell hpass
  refine ⟨vm', X.noted hW', ?_⟩
  obtain ⟨hgo, hw⟩ := X.here.throwing (g := g) a
  refine Steps.head hgo hw ?_
  rw [stepThread_throwing (frames_entered X.here.top _), (xc_step (s := (T.setTop g).pushFrame (.throwing a)) (meth := meth) (code := c) X.method' X.code (by rw [hsplit]; exact hf)).1]
  obtain ⟨g₀, hg0⟩ := Option.isSome_iff_exists.mp X.here.top
  obtain ⟨r, hr⟩ := State.topJava?_eq_some.mp hg0
  have hr2 : (T.setVm vm').frames = .java g₀ :: r := hr
  have e1 : ∀ (u : State) (F G : List Frame), ((u.setFrames F).setVm vm').setFrames G = (u.setVm vm').setFrames G := fun u F G => by
    have h1 : (u.setFrames F).setVm vm' = (u.setVm vm').setFrames F := rfl
    rw [h1, State.setFrames_setFrames]
  rw [State.setTop_of_frames _ hr2, hr, List.tail_cons, State.pushFrame, e1, State.setTop_of_frames _ hr, e1]
  exact Steps.refl _
/-! ===== BEGIN words of one list among another's, by their places ===== -/
theorem goodIn_r {big : List Cond} (ws : List Cond) (ps : List Nat) (hp : ws = ps.filterMap (fun i => big[i]?)) (h : ws.all goodWord = true) : GoodIn big ws := by
  intro w hw
  have h1 := List.all_eq_true.mp h w hw
  rw [hp] at hw
  obtain ⟨i, -, hi⟩ := List.mem_filterMap.mp hw
  have hm : w ∈ big := by first | exact List.mem_of_getElem? hi | exact List.getElem?_mem hi
  exact ⟨hm, good_of_word h1⟩
theorem goodIn_app {big a b : List Cond} (ha : GoodIn big a) (hb : GoodIn big b) : GoodIn big (a ++ b) := fun w h => (List.mem_append.mp h).elim (ha w) (hb w)
theorem goodIn_ca {big a b : List Cond} {c : Cond} (ha : GoodIn big (c :: a)) (hb : GoodIn big b) : GoodIn big (c :: (a ++ b)) := fun w h => (List.mem_cons.mp h).elim (fun e => ha w (List.mem_cons.mpr (Or.inl e))) (fun h => (List.mem_append.mp h).elim (fun h => ha w (List.mem_cons.mpr (Or.inr h))) (hb w))
theorem goodIn_sub {big ws : List Cond} (hm : ∀ w ∈ ws, w ∈ big) (h : ws.all goodWord = true) : GoodIn big ws := fun w hw => ⟨hm w hw, good_of_word (List.all_eq_true.mp h w hw)⟩
/-! ===== END ===== -/

/-! ===== BEGIN exceptions that leave a method, and their catching by the caller (launches without stack traces) ===== -/
section VXA
/-! The laws vx_back, vx_callV, vx_callS, vx_callSW, vx_throw0, vx_throwS follow proofs of the library, with one case more: JvmDerived/Free/Laws.lean (Back.of_free), Shelf42/LK1.lean (callV, callS), Shelf/KitTraced.lean (throwNew0V, throwNewS). -/
/-- where a method has thrown q: the class by its name, the cell, what was written, the world -/
def vx_T (XC : String → State → State → Prop) (st : State) (q : Addr) (t : State) (mc ms : Nat) (free : Addr → Prop) : Prop :=
  ∃ (E : String) (ce : Cell) (L : List Loc), XC E st t ∧ t.heap[q]? = some ce ∧ ce.vm = .none ∧ st.vm.findClass E = some ce.cls ∧ st.WarmedH t.vm ∧ st.sameButNew ({ t with vm := st.vm } : State) L mc ms ∧ ∀ z ∈ L, free z.base
def vx_Q (Qc : Array Value → State → Outcome → State → Prop) (XC : String → State → State → Prop) (mc ms : Nat) (free : Addr → Prop) : Array Value → State → Outcome → State → Prop := fun a st o t =>
  (Qc a st o t ∧ ∃ L, FrameEnd st o t L mc ms ∧ ∀ q ∈ L, free q.base) ∨ ∃ q, o = .threw q ∧ vx_T XC st q t mc ms free
/-- a callee that returns or throws -/
def vx_Met (l : Launch) (y : MethodName) (ws : List Cond) (rm : Room) (Pc : Array Value → State → Prop) (Qc : Array Value → State → Outcome → State → Prop) (XC : String → State → State → Prop) (mc ms : Nat) (free : Addr → Prop) : Prop :=
  MetFree l y (headSpec ws rm) Pc (fun _ _ _ _ _ => True) (vx_Q Qc XC mc ms free)
def vx_Post (XC : String → State → State → Prop) (mc ms : Nat) (free : Addr → Prop) : Pt → Array Value → Addr → Pt → Prop := fun A a q B =>
  ∃ (g : JFrame) (mk : MethodId) (t : State) (L : List Loc) (E : String) (ce : Cell), B.U.heap = t.heap ∧ B.U.vm = t.vm ∧ XC E (A.U.calling g mk a) t ∧ t.heap[q]? = some ce ∧ ce.vm = .none ∧ A.U.vm.findClass E = some ce.cls ∧ B.locs = A.locs ++ L ∧ (∀ z ∈ L, free z.base) ∧ B.cells = A.cells + mc ∧ B.slots = A.slots + ms
def vx_Back (l : Launch) (R : Room) (p : Program) (e : Env) (below : List Frame) (s : State) (sargs : Array Value) (y : MethodName) (len W9 : Nat)
    (Pre : Pt → Array Value → Prop) (Post : Pt → Array Value → Option Value → Pt → Prop) (PostX : Pt → Array Value → Addr → Pt → Prop) : Prop :=
  ∀ (m : MethodId) (meth : Method) (c : Code) (A : Pt) (g : JFrame) (ig : Instr) (mk : MethodId) (a : Array Value),
    Stand p l e R s m sargs below meth c A.U A.locs A.cells A.slots → g.method = m → g.locals.size = c.maxLocals → decode c.code g.pc = .ok (ig, len) →
    2 * g.monitorRoom + (g.stack.map fun v => v.category).sum ≤ W9 → A.U.methodNamed? y = some mk → Pre A a →
    (∃ (v : Option Value) (B : Pt), Stand p l e R s m sargs below meth c B.U B.locs B.cells B.slots ∧ Post A a v B ∧
      Steps p.tables e below (doInvoke e (A.U.setTop g) [] mk a).1 (B.U.setTop { g with pc := g.pc + len, stack := v.toList ++ g.stack })) ∨
    (∃ (q : Addr) (B : Pt), Stand p l e R s m sargs below meth c B.U B.locs B.cells B.slots ∧ PostX A a q B ∧
      Steps p.tables e below (doInvoke e (A.U.setTop g) [] mk a).1 ((B.U.setTop g).pushFrame (.throwing q)))
section Payer
variable {l : Launch} {R : Room} {p : Program} {e : Env} {below : List Frame} {s : State} {sargs : Array Value} {y : MethodName} {len W9 : Nat}
theorem vx_back {ws : List Cond} {rm : Room} {Pc : Array Value → State → Prop} {Qc : Array Value → State → Outcome → State → Prop} {XC : String → State → State → Prop} {mc ms : Nat} {free : Addr → Prop} {bytes : ByteArray} {maxL : Nat} {ret : Option FieldType}
    (hM : vx_Met l y ws rm Pc Qc XC mc ms free) (hblind : FrameBlind Pc) (hrc : rm.cells = mc) (hrs : rm.slots = ms)
    (hframes : rm.frames + 1 ≤ R.frames) (hlocals : W9 + (maxL + 11) + rm.locals ≤ R.locals)
    (hws : ∀ w ∈ ws, ∀ a' U, s.WarmedH U.vm → w.before a' U = true) (hcode : Cond.code y bytes maxL ret ∈ ws) (hinit : ∀ a' U, s.WarmedH U.vm → (Cond.initialized y.cls).before a' U = true) :
    vx_Back l R p e below s sargs y len W9 (PreOf R mc ms Pc) (PostOf Qc mc ms free) (vx_Post XC mc ms free) := by
  intro m meth c A g ig mk a X hg hsize hdg hW hn hp
  have h1 : (headSpec ws rm).pre.before a A.U = true := atoms_intro fun w hw => hws w hw _ _ X.warmed
  have h2 : (Cond.code y bytes maxL ret).before a A.U = true := hws _ hcode _ _ X.warmed
  have h3 : (Cond.initialized y.cls).before a A.U = true := hinit _ _ X.warmed
  have h4 : A.cells + (headSpec ws rm).room.cells ≤ R.cells := by rw [show (headSpec ws rm).room.cells = mc from hrc]; exact hp.1
  have h5 : A.slots + (headSpec ws rm).room.slots ≤ R.slots := by rw [show (headSpec ws rm).room.slots = ms from hrs]; exact hp.2.1
  have hPc : Pc a (A.U.calling g mk a) := hblind _ _ _ _ hp.2.2
  obtain ⟨U, Ls, c0, s0⟩ := A
  dsimp only [Pt.U, Pt.locs, Pt.cells, Pt.slots] at h1 h2 h3 h4 h5 X hn hPc ⊢
  obtain ⟨methY, cY, hmY, hcY, -, hlY, -, -, -, -⟩ := Cond.code_spec hn h2
  obtain ⟨kY, hkY, -⟩ := className_of_methodNamed hn
  have hinitY : kY.init = .initialized := Cond.initialized_spec (findClass_of_methodNamed hn) hkY h3
  have h : At U g.method c below := by rw [hg]; exact X.here
  have hlocals9 : W9 + (maxL + 11) + (headSpec ws rm).room.locals ≤ R.locals := hlocals
  have happ : (headSpec ws rm).appliesLoose y e.platform (U.calling g mk a) = true :=
    Spec.appliesLoose_calling (g := g) h hdg hn hkY hinitY
      (X.room_calling (g := g) (R' := (headSpec ws rm).room) hsize hmY hcY hframes (by rw [hlY]; omega) h4 h5) h1
  obtain ⟨mid, hmid⟩ := h.above
  have hfr : (U.setTop g).frames = (.java g :: mid) ++ below := by rw [State.frames_setTop' g h.top, hmid]; rfl
  obtain ⟨o, s₂, hsteps, -, hend, hq⟩ := Steps.callFree hM p X.admits X.cas X.clock (acts := []) hfr happ hPc trivial
  have hq' : vx_Q Qc XC mc ms free a (U.calling g mk a) o s₂ := hq
  rw [State.frames_setTop' g h.top] at hend
  obtain ⟨g₀, hg0⟩ := Option.isSome_iff_exists.mp h.top
  obtain ⟨r, hr⟩ := State.topJava?_eq_some.mp hg0
  have hr' : (({ U with heap := s₂.heap, slotsUsed := s₂.slotsUsed } : State).setVm s₂.vm).frames = .java g₀ :: r := hr
  rcases hq' with ⟨hqc, L, hfe, hL⟩ | ⟨q, rfl, E, ce, L, hx, hce, hcv, hcl, hW₂, hsm, hL⟩
  · obtain ⟨⟨v, rfl⟩, hW₂, e2, q2, q3, q4, q5, q6⟩ := id hfe
    have e3 : s₂ = ({ (U.calling g mk a).setFrames s₂.frames with heap := s₂.heap, slotsUsed := s₂.slotsUsed } : State).setVm s₂.vm := by
      have : s₂ = ({ s₂ with vm := (U.calling g mk a).vm } : State).setVm s₂.vm := rfl
      rw [e2] at this
      exact this
    obtain ⟨c₂, i₂, len₂, hc₂, hd₂, hf₂⟩ := hend
    have hW' : U.WarmedH s₂.vm := hW₂
    have hcc : c₂ = c := by
      have h1 : s₂.code? g.method = U.code? g.method := by
        rw [State.code?_eq, State.code?_eq, hW'.alike.method?]
      exact Option.some.inj (hc₂.symm.trans (h1.trans h.code))
    subst hcc
    have hlen : len₂ = len := by rw [hdg] at hd₂; cases hd₂; rfl
    subst hlen
    have hs₂ : s₂ = (({ U with heap := s₂.heap, slotsUsed := s₂.slotsUsed } : State).setVm s₂.vm).setTop { g with pc := g.pc + len₂, stack := v.toList ++ g.stack } := by
      refine e3.trans ?_
      rw [hf₂, State.calling_eq h.top, State.setFrames_setFrames, State.setTop_of_frames _ hr', hr]
      rfl
    have hsame : U.sameButNew ({ U with heap := s₂.heap, slotsUsed := s₂.slotsUsed } : State) L mc ms := by
      refine ⟨?_, q2, q3, q4, q5, q6⟩
      obtain ⟨t, ht, -⟩ := State.frames_cons hr
      show ({ U with heap := s₂.heap, slotsUsed := s₂.slotsUsed } : State) = { U.setFrames U.frames with heap := s₂.heap, slotsUsed := s₂.slotsUsed }
      rw [State.setFrames_self ht]
    subst hg
    refine Or.inl ⟨v, ⟨(({ U with heap := s₂.heap, slotsUsed := s₂.slotsUsed } : State).setVm s₂.vm), Ls ++ L, c0 + mc, s0 + ms⟩,
      ⟨X.admits, X.cas, X.clock, X.frames, X.room, X.hears, X.method, X.code, (X.here.setHeapUsed s₂.heap s₂.slotsUsed).setVm hW'.alike, X.tail, State.WarmedH.trans X.warmed hW', X.limits, X.bytes, X.same.trans (hsame.setVm s.vm)⟩,
      ⟨g, mk, s₂, L, rfl, rfl, hqc, rfl, hL, rfl, rfl⟩, ?_⟩
    show Steps p.tables e below _ ((({ U with heap := s₂.heap, slotsUsed := s₂.slotsUsed } : State).setVm s₂.vm).setTop { g with pc := g.pc + len₂, stack := v.toList ++ g.stack })
    rw [← hs₂]
    exact hsteps
  · obtain ⟨e2, q2, q3, q4, q5, q6⟩ := id hsm
    have e3 : s₂ = ({ (U.calling g mk a).setFrames s₂.frames with heap := s₂.heap, slotsUsed := s₂.slotsUsed } : State).setVm s₂.vm := by
      have : s₂ = ({ s₂ with vm := (U.calling g mk a).vm } : State).setVm s₂.vm := rfl
      rw [e2] at this
      exact this
    have hf₂ : s₂.frames = .throwing q :: .java g :: U.frames.tail := hend
    have hW' : U.WarmedH s₂.vm := hW₂
    have hs₂ : s₂ = ((({ U with heap := s₂.heap, slotsUsed := s₂.slotsUsed } : State).setVm s₂.vm).setTop g).pushFrame (.throwing q) := by
      refine e3.trans ?_
      rw [hf₂, State.calling_eq h.top, State.setFrames_setFrames, State.pushFrame, State.frames_setTop _ hr', State.setTop_of_frames _ hr', State.setFrames_setFrames, hr]
      rfl
    have hsame : U.sameButNew ({ U with heap := s₂.heap, slotsUsed := s₂.slotsUsed } : State) L mc ms := by
      refine ⟨?_, q2, q3, q4, q5, q6⟩
      obtain ⟨t, ht, -⟩ := State.frames_cons hr
      show ({ U with heap := s₂.heap, slotsUsed := s₂.slotsUsed } : State) = { U.setFrames U.frames with heap := s₂.heap, slotsUsed := s₂.slotsUsed }
      rw [State.setFrames_self ht]
    subst hg
    refine Or.inr ⟨q, ⟨(({ U with heap := s₂.heap, slotsUsed := s₂.slotsUsed } : State).setVm s₂.vm), Ls ++ L, c0 + mc, s0 + ms⟩,
      ⟨X.admits, X.cas, X.clock, X.frames, X.room, X.hears, X.method, X.code, (X.here.setHeapUsed s₂.heap s₂.slotsUsed).setVm hW'.alike, X.tail, State.WarmedH.trans X.warmed hW', X.limits, X.bytes, X.same.trans (hsame.setVm s.vm)⟩,
      ⟨g, mk, s₂, L, E, ce, rfl, rfl, hx, hce, hcv, hcl, rfl, hL, rfl, rfl⟩, ?_⟩
    show Steps p.tables e below _ (((({ U with heap := s₂.heap, slotsUsed := s₂.slotsUsed } : State).setVm s₂.vm).setTop g).pushFrame (.throwing q))
    rw [← hs₂]
    exact hsteps
end Payer
section Calls
variable {p : Program} {l : Launch} {e : Env} {R : Room} {s : State} {m : MethodId} {args : Array Value} {below : List Frame} {meth : Method} {c : Code} {T : State} {locs : List Loc} {cells slots : Nat}
theorem vx_callV (X : Stand p l e R s m args below meth c T locs cells slots) (hexec : p.tables.exec = Jvm.exec) {own C : String} {index : Nat} {y : MethodName} {bytes : ByteArray} {maxL : Nat} {ret : Option FieldType}
    (hown : s.vm.findClass own = some m.cls) (hlink : (Cond.methodLink own index y).before args s = true) (hinst : (Cond.instanceMethod y).before args s = true) (hsel : (Cond.selects C y y).before args s = true)
    (hcode : (Cond.code y bytes maxL ret).before args s = true) (hy : y.cls ≠ "java/lang/invoke/MethodHandle" ∧ y.cls ≠ "java/lang/invoke/VarHandle")
    {W9 : Nat} {Pre : Pt → Array Value → Prop} {Post : Pt → Array Value → Option Value → Pt → Prop} {PostX : Pt → Array Value → Addr → Pt → Prop} (hK : vx_Back l R p e below s args y 3 W9 Pre Post PostX)
    {b : Addr} {cellB : Cell} (hcell : T.heap[b]? = some cellB) (hobj : cellB.vm.isStatics = false) (hcls : s.vm.findClass C = some cellB.cls)
    {g : JFrame} (hg : g.method = m) (hsize : g.locals.size = c.maxLocals) {argsL rest : List Value} (hlen : ∀ sig, parseMethodDescriptor y.desc = some sig → argsL.length = sig.parameters.length)
    (hstack : g.stack = argsL.reverse ++ .ref b :: rest) (hW : 2 * g.monitorRoom + (rest.map fun v => v.category).sum ≤ W9) (hdg : decode c.code g.pc = .ok (.invokevirtual index, 3))
    (hpre : ∀ vm₁, s.WarmedH vm₁ → Pre ⟨T.setVm vm₁, locs, cells, slots⟩ (Value.ref b :: argsL).toArray) :
    (∃ (v : Option Value) (vm₁ : Vm) (B : Pt), s.WarmedH vm₁ ∧ Stand p l e R s m args below meth c B.U B.locs B.cells B.slots ∧ Post ⟨T.setVm vm₁, locs, cells, slots⟩ (Value.ref b :: argsL).toArray v B ∧
      ∀ target, Steps p.tables e below (B.U.setTop { g with pc := g.pc + 3, stack := v.toList ++ rest }) target → Steps p.tables e below (T.setTop g) target) ∨
    (∃ (q : Addr) (vm₁ : Vm) (B : Pt), s.WarmedH vm₁ ∧ Stand p l e R s m args below meth c B.U B.locs B.cells B.slots ∧ PostX ⟨T.setVm vm₁, locs, cells, slots⟩ (Value.ref b :: argsL).toArray q B ∧
      Steps p.tables e below (T.setTop g) ((B.U.setTop { g with stack := rest }).pushFrame (.throwing q))) := by
  obtain ⟨mk, methM, hnamed, hmethM, hstM, habM⟩ := Cond.instanceMethod_spec hinst
  obtain ⟨methM', cM, hmethM', -, -, -, -, -, -, hsigM⟩ := Cond.code_spec hnamed hcode
  cases hmethM.symm.trans hmethM'
  obtain ⟨c2, r2, m2, q1, q2, q3, q4, kP, hkP, hkPi⟩ := Cond.selects_spec hsel
  cases hcls.symm.trans q1
  cases (State.methodFound?_of_named hnamed hy).symm.trans q2
  cases hnamed.symm.trans q3
  have hselP : selectMethod e.platform s.vm cellB.cls mk = .method mk := by rw [Launch.admits_selectMethod X.admits]; exact q4
  obtain ⟨vm₁, X₁, hstep₁⟩ := X.invokevirtual hexec hown hlink hnamed hmethM hstM hkP hkPi hy (a := b) (cell := cellB) hcell
    (fun z h => by rw [h] at hobj; cases hobj) hselP hmethM habM hkP hkPi (g := g) hg (argsL := argsL) (rest := rest) (hlen _ hsigM) hstack hdg
  rcases hK m meth c ⟨T.setVm vm₁, locs, cells, slots⟩ { g with stack := rest } (.invokevirtual index) mk (Value.ref b :: argsL).toArray X₁ hg hsize hdg hW (X₁.named hnamed) (hpre vm₁ X₁.warmed) with ⟨v, B, X', hpost, hsteps⟩ | ⟨q, B, X', hpost, hsteps⟩
  · exact Or.inl ⟨v, vm₁, B, X₁.warmed, X', hpost, fun target h => hstep₁ _ fun acts => by rw [doInvoke_state]; exact hsteps.trans h⟩
  · exact Or.inr ⟨q, vm₁, B, X₁.warmed, X', hpost, hstep₁ _ fun acts => by rw [doInvoke_state]; exact hsteps⟩
theorem vx_callS (X : Stand p l e R s m args below meth c T locs cells slots) (hexec : p.tables.exec = Jvm.exec) {own : String} {index : Nat} {y : MethodName} {bytes : ByteArray} {maxL : Nat} {ret : Option FieldType}
    (hown : s.vm.findClass own = some m.cls) (hlink : (Cond.methodLink own index y).before args s = true) (hstat : (Cond.static y).before args s = true) (hinit : (Cond.initialized y.cls).before args s = true)
    (hcode : (Cond.code y bytes maxL ret).before args s = true) (hy : y.cls ≠ "java/lang/invoke/MethodHandle" ∧ y.cls ≠ "java/lang/invoke/VarHandle")
    {W9 : Nat} {Pre : Pt → Array Value → Prop} {Post : Pt → Array Value → Option Value → Pt → Prop} {PostX : Pt → Array Value → Addr → Pt → Prop} (hK : vx_Back l R p e below s args y 3 W9 Pre Post PostX)
    {g : JFrame} (hg : g.method = m) (hsize : g.locals.size = c.maxLocals) {argsL rest : List Value} (hlen : ∀ sig, parseMethodDescriptor y.desc = some sig → argsL.length = sig.parameters.length)
    (hstack : g.stack = argsL.reverse ++ rest) (hW : 2 * g.monitorRoom + (rest.map fun v => v.category).sum ≤ W9) (hdg : decode c.code g.pc = .ok (.invokestatic index, 3))
    (hpre : ∀ vm₁, s.WarmedH vm₁ → Pre ⟨T.setVm vm₁, locs, cells, slots⟩ argsL.toArray) :
    (∃ (v : Option Value) (vm₁ : Vm) (B : Pt), s.WarmedH vm₁ ∧ Stand p l e R s m args below meth c B.U B.locs B.cells B.slots ∧ Post ⟨T.setVm vm₁, locs, cells, slots⟩ argsL.toArray v B ∧
      ∀ target, Steps p.tables e below (B.U.setTop { g with pc := g.pc + 3, stack := v.toList ++ rest }) target → Steps p.tables e below (T.setTop g) target) ∨
    (∃ (q : Addr) (vm₁ : Vm) (B : Pt), s.WarmedH vm₁ ∧ Stand p l e R s m args below meth c B.U B.locs B.cells B.slots ∧ PostX ⟨T.setVm vm₁, locs, cells, slots⟩ argsL.toArray q B ∧
      Steps p.tables e below (T.setTop g) ((B.U.setTop { g with stack := rest }).pushFrame (.throwing q))) := by
  obtain ⟨mk, hnamed⟩ := Cond.code_named hcode
  obtain ⟨methM, cM, hmethM, -, -, -, -, -, -, hsigM⟩ := Cond.code_spec hnamed hcode
  have hstatic : methM.isStatic = true := Cond.static_spec hnamed hmethM hstat
  obtain ⟨kP, hkP, -⟩ := className_of_methodNamed hnamed
  have hinitP : kP.init = .initialized := Cond.initialized_spec (findClass_of_methodNamed hnamed) hkP hinit
  obtain ⟨vm₁, X₁, hstep₁⟩ := X.invokestatic hexec hown hlink hnamed hmethM hstatic hkP hinitP hy (g := g) hg (argsL := argsL) (rest := rest) (hlen _ hsigM) hstack hdg
  rcases hK m meth c ⟨T.setVm vm₁, locs, cells, slots⟩ { g with stack := rest } (.invokestatic index) mk argsL.toArray X₁ hg hsize hdg hW (X₁.named hnamed) (hpre vm₁ X₁.warmed) with ⟨v, B, X', hpost, hsteps⟩ | ⟨q, B, X', hpost, hsteps⟩
  · exact Or.inl ⟨v, vm₁, B, X₁.warmed, X', hpost, fun target h => hstep₁ _ fun acts => by rw [doInvoke_state]; exact hsteps.trans h⟩
  · exact Or.inr ⟨q, vm₁, B, X₁.warmed, X', hpost, hstep₁ _ fun acts => by rw [doInvoke_state]; exact hsteps⟩
end Calls
theorem vx_cls {s : State} {T : State} {vm₁ : Vm} {E : String} {k : ClassId} (hW : s.WarmedH vm₁) (h : (T.setVm vm₁).vm.findClass E = some k) : s.vm.findClass E = some k := by
  have h1 : vm₁.findClass E = some k := h
  rw [hW.alike.findClass] at h1
  exact h1
/-- the method's frame g, with q thrown over it -/
def vx_W (p : Program) (l : Launch) (e : Env) (R : Room) (s : State) (m : MethodId) (args : Array Value) (below : List Frame) (meth : Method) (c : Code) (H : Heap) (locs : List Loc) (cells slots : Nat) (Q : State → Prop) (g : JFrame) (q : Addr) : Prop :=
  ∀ T : State, T.heap = H → Stand p l e R s m args below meth c T locs cells slots → ∃ t, Steps p.tables e below ((T.setTop g).pushFrame (.throwing q)) t ∧ Q t
def vx_Run (p : Program) (l : Launch) (e : Env) (R : Room) (s : State) (m : MethodId) (args : Array Value) (below : List Frame) (meth : Method) (c : Code) (H : Heap) (locs : List Loc) (cells slots mc ms : Nat) (g : JFrame) (rest : List Value) (Qa : State → Outcome → State → Prop) (XC : String → State → State → Prop) (free : Addr → Prop) : Prop :=
  ∀ T : State, T.heap = H → Stand p l e R s m args below meth c T locs cells slots →
    (∃ (v : Option Value) (st₀ t T' : State) (L : List Loc), st₀.heap = H ∧ Stand p l e R s m args below meth c T' (locs ++ L) (cells + mc) (slots + ms) ∧ (∀ q ∈ L, free q.base) ∧ T'.heap = t.heap ∧ T'.vm = t.vm ∧ Qa st₀ (.returned v) t ∧
      Goes p e below T g T' { g with pc := g.pc + 3, stack := v.toList ++ rest }) ∨
    (∃ (q : Addr) (st₀ t T' : State) (L : List Loc) (E : String) (ce : Cell), st₀.heap = H ∧ Stand p l e R s m args below meth c T' (locs ++ L) (cells + mc) (slots + ms) ∧ (∀ z ∈ L, free z.base) ∧ T'.heap = t.heap ∧ T'.vm = t.vm ∧ XC E st₀ t ∧ t.heap[q]? = some ce ∧ ce.vm = .none ∧ s.vm.findClass E = some ce.cls ∧
      Steps p.tables e below (T.setTop g) ((T'.setTop { g with stack := rest }).pushFrame (.throwing q)))
def vx_X {S : Type} (px : S → Prop) (B : String → S → State → Prop) (A : Nat → Prop) : String → State → State → Prop := fun E st t => ∃ u : S, px u ∧ B E u t ∧ va_F A st t
section Runs
variable {p : Program} {l : Launch} {e : Env} {R : Room} {s : State} {m : MethodId} {args : Array Value} {below : List Frame} {meth : Method} {c : Code} {H : Heap} {locs : List Loc} {cells slots : Nat}
variable {y : MethodName} {bytes cc : ByteArray} {maxL nL mc ms n index : Nat} {ret : Option FieldType} {ws : List Cond} {rm : Room} {Pc : Array Value → State → Prop} {Qc : Array Value → State → Outcome → State → Prop} {XC : String → State → State → Prop} {free : Addr → Prop} {Ts : List Cond} {own C : String} {b : Addr} {As rest : List Value} {g : JFrame}
theorem vx_callBack (cb : CallB R s args own index y bytes maxL ret ws rm mc ms n) (hM : vx_Met l y ws rm Pc Qc XC mc ms free) (hbl : FrameBlind Pc) : vx_Back l R p e below s args y 3 8 (PreOf R mc ms Pc) (PostOf Qc mc ms free) (vx_Post XC mc ms free) := by
  obtain ⟨hrc, hrs, hfr, hlo, hws, hcw, -, hini, -⟩ := cb
  exact vx_back (bytes := bytes) (maxL := maxL) (ret := ret) hM hbl hrc hrs hfr hlo hws hcw (fun a' U hW => word_at hW (Or.inl (by first | rfl | simp [Cond.onTables, Cond.keeps, Cond.steady])) hini)
theorem vx_runV (S : CallFix p m c cc nL s args Ts own) (hM : vx_Met l y ws rm Pc Qc XC mc ms free) (cw : CallW R s args own C index y bytes maxL ret ws rm mc ms n) (hp : PreV s H C b Pc As)
    (hg : g.method = m) (hn : As.length = n) (hsize : g.locals.size = nL) (hstack : g.stack = As.reverse ++ .ref b :: rest) (hW : 2 * g.monitorRoom + (rest.map fun v => v.category).sum ≤ 8) (hdg : decode cc g.pc = .ok (.invokevirtual index, 3)) (hf : cells + mc ≤ R.cells ∧ slots + ms ≤ R.slots) :
    vx_Run p l e R s m args below meth c H locs cells slots mc ms g rest (Qc (Value.ref b :: As).toArray) XC free := by
  have hK : vx_Back l R p e below s args y 3 8 (PreOf R mc ms Pc) (PostOf Qc mc ms free) (vx_Post XC mc ms free) := vx_callBack cw.1 hM hp.1
  obtain ⟨⟨-, -, -, -, -, -, hcode, -, hy, hlen, hl⟩, hin, hse⟩ := cw
  obtain ⟨hx, hb, hml, ho, -⟩ := S
  obtain ⟨-, ⟨cellB, hcB, hoB, hclB⟩, hPc⟩ := hp
  intro T hT X
  rcases vx_callV X hx (C := C) (bytes := bytes) (maxL := maxL) (ret := ret) ho hl hin hse hcode hy hK (by rw [hT]; exact hcB) hoB hclB hg (hsize.trans hml.symm) (argsL := As) (rest := rest) (fun sig h => hn.trans (hlen sig h)) hstack hW (by rw [hb]; exact hdg)
    (fun vm₁ hW₁ => ⟨hf.1, hf.2, hPc (T.setVm vm₁) hT hW₁⟩) with ⟨v, vm₁, ⟨U', l2, c2, s2⟩, hW₁, X', ⟨g', mk, t, L, e1, e2, hq, h1, hL, h2, h3⟩, st⟩ | ⟨q, vm₁, ⟨U', l2, c2, s2⟩, hW₁, X', ⟨g', mk, t, L, E, ce, e1, e2, hq, hce, hcv, hcl, h1, hL, h2, h3⟩, st⟩
  · dsimp only [Pt.U, Pt.locs, Pt.cells, Pt.slots] at X' e1 e2 h1 h2 h3 st
    subst h1; subst h2; subst h3
    exact Or.inl ⟨v, (T.setVm vm₁).calling g' mk (Value.ref b :: As).toArray, t, U', L, hT, X', hL, e1, e2, hq, st⟩
  · dsimp only [Pt.U, Pt.locs, Pt.cells, Pt.slots] at X' e1 e2 h1 h2 h3 st hcl
    subst h1; subst h2; subst h3
    exact Or.inr ⟨q, (T.setVm vm₁).calling g' mk (Value.ref b :: As).toArray, t, U', L, E, ce, hT, X', hL, e1, e2, hq, hce, hcv, vx_cls hW₁ hcl, st⟩
theorem vx_runS (S : CallFix p m c cc nL s args Ts own) (hM : vx_Met l y ws rm Pc Qc XC mc ms free) (cw : CallB R s args own index y bytes maxL ret ws rm mc ms n ∧ (Cond.static y).before args s = true) (hp : PreS s H Pc As)
    (hg : g.method = m) (hn : As.length = n) (hsize : g.locals.size = nL) (hstack : g.stack = As.reverse ++ rest) (hW : 2 * g.monitorRoom + (rest.map fun v => v.category).sum ≤ 8) (hdg : decode cc g.pc = .ok (.invokestatic index, 3)) (hf : cells + mc ≤ R.cells ∧ slots + ms ≤ R.slots) :
    vx_Run p l e R s m args below meth c H locs cells slots mc ms g rest (Qc As.toArray) XC free := by
  have hK : vx_Back l R p e below s args y 3 8 (PreOf R mc ms Pc) (PostOf Qc mc ms free) (vx_Post XC mc ms free) := vx_callBack cw.1 hM hp.1
  obtain ⟨⟨-, -, -, -, -, -, hcode, hini, hy, hlen, hl⟩, hstt⟩ := cw
  obtain ⟨hx, hb, hml, ho, -⟩ := S
  intro T hT X
  rcases vx_callS X hx (bytes := bytes) (maxL := maxL) (ret := ret) ho hl hstt hini hcode hy hK hg (hsize.trans hml.symm) (argsL := As) (rest := rest) (fun sig h => hn.trans (hlen sig h)) hstack hW (by rw [hb]; exact hdg)
    (fun vm₁ hW₁ => ⟨hf.1, hf.2, hp.2 (T.setVm vm₁) hT hW₁⟩) with ⟨v, vm₁, ⟨U', l2, c2, s2⟩, hW₁, X', ⟨g', mk, t, L, e1, e2, hq, h1, hL, h2, h3⟩, st⟩ | ⟨q, vm₁, ⟨U', l2, c2, s2⟩, hW₁, X', ⟨g', mk, t, L, E, ce, e1, e2, hq, hce, hcv, hcl, h1, hL, h2, h3⟩, st⟩
  · dsimp only [Pt.U, Pt.locs, Pt.cells, Pt.slots] at X' e1 e2 h1 h2 h3 st
    subst h1; subst h2; subst h3
    exact Or.inl ⟨v, (T.setVm vm₁).calling g' mk As.toArray, t, U', L, hT, X', hL, e1, e2, hq, st⟩
  · dsimp only [Pt.U, Pt.locs, Pt.cells, Pt.slots] at X' e1 e2 h1 h2 h3 st hcl
    subst h1; subst h2; subst h3
    exact Or.inr ⟨q, (T.setVm vm₁).calling g' mk As.toArray, t, U', L, E, ce, hT, X', hL, e1, e2, hq, hce, hcv, vx_cls hW₁ hcl, st⟩
end Runs
section Rows
variable {p : Program} {l : Launch} {e : Env} {R : Room} {s : State} {m : MethodId} {args : Array Value} {below : List Frame} {meth : Method} {c : Code} {H : Heap} {locs : List Loc} {cells slots : Nat} {Q : State → Prop}
variable {mc ms : Nat} {free : Addr → Prop} {A0 A1 : Nat → Prop} {H0 : Heap} {a : Array Value} {pc : Nat} {ls : Array Slot} {st0 rest : List Value}
theorem vx_keep {st₀ t T' : State} {L : List Loc} (h0 : st₀.heap = H) (e1 : T'.heap = t.heap) (hS : va_S A0 H0 H locs) (hA : ∀ q, q < H.size → A1 q → A0 q) (hf : ∀ q, free q → A0 q) (hL : ∀ q ∈ L, free q.base) (hF : va_F A1 st₀ t) :
    H.size ≤ T'.heap.size ∧ (∀ q : Nat, q < H.size → ¬ A1 q → T'.heap[q]? = H[q]?) ∧ va_S A0 H0 T'.heap (locs ++ L) := by
  obtain ⟨hz, hk⟩ := hF
  rw [h0] at hz hk
  exact ⟨by rw [e1]; exact hz, fun q h1 h2 => by rw [e1]; exact hk q h1 h2,
    ⟨Nat.le_trans hS.1 (by rw [e1]; exact hz), fun q h1 h2 => by rw [e1, hk q (Nat.lt_of_lt_of_le h1 hS.1) (fun z => h2 (hA q (Nat.lt_of_lt_of_le h1 hS.1) z))]; exact hS.2.1 q h1 h2, fun q hq => by
      rcases List.mem_append.mp hq with h | h
      · exact hS.2.2 q h
      · exact hf _ (hL q h)⟩⟩
theorem vx_calli {S SX : Type} {post : Int32 → S → Prop} {px : SX → Prop} {B : S → State → Prop} {BX : String → SX → State → Prop} {AX : Nat → Prop} (hr : vx_Run p l e R s m args below meth c H locs cells slots mc ms (F0 m pc ls st0) rest (va_Qi post B A1 a) (vx_X px BX AX) free) (hS : va_S A0 H0 H locs) (hA : ∀ q, q < H.size → A1 q → A0 q) (hf : ∀ q, free q → A0 q) (hAX : ∀ q, q < H.size → AX q → A0 q)
    (kx : ∀ (E : String) (ce : Cell) (q9 : Addr) (u : SX) (t : State) (H1 : Heap) (locs1 : List Loc), t.heap = H1 → s.vm.Alike t.vm → px u → BX E u t → H.size ≤ H1.size → (∀ q : Nat, q < H.size → ¬ AX q → H1[q]? = H[q]?) → va_S A0 H0 H1 locs1 → H1[q9]? = some ce → ce.vm = .none → s.vm.findClass E = some ce.cls → vx_W p l e R s m args below meth c H1 locs1 (cells + mc) (slots + ms) Q (F0 m pc ls rest) q9)
    (kk : ∀ (r : Int32) (u : S) (t : State) (H1 : Heap) (locs1 : List Loc), t.heap = H1 → s.vm.Alike t.vm → post r u → B u t → H.size ≤ H1.size → (∀ q : Nat, q < H.size → ¬ A1 q → H1[q]? = H[q]?) → va_S A0 H0 H1 locs1 → W p l e R s m args below meth c H1 locs1 (cells + mc) (slots + ms) Q (F0 m (pc + 3) ls (.int r :: rest))) : W p l e R s m args below meth c H locs cells slots Q (F0 m pc ls st0) := by
  intro T hT X
  rcases hr T hT X with ⟨v, st₀, t, T', L, h0, X', hL, e1, e2, ⟨⟨r, u, hv, hp, hb⟩, hF⟩, st⟩ | ⟨q, st₀, t, T', L, E, ce, h0, X', hL, e1, e2, ⟨u, hp, hb, hF⟩, hce, hcv, hcl, st⟩
  · cases hv
    obtain ⟨k1, k2, k3⟩ := vx_keep h0 e1 hS hA hf hL hF
    obtain ⟨t2, a1, b1⟩ := kk r u t T'.heap (locs ++ L) e1.symm (by rw [← e2]; exact X'.warmed.alike) hp hb k1 k2 k3 T' rfl X'
    exact ⟨t2, st t2 a1, b1⟩
  · obtain ⟨k1, k2, k3⟩ := vx_keep h0 e1 hS hAX hf hL hF
    obtain ⟨t2, a1, b1⟩ := kx E ce q u t T'.heap (locs ++ L) e1.symm (by rw [← e2]; exact X'.warmed.alike) hp hb k1 k2 k3 (by rw [e1]; exact hce) hcv hcl T' rfl X'
    exact ⟨t2, st.trans a1, b1⟩
theorem vx_calll {S SX : Type} {post : Int64 → S → Prop} {px : SX → Prop} {B : S → State → Prop} {BX : String → SX → State → Prop} {AX : Nat → Prop} (hr : vx_Run p l e R s m args below meth c H locs cells slots mc ms (F0 m pc ls st0) rest (va_Ql post B A1 a) (vx_X px BX AX) free) (hS : va_S A0 H0 H locs) (hA : ∀ q, q < H.size → A1 q → A0 q) (hf : ∀ q, free q → A0 q) (hAX : ∀ q, q < H.size → AX q → A0 q)
    (kx : ∀ (E : String) (ce : Cell) (q9 : Addr) (u : SX) (t : State) (H1 : Heap) (locs1 : List Loc), t.heap = H1 → s.vm.Alike t.vm → px u → BX E u t → H.size ≤ H1.size → (∀ q : Nat, q < H.size → ¬ AX q → H1[q]? = H[q]?) → va_S A0 H0 H1 locs1 → H1[q9]? = some ce → ce.vm = .none → s.vm.findClass E = some ce.cls → vx_W p l e R s m args below meth c H1 locs1 (cells + mc) (slots + ms) Q (F0 m pc ls rest) q9)
    (kk : ∀ (r : Int64) (u : S) (t : State) (H1 : Heap) (locs1 : List Loc), t.heap = H1 → s.vm.Alike t.vm → post r u → B u t → H.size ≤ H1.size → (∀ q : Nat, q < H.size → ¬ A1 q → H1[q]? = H[q]?) → va_S A0 H0 H1 locs1 → W p l e R s m args below meth c H1 locs1 (cells + mc) (slots + ms) Q (F0 m (pc + 3) ls (.long r :: rest))) : W p l e R s m args below meth c H locs cells slots Q (F0 m pc ls st0) := by
  intro T hT X
  rcases hr T hT X with ⟨v, st₀, t, T', L, h0, X', hL, e1, e2, ⟨⟨r, u, hv, hp, hb⟩, hF⟩, st⟩ | ⟨q, st₀, t, T', L, E, ce, h0, X', hL, e1, e2, ⟨u, hp, hb, hF⟩, hce, hcv, hcl, st⟩
  · cases hv
    obtain ⟨k1, k2, k3⟩ := vx_keep h0 e1 hS hA hf hL hF
    obtain ⟨t2, a1, b1⟩ := kk r u t T'.heap (locs ++ L) e1.symm (by rw [← e2]; exact X'.warmed.alike) hp hb k1 k2 k3 T' rfl X'
    exact ⟨t2, st t2 a1, b1⟩
  · obtain ⟨k1, k2, k3⟩ := vx_keep h0 e1 hS hAX hf hL hF
    obtain ⟨t2, a1, b1⟩ := kx E ce q u t T'.heap (locs ++ L) e1.symm (by rw [← e2]; exact X'.warmed.alike) hp hb k1 k2 k3 (by rw [e1]; exact hce) hcv hcl T' rfl X'
    exact ⟨t2, st.trans a1, b1⟩
theorem vx_callf {S SX : Type} {post : UInt32 → S → Prop} {px : SX → Prop} {B : S → State → Prop} {BX : String → SX → State → Prop} {AX : Nat → Prop} (hr : vx_Run p l e R s m args below meth c H locs cells slots mc ms (F0 m pc ls st0) rest (va_Qf post B A1 a) (vx_X px BX AX) free) (hS : va_S A0 H0 H locs) (hA : ∀ q, q < H.size → A1 q → A0 q) (hf : ∀ q, free q → A0 q) (hAX : ∀ q, q < H.size → AX q → A0 q)
    (kx : ∀ (E : String) (ce : Cell) (q9 : Addr) (u : SX) (t : State) (H1 : Heap) (locs1 : List Loc), t.heap = H1 → s.vm.Alike t.vm → px u → BX E u t → H.size ≤ H1.size → (∀ q : Nat, q < H.size → ¬ AX q → H1[q]? = H[q]?) → va_S A0 H0 H1 locs1 → H1[q9]? = some ce → ce.vm = .none → s.vm.findClass E = some ce.cls → vx_W p l e R s m args below meth c H1 locs1 (cells + mc) (slots + ms) Q (F0 m pc ls rest) q9)
    (kk : ∀ (r : UInt32) (u : S) (t : State) (H1 : Heap) (locs1 : List Loc), t.heap = H1 → s.vm.Alike t.vm → post r u → B u t → H.size ≤ H1.size → (∀ q : Nat, q < H.size → ¬ A1 q → H1[q]? = H[q]?) → va_S A0 H0 H1 locs1 → W p l e R s m args below meth c H1 locs1 (cells + mc) (slots + ms) Q (F0 m (pc + 3) ls (.float r :: rest))) : W p l e R s m args below meth c H locs cells slots Q (F0 m pc ls st0) := by
  intro T hT X
  rcases hr T hT X with ⟨v, st₀, t, T', L, h0, X', hL, e1, e2, ⟨⟨r, u, hv, hp, hb⟩, hF⟩, st⟩ | ⟨q, st₀, t, T', L, E, ce, h0, X', hL, e1, e2, ⟨u, hp, hb, hF⟩, hce, hcv, hcl, st⟩
  · cases hv
    obtain ⟨k1, k2, k3⟩ := vx_keep h0 e1 hS hA hf hL hF
    obtain ⟨t2, a1, b1⟩ := kk r u t T'.heap (locs ++ L) e1.symm (by rw [← e2]; exact X'.warmed.alike) hp hb k1 k2 k3 T' rfl X'
    exact ⟨t2, st t2 a1, b1⟩
  · obtain ⟨k1, k2, k3⟩ := vx_keep h0 e1 hS hAX hf hL hF
    obtain ⟨t2, a1, b1⟩ := kx E ce q u t T'.heap (locs ++ L) e1.symm (by rw [← e2]; exact X'.warmed.alike) hp hb k1 k2 k3 (by rw [e1]; exact hce) hcv hcl T' rfl X'
    exact ⟨t2, st.trans a1, b1⟩
theorem vx_calld {S SX : Type} {post : UInt64 → S → Prop} {px : SX → Prop} {B : S → State → Prop} {BX : String → SX → State → Prop} {AX : Nat → Prop} (hr : vx_Run p l e R s m args below meth c H locs cells slots mc ms (F0 m pc ls st0) rest (va_Qd post B A1 a) (vx_X px BX AX) free) (hS : va_S A0 H0 H locs) (hA : ∀ q, q < H.size → A1 q → A0 q) (hf : ∀ q, free q → A0 q) (hAX : ∀ q, q < H.size → AX q → A0 q)
    (kx : ∀ (E : String) (ce : Cell) (q9 : Addr) (u : SX) (t : State) (H1 : Heap) (locs1 : List Loc), t.heap = H1 → s.vm.Alike t.vm → px u → BX E u t → H.size ≤ H1.size → (∀ q : Nat, q < H.size → ¬ AX q → H1[q]? = H[q]?) → va_S A0 H0 H1 locs1 → H1[q9]? = some ce → ce.vm = .none → s.vm.findClass E = some ce.cls → vx_W p l e R s m args below meth c H1 locs1 (cells + mc) (slots + ms) Q (F0 m pc ls rest) q9)
    (kk : ∀ (r : UInt64) (u : S) (t : State) (H1 : Heap) (locs1 : List Loc), t.heap = H1 → s.vm.Alike t.vm → post r u → B u t → H.size ≤ H1.size → (∀ q : Nat, q < H.size → ¬ A1 q → H1[q]? = H[q]?) → va_S A0 H0 H1 locs1 → W p l e R s m args below meth c H1 locs1 (cells + mc) (slots + ms) Q (F0 m (pc + 3) ls (.double r :: rest))) : W p l e R s m args below meth c H locs cells slots Q (F0 m pc ls st0) := by
  intro T hT X
  rcases hr T hT X with ⟨v, st₀, t, T', L, h0, X', hL, e1, e2, ⟨⟨r, u, hv, hp, hb⟩, hF⟩, st⟩ | ⟨q, st₀, t, T', L, E, ce, h0, X', hL, e1, e2, ⟨u, hp, hb, hF⟩, hce, hcv, hcl, st⟩
  · cases hv
    obtain ⟨k1, k2, k3⟩ := vx_keep h0 e1 hS hA hf hL hF
    obtain ⟨t2, a1, b1⟩ := kk r u t T'.heap (locs ++ L) e1.symm (by rw [← e2]; exact X'.warmed.alike) hp hb k1 k2 k3 T' rfl X'
    exact ⟨t2, st t2 a1, b1⟩
  · obtain ⟨k1, k2, k3⟩ := vx_keep h0 e1 hS hAX hf hL hF
    obtain ⟨t2, a1, b1⟩ := kx E ce q u t T'.heap (locs ++ L) e1.symm (by rw [← e2]; exact X'.warmed.alike) hp hb k1 k2 k3 (by rw [e1]; exact hce) hcv hcl T' rfl X'
    exact ⟨t2, st.trans a1, b1⟩
theorem vx_callv {S SX : Type} {post : S → Prop} {px : SX → Prop} {B : S → State → Prop} {BX : String → SX → State → Prop} {AX : Nat → Prop} (hr : vx_Run p l e R s m args below meth c H locs cells slots mc ms (F0 m pc ls st0) rest (va_Qv post B A1 a) (vx_X px BX AX) free) (hS : va_S A0 H0 H locs) (hA : ∀ q, q < H.size → A1 q → A0 q) (hf : ∀ q, free q → A0 q) (hAX : ∀ q, q < H.size → AX q → A0 q)
    (kx : ∀ (E : String) (ce : Cell) (q9 : Addr) (u : SX) (t : State) (H1 : Heap) (locs1 : List Loc), t.heap = H1 → s.vm.Alike t.vm → px u → BX E u t → H.size ≤ H1.size → (∀ q : Nat, q < H.size → ¬ AX q → H1[q]? = H[q]?) → va_S A0 H0 H1 locs1 → H1[q9]? = some ce → ce.vm = .none → s.vm.findClass E = some ce.cls → vx_W p l e R s m args below meth c H1 locs1 (cells + mc) (slots + ms) Q (F0 m pc ls rest) q9)
    (kk : ∀ (u : S) (t : State) (H1 : Heap) (locs1 : List Loc), t.heap = H1 → s.vm.Alike t.vm → post u → B u t → H.size ≤ H1.size → (∀ q : Nat, q < H.size → ¬ A1 q → H1[q]? = H[q]?) → va_S A0 H0 H1 locs1 → W p l e R s m args below meth c H1 locs1 (cells + mc) (slots + ms) Q (F0 m (pc + 3) ls (rest))) : W p l e R s m args below meth c H locs cells slots Q (F0 m pc ls st0) := by
  intro T hT X
  rcases hr T hT X with ⟨v, st₀, t, T', L, h0, X', hL, e1, e2, ⟨⟨u, hv, hp, hb⟩, hF⟩, st⟩ | ⟨q, st₀, t, T', L, E, ce, h0, X', hL, e1, e2, ⟨u, hp, hb, hF⟩, hce, hcv, hcl, st⟩
  · cases hv
    obtain ⟨k1, k2, k3⟩ := vx_keep h0 e1 hS hA hf hL hF
    obtain ⟨t2, a1, b1⟩ := kk u t T'.heap (locs ++ L) e1.symm (by rw [← e2]; exact X'.warmed.alike) hp hb k1 k2 k3 T' rfl X'
    exact ⟨t2, st t2 a1, b1⟩
  · obtain ⟨k1, k2, k3⟩ := vx_keep h0 e1 hS hAX hf hL hF
    obtain ⟨t2, a1, b1⟩ := kx E ce q u t T'.heap (locs ++ L) e1.symm (by rw [← e2]; exact X'.warmed.alike) hp hb k1 k2 k3 (by rw [e1]; exact hce) hcv hcl T' rfl X'
    exact ⟨t2, st.trans a1, b1⟩
/-- caught by the row x of this method's table; the rows ahead don't take it -/
theorem vx_catch {own name : String} {E : String} {ce : Cell} {q : Addr} (hown : s.vm.findClass own = some m.cls) (pre : List ExceptionTableEntry) (x : ExceptionTableEntry) (suf : List ExceptionTableEntry) (hsplit : c.exceptionTable.toList = pre ++ x :: suf)
    (hpass : ∀ z ∈ pre, covers z pc = false ∨ (z.catchType ≠ 0 ∧ ∃ nm : String, (Cond.classLink own z.catchType nm).before args s = true ∧ va_Nc E nm s)) (hx : covers x pc = true) (h0 : x.catchType ≠ 0)
    (hlink : (Cond.classLink own x.catchType name).before args s = true) (hcast : (Cond.castable E name).before args s = true) (hcell : H[q]? = some ce) (hv : ce.vm = .none) (hcl : s.vm.findClass E = some ce.cls)
    (kk : W p l e R s m args below meth c H locs cells slots Q (F0 m x.handlerPc ls [.ref q])) : vx_W p l e R s m args below meth c H locs cells slots Q (F0 m pc ls rest) q := by
  intro T hT X
  have hpl : e.platform.magicAccessors = ({} : Platform).magicAccessors := by rw [X.admits.platform]
  obtain ⟨c3, c4, hc3, hc4, hasg⟩ := Cond.castable_spec hcast
  cases Option.some.inj (hc3.symm.trans hcl)
  obtain ⟨c5, hc5, hcl5⟩ := Cond.classLink_spec hown hlink e.platform hpl
  cases Option.some.inj (hc4.symm.trans hc5)
  obtain ⟨vm', X', st⟩ := xc_through X q (g := F0 m pc ls rest) rfl (by rw [hT]; exact hcell) (by rw [hv]; rfl) (by obtain ⟨k9, h9, -⟩ := Vm.findClass_spec hcl; exact ⟨k9, h9⟩) pre x suf hsplit
    (fun z hz => by
      rcases hpass z hz with h | ⟨hz0, nm, hl1, hn1⟩
      · exact Or.inl h
      · obtain ⟨c6, hc6, hcl6⟩ := Cond.classLink_spec hown hl1 e.platform hpl
        obtain ⟨a8, b8, h1, h2, h3⟩ := hn1
        cases Option.some.inj (h1.symm.trans hcl)
        cases Option.some.inj (h2.symm.trans hc6)
        exact Or.inr ⟨hz0, _, hcl6, h3⟩) hx h0 hcl5 hasg
  obtain ⟨t, a1, b1⟩ := kk (T.setVm vm') hT X'
  exact ⟨t, st.trans a1, b1⟩
end Rows
section Ends
variable {p : Program} {l : Launch} {e : Env} {R : Room} {s : State} {m : MethodId} {args : Array Value} {below : List Frame} {meth : Method} {c : Code} {H : Heap} {locs : List Loc} {cells slots : Nat} {Q : State → Prop}
variable {mc ms : Nat} {free : Addr → Prop} {A0 A1 : Nat → Prop} {H0 : Heap} {a : Array Value} {ls : Array Slot} {st0 rest : List Value}
variable {Qc : Array Value → State → Outcome → State → Prop} {XC : String → State → State → Prop}
/-- what a body that may throw owes at its end -/
def vx_MQ (below : List Frame) (Qc : Array Value → State → Outcome → State → Prop) (XC : String → State → State → Prop) (a : Array Value) (s : State) (mc ms : Nat) (free : Addr → Prop) : State → Prop := fun t =>
  ∃ o, t.status = .running ∧ Ended t below o ∧ vx_Q Qc XC mc ms free a s o t
theorem vx_ret {g : JFrame} {mc ms : Nat} (k : W p l e R s m args below meth c H locs cells slots (MQ below Qc args s mc ms free) g) : W p l e R s m args below meth c H locs cells slots (vx_MQ below Qc XC args s mc ms free) g := by
  intro T hT X
  obtain ⟨t, a1, o, b1, b2, b3, b4⟩ := k T hT X
  exact ⟨t, a1, o, b1, b2, Or.inl ⟨b3, b4⟩⟩
/-- not caught here: it goes on to the caller -/
theorem vx_widen {g : JFrame} {q : Addr} {k n : Nat} (h1 : cells ≤ k) (h2 : slots ≤ n) (kk : vx_W p l e R s m args below meth c H locs k n Q g q) : vx_W p l e R s m args below meth c H locs cells slots Q g q := fun T hT X => kk T hT (stand_widen X h1 h2)
theorem vx_out {pc : Nat} {E : String} {ce : Cell} {q : Addr} {mc ms : Nat} (hout : ∀ x ∈ c.exceptionTable.toList, covers x pc = false) (hlocks : meth.locks = false) (hcell : H[q]? = some ce) (hv : ce.vm = .none) (hcl : s.vm.findClass E = some ce.cls)
    (hx : ∀ t : State, t.heap = H → s.vm.Alike t.vm → XC E s t) (hf : ∀ z ∈ locs, free z.base) (hc : cells ≤ mc) (hs : slots ≤ ms) :
    vx_W p l e R s m args below meth c H locs cells slots (vx_MQ below Qc XC args s mc ms free) (F0 m pc ls rest) q := by
  intro T hT X
  obtain ⟨st1, hrun, hend, hW, hsm⟩ := X.leaveThrown q (g := F0 m pc ls rest) rfl rfl rfl hout hlocks
  have hcell9 : (T.setFrames (.throwing q :: below)).heap[q]? = some ce := by
    show T.heap[q]? = some ce
    rw [hT]; exact hcell
  exact ⟨_, st1, .threw q, hrun, hend, Or.inr ⟨q, rfl, E, ce, locs, hx _ hT hW.alike, hcell9, hv, hcl, hW, hsm.mono hc hs, hf⟩⟩
theorem vx_frame {U : State} {k n : Nat} (h : s.sameButNew ({ U with vm := s.vm } : State) locs k n) : s.heap.size ≤ U.heap.size ∧ ∀ q : Nat, q < s.heap.size → (∀ z ∈ locs, z.base ≠ q) → U.heap[q]? = s.heap[q]? := by
  obtain ⟨-, h2, -, -, -, h6⟩ := h
  refine ⟨h2, fun q hq hz => ?_⟩
  obtain ⟨c9, e1, e2, e3, e4⟩ := h6 q _ (Array.getElem?_eq_getElem hq)
  have hs : c9.slots = (s.heap[q]).slots := Array.ext_getElem? fun i => e4 i fun hm => hz _ hm rfl
  have h9 : c9 = s.heap[q] := by
    rw [hs] at e2
    exact e2
  have e5 : U.heap[q]? = some c9 := e1
  rw [e5, h9, Array.getElem?_eq_getElem hq]
/-- the words of a throw but the four that speak of the heap -/
def vx_no (w : Cond) : Bool := decide (w ≠ .isRef (.static Bundle.tN "UNASSIGNED_STACK" Bundle.steD)) && decide (w ≠ .isRef (.static Bundle.tN "SUPPRESSED_SENTINEL" Bundle.listD)) && decide (w ≠ .laysStatic Bundle.tN "UNASSIGNED_STACK" Bundle.steD) && decide (w ≠ .laysStatic Bundle.tN "SUPPRESSED_SENTINEL" Bundle.listD)
def vx_at0 (own : String) (ic : Nat) (X : String) (names : List String) : List Cond := (Bundle.ownAtoms0 own ic X names).filter vx_no
def vx_atS (own : String) (ic : Nat) (X : String) (names : List String) : List Cond := (Bundle.ownAtoms own ic X names).filter vx_no
/-- a word that the tables alone decide, or a good one -/
def vx_ot (w : Cond) : Bool := w.onTables || goodWord w
theorem vx_ot_at {args a' : Array Value} {s U : State} {w : Cond} (hW : s.WarmedH U.vm) (hvm : s.vm = U.vm) (hg : vx_ot w = true) (h : w.before args s = true) : w.before a' U = true := by
  simp only [vx_ot, Bool.or_eq_true] at hg
  rcases hg with hg | hg
  · exact va_tabs hg hvm h
  · exact word_at hW (good_of_word hg) h
/-- a list's words: the good ones out of the method's own list, the others by premises of their own -/
theorem vx_hat {args : Array Value} {s : State} {L B : List Cond} (h1 : ∀ w ∈ L.filter goodWord, w.before args s = true) (h2 : ∀ w ∈ L.filter (fun w => !goodWord w), w ∈ B) (h3 : ∀ w ∈ B, w.before args s = true) : ∀ w ∈ L, w.before args s = true := by
  intro w hw
  by_cases g : goodWord w = true
  · exact h1 w (List.mem_filter.mpr ⟨hw, g⟩)
  · refine h3 w (h2 w (List.mem_filter.mpr ⟨hw, ?_⟩))
    show (!goodWord w) = true
    cases hgw : goodWord w
    · rfl
    · exact absurd hgw g
theorem vx_c {args : Array Value} {s : State} {w : Cond} {B : List Cond} (h : w.before args s = true) (t : ∀ w ∈ B, w.before args s = true) : ∀ w' ∈ w :: B, w'.before args s = true := fun w' h' => (List.mem_cons.mp h').elim (fun e => by rw [e]; exact h) (t w')
theorem vx_n {args : Array Value} {s : State} : ∀ w ∈ ([] : List Cond), w.before args s = true := fun _ h => nomatch h
theorem vx_own {args : Array Value} {s : State} {L : List Cond} (h1 : ∀ w ∈ L.filter vx_no, w.before args s = true)
    (hU : (Cond.isRef (.static Bundle.tN "UNASSIGNED_STACK" Bundle.steD)).before args s = true) (hN : (Cond.isRef (.static Bundle.tN "SUPPRESSED_SENTINEL" Bundle.listD)).before args s = true)
    (lU : (Cond.laysStatic Bundle.tN "UNASSIGNED_STACK" Bundle.steD).before args s = true) (lN : (Cond.laysStatic Bundle.tN "SUPPRESSED_SENTINEL" Bundle.listD).before args s = true) : ∀ w ∈ L, w.before args s = true := by
  intro w hw
  by_cases e1 : w = .isRef (.static Bundle.tN "UNASSIGNED_STACK" Bundle.steD)
  · rw [e1]; exact hU
  · by_cases e2 : w = .isRef (.static Bundle.tN "SUPPRESSED_SENTINEL" Bundle.listD)
    · rw [e2]; exact hN
    · by_cases e3 : w = .laysStatic Bundle.tN "UNASSIGNED_STACK" Bundle.steD
      · rw [e3]; exact lU
      · by_cases e4 : w = .laysStatic Bundle.tN "SUPPRESSED_SENTINEL" Bundle.listD
        · rw [e4]; exact lN
        · exact h1 w (List.mem_filter.mpr ⟨hw, by unfold vx_no; rw [decide_eq_true e1, decide_eq_true e2, decide_eq_true e3, decide_eq_true e4]; rfl⟩)
/-- where a static field lies, its class's statics cell in H -/
def vx_L (C n d : String) (A : Nat → Prop) (U : State) (H : Heap) : Prop := ∃ (c : ClassId) (k : Class) (i : Nat) (f : Field) (a : Nat) (cell : Cell), U.vm.findClass C = some c ∧ U.fieldFound? C n d = some (c, k, i, f) ∧ f.isStatic = true ∧ k.statics = some a ∧ H[a]? = some cell ∧ cell.vm.isStatics = true ∧ cell.cls = c ∧ f.slot < cell.slots.size ∧ k.staticTypes[f.slot]? = some f.type ∧ ¬ A a
theorem vx_L.moved {C n d : String} {A : Nat → Prop} {u U : State} {H : Heap} (hvm : u.vm.Alike U.vm) (h : vx_L C n d A u H) : vx_L C n d A U H := by
  obtain ⟨c, k, i, f, a, cell, h1, h2, h3, h4, h5, h6, h7, h8, h9, h10⟩ := h
  obtain ⟨k', hi', he⟩ := State.fieldFound?_setVm hvm h2
  exact ⟨c, k', i, f, a, cell, by rw [hvm.findClass]; exact h1, hi', h3, by rw [he]; exact h4, h5, h6, h7, h8, by rw [he]; exact h9, h10⟩
theorem vx_L.kept {C n d : String} {A : Nat → Prop} {U : State} {H H1 : Heap} (h : vx_L C n d A U H) (hq : ∀ a : Nat, a < H.size → ¬ A a → H1[a]? = H[a]?) : vx_L C n d A U H1 := by
  obtain ⟨c, k, i, f, a, cell, h1, h2, h3, h4, h5, h6, h7, h8, h9, h10⟩ := h
  exact ⟨c, k, i, f, a, cell, h1, h2, h3, h4, by rw [hq a (Array.getElem?_eq_some_iff.mp h5).1 h10]; exact h5, h6, h7, h8, h9, h10⟩
theorem vx_L.narrow {C n d : String} {A B : Nat → Prop} {U : State} {H : Heap} (h : vx_L C n d A U H) (hAB : ∀ q, B q → A q) : vx_L C n d B U H := by
  obtain ⟨c, k, i, f, a, cell, h1, h2, h3, h4, h5, h6, h7, h8, h9, h10⟩ := h
  exact ⟨c, k, i, f, a, cell, h1, h2, h3, h4, h5, h6, h7, h8, h9, fun z => h10 (hAB _ z)⟩
theorem vx_L.word {C n d : String} {A : Nat → Prop} {s : State} {args : Array Value} (h : vx_L C n d A s s.heap) : (Cond.laysStatic C n d).before args s = true := by
  obtain ⟨c, k, i, f, a, cell, h1, h2, h3, h4, h5, h6, h7, h8, h9, -⟩ := h
  show (Cond.laysStatic C n d).holds args s none s [] = true
  exact Cond.laysStatic_of h1 h2 h3 h4 h5 h6 h7 h8 h9
/-- .. and what it holds: null or some reference -/
def vx_Zq (C n d : String) (A : Nat → Prop) (U : State) (H : Heap) : Prop := va_Zq C n d A U H ∧ vx_L C n d A U H
theorem vx_Zq.moved {C n d : String} {A : Nat → Prop} {u U : State} {H : Heap} (hvm : u.vm.Alike U.vm) (h : vx_Zq C n d A u H) : vx_Zq C n d A U H := ⟨va_Zq.moved hvm h.1, vx_L.moved hvm h.2⟩
theorem vx_Zq.kept {C n d : String} {A : Nat → Prop} {U : State} {H H1 : Heap} (h : vx_Zq C n d A U H) (hq : ∀ a : Nat, a < H.size → ¬ A a → H1[a]? = H[a]?) : vx_Zq C n d A U H1 := ⟨va_Zq.kept h.1 hq, vx_L.kept h.2 hq⟩
theorem vx_Zq.narrow {C n d : String} {A B : Nat → Prop} {U : State} {H : Heap} (h : vx_Zq C n d A U H) (hAB : ∀ q, B q → A q) : vx_Zq C n d B U H := ⟨va_Zq.narrow h.1 hAB, vx_L.narrow h.2 hAB⟩
theorem vx_Zqof {args : Array Value} {s : State} {C n d : String} {A : Nat → Prop} (hl : (Cond.laysStatic C n d).before args s = true) (hini : (Cond.initialized C).before args s = true) (h : (Cond.isRef (.static C n d)).before args s = true) (hA : ∀ a : Nat, a < s.heap.size → ¬ A a) : vx_Zq C n d A s s.heap := by
  refine ⟨va_Zqof hl hini h hA, ?_⟩
  obtain ⟨c, k, i, f, a, cell, h1, h2, h3, h4, h5, h6, h7, h8, h9⟩ := Cond.laysStatic_spec hl
  exact ⟨c, k, i, f, a, cell, h1, h2, h3, h4, h5, h6, h7, h8, h9, hA a (Array.getElem?_eq_some_iff.mp h5).1⟩
theorem vx_isRef {C n d : String} {v : Value} {A : Nat → Prop} {s : State} {args : Array Value} (h : va_Z C n d v A s s.heap) (hv : v.isRef = true) : (Cond.isRef (.static C n d)).before args s = true := by
  obtain ⟨cf, kf, fi, f, a, cell, h1, h2, h3, h4, h5, h6, h7, -⟩ := h
  have he : (Term.static C n d).eval args s none [] s = some v := by
    simp [Term.eval, State.fieldNamed?, h1, h2, h4, h5, h6, h7]
  simp only [Cond.before, Cond.holds, Cond.value, he]
  cases v <;> simp_all [Value.isRef]
theorem vx_isRefq {C n d : String} {A : Nat → Prop} {s : State} {args : Array Value} (h : va_Zq C n d A s s.heap) : (Cond.isRef (.static C n d)).before args s = true := by
  rcases h with h | ⟨t, h⟩
  · exact vx_isRef h rfl
  · exact vx_isRef h rfl
/-- the same frame, seen from here: as if the method were called anew in this heap -/
theorem vx_rebase {T : State} (X : Stand p l e R s m args below meth c T locs cells slots) {R' : Room} (hf : R'.frames ≤ R.frames) (hl : R'.locals ≤ R.locals) (hc : cells + R'.cells ≤ R.cells) (hs : slots + R'.slots ≤ R.slots) :
    Stand p l e R' ((T.setVm s.vm).setFrames (.invoking m args :: below)) m args below meth c T [] 0 0 := by
  have htop : (T.setVm s.vm).topJava?.isSome := X.here.top
  have hF : ((T.setVm s.vm).setFrames (.invoking m args :: below)).frames = .invoking m args :: below := State.frames_setFrames _ (State.cur_lt_of_top htop)
  obtain ⟨g₀, hg0⟩ := Option.isSome_iff_exists.mp htop
  obtain ⟨r, hr⟩ := State.topJava?_eq_some.mp hg0
  have hl9 : e.platform.stackLimits (T.setVm s.vm).me = e.platform.stackLimits s.me := X.limits
  have hb9 : (T.setVm s.vm).me.stackBytes = s.me.stackBytes := X.bytes
  refine ⟨X.admits, X.cas, X.clock, hF, ?_, X.hears, X.method, X.code, X.here, X.tail, X.warmed, ?_, ?_, ?_⟩
  · have h := X.room
    have hU : ((T.setVm s.vm).setFrames (.invoking m args :: below)).localsInUse = s.localsInUse := by
      rw [State.localsInUse_invoking hF (meth := meth) (c := c) X.method X.code, State.localsInUse_invoking X.frames X.method X.code]
    simp only [State.hasRoom, Bool.and_eq_true, decide_eq_true_eq] at h ⊢
    obtain ⟨⟨⟨⟨h1, h2, h3, h4, h5, h6⟩, h7⟩, h8⟩, h9⟩ := h
    rw [X.frames, List.length_cons] at h2 h3
    have q1 := X.heapSize
    have q2 := X.used
    simp only [hF, hU, List.length_cons, State.stackLimits_setFrames, State.stackBytes_setFrames, hl9, hb9]
    refine ⟨⟨⟨⟨by omega, by omega, by omega, by omega, by omega, h6⟩, ?_⟩, ?_⟩, X.book⟩
    · show T.heap.size + R'.cells ≤ e.platform.maxCells
      omega
    · show T.slotsUsed + R'.slots ≤ e.platform.maxSlots
      omega
  · rw [State.stackLimits_setFrames]; rfl
  · rw [State.stackBytes_setFrames]; rfl
  · refine ⟨?_, Nat.le_refl _, Nat.le_refl _, ?_, ?_, fun a c9 h9 => ⟨c9, h9, rfl, rfl, fun _ _ => rfl⟩⟩
    · obtain ⟨t, ht, -⟩ := State.frames_cons hr
      show T.setVm s.vm = { ((T.setVm s.vm).setFrames (.invoking m args :: below)).setFrames (T.setVm s.vm).frames with heap := T.heap, slotsUsed := T.slotsUsed }
      rw [State.setFrames_setFrames, State.setFrames_self ht]
      rfl
    · show T.slotsUsed = T.slotsUsed + ((T.heap.toList.drop T.heap.size).map (·.slots.size)).sum
      rw [List.drop_eq_nil_of_le (Nat.le_of_eq Array.length_toList)]
      rfl
    · show ((T.heap.toList.drop T.heap.size).map (·.slots.size)).sum ≤ 0
      rw [List.drop_eq_nil_of_le (Nat.le_of_eq Array.length_toList)]
      exact Nat.le_refl _
/-- 'throw new E()': new; dup; invokespecial; athrow -/
theorem vx_throw0 {cc : ByteArray} {pc : Nat} (hexec : p.tables.exec = Jvm.exec) (hb : c.code = cc) (hl : l.stackTraces = false) {own cls : String} {names : List String} {ik ic mc ms : Nat} {A : Nat → Prop}
    (hown : s.vm.findClass own = some m.cls) (hcls : Bundle.fit cls = true) (hnames : ∀ n ∈ names, Bundle.fit n = true)
    (hk : (Cond.classLink own ik cls).before args s = true) (hini : (Cond.initialized cls).before args s = true) (hat : ∀ w ∈ vx_at0 own ic cls names, w.before args s = true)
    (hgood : ∀ w ∈ Cond.classLink own ik cls :: Cond.initialized cls :: vx_at0 own ic cls names, vx_ot w = true)
    (hU : vx_Zq Bundle.tN "UNASSIGNED_STACK" Bundle.steD A s s.heap) (hN : vx_Zq Bundle.tN "SUPPRESSED_SENTINEL" Bundle.listD A s s.heap) (hS : va_S A s.heap H locs) (hsize : ls.size = c.maxLocals)
    (d0 : decode cc pc = .ok (.new ik, 3)) (d3 : decode cc (pc + 3) = .ok (.dup, 1)) (d4 : decode cc (pc + 4) = .ok (.invokespecial ic, 3)) (d7 : decode cc (pc + 7) = .ok (.athrow, 1))
    (hout : ∀ x ∈ c.exceptionTable.toList, covers x (pc + 7) = false)
    (hRframes : names.length + 3 < R.frames) (hRlocals : (rest.map fun v => v.category).sum + (13 * (names.length + 1) + 42) ≤ R.locals) (hRcells : cells + 1 ≤ R.cells) (hRslots : slots + 6 ≤ R.slots) (hlocks : meth.locks = false)
    (hx : ∀ t : State, s.vm.Alike t.vm → H.size ≤ t.heap.size → (∀ q : Nat, q < H.size → t.heap[q]? = H[q]?) → XC cls s t)
    (hf : ∀ z ∈ locs, free z.base) (hc : cells + 1 ≤ mc) (hs : slots + 6 ≤ ms) :
    W p l e R s m args below meth c H locs cells slots (vx_MQ below Qc XC args s mc ms free) (F0 m pc ls rest) := by
  intro T hT X
  have htr : e.platform.stackTraces = false := (show e.platform.stackTraces = l.stackTraces by rw [X.admits.platform]).trans hl
  have Y := vx_rebase X (R' := { frames := R.frames, locals := R.locals, cells := 1, slots := 6 }) (Nat.le_refl _) (Nat.le_refl _) hRcells hRslots
  obtain ⟨s', hA⟩ : ∃ z, z = (T.setVm s.vm).setFrames (.invoking m args :: below) := ⟨_, rfl⟩
  rw [← hA] at Y
  have hvm : s'.vm = s.vm := by rw [hA]; rfl
  have hhp : s'.heap = H := by rw [hA]; exact hT
  have hW0 : s.WarmedH s'.vm := by rw [hvm]; exact State.WarmedH.refl s
  have hat' : ∀ w ∈ vx_at0 own ic cls names, w.before args s' = true := fun w hw => vx_ot_at hW0 hvm.symm (hgood w (List.mem_cons_of_mem _ (List.mem_cons_of_mem _ hw))) (hat w hw)
  have hk' : (Cond.classLink own ik cls).before args s' = true := vx_ot_at hW0 hvm.symm (hgood _ List.mem_cons_self) hk
  have hini' : (Cond.initialized cls).before args s' = true := vx_ot_at hW0 hvm.symm (hgood _ (List.mem_cons_of_mem _ List.mem_cons_self)) hini
  have hU' : vx_Zq Bundle.tN "UNASSIGNED_STACK" Bundle.steD A s' s'.heap := by rw [hhp]; exact vx_Zq.moved hW0.alike (hU.kept hS.2.1)
  have hN' : vx_Zq Bundle.tN "SUPPRESSED_SENTINEL" Bundle.listD A s' s'.heap := by rw [hhp]; exact vx_Zq.moved hW0.alike (hN.kept hS.2.1)
  have h : ∀ w ∈ Bundle.ownAtoms0 own ic cls names, w.before args s' = true := vx_own hat' (vx_isRefq hU'.1) (vx_isRefq hN'.1) hU'.2.word hN'.2.word
  have hown' : s'.vm.findClass own = some m.cls := by rw [hvm]; exact hown
  have hins : (Cond.instantiable cls 6).before args s' = true := h _ (by simp [Bundle.ownAtoms0])
  obtain ⟨vm₁, cX, kX, hfX, hkX, -, -, X₁, st1⟩ := Y.newCold hexec (own := own) (C := cls) (index := ik) (n := 6) hown' hk' hins hini'
    (g := F0 m pc ls rest) rfl (by rw [hb]; exact d0) (Nat.le_refl _) (Nat.le_refl _)
  generalize hT1 : (T.setVm vm₁).pushCell { cls := cX, slots := kX.instanceTypes.map defaultValue, vm := .none } = T1 at X₁ st1
  have hcat : (Value.ref T.heap.size).category = 1 := rfl
  have hcellA : T1.heap[T.heap.size]? = some (freshCell cX kX) := by rw [← hT1]; exact State.heap_pushCell_size _ _
  have d3' : decode c.code (pc + 3) = .ok (.dup, 1) := by rw [hb]; exact d3
  obtain ⟨U, hsteps, hrun, hend, hW, hsame, ce, hce, hO⟩ := X₁.ctorThrow0 hexec htr (own := own) (cls := cls) (names := names) (ic := ic) hown' hcls hnames h (fun x hx => nomatch hx) hfX hkX hcellA (by rw [hhp, hT]; exact Nat.le_refl _)
    (g := { method := m, pc := pc + 4, locals := ls, stack := .ref T.heap.size :: .ref T.heap.size :: rest, locked := none }) rfl hsize rfl rfl (rest := rest) rfl
    (by rw [hb]; exact d4) (by rw [hb]; exact d7) hout hRframes (by simp only [List.map_cons, List.sum_cons, hcat]; omega) hlocks
  obtain ⟨f1, f2⟩ := vx_frame hsame
  rw [hhp] at f1 f2
  have hWs : s.WarmedH U.vm := State.WarmedH.trans hW0 hW
  have hcl : s.vm.findClass cls = some ce.cls := by
    have h9 := hO.cls
    rw [hvm] at h9
    exact h9
  have hall : s.sameButNew ({ U with vm := s.vm } : State) locs mc ms := by
    subst hA
    obtain ⟨e1, e2⟩ := hsame
    rw [State.setFrames_setFrames] at e1
    have h2 : (T.setVm s.vm).sameButNew ({ U with vm := s.vm } : State) [] (0 + 1) (0 + 6) := ⟨e1, e2⟩
    have h3 := X.same.trans h2
    rw [List.append_nil] at h3
    exact h3.mono hc hs
  refine ⟨U, ?_, .threw T.heap.size, hrun, hend, Or.inr ⟨T.heap.size, rfl, cls, ce, locs, hx U hWs.alike f1 (fun q hq => f2 q hq (fun z hz => nomatch hz)), hce, hO.vm, hcl, hWs, hall, hf⟩⟩
  refine st1 _ ?_
  show Steps p.tables e below (T1.setTop { method := m, pc := pc + 3, locals := ls, stack := .ref T.heap.size :: rest, locked := none }) _
  jvm_step X₁.here [X₁.here.top, hexec, d3', Value.category]
  exact hsteps
/-- 'throw new E("text")': new; dup; ldc; invokespecial; athrow -/
theorem vx_throwS {cc : ByteArray} {pc : Nat} (hexec : p.tables.exec = Jvm.exec) (hb : c.code = cc) (hl : l.stackTraces = false) {own cls text : String} {names : List String} {ik is ic mc ms sa : Nat} {A : Nat → Prop}
    (hown : s.vm.findClass own = some m.cls) (hcls : Bundle.fit cls = true) (hnames : ∀ n ∈ names, Bundle.fit n = true)
    (hk : (Cond.classLink own ik cls).before args s = true) (hini : (Cond.initialized cls).before args s = true) (hstr : vk_R own is text sa s) (hat : ∀ w ∈ vx_atS own ic cls names, w.before args s = true)
    (hgood : ∀ w ∈ Cond.classLink own ik cls :: Cond.initialized cls :: vx_atS own ic cls names, vx_ot w = true)
    (hU : vx_Zq Bundle.tN "UNASSIGNED_STACK" Bundle.steD A s s.heap) (hN : vx_Zq Bundle.tN "SUPPRESSED_SENTINEL" Bundle.listD A s s.heap) (hS : va_S A s.heap H locs) (hsize : ls.size = c.maxLocals)
    (d0 : decode cc pc = .ok (.new ik, 3)) (d3 : decode cc (pc + 3) = .ok (.dup, 1)) (d4 : decode cc (pc + 4) = .ok (.ldc is, 2)) (d6 : decode cc (pc + 6) = .ok (.invokespecial ic, 3)) (d9 : decode cc (pc + 9) = .ok (.athrow, 1))
    (hout : ∀ x ∈ c.exceptionTable.toList, covers x (pc + 9) = false)
    (hRframes : names.length + 3 < R.frames) (hRlocals : (rest.map fun v => v.category).sum + (13 * (names.length + 1) + 43) ≤ R.locals) (hRcells : cells + 1 ≤ R.cells) (hRslots : slots + 6 ≤ R.slots) (hlocks : meth.locks = false)
    (hx : ∀ t : State, s.vm.Alike t.vm → H.size ≤ t.heap.size → (∀ q : Nat, q < H.size → t.heap[q]? = H[q]?) → XC cls s t)
    (hf : ∀ z ∈ locs, free z.base) (hc : cells + 1 ≤ mc) (hs : slots + 6 ≤ ms) :
    W p l e R s m args below meth c H locs cells slots (vx_MQ below Qc XC args s mc ms free) (F0 m pc ls rest) := by
  intro T hT X
  have htr : e.platform.stackTraces = false := (show e.platform.stackTraces = l.stackTraces by rw [X.admits.platform]).trans hl
  have Y := vx_rebase X (R' := { frames := R.frames, locals := R.locals, cells := 1, slots := 6 }) (Nat.le_refl _) (Nat.le_refl _) hRcells hRslots
  obtain ⟨s', hA⟩ : ∃ z, z = (T.setVm s.vm).setFrames (.invoking m args :: below) := ⟨_, rfl⟩
  rw [← hA] at Y
  have hvm : s'.vm = s.vm := by rw [hA]; rfl
  have hhp : s'.heap = H := by rw [hA]; exact hT
  have hW0 : s.WarmedH s'.vm := by rw [hvm]; exact State.WarmedH.refl s
  have hat' : ∀ w ∈ vx_atS own ic cls names, w.before args s' = true := fun w hw => vx_ot_at hW0 hvm.symm (hgood w (List.mem_cons_of_mem _ (List.mem_cons_of_mem _ hw))) (hat w hw)
  have hk' : (Cond.classLink own ik cls).before args s' = true := vx_ot_at hW0 hvm.symm (hgood _ List.mem_cons_self) hk
  have hini' : (Cond.initialized cls).before args s' = true := vx_ot_at hW0 hvm.symm (hgood _ (List.mem_cons_of_mem _ List.mem_cons_self)) hini
  have hU' : vx_Zq Bundle.tN "UNASSIGNED_STACK" Bundle.steD A s' s'.heap := by rw [hhp]; exact vx_Zq.moved hW0.alike (hU.kept hS.2.1)
  have hN' : vx_Zq Bundle.tN "SUPPRESSED_SENTINEL" Bundle.listD A s' s'.heap := by rw [hhp]; exact vx_Zq.moved hW0.alike (hN.kept hS.2.1)
  have h : ∀ w ∈ Bundle.ownAtoms own ic cls names, w.before args s' = true := vx_own hat' (vx_isRefq hU'.1) (vx_isRefq hN'.1) hU'.2.word hN'.2.word
  have hown' : s'.vm.findClass own = some m.cls := by rw [hvm]; exact hown
  have hins : (Cond.instantiable cls 6).before args s' = true := h _ (by simp [Bundle.ownAtoms])
  obtain ⟨vm₁, cX, kX, hfX, hkX, -, -, X₁, st1⟩ := Y.newCold hexec (own := own) (C := cls) (index := ik) (n := 6) hown' hk' hins hini'
    (g := F0 m pc ls rest) rfl (by rw [hb]; exact d0) (Nat.le_refl _) (Nat.le_refl _)
  generalize hT1 : (T.setVm vm₁).pushCell { cls := cX, slots := kX.instanceTypes.map defaultValue, vm := .none } = T1 at X₁ st1
  have hcat : (Value.ref T.heap.size).category = 1 := rfl
  have hcellA : T1.heap[T.heap.size]? = some (freshCell cX kX) := by rw [← hT1]; exact State.heap_pushCell_size _ _
  have d3' : decode c.code (pc + 3) = .ok (.dup, 1) := by rw [hb]; exact d3
  have d4' : decode c.code (pc + 4) = .ok (.ldc is, 2) := by rw [hb]; exact d4
  have hstr' : vk_R own is text sa s' := vk_R.warm hW0 hstr
  obtain ⟨U, hsteps, hrun, hend, hW, hsame, ce, hce, hO⟩ := X₁.ctorThrowS hexec htr (own := own) (cls := cls) (names := names) (ic := ic) hown' hcls hnames h (fun x hx => nomatch hx) hfX hkX hcellA (by rw [hhp, hT]; exact Nat.le_refl _) (msg := .ref sa) rfl
    (g := { method := m, pc := pc + 6, locals := ls, stack := .ref sa :: .ref T.heap.size :: .ref T.heap.size :: rest, locked := none }) rfl hsize rfl rfl (rest := rest) rfl
    (by rw [hb]; exact d6) (by rw [hb]; exact d9) hout hRframes (by simp only [List.map_cons, List.sum_cons, hcat]; omega) hlocks
  obtain ⟨f1, f2⟩ := vx_frame hsame
  rw [hhp] at f1 f2
  have hWs : s.WarmedH U.vm := State.WarmedH.trans hW0 hW
  have hcl : s.vm.findClass cls = some ce.cls := by
    have h9 := hO.cls
    rw [hvm] at h9
    exact h9
  have hall : s.sameButNew ({ U with vm := s.vm } : State) locs mc ms := by
    subst hA
    obtain ⟨e1, e2⟩ := hsame
    rw [State.setFrames_setFrames] at e1
    have h2 : (T.setVm s.vm).sameButNew ({ U with vm := s.vm } : State) [] (0 + 1) (0 + 6) := ⟨e1, e2⟩
    have h3 := X.same.trans h2
    rw [List.append_nil] at h3
    exact h3.mono hc hs
  refine ⟨U, ?_, .threw T.heap.size, hrun, hend, Or.inr ⟨T.heap.size, rfl, cls, ce, locs, hx U hWs.alike f1 (fun q hq => f2 q hq (fun z hz => nomatch hz)), hce, hO.vm, hcl, hWs, hall, hf⟩⟩
  refine st1 _ ?_
  show Steps p.tables e below (T1.setTop { method := m, pc := pc + 3, locals := ls, stack := .ref T.heap.size :: rest, locked := none }) _
  jvm_step X₁.here [X₁.here.top, hexec, d3', Value.category]
  exact X₁.ldcString hexec (own := own) (text := text) (index := is) (a := sa) hown' hstr'.1 hstr'.2
    (g := { method := m, pc := pc + 4, locals := ls, stack := .ref T.heap.size :: .ref T.heap.size :: rest, locked := none }) rfl d4' _ hsteps
/-- 'throw new E("text")', the text by a wide index -/
theorem vx_throwSW {cc : ByteArray} {pc : Nat} (hexec : p.tables.exec = Jvm.exec) (hb : c.code = cc) (hl : l.stackTraces = false) {own cls text : String} {names : List String} {ik is ic mc ms sa : Nat} {A : Nat → Prop}
    (hown : s.vm.findClass own = some m.cls) (hcls : Bundle.fit cls = true) (hnames : ∀ n ∈ names, Bundle.fit n = true)
    (hk : (Cond.classLink own ik cls).before args s = true) (hini : (Cond.initialized cls).before args s = true) (hstr : vk_R own is text sa s) (hat : ∀ w ∈ vx_atS own ic cls names, w.before args s = true)
    (hgood : ∀ w ∈ Cond.classLink own ik cls :: Cond.initialized cls :: vx_atS own ic cls names, vx_ot w = true)
    (hU : vx_Zq Bundle.tN "UNASSIGNED_STACK" Bundle.steD A s s.heap) (hN : vx_Zq Bundle.tN "SUPPRESSED_SENTINEL" Bundle.listD A s s.heap) (hS : va_S A s.heap H locs) (hsize : ls.size = c.maxLocals)
    (d0 : decode cc pc = .ok (.new ik, 3)) (d3 : decode cc (pc + 3) = .ok (.dup, 1)) (d4 : decode cc (pc + 4) = .ok (.ldc_w is, 3)) (d7 : decode cc (pc + 7) = .ok (.invokespecial ic, 3)) (d10 : decode cc (pc + 10) = .ok (.athrow, 1))
    (hout : ∀ x ∈ c.exceptionTable.toList, covers x (pc + 10) = false)
    (hRframes : names.length + 3 < R.frames) (hRlocals : (rest.map fun v => v.category).sum + (13 * (names.length + 1) + 43) ≤ R.locals) (hRcells : cells + 1 ≤ R.cells) (hRslots : slots + 6 ≤ R.slots) (hlocks : meth.locks = false)
    (hx : ∀ t : State, s.vm.Alike t.vm → H.size ≤ t.heap.size → (∀ q : Nat, q < H.size → t.heap[q]? = H[q]?) → XC cls s t)
    (hf : ∀ z ∈ locs, free z.base) (hc : cells + 1 ≤ mc) (hs : slots + 6 ≤ ms) :
    W p l e R s m args below meth c H locs cells slots (vx_MQ below Qc XC args s mc ms free) (F0 m pc ls rest) := by
  intro T hT X
  have htr : e.platform.stackTraces = false := (show e.platform.stackTraces = l.stackTraces by rw [X.admits.platform]).trans hl
  have Y := vx_rebase X (R' := { frames := R.frames, locals := R.locals, cells := 1, slots := 6 }) (Nat.le_refl _) (Nat.le_refl _) hRcells hRslots
  obtain ⟨s', hA⟩ : ∃ z, z = (T.setVm s.vm).setFrames (.invoking m args :: below) := ⟨_, rfl⟩
  rw [← hA] at Y
  have hvm : s'.vm = s.vm := by rw [hA]; rfl
  have hhp : s'.heap = H := by rw [hA]; exact hT
  have hW0 : s.WarmedH s'.vm := by rw [hvm]; exact State.WarmedH.refl s
  have hat' : ∀ w ∈ vx_atS own ic cls names, w.before args s' = true := fun w hw => vx_ot_at hW0 hvm.symm (hgood w (List.mem_cons_of_mem _ (List.mem_cons_of_mem _ hw))) (hat w hw)
  have hk' : (Cond.classLink own ik cls).before args s' = true := vx_ot_at hW0 hvm.symm (hgood _ List.mem_cons_self) hk
  have hini' : (Cond.initialized cls).before args s' = true := vx_ot_at hW0 hvm.symm (hgood _ (List.mem_cons_of_mem _ List.mem_cons_self)) hini
  have hU' : vx_Zq Bundle.tN "UNASSIGNED_STACK" Bundle.steD A s' s'.heap := by rw [hhp]; exact vx_Zq.moved hW0.alike (hU.kept hS.2.1)
  have hN' : vx_Zq Bundle.tN "SUPPRESSED_SENTINEL" Bundle.listD A s' s'.heap := by rw [hhp]; exact vx_Zq.moved hW0.alike (hN.kept hS.2.1)
  have h : ∀ w ∈ Bundle.ownAtoms own ic cls names, w.before args s' = true := vx_own hat' (vx_isRefq hU'.1) (vx_isRefq hN'.1) hU'.2.word hN'.2.word
  have hown' : s'.vm.findClass own = some m.cls := by rw [hvm]; exact hown
  have hins : (Cond.instantiable cls 6).before args s' = true := h _ (by simp [Bundle.ownAtoms])
  obtain ⟨vm₁, cX, kX, hfX, hkX, -, -, X₁, st1⟩ := Y.newCold hexec (own := own) (C := cls) (index := ik) (n := 6) hown' hk' hins hini'
    (g := F0 m pc ls rest) rfl (by rw [hb]; exact d0) (Nat.le_refl _) (Nat.le_refl _)
  generalize hT1 : (T.setVm vm₁).pushCell { cls := cX, slots := kX.instanceTypes.map defaultValue, vm := .none } = T1 at X₁ st1
  have hcat : (Value.ref T.heap.size).category = 1 := rfl
  have hcellA : T1.heap[T.heap.size]? = some (freshCell cX kX) := by rw [← hT1]; exact State.heap_pushCell_size _ _
  have d3' : decode c.code (pc + 3) = .ok (.dup, 1) := by rw [hb]; exact d3
  have d4' : decode c.code (pc + 4) = .ok (.ldc_w is, 3) := by rw [hb]; exact d4
  have hstr' : vk_R own is text sa s' := vk_R.warm hW0 hstr
  obtain ⟨U, hsteps, hrun, hend, hW, hsame, ce, hce, hO⟩ := X₁.ctorThrowS hexec htr (own := own) (cls := cls) (names := names) (ic := ic) hown' hcls hnames h (fun x hx => nomatch hx) hfX hkX hcellA (by rw [hhp, hT]; exact Nat.le_refl _) (msg := .ref sa) rfl
    (g := { method := m, pc := pc + 7, locals := ls, stack := .ref sa :: .ref T.heap.size :: .ref T.heap.size :: rest, locked := none }) rfl hsize rfl rfl (rest := rest) rfl
    (by rw [hb]; exact d7) (by rw [hb]; exact d10) hout hRframes (by simp only [List.map_cons, List.sum_cons, hcat]; omega) hlocks
  obtain ⟨f1, f2⟩ := vx_frame hsame
  rw [hhp] at f1 f2
  have hWs : s.WarmedH U.vm := State.WarmedH.trans hW0 hW
  have hcl : s.vm.findClass cls = some ce.cls := by
    have h9 := hO.cls
    rw [hvm] at h9
    exact h9
  have hall : s.sameButNew ({ U with vm := s.vm } : State) locs mc ms := by
    subst hA
    obtain ⟨e1, e2⟩ := hsame
    rw [State.setFrames_setFrames] at e1
    have h2 : (T.setVm s.vm).sameButNew ({ U with vm := s.vm } : State) [] (0 + 1) (0 + 6) := ⟨e1, e2⟩
    have h3 := X.same.trans h2
    rw [List.append_nil] at h3
    exact h3.mono hc hs
  refine ⟨U, ?_, .threw T.heap.size, hrun, hend, Or.inr ⟨T.heap.size, rfl, cls, ce, locs, hx U hWs.alike f1 (fun q hq => f2 q hq (fun z hz => nomatch hz)), hce, hO.vm, hcl, hWs, hall, hf⟩⟩
  refine st1 _ ?_
  show Steps p.tables e below (T1.setTop { method := m, pc := pc + 3, locals := ls, stack := .ref T.heap.size :: rest, locked := none }) _
  jvm_step X₁.here [X₁.here.top, hexec, d3', Value.category]
  exact X₁.ldcStringW hexec (own := own) (text := text) (index := is) (a := sa) hown' hstr'.1 hstr'.2
    (g := { method := m, pc := pc + 4, locals := ls, stack := .ref T.heap.size :: .ref T.heap.size :: rest, locked := none }) rfl d4' _ hsteps
end Ends
section Bodies
variable {l : Launch}
theorem vx_ofW {y : MethodName} {ws ws' : List Cond} {rm : Room} {Pc : Array Value → State → Prop} {Qc : Array Value → State → Outcome → State → Prop} {XC : String → State → State → Prop} {mc ms : Nat} {free : Addr → Prop} {cc : ByteArray} {maxL : Nat} {ret : Option FieldType}
    (hy : plainName y.cls = true) (hw : ws = Cond.code y cc maxL ret :: ws')
    (body : ∀ p e s m args below meth c s₁, BodyLoose p l y (headSpec ws rm) cc maxL ret e s m args below meth c s₁ → c.maxLocals = maxL → (∀ x ∈ c.exceptionTable.toList, False) → Pc args s →
      W p l e (headSpec ws rm).room s m args below meth c s.heap [] 0 0 (vx_MQ below Qc XC args s mc ms free) (entryFrame m args maxL)) : vx_Met l y ws rm Pc Qc XC mc ms free := by
  refine MetFree.of_bodyS (code := cc) (maxLocals := maxL) (ret := ret) hy ?_ ?_
  · intro args s m h hn
    obtain ⟨meth, c, h1, h2, h3, h4, h5, h6, -, -⟩ := Cond.code_spec hn (atoms_spec (ws := ws) h _ (by rw [hw]; exact List.mem_cons_self))
    exact ⟨meth, c, h1, h2, h3, h4, h5, h6⟩
  · intro p e s m args below meth c s₁ B hml hP _
    have hh0 : s₁.heap = s.heap := by rw [B.state]; rfl
    have ht : ∀ x ∈ c.exceptionTable.toList, False := by
      obtain ⟨meth9, c9, h1, h2, -, -, -, -, h7, -⟩ := Cond.code_spec B.named (atoms_spec (ws := ws) B.pre _ (by rw [hw]; exact List.mem_cons_self))
      cases Option.some.inj (h1.symm.trans B.method)
      cases Option.some.inj (h2.symm.trans (Stand.of_body B).code)
      intro x hx
      rw [Array.isEmpty_iff.mp h7] at hx
      cases hx
    obtain ⟨t, a1, o, b1, b2, b3⟩ := body p e s m args below meth c s₁ B hml ht hP s₁ hh0 (Stand.of_body B)
    exact ⟨t, o, a1, b1, b2, b3⟩
/-- the table of a body with handlers -/
theorem vx_table {p : Program} {x y : MethodName} {S : Spec} {cc bytes : ByteArray} {maxL maxL' : Nat} {ret ret' : Option FieldType} {e : Env} {s s₁ : State} {m : MethodId} {args : Array Value} {below : List Frame} {meth : Method} {c : Code} {hh : List (Nat × Nat × Nat × Nat)}
    (B : BodyLoose p l y S cc maxL ret e s m args below meth c s₁) (h : (Cond.codeWith y bytes maxL' ret' hh).before args s = true) : c.exceptionTable.toList = tableOf hh := by
  obtain ⟨m9, meth9, c9, hn9, h1, h2, -, -, h6, -⟩ := Cond.codeWith_spec h
  cases Option.some.inj (hn9.symm.trans B.named)
  cases Option.some.inj (h1.symm.trans B.method)
  cases Option.some.inj (h2.symm.trans (Stand.of_body B).code)
  rw [← h6, table_eq]
end Bodies
end VXA
/-! ===== END ===== -/
/-! ===== BEGIN a static call of a method with an exception table ===== -/
section VXS
variable {p : Program} {l : Launch} {e : Env} {R : Room} {s : State} {m : MethodId} {args : Array Value} {below : List Frame} {meth : Method} {c : Code} {T : State} {H : Heap} {locs : List Loc} {cells slots : Nat}
abbrev vx_CSW (R : Room) (s : State) (args : Array Value) (own : String) (index : Nat) (y : MethodName) (bytes : ByteArray) (maxL : Nat) (ret : Option FieldType) (hh : List (Nat × Nat × Nat × Nat)) (ws : List Cond) (rm : Room) (mc ms n : Nat) : Prop :=
  (rm.cells = mc ∧ rm.slots = ms ∧ rm.frames + 1 ≤ R.frames ∧ 8 + (maxL + 11) + rm.locals ≤ R.locals ∧ (∀ w ∈ ws, ∀ (a' : Array Value) (U : State), s.WarmedH U.vm → w.before a' U = true) ∧ Cond.codeWith y bytes maxL ret hh ∈ ws) ∧
  (Cond.codeWith y bytes maxL ret hh).before args s = true ∧ (Cond.initialized y.cls).before args s = true ∧ (y.cls ≠ "java/lang/invoke/MethodHandle" ∧ y.cls ≠ "java/lang/invoke/VarHandle") ∧
  (∀ sig, parseMethodDescriptor y.desc = some sig → n = sig.parameters.length) ∧ (Cond.methodLink own index y).before args s = true ∧ (Cond.static y).before args s = true
theorem vx_cwSW {own : String} {index maxL mc ms : Nat} {y : MethodName} {bytes : ByteArray} {ret : Option FieldType} {hh : List (Nat × Nat × Nat × Nat)} {Ts ws ws' : List Cond} {rm : Room} (n : Nat) (ht : ∀ w ∈ Ts, w.before args s = true) (hT : GoodIn Ts (va_wsS own index y ws)) (hw : ws = Cond.codeWith y bytes maxL ret hh :: ws') (hrc : rm.cells = mc) (hrs : rm.slots = ms)
    (hd : y.cls ≠ "java/lang/invoke/MethodHandle" ∧ y.cls ≠ "java/lang/invoke/VarHandle" ∧ (parseMethodDescriptor y.desc).map (fun d => d.parameters.length) = some n) (hR : rm.frames + 1 ≤ R.frames ∧ 8 + (maxL + 11) + rm.locals ≤ R.locals) :
    vx_CSW R s args own index y bytes maxL ret hh ws rm mc ms n := by
  have ok : ∀ w ∈ va_wsS own index y ws, w.before args s = true := fun w h => ht w (hT w h).1
  have hG : GoodIn Ts ws := fun w h => hT w (by unfold va_wsS; exact List.mem_append_right _ h)
  have hc : Cond.codeWith y bytes maxL ret hh ∈ ws := by rw [hw]; exact List.mem_cons_self
  refine ⟨⟨hrc, hrs, hR.1, hR.2, pay_in ht hG, hc⟩, ht _ (hG _ hc).1, ok _ (by simp [va_wsS]), ⟨hd.1, hd.2.1⟩, fun sig h => ?_, ok _ (by simp [va_wsS]), ok _ (by simp [va_wsS])⟩
  have h2 := hd.2.2
  rw [h] at h2
  exact (Option.some.inj h2).symm
theorem vx_callSW (X : Stand p l e R s m args below meth c T locs cells slots) (hexec : p.tables.exec = Jvm.exec) {own : String} {index : Nat} {y : MethodName} {bytes : ByteArray} {maxL : Nat} {ret : Option FieldType} {hh : List (Nat × Nat × Nat × Nat)}
    (hown : s.vm.findClass own = some m.cls) (hlink : (Cond.methodLink own index y).before args s = true) (hstat : (Cond.static y).before args s = true) (hinit : (Cond.initialized y.cls).before args s = true)
    (hcode : (Cond.codeWith y bytes maxL ret hh).before args s = true) (hy : y.cls ≠ "java/lang/invoke/MethodHandle" ∧ y.cls ≠ "java/lang/invoke/VarHandle")
    {W9 : Nat} {Pre : Pt → Array Value → Prop} {Post : Pt → Array Value → Option Value → Pt → Prop} (hK : Back l R p e below s args y 3 W9 Pre Post)
    {g : JFrame} (hg : g.method = m) (hsize : g.locals.size = c.maxLocals) {argsL rest : List Value} (hlen : ∀ sig, parseMethodDescriptor y.desc = some sig → argsL.length = sig.parameters.length)
    (hstack : g.stack = argsL.reverse ++ rest) (hW : 2 * g.monitorRoom + (rest.map fun v => v.category).sum ≤ W9) (hdg : decode c.code g.pc = .ok (.invokestatic index, 3))
    (hpre : ∀ vm₁, s.WarmedH vm₁ → Pre ⟨T.setVm vm₁, locs, cells, slots⟩ argsL.toArray) :
    ∃ (v : Option Value) (vm₁ : Vm) (B : Pt), s.WarmedH vm₁ ∧ Stand p l e R s m args below meth c B.U B.locs B.cells B.slots ∧ Post ⟨T.setVm vm₁, locs, cells, slots⟩ argsL.toArray v B ∧
      ∀ target, Steps p.tables e below (B.U.setTop { g with pc := g.pc + 3, stack := v.toList ++ rest }) target → Steps p.tables e below (T.setTop g) target := by
  obtain ⟨mk, methM, cM, hnamed, hmethM, -, -, -, -, -, -, hsigM⟩ := Cond.codeWith_spec hcode
  have hstatic : methM.isStatic = true := Cond.static_spec hnamed hmethM hstat
  obtain ⟨kP, hkP, -⟩ := className_of_methodNamed hnamed
  have hinitP : kP.init = .initialized := Cond.initialized_spec (findClass_of_methodNamed hnamed) hkP hinit
  obtain ⟨vm₁, X₁, hstep₁⟩ := X.invokestatic hexec hown hlink hnamed hmethM hstatic hkP hinitP hy (g := g) hg (argsL := argsL) (rest := rest) (hlen _ hsigM) hstack hdg
  obtain ⟨v, B, X', hpost, hsteps⟩ := hK m meth c ⟨T.setVm vm₁, locs, cells, slots⟩ { g with stack := rest } (.invokestatic index) mk argsL.toArray X₁ hg hsize hdg hW (X₁.named hnamed) (hpre vm₁ X₁.warmed)
  exact ⟨v, vm₁, B, X₁.warmed, X', hpost, fun target h => hstep₁ _ fun acts => by rw [doInvoke_state]; exact hsteps.trans h⟩
theorem vx_runSW {y : MethodName} {bytes cc : ByteArray} {maxL nL mc ms n index : Nat} {ret : Option FieldType} {hh : List (Nat × Nat × Nat × Nat)} {ws : List Cond} {rm : Room} {Pc : Array Value → State → Prop} {Qc : Array Value → State → Outcome → State → Prop} {free : Addr → Prop} {Ts : List Cond} {own : String} {As rest : List Value} {g : JFrame}
    (S : CallFix p m c cc nL s args Ts own) (hM : Met l y ws rm Pc Qc mc ms free) (cw : vx_CSW R s args own index y bytes maxL ret hh ws rm mc ms n) (hp : PreS s H Pc As)
    (hg : g.method = m) (hn : As.length = n) (hsize : g.locals.size = nL) (hstack : g.stack = As.reverse ++ rest) (hW : 2 * g.monitorRoom + (rest.map fun v => v.category).sum ≤ 8) (hdg : decode cc g.pc = .ok (.invokestatic index, 3)) (hf : cells + mc ≤ R.cells ∧ slots + ms ≤ R.slots) :
    va_Run p l e R s m args below meth c H locs cells slots mc ms g rest (Qc As.toArray) (free) := by
  obtain ⟨⟨hrc, hrs, hfr, hlo, hws, hcw⟩, hcode, hini, hy, hlen, hl, hstt⟩ := cw
  have hK : Back l R p e below s args y 3 8 (PreOf R mc ms Pc) (PostOf Qc mc ms free) := va_backW (hh := hh) (bytes := bytes) (maxL := maxL) (ret := ret) hM hp.1 hrc hrs hfr hlo hws hcw (fun a' U hW => word_at hW (Or.inl (by first | rfl | simp [Cond.onTables, Cond.keeps, Cond.steady])) hini)
  obtain ⟨hx, hb, hml, ho, -⟩ := S
  intro T hT X
  obtain ⟨v, vm₁, ⟨U', l2, c2, s2⟩, hW₁, X', ⟨g', mk, t, L, e1, e2, hq, h1, hL, h2, h3⟩, st⟩ := vx_callSW X hx (hh := hh) (bytes := bytes) (maxL := maxL) (ret := ret) ho hl hstt hini hcode hy hK hg (hsize.trans hml.symm) (argsL := As) (rest := rest) (fun sig h => hn.trans (hlen sig h)) hstack hW (by rw [hb]; exact hdg)
    (fun vm₁ hW₁ => ⟨hf.1, hf.2, hp.2 (T.setVm vm₁) hT hW₁⟩)
  dsimp only [Pt.U, Pt.locs, Pt.cells, Pt.slots] at X' e1 e2 h1 h2 h3 st
  subst h1; subst h2; subst h3
  exact ⟨v, (T.setVm vm₁).calling g' mk As.toArray, t, U', L, hT, X', hL, e1, e2, hq, st⟩
/-- a thing of a world lies in the heap -/
theorem vx_lt {D : va_G} {cl : List vw_C} {ws : va_W} {H1 : Heap} (h : va_P D cl ws H1) {k : Nat} {q : Nat × va_E} (hk : ws[k]? = some q) : q.1 < H1.size := (h k q hk).lt
end VXS
/-! ===== END ===== -/
/-! ===== BEGIN methods with a table of their own: called by a name, returning or throwing ===== -/
section VXH
/-! vx_backW, vx_callVX, vx_callSX, vx_callVW, vx_runVW, vx_runVX, vx_runSX, vx_ofWH follow the same proofs as their sisters above (Free/Laws.lean, Shelf42/LK1.lean); vx_outP calls Shelf42/NT130.lean (outThrough). -/
section
variable {l : Launch} {R : Room} {p : Program} {e : Env} {below : List Frame} {s : State} {sargs : Array Value} {y : MethodName} {len W9 : Nat}
theorem vx_backW {ws : List Cond} {rm : Room} {Pc : Array Value → State → Prop} {Qc : Array Value → State → Outcome → State → Prop} {XC : String → State → State → Prop} {mc ms : Nat} {free : Addr → Prop} {bytes : ByteArray} {maxL : Nat} {ret : Option FieldType} {hh : List (Nat × Nat × Nat × Nat)}
    (hM : vx_Met l y ws rm Pc Qc XC mc ms free) (hblind : FrameBlind Pc) (hrc : rm.cells = mc) (hrs : rm.slots = ms)
    (hframes : rm.frames + 1 ≤ R.frames) (hlocals : W9 + (maxL + 11) + rm.locals ≤ R.locals)
    (hws : ∀ w ∈ ws, ∀ a' U, s.WarmedH U.vm → w.before a' U = true) (hcode : Cond.codeWith y bytes maxL ret hh ∈ ws) (hinit : ∀ a' U, s.WarmedH U.vm → (Cond.initialized y.cls).before a' U = true) :
    vx_Back l R p e below s sargs y len W9 (PreOf R mc ms Pc) (PostOf Qc mc ms free) (vx_Post XC mc ms free) := by
  intro m meth c A g ig mk a X hg hsize hdg hW hn hp
  have h1 : (headSpec ws rm).pre.before a A.U = true := atoms_intro fun w hw => hws w hw _ _ X.warmed
  have h2 : (Cond.codeWith y bytes maxL ret hh).before a A.U = true := hws _ hcode _ _ X.warmed
  have h3 : (Cond.initialized y.cls).before a A.U = true := hinit _ _ X.warmed
  have h4 : A.cells + (headSpec ws rm).room.cells ≤ R.cells := by rw [show (headSpec ws rm).room.cells = mc from hrc]; exact hp.1
  have h5 : A.slots + (headSpec ws rm).room.slots ≤ R.slots := by rw [show (headSpec ws rm).room.slots = ms from hrs]; exact hp.2.1
  have hPc : Pc a (A.U.calling g mk a) := hblind _ _ _ _ hp.2.2
  obtain ⟨U, Ls, c0, s0⟩ := A
  dsimp only [Pt.U, Pt.locs, Pt.cells, Pt.slots] at h1 h2 h3 h4 h5 X hn hPc ⊢
  obtain ⟨m9, methY, cY, hn9, hmY, hcY, -, hlY, -⟩ := Cond.codeWith_spec h2
  cases Option.some.inj (hn9.symm.trans hn)
  obtain ⟨kY, hkY, -⟩ := className_of_methodNamed hn
  have hinitY : kY.init = .initialized := Cond.initialized_spec (findClass_of_methodNamed hn) hkY h3
  have h : At U g.method c below := by rw [hg]; exact X.here
  have hlocals9 : W9 + (maxL + 11) + (headSpec ws rm).room.locals ≤ R.locals := hlocals
  have happ : (headSpec ws rm).appliesLoose y e.platform (U.calling g mk a) = true :=
    Spec.appliesLoose_calling (g := g) h hdg hn hkY hinitY
      (X.room_calling (g := g) (R' := (headSpec ws rm).room) hsize hmY hcY hframes (by rw [hlY]; omega) h4 h5) h1
  obtain ⟨mid, hmid⟩ := h.above
  have hfr : (U.setTop g).frames = (.java g :: mid) ++ below := by rw [State.frames_setTop' g h.top, hmid]; rfl
  obtain ⟨o, s₂, hsteps, -, hend, hq⟩ := Steps.callFree hM p X.admits X.cas X.clock (acts := []) hfr happ hPc trivial
  have hq' : vx_Q Qc XC mc ms free a (U.calling g mk a) o s₂ := hq
  rw [State.frames_setTop' g h.top] at hend
  obtain ⟨g₀, hg0⟩ := Option.isSome_iff_exists.mp h.top
  obtain ⟨r, hr⟩ := State.topJava?_eq_some.mp hg0
  have hr' : (({ U with heap := s₂.heap, slotsUsed := s₂.slotsUsed } : State).setVm s₂.vm).frames = .java g₀ :: r := hr
  rcases hq' with ⟨hqc, L, hfe, hL⟩ | ⟨q, rfl, E, ce, L, hx, hce, hcv, hcl, hW₂, hsm, hL⟩
  · obtain ⟨⟨v, rfl⟩, hW₂, e2, q2, q3, q4, q5, q6⟩ := id hfe
    have e3 : s₂ = ({ (U.calling g mk a).setFrames s₂.frames with heap := s₂.heap, slotsUsed := s₂.slotsUsed } : State).setVm s₂.vm := by
      have : s₂ = ({ s₂ with vm := (U.calling g mk a).vm } : State).setVm s₂.vm := rfl
      rw [e2] at this
      exact this
    obtain ⟨c₂, i₂, len₂, hc₂, hd₂, hf₂⟩ := hend
    have hW' : U.WarmedH s₂.vm := hW₂
    have hcc : c₂ = c := by
      have h1 : s₂.code? g.method = U.code? g.method := by
        rw [State.code?_eq, State.code?_eq, hW'.alike.method?]
      exact Option.some.inj (hc₂.symm.trans (h1.trans h.code))
    subst hcc
    have hlen : len₂ = len := by rw [hdg] at hd₂; cases hd₂; rfl
    subst hlen
    have hs₂ : s₂ = (({ U with heap := s₂.heap, slotsUsed := s₂.slotsUsed } : State).setVm s₂.vm).setTop { g with pc := g.pc + len₂, stack := v.toList ++ g.stack } := by
      refine e3.trans ?_
      rw [hf₂, State.calling_eq h.top, State.setFrames_setFrames, State.setTop_of_frames _ hr', hr]
      rfl
    have hsame : U.sameButNew ({ U with heap := s₂.heap, slotsUsed := s₂.slotsUsed } : State) L mc ms := by
      refine ⟨?_, q2, q3, q4, q5, q6⟩
      obtain ⟨t, ht, -⟩ := State.frames_cons hr
      show ({ U with heap := s₂.heap, slotsUsed := s₂.slotsUsed } : State) = { U.setFrames U.frames with heap := s₂.heap, slotsUsed := s₂.slotsUsed }
      rw [State.setFrames_self ht]
    subst hg
    refine Or.inl ⟨v, ⟨(({ U with heap := s₂.heap, slotsUsed := s₂.slotsUsed } : State).setVm s₂.vm), Ls ++ L, c0 + mc, s0 + ms⟩,
      ⟨X.admits, X.cas, X.clock, X.frames, X.room, X.hears, X.method, X.code, (X.here.setHeapUsed s₂.heap s₂.slotsUsed).setVm hW'.alike, X.tail, State.WarmedH.trans X.warmed hW', X.limits, X.bytes, X.same.trans (hsame.setVm s.vm)⟩,
      ⟨g, mk, s₂, L, rfl, rfl, hqc, rfl, hL, rfl, rfl⟩, ?_⟩
    show Steps p.tables e below _ ((({ U with heap := s₂.heap, slotsUsed := s₂.slotsUsed } : State).setVm s₂.vm).setTop { g with pc := g.pc + len₂, stack := v.toList ++ g.stack })
    rw [← hs₂]
    exact hsteps
  · obtain ⟨e2, q2, q3, q4, q5, q6⟩ := id hsm
    have e3 : s₂ = ({ (U.calling g mk a).setFrames s₂.frames with heap := s₂.heap, slotsUsed := s₂.slotsUsed } : State).setVm s₂.vm := by
      have : s₂ = ({ s₂ with vm := (U.calling g mk a).vm } : State).setVm s₂.vm := rfl
      rw [e2] at this
      exact this
    have hf₂ : s₂.frames = .throwing q :: .java g :: U.frames.tail := hend
    have hW' : U.WarmedH s₂.vm := hW₂
    have hs₂ : s₂ = ((({ U with heap := s₂.heap, slotsUsed := s₂.slotsUsed } : State).setVm s₂.vm).setTop g).pushFrame (.throwing q) := by
      refine e3.trans ?_
      rw [hf₂, State.calling_eq h.top, State.setFrames_setFrames, State.pushFrame, State.frames_setTop _ hr', State.setTop_of_frames _ hr', State.setFrames_setFrames, hr]
      rfl
    have hsame : U.sameButNew ({ U with heap := s₂.heap, slotsUsed := s₂.slotsUsed } : State) L mc ms := by
      refine ⟨?_, q2, q3, q4, q5, q6⟩
      obtain ⟨t, ht, -⟩ := State.frames_cons hr
      show ({ U with heap := s₂.heap, slotsUsed := s₂.slotsUsed } : State) = { U.setFrames U.frames with heap := s₂.heap, slotsUsed := s₂.slotsUsed }
      rw [State.setFrames_self ht]
    subst hg
    refine Or.inr ⟨q, ⟨(({ U with heap := s₂.heap, slotsUsed := s₂.slotsUsed } : State).setVm s₂.vm), Ls ++ L, c0 + mc, s0 + ms⟩,
      ⟨X.admits, X.cas, X.clock, X.frames, X.room, X.hears, X.method, X.code, (X.here.setHeapUsed s₂.heap s₂.slotsUsed).setVm hW'.alike, X.tail, State.WarmedH.trans X.warmed hW', X.limits, X.bytes, X.same.trans (hsame.setVm s.vm)⟩,
      ⟨g, mk, s₂, L, E, ce, rfl, rfl, hx, hce, hcv, hcl, rfl, hL, rfl, rfl⟩, ?_⟩
    show Steps p.tables e below _ (((({ U with heap := s₂.heap, slotsUsed := s₂.slotsUsed } : State).setVm s₂.vm).setTop g).pushFrame (.throwing q))
    rw [← hs₂]
    exact hsteps
end
variable {p : Program} {l : Launch} {e : Env} {R : Room} {s : State} {m : MethodId} {args : Array Value} {below : List Frame} {meth : Method} {c : Code} {T : State} {H : Heap} {locs : List Loc} {cells slots : Nat}
theorem vx_callVX (X : Stand p l e R s m args below meth c T locs cells slots) (hexec : p.tables.exec = Jvm.exec) {own C : String} {index : Nat} {y : MethodName} {bytes : ByteArray} {maxL : Nat} {ret : Option FieldType} {hh : List (Nat × Nat × Nat × Nat)}
    (hown : s.vm.findClass own = some m.cls) (hlink : (Cond.methodLink own index y).before args s = true) (hinst : (Cond.instanceMethod y).before args s = true) (hsel : (Cond.selects C y y).before args s = true)
    (hcode : (Cond.codeWith y bytes maxL ret hh).before args s = true) (hy : y.cls ≠ "java/lang/invoke/MethodHandle" ∧ y.cls ≠ "java/lang/invoke/VarHandle")
    {W9 : Nat} {Pre : Pt → Array Value → Prop} {Post : Pt → Array Value → Option Value → Pt → Prop} {PostX : Pt → Array Value → Addr → Pt → Prop} (hK : vx_Back l R p e below s args y 3 W9 Pre Post PostX)
    {b : Addr} {cellB : Cell} (hcell : T.heap[b]? = some cellB) (hobj : cellB.vm.isStatics = false) (hcls : s.vm.findClass C = some cellB.cls)
    {g : JFrame} (hg : g.method = m) (hsize : g.locals.size = c.maxLocals) {argsL rest : List Value} (hlen : ∀ sig, parseMethodDescriptor y.desc = some sig → argsL.length = sig.parameters.length)
    (hstack : g.stack = argsL.reverse ++ .ref b :: rest) (hW : 2 * g.monitorRoom + (rest.map fun v => v.category).sum ≤ W9) (hdg : decode c.code g.pc = .ok (.invokevirtual index, 3))
    (hpre : ∀ vm₁, s.WarmedH vm₁ → Pre ⟨T.setVm vm₁, locs, cells, slots⟩ (Value.ref b :: argsL).toArray) :
    (∃ (v : Option Value) (vm₁ : Vm) (B : Pt), s.WarmedH vm₁ ∧ Stand p l e R s m args below meth c B.U B.locs B.cells B.slots ∧ Post ⟨T.setVm vm₁, locs, cells, slots⟩ (Value.ref b :: argsL).toArray v B ∧
      ∀ target, Steps p.tables e below (B.U.setTop { g with pc := g.pc + 3, stack := v.toList ++ rest }) target → Steps p.tables e below (T.setTop g) target) ∨
    (∃ (q : Addr) (vm₁ : Vm) (B : Pt), s.WarmedH vm₁ ∧ Stand p l e R s m args below meth c B.U B.locs B.cells B.slots ∧ PostX ⟨T.setVm vm₁, locs, cells, slots⟩ (Value.ref b :: argsL).toArray q B ∧
      Steps p.tables e below (T.setTop g) ((B.U.setTop { g with stack := rest }).pushFrame (.throwing q))) := by
  obtain ⟨mk, methM, hnamed, hmethM, hstM, habM⟩ := Cond.instanceMethod_spec hinst
  obtain ⟨m8, methM', cM, hn8, hmethM', -, -, -, -, -, -, hsigM⟩ := Cond.codeWith_spec hcode
  cases Option.some.inj (hn8.symm.trans hnamed)
  cases hmethM.symm.trans hmethM'
  obtain ⟨c2, r2, m2, q1, q2, q3, q4, kP, hkP, hkPi⟩ := Cond.selects_spec hsel
  cases hcls.symm.trans q1
  cases (State.methodFound?_of_named hnamed hy).symm.trans q2
  cases hnamed.symm.trans q3
  have hselP : selectMethod e.platform s.vm cellB.cls mk = .method mk := by rw [Launch.admits_selectMethod X.admits]; exact q4
  obtain ⟨vm₁, X₁, hstep₁⟩ := X.invokevirtual hexec hown hlink hnamed hmethM hstM hkP hkPi hy (a := b) (cell := cellB) hcell
    (fun z h => by rw [h] at hobj; cases hobj) hselP hmethM habM hkP hkPi (g := g) hg (argsL := argsL) (rest := rest) (hlen _ hsigM) hstack hdg
  rcases hK m meth c ⟨T.setVm vm₁, locs, cells, slots⟩ { g with stack := rest } (.invokevirtual index) mk (Value.ref b :: argsL).toArray X₁ hg hsize hdg hW (X₁.named hnamed) (hpre vm₁ X₁.warmed) with ⟨v, B, X', hpost, hsteps⟩ | ⟨q, B, X', hpost, hsteps⟩
  · exact Or.inl ⟨v, vm₁, B, X₁.warmed, X', hpost, fun target h => hstep₁ _ fun acts => by rw [doInvoke_state]; exact hsteps.trans h⟩
  · exact Or.inr ⟨q, vm₁, B, X₁.warmed, X', hpost, hstep₁ _ fun acts => by rw [doInvoke_state]; exact hsteps⟩
theorem vx_callSX (X : Stand p l e R s m args below meth c T locs cells slots) (hexec : p.tables.exec = Jvm.exec) {own : String} {index : Nat} {y : MethodName} {bytes : ByteArray} {maxL : Nat} {ret : Option FieldType} {hh : List (Nat × Nat × Nat × Nat)}
    (hown : s.vm.findClass own = some m.cls) (hlink : (Cond.methodLink own index y).before args s = true) (hstat : (Cond.static y).before args s = true) (hinit : (Cond.initialized y.cls).before args s = true)
    (hcode : (Cond.codeWith y bytes maxL ret hh).before args s = true) (hy : y.cls ≠ "java/lang/invoke/MethodHandle" ∧ y.cls ≠ "java/lang/invoke/VarHandle")
    {W9 : Nat} {Pre : Pt → Array Value → Prop} {Post : Pt → Array Value → Option Value → Pt → Prop} {PostX : Pt → Array Value → Addr → Pt → Prop} (hK : vx_Back l R p e below s args y 3 W9 Pre Post PostX)
    {g : JFrame} (hg : g.method = m) (hsize : g.locals.size = c.maxLocals) {argsL rest : List Value} (hlen : ∀ sig, parseMethodDescriptor y.desc = some sig → argsL.length = sig.parameters.length)
    (hstack : g.stack = argsL.reverse ++ rest) (hW : 2 * g.monitorRoom + (rest.map fun v => v.category).sum ≤ W9) (hdg : decode c.code g.pc = .ok (.invokestatic index, 3))
    (hpre : ∀ vm₁, s.WarmedH vm₁ → Pre ⟨T.setVm vm₁, locs, cells, slots⟩ argsL.toArray) :
    (∃ (v : Option Value) (vm₁ : Vm) (B : Pt), s.WarmedH vm₁ ∧ Stand p l e R s m args below meth c B.U B.locs B.cells B.slots ∧ Post ⟨T.setVm vm₁, locs, cells, slots⟩ argsL.toArray v B ∧
      ∀ target, Steps p.tables e below (B.U.setTop { g with pc := g.pc + 3, stack := v.toList ++ rest }) target → Steps p.tables e below (T.setTop g) target) ∨
    (∃ (q : Addr) (vm₁ : Vm) (B : Pt), s.WarmedH vm₁ ∧ Stand p l e R s m args below meth c B.U B.locs B.cells B.slots ∧ PostX ⟨T.setVm vm₁, locs, cells, slots⟩ argsL.toArray q B ∧
      Steps p.tables e below (T.setTop g) ((B.U.setTop { g with stack := rest }).pushFrame (.throwing q))) := by
  obtain ⟨mk, methM, cM, hnamed, hmethM, -, -, -, -, -, -, hsigM⟩ := Cond.codeWith_spec hcode
  have hstatic : methM.isStatic = true := Cond.static_spec hnamed hmethM hstat
  obtain ⟨kP, hkP, -⟩ := className_of_methodNamed hnamed
  have hinitP : kP.init = .initialized := Cond.initialized_spec (findClass_of_methodNamed hnamed) hkP hinit
  obtain ⟨vm₁, X₁, hstep₁⟩ := X.invokestatic hexec hown hlink hnamed hmethM hstatic hkP hinitP hy (g := g) hg (argsL := argsL) (rest := rest) (hlen _ hsigM) hstack hdg
  rcases hK m meth c ⟨T.setVm vm₁, locs, cells, slots⟩ { g with stack := rest } (.invokestatic index) mk argsL.toArray X₁ hg hsize hdg hW (X₁.named hnamed) (hpre vm₁ X₁.warmed) with ⟨v, B, X', hpost, hsteps⟩ | ⟨q, B, X', hpost, hsteps⟩
  · exact Or.inl ⟨v, vm₁, B, X₁.warmed, X', hpost, fun target h => hstep₁ _ fun acts => by rw [doInvoke_state]; exact hsteps.trans h⟩
  · exact Or.inr ⟨q, vm₁, B, X₁.warmed, X', hpost, hstep₁ _ fun acts => by rw [doInvoke_state]; exact hsteps⟩
theorem vx_callVW (X : Stand p l e R s m args below meth c T locs cells slots) (hexec : p.tables.exec = Jvm.exec) {own C : String} {index : Nat} {y : MethodName} {bytes : ByteArray} {maxL : Nat} {ret : Option FieldType} {hh : List (Nat × Nat × Nat × Nat)}
    (hown : s.vm.findClass own = some m.cls) (hlink : (Cond.methodLink own index y).before args s = true) (hinst : (Cond.instanceMethod y).before args s = true) (hsel : (Cond.selects C y y).before args s = true)
    (hcode : (Cond.codeWith y bytes maxL ret hh).before args s = true) (hy : y.cls ≠ "java/lang/invoke/MethodHandle" ∧ y.cls ≠ "java/lang/invoke/VarHandle")
    {W9 : Nat} {Pre : Pt → Array Value → Prop} {Post : Pt → Array Value → Option Value → Pt → Prop} (hK : Back l R p e below s args y 3 W9 Pre Post)
    {b : Addr} {cellB : Cell} (hcell : T.heap[b]? = some cellB) (hobj : cellB.vm.isStatics = false) (hcls : s.vm.findClass C = some cellB.cls)
    {g : JFrame} (hg : g.method = m) (hsize : g.locals.size = c.maxLocals) {argsL rest : List Value} (hlen : ∀ sig, parseMethodDescriptor y.desc = some sig → argsL.length = sig.parameters.length)
    (hstack : g.stack = argsL.reverse ++ .ref b :: rest) (hW : 2 * g.monitorRoom + (rest.map fun v => v.category).sum ≤ W9) (hdg : decode c.code g.pc = .ok (.invokevirtual index, 3))
    (hpre : ∀ vm₁, s.WarmedH vm₁ → Pre ⟨T.setVm vm₁, locs, cells, slots⟩ (Value.ref b :: argsL).toArray) :
    ∃ (v : Option Value) (vm₁ : Vm) (B : Pt), s.WarmedH vm₁ ∧ Stand p l e R s m args below meth c B.U B.locs B.cells B.slots ∧ Post ⟨T.setVm vm₁, locs, cells, slots⟩ (Value.ref b :: argsL).toArray v B ∧
      ∀ target, Steps p.tables e below (B.U.setTop { g with pc := g.pc + 3, stack := v.toList ++ rest }) target → Steps p.tables e below (T.setTop g) target := by
  obtain ⟨mk, methM, hnamed, hmethM, hstM, habM⟩ := Cond.instanceMethod_spec hinst
  obtain ⟨m8, methM', cM, hn8, hmethM', -, -, -, -, -, -, hsigM⟩ := Cond.codeWith_spec hcode
  cases Option.some.inj (hn8.symm.trans hnamed)
  cases hmethM.symm.trans hmethM'
  obtain ⟨c2, r2, m2, q1, q2, q3, q4, kP, hkP, hkPi⟩ := Cond.selects_spec hsel
  cases hcls.symm.trans q1
  cases (State.methodFound?_of_named hnamed hy).symm.trans q2
  cases hnamed.symm.trans q3
  have hselP : selectMethod e.platform s.vm cellB.cls mk = .method mk := by rw [Launch.admits_selectMethod X.admits]; exact q4
  obtain ⟨vm₁, X₁, hstep₁⟩ := X.invokevirtual hexec hown hlink hnamed hmethM hstM hkP hkPi hy (a := b) (cell := cellB) hcell
    (fun z h => by rw [h] at hobj; cases hobj) hselP hmethM habM hkP hkPi (g := g) hg (argsL := argsL) (rest := rest) (hlen _ hsigM) hstack hdg
  obtain ⟨v, B, X', hpost, hsteps⟩ := hK m meth c ⟨T.setVm vm₁, locs, cells, slots⟩ { g with stack := rest } (.invokevirtual index) mk (Value.ref b :: argsL).toArray X₁ hg hsize hdg hW (X₁.named hnamed) (hpre vm₁ X₁.warmed)
  exact ⟨v, vm₁, B, X₁.warmed, X', hpost, fun target h => hstep₁ _ fun acts => by rw [doInvoke_state]; exact hsteps.trans h⟩
abbrev vx_CVW (R : Room) (s : State) (args : Array Value) (own C : String) (index : Nat) (y : MethodName) (bytes : ByteArray) (maxL : Nat) (ret : Option FieldType) (hh : List (Nat × Nat × Nat × Nat)) (ws : List Cond) (rm : Room) (mc ms n : Nat) : Prop :=
  (rm.cells = mc ∧ rm.slots = ms ∧ rm.frames + 1 ≤ R.frames ∧ 8 + (maxL + 11) + rm.locals ≤ R.locals ∧ (∀ w ∈ ws, ∀ (a' : Array Value) (U : State), s.WarmedH U.vm → w.before a' U = true) ∧ Cond.codeWith y bytes maxL ret hh ∈ ws) ∧
  (Cond.codeWith y bytes maxL ret hh).before args s = true ∧ (Cond.initialized y.cls).before args s = true ∧ (y.cls ≠ "java/lang/invoke/MethodHandle" ∧ y.cls ≠ "java/lang/invoke/VarHandle") ∧
  (∀ sig, parseMethodDescriptor y.desc = some sig → n = sig.parameters.length) ∧ (Cond.methodLink own index y).before args s = true ∧ (Cond.instanceMethod y).before args s = true ∧ (Cond.selects C y y).before args s = true
theorem vx_cwVW {own C : String} {index maxL mc ms : Nat} {y : MethodName} {bytes : ByteArray} {ret : Option FieldType} {hh : List (Nat × Nat × Nat × Nat)} {Ts ws ws' : List Cond} {rm : Room} (n : Nat) (ht : ∀ w ∈ Ts, w.before args s = true) (hT : GoodIn Ts (wsV own index C y ws)) (hw : ws = Cond.codeWith y bytes maxL ret hh :: ws') (hrc : rm.cells = mc) (hrs : rm.slots = ms)
    (hd : y.cls = C ∧ y.cls ≠ "java/lang/invoke/MethodHandle" ∧ y.cls ≠ "java/lang/invoke/VarHandle" ∧ (parseMethodDescriptor y.desc).map (fun d => d.parameters.length) = some n) (hR : rm.frames + 1 ≤ R.frames ∧ 8 + (maxL + 11) + rm.locals ≤ R.locals) :
    vx_CVW R s args own C index y bytes maxL ret hh ws rm mc ms n := by
  obtain ⟨hC, hd⟩ := hd
  subst hC
  have ok : ∀ w ∈ wsV own index y.cls y ws, w.before args s = true := fun w h => ht w (hT w h).1
  have hG : GoodIn Ts ws := fun w h => hT w (by unfold wsV; exact List.mem_append_right _ h)
  have hc : Cond.codeWith y bytes maxL ret hh ∈ ws := by rw [hw]; exact List.mem_cons_self
  refine ⟨⟨hrc, hrs, hR.1, hR.2, pay_in ht hG, hc⟩, ht _ (hG _ hc).1, ok _ (by simp [wsV]), ⟨hd.1, hd.2.1⟩, fun sig h => ?_, ok _ (by simp [wsV]), ok _ (by simp [wsV]), ok _ (by simp [wsV])⟩
  have h2 := hd.2.2
  rw [h] at h2
  exact (Option.some.inj h2).symm
theorem vx_runVW {y : MethodName} {bytes cc : ByteArray} {maxL nL mc ms n index : Nat} {ret : Option FieldType} {hh : List (Nat × Nat × Nat × Nat)} {ws : List Cond} {rm : Room} {Pc : Array Value → State → Prop} {Qc : Array Value → State → Outcome → State → Prop} {free : Addr → Prop} {Ts : List Cond} {own C : String} {b : Addr} {As rest : List Value} {g : JFrame}
    (S : CallFix p m c cc nL s args Ts own) (hM : Met l y ws rm Pc Qc mc ms free) (cw : vx_CVW R s args own C index y bytes maxL ret hh ws rm mc ms n) (hp : PreV s H C b Pc As)
    (hg : g.method = m) (hn : As.length = n) (hsize : g.locals.size = nL) (hstack : g.stack = As.reverse ++ .ref b :: rest) (hW : 2 * g.monitorRoom + (rest.map fun v => v.category).sum ≤ 8) (hdg : decode cc g.pc = .ok (.invokevirtual index, 3)) (hf : cells + mc ≤ R.cells ∧ slots + ms ≤ R.slots) :
    va_Run p l e R s m args below meth c H locs cells slots mc ms g rest (Qc (Value.ref b :: As).toArray) free := by
  obtain ⟨⟨hrc, hrs, hfr, hlo, hws, hcw⟩, hcode, hini, hy, hlen, hl, hin, hse⟩ := cw
  have hK : Back l R p e below s args y 3 8 (PreOf R mc ms Pc) (PostOf Qc mc ms free) := va_backW (hh := hh) (bytes := bytes) (maxL := maxL) (ret := ret) hM hp.1 hrc hrs hfr hlo hws hcw (fun a' U hW => word_at hW (Or.inl (by first | rfl | simp [Cond.onTables, Cond.keeps, Cond.steady])) hini)
  obtain ⟨hx, hb, hml, ho, -⟩ := S
  obtain ⟨-, ⟨cellB, hcB, hoB, hclB⟩, hPc⟩ := hp
  intro T hT X
  obtain ⟨v, vm₁, ⟨U', l2, c2, s2⟩, hW₁, X', ⟨g', mk, t, L, e1, e2, hq, h1, hL, h2, h3⟩, st⟩ := vx_callVW X hx (C := C) (hh := hh) (bytes := bytes) (maxL := maxL) (ret := ret) ho hl hin hse hcode hy hK (by rw [hT]; exact hcB) hoB hclB hg (hsize.trans hml.symm) (argsL := As) (rest := rest) (fun sig h => hn.trans (hlen sig h)) hstack hW (by rw [hb]; exact hdg)
    (fun vm₁ hW₁ => ⟨hf.1, hf.2, hPc (T.setVm vm₁) hT hW₁⟩)
  dsimp only [Pt.U, Pt.locs, Pt.cells, Pt.slots] at X' e1 e2 h1 h2 h3 st
  subst h1; subst h2; subst h3
  exact ⟨v, (T.setVm vm₁).calling g' mk (Value.ref b :: As).toArray, t, U', L, hT, X', hL, e1, e2, hq, st⟩
section
variable {y : MethodName} {bytes cc : ByteArray} {maxL nL mc ms n index : Nat} {ret : Option FieldType} {ws : List Cond} {rm : Room} {Pc : Array Value → State → Prop} {Qc : Array Value → State → Outcome → State → Prop} {XC : String → State → State → Prop} {free : Addr → Prop} {Ts : List Cond} {own C : String} {b : Addr} {As rest : List Value} {g : JFrame}
theorem vx_runVX {hh : List (Nat × Nat × Nat × Nat)} (S : CallFix p m c cc nL s args Ts own) (hM : vx_Met l y ws rm Pc Qc XC mc ms free) (cw : vx_CVW R s args own C index y bytes maxL ret hh ws rm mc ms n) (hp : PreV s H C b Pc As)
    (hg : g.method = m) (hn : As.length = n) (hsize : g.locals.size = nL) (hstack : g.stack = As.reverse ++ .ref b :: rest) (hW : 2 * g.monitorRoom + (rest.map fun v => v.category).sum ≤ 8) (hdg : decode cc g.pc = .ok (.invokevirtual index, 3)) (hf : cells + mc ≤ R.cells ∧ slots + ms ≤ R.slots) :
    vx_Run p l e R s m args below meth c H locs cells slots mc ms g rest (Qc (Value.ref b :: As).toArray) XC free := by
  obtain ⟨⟨hrc, hrs, hfr, hlo, hws, hcw⟩, hcode, hini, hy, hlen, hl, hin, hse⟩ := cw
  have hK : vx_Back l R p e below s args y 3 8 (PreOf R mc ms Pc) (PostOf Qc mc ms free) (vx_Post XC mc ms free) := vx_backW (hh := hh) (bytes := bytes) (maxL := maxL) (ret := ret) hM hp.1 hrc hrs hfr hlo hws hcw (fun a' U hW => word_at hW (Or.inl (by first | rfl | simp [Cond.onTables, Cond.keeps, Cond.steady])) hini)
  obtain ⟨hx, hb, hml, ho, -⟩ := S
  obtain ⟨-, ⟨cellB, hcB, hoB, hclB⟩, hPc⟩ := hp
  intro T hT X
  rcases vx_callVX X hx (C := C) (hh := hh) (bytes := bytes) (maxL := maxL) (ret := ret) ho hl hin hse hcode hy hK (by rw [hT]; exact hcB) hoB hclB hg (hsize.trans hml.symm) (argsL := As) (rest := rest) (fun sig h => hn.trans (hlen sig h)) hstack hW (by rw [hb]; exact hdg)
    (fun vm₁ hW₁ => ⟨hf.1, hf.2, hPc (T.setVm vm₁) hT hW₁⟩) with ⟨v, vm₁, ⟨U', l2, c2, s2⟩, hW₁, X', ⟨g', mk, t, L, e1, e2, hq, h1, hL, h2, h3⟩, st⟩ | ⟨q, vm₁, ⟨U', l2, c2, s2⟩, hW₁, X', ⟨g', mk, t, L, E, ce, e1, e2, hq, hce, hcv, hcl, h1, hL, h2, h3⟩, st⟩
  · dsimp only [Pt.U, Pt.locs, Pt.cells, Pt.slots] at X' e1 e2 h1 h2 h3 st
    subst h1; subst h2; subst h3
    exact Or.inl ⟨v, (T.setVm vm₁).calling g' mk (Value.ref b :: As).toArray, t, U', L, hT, X', hL, e1, e2, hq, st⟩
  · dsimp only [Pt.U, Pt.locs, Pt.cells, Pt.slots] at X' e1 e2 h1 h2 h3 st hcl
    subst h1; subst h2; subst h3
    exact Or.inr ⟨q, (T.setVm vm₁).calling g' mk (Value.ref b :: As).toArray, t, U', L, E, ce, hT, X', hL, e1, e2, hq, hce, hcv, vx_cls hW₁ hcl, st⟩
theorem vx_runSX {hh : List (Nat × Nat × Nat × Nat)} (S : CallFix p m c cc nL s args Ts own) (hM : vx_Met l y ws rm Pc Qc XC mc ms free) (cw : vx_CSW R s args own index y bytes maxL ret hh ws rm mc ms n) (hp : PreS s H Pc As)
    (hg : g.method = m) (hn : As.length = n) (hsize : g.locals.size = nL) (hstack : g.stack = As.reverse ++ rest) (hW : 2 * g.monitorRoom + (rest.map fun v => v.category).sum ≤ 8) (hdg : decode cc g.pc = .ok (.invokestatic index, 3)) (hf : cells + mc ≤ R.cells ∧ slots + ms ≤ R.slots) :
    vx_Run p l e R s m args below meth c H locs cells slots mc ms g rest (Qc As.toArray) XC free := by
  obtain ⟨⟨hrc, hrs, hfr, hlo, hws, hcw⟩, hcode, hini, hy, hlen, hl, hstt⟩ := cw
  have hK : vx_Back l R p e below s args y 3 8 (PreOf R mc ms Pc) (PostOf Qc mc ms free) (vx_Post XC mc ms free) := vx_backW (hh := hh) (bytes := bytes) (maxL := maxL) (ret := ret) hM hp.1 hrc hrs hfr hlo hws hcw (fun a' U hW => word_at hW (Or.inl (by first | rfl | simp [Cond.onTables, Cond.keeps, Cond.steady])) hini)
  obtain ⟨hx, hb, hml, ho, -⟩ := S
  intro T hT X
  rcases vx_callSX X hx (hh := hh) (bytes := bytes) (maxL := maxL) (ret := ret) ho hl hstt hini hcode hy hK hg (hsize.trans hml.symm) (argsL := As) (rest := rest) (fun sig h => hn.trans (hlen sig h)) hstack hW (by rw [hb]; exact hdg)
    (fun vm₁ hW₁ => ⟨hf.1, hf.2, hp.2 (T.setVm vm₁) hT hW₁⟩) with ⟨v, vm₁, ⟨U', l2, c2, s2⟩, hW₁, X', ⟨g', mk, t, L, e1, e2, hq, h1, hL, h2, h3⟩, st⟩ | ⟨q, vm₁, ⟨U', l2, c2, s2⟩, hW₁, X', ⟨g', mk, t, L, E, ce, e1, e2, hq, hce, hcv, hcl, h1, hL, h2, h3⟩, st⟩
  · dsimp only [Pt.U, Pt.locs, Pt.cells, Pt.slots] at X' e1 e2 h1 h2 h3 st
    subst h1; subst h2; subst h3
    exact Or.inl ⟨v, (T.setVm vm₁).calling g' mk As.toArray, t, U', L, hT, X', hL, e1, e2, hq, st⟩
  · dsimp only [Pt.U, Pt.locs, Pt.cells, Pt.slots] at X' e1 e2 h1 h2 h3 st hcl
    subst h1; subst h2; subst h3
    exact Or.inr ⟨q, (T.setVm vm₁).calling g' mk As.toArray, t, U', L, E, ce, hT, X', hL, e1, e2, hq, hce, hcv, vx_cls hW₁ hcl, st⟩
end
end VXH
theorem vx_ofWH {l : Launch} {y : MethodName} {ws ws' : List Cond} {rm : Room} {Pc : Array Value → State → Prop} {Qc : Array Value → State → Outcome → State → Prop} {XC : String → State → State → Prop} {mc ms : Nat} {free : Addr → Prop} {cc : ByteArray} {maxL : Nat} {ret : Option FieldType} {hh : List (Nat × Nat × Nat × Nat)}
    (hy : plainName y.cls = true) (hw : ws = Cond.codeWith y cc maxL ret hh :: ws')
    (body : ∀ p e s m args below meth c s₁, BodyLoose p l y (headSpec ws rm) cc maxL ret e s m args below meth c s₁ → c.maxLocals = maxL → Pc args s →
      W p l e (headSpec ws rm).room s m args below meth c s.heap [] 0 0 (vx_MQ below Qc XC args s mc ms free) (entryFrame m args maxL)) : vx_Met l y ws rm Pc Qc XC mc ms free := by
  refine MetFree.of_bodyS (code := cc) (maxLocals := maxL) (ret := ret) hy ?_ ?_
  · intro args s m h hn
    obtain ⟨m9, meth, c, hn9, h1, h2, h3, h4, -, h5, h6, -⟩ := Cond.codeWith_spec (atoms_spec (ws := ws) h _ (by rw [hw]; exact List.mem_cons_self))
    cases hn.symm.trans hn9
    exact ⟨meth, c, h1, h2, h3, h4, h5, h6⟩
  · intro p e s m args below meth c s₁ B hml hP _
    have hh0 : s₁.heap = s.heap := by rw [B.state]; rfl
    obtain ⟨t, a1, o, b1, b2, b3⟩ := body p e s m args below meth c s₁ B hml hP s₁ hh0 (Stand.of_body B)
    exact ⟨t, o, a1, b1, b2, b3⟩
/-! ===== END ===== -/
end
section
def RX0 : String := "RealDesk"
def TX0 : u_T := fun k => match k with
  | _ => ("RealDesk", "ranks", "[J", true)
def tyX0 : Nat → FieldType := fun k => match k with
  | _ => .array .long
abbrev wsX00 : List Cond := u_ws RX0 TX0 1
theorem nmX0 : ∀ a, a < 1 → ∀ b, b < 1 → a ≠ b → (TX0 a).2.1 ≠ (TX0 b).2.1 := by decide +kernel
theorem tyX0_ok : ∀ k, k < 1 → parseFieldDescriptor (TX0 k).2.2.1 = some (tyX0 k) := by decide +kernel
abbrev cX0_init : ByteArray := prog_1_method_1_code
def yX0_init : MethodName := ⟨RX0, "<init>", "()V"⟩
abbrev cX0_set : ByteArray := prog_1_method_2_code
def yX0_set : MethodName := ⟨RX0, "set", "(IJI)I"⟩
abbrev cX0_combine : ByteArray := prog_1_method_3_code
def yX0_combine : MethodName := ⟨RX0, "combine", "(IIII)I"⟩
abbrev cX0_change : ByteArray := prog_1_method_4_code
def yX0_change : MethodName := ⟨RX0, "change", "(III)I"⟩
abbrev cX0_power : ByteArray := prog_1_method_5_code
def yX0_power : MethodName := ⟨RX0, "power", "(III)I"⟩
abbrev cX0_order : ByteArray := prog_1_method_6_code
def yX0_order : MethodName := ⟨RX0, "order", "(II)I"⟩
abbrev cX0_digits : ByteArray := prog_1_method_7_code
def yX0_digits : MethodName := ⟨RX0, "digits", "(I)J"⟩
abbrev cX0_exponent : ByteArray := prog_1_method_8_code
def yX0_exponent : MethodName := ⟨RX0, "exponent", "(I)I"⟩
abbrev cX0_value : ByteArray := prog_1_method_9_code
def yX0_value : MethodName := ⟨RX0, "value", "(I)D"⟩
abbrev cX0_whole : ByteArray := prog_1_method_10_code
def yX0_whole : MethodName := ⟨RX0, "whole", "(I)J"⟩
abbrev cX0_requireRegister : ByteArray := prog_1_method_11_code
def yX0_requireRegister : MethodName := ⟨RX0, "requireRegister", "(I)V"⟩
abbrev cX0_requireKind : ByteArray := prog_1_method_12_code
def yX0_requireKind : MethodName := ⟨RX0, "requireKind", "(I)V"⟩
abbrev cX0_keep : ByteArray := prog_1_method_13_code
def yX0_keep : MethodName := ⟨RX0, "keep", "(IJ)I"⟩
abbrev cX0_combineRanks : ByteArray := prog_1_method_14_code
def yX0_combineRanks : MethodName := ⟨RX0, "combineRanks", "(IIJJ)I"⟩
abbrev cX0_changeRank : ByteArray := prog_1_method_15_code
def yX0_changeRank : MethodName := ⟨RX0, "changeRank", "(IIJ)I"⟩
abbrev cX0_isOver : ByteArray := prog_1_method_16_code
def yX0_isOver : MethodName := ⟨RX0, "isOver", "(J)Z"⟩
abbrev cX0_withSignOf : ByteArray := prog_1_method_17_code
def yX0_withSignOf : MethodName := ⟨RX0, "withSignOf", "(JJ)J"⟩
abbrev cX0_mOf : ByteArray := prog_1_method_18_code
def yX0_mOf : MethodName := ⟨RX0, "mOf", "(J)J"⟩
abbrev cX0_eOf : ByteArray := prog_1_method_19_code
def yX0_eOf : MethodName := ⟨RX0, "eOf", "(J)I"⟩
abbrev cX0_lift : ByteArray := prog_1_method_20_code
def yX0_lift : MethodName := ⟨RX0, "lift", "(J)I"⟩
abbrev cX0_liftedM : ByteArray := prog_1_method_21_code
def yX0_liftedM : MethodName := ⟨RX0, "liftedM", "(J)J"⟩
abbrev cX0_liftedE : ByteArray := prog_1_method_22_code
def yX0_liftedE : MethodName := ⟨RX0, "liftedE", "(J)I"⟩
abbrev cX0_lowPlaces : ByteArray := prog_1_method_23_code
def yX0_lowPlaces : MethodName := ⟨RX0, "lowPlaces", "(JI)J"⟩
abbrev cX0_lower : ByteArray := prog_1_method_24_code
def yX0_lower : MethodName := ⟨RX0, "lower", "(JI)J"⟩
abbrev cX0_nearestWhole : ByteArray := prog_1_method_25_code
def yX0_nearestWhole : MethodName := ⟨RX0, "nearestWhole", "(JI)J"⟩
abbrev cX0_nearest : ByteArray := prog_1_method_26_code
def yX0_nearest : MethodName := ⟨RX0, "nearest", "(JI)J"⟩
abbrev cX0_greatInSize : ByteArray := prog_1_method_27_code
def yX0_greatInSize : MethodName := ⟨RX0, "greatInSize", "(JJ)J"⟩
abbrev cX0_smallInSize : ByteArray := prog_1_method_28_code
def yX0_smallInSize : MethodName := ⟨RX0, "smallInSize", "(JJ)J"⟩
abbrev cX0_sum : ByteArray := prog_1_method_29_code
def yX0_sum : MethodName := ⟨RX0, "sum", "(JJ)J"⟩
abbrev cX0_sumError : ByteArray := prog_1_method_30_code
def yX0_sumError : MethodName := ⟨RX0, "sumError", "(JJ)J"⟩
abbrev cX0_product : ByteArray := prog_1_method_31_code
def yX0_product : MethodName := ⟨RX0, "product", "(JJ)J"⟩
abbrev cX0_topOfProduct : ByteArray := prog_1_method_32_code
def yX0_topOfProduct : MethodName := ⟨RX0, "topOfProduct", "(JJ)J"⟩
abbrev cX0_isSmallProduct : ByteArray := prog_1_method_33_code
def yX0_isSmallProduct : MethodName := ⟨RX0, "isSmallProduct", "(JJ)Z"⟩
abbrev cX0_productError : ByteArray := prog_1_method_34_code
def yX0_productError : MethodName := ⟨RX0, "productError", "(JJ)J"⟩
abbrev cX0_quotient : ByteArray := prog_1_method_35_code
def yX0_quotient : MethodName := ⟨RX0, "quotient", "(JJ)J"⟩
abbrev cX0_rest : ByteArray := prog_1_method_36_code
def yX0_rest : MethodName := ⟨RX0, "rest", "(JJ)J"⟩
abbrev cX0_root : ByteArray := prog_1_method_37_code
def yX0_root : MethodName := ⟨RX0, "root", "(J)J"⟩
abbrev cX0_wholeNear : ByteArray := prog_1_method_38_code
def yX0_wholeNear : MethodName := ⟨RX0, "wholeNear", "(IJ)J"⟩
abbrev cX0_raise : ByteArray := prog_1_method_39_code
def yX0_raise : MethodName := ⟨RX0, "raise", "(JI)J"⟩
abbrev cX0_powerOfTwo : ByteArray := prog_1_method_40_code
def yX0_powerOfTwo : MethodName := ⟨RX0, "powerOfTwo", "(I)D"⟩
def RX1 : String := "RealDeskModel$Big"
def TX1 : u_T := fun k => match k with
  | _ => ("RealDeskModel$Big", "parts", "[I", true)
def tyX1 : Nat → FieldType := fun k => match k with
  | _ => .array .int
abbrev wsX10 : List Cond := u_ws RX1 TX1 1
theorem nmX1 : ∀ a, a < 1 → ∀ b, b < 1 → a ≠ b → (TX1 a).2.1 ≠ (TX1 b).2.1 := by decide +kernel
theorem tyX1_ok : ∀ k, k < 1 → parseFieldDescriptor (TX1 k).2.2.1 = some (tyX1 k) := by decide +kernel
abbrev cX1_init : ByteArray := prog_4_method_1_code
def yX1_init : MethodName := ⟨RX1, "<init>", "()V"⟩
abbrev cX1_set : ByteArray := prog_4_method_2_code
def yX1_set : MethodName := ⟨RX1, "set", "(J)V"⟩
abbrev cX1_bit : ByteArray := prog_4_method_4_code
def yX1_bit : MethodName := ⟨RX1, "bit", "(I)Z"⟩
abbrev cX1_length : ByteArray := prog_4_method_5_code
def yX1_length : MethodName := ⟨RX1, "length", "()I"⟩
abbrev cX1_twice : ByteArray := prog_4_method_6_code
def yX1_twice : MethodName := ⟨RX1, "twice", "(Z)V"⟩
abbrev cX1_up : ByteArray := prog_4_method_7_code
def yX1_up : MethodName := ⟨RX1, "up", "(I)V"⟩
abbrev cX1_add : ByteArray := prog_4_method_8_code
def yX1_add : MethodName := ⟨RX1, "add", "(LRealDeskModel$Big;)V"⟩
abbrev cX1_less : ByteArray := prog_4_method_9_code
def yX1_less : MethodName := ⟨RX1, "less", "(LRealDeskModel$Big;)V"⟩
abbrev cX1_compare : ByteArray := prog_4_method_10_code
def yX1_compare : MethodName := ⟨RX1, "compare", "(LRealDeskModel$Big;)I"⟩
abbrev cX1_product : ByteArray := prog_4_method_11_code
def yX1_product : MethodName := ⟨RX1, "product", "(JJ)V"⟩
abbrev cX1_addLong : ByteArray := prog_4_method_12_code
def yX1_addLong : MethodName := ⟨RX1, "addLong", "(J)V"⟩
abbrev cX1_places : ByteArray := prog_4_method_13_code
def yX1_places : MethodName := ⟨RX1, "places", "(I)J"⟩
abbrev cX1_hasBelow : ByteArray := prog_4_method_14_code
def yX1_hasBelow : MethodName := ⟨RX1, "hasBelow", "(I)Z"⟩
def RX2 : String := "RealDeskModel"
def TX2 : u_T := fun k => match k with
  | 0 => ("RealDeskModel", "thrown", "I", false)
  | 1 => ("RealDeskModel", "minus", "[Z", true)
  | 2 => ("RealDeskModel", "digits", "[J", true)
  | 3 => ("RealDeskModel", "powers", "[I", true)
  | 4 => ("RealDeskModel", "below", "Z", false)
  | 5 => ("RealDeskModel", "m", "J", false)
  | 6 => ("RealDeskModel", "e", "I", false)
  | 7 => ("RealDeskModel", "a", "LRealDeskModel$Big;", true)
  | _ => ("RealDeskModel", "b", "LRealDeskModel$Big;", true)
def tyX2 : Nat → FieldType := fun k => match k with
  | 0 => .int
  | 1 => .array .boolean
  | 2 => .array .long
  | 3 => .array .int
  | 4 => .boolean
  | 5 => .long
  | 6 => .int
  | 7 => .object "RealDeskModel$Big"
  | _ => .object "RealDeskModel$Big"
abbrev wsX20 : List Cond := u_ws RX2 TX2 9
theorem nmX2 : ∀ a, a < 9 → ∀ b, b < 9 → a ≠ b → (TX2 a).2.1 ≠ (TX2 b).2.1 := by decide +kernel
theorem tyX2_ok : ∀ k, k < 9 → parseFieldDescriptor (TX2 k).2.2.1 = some (tyX2 k) := by decide +kernel
abbrev cX2_init : ByteArray := prog_3_method_1_code
def yX2_init : MethodName := ⟨RX2, "<init>", "()V"⟩
abbrev cX2_thrown : ByteArray := prog_3_method_2_code
def yX2_thrown : MethodName := ⟨RX2, "thrown", "()I"⟩
abbrev cX2_refuse : ByteArray := prog_3_method_3_code
def yX2_refuse : MethodName := ⟨RX2, "refuse", "(I)I"⟩
abbrev cX2_isRegister : ByteArray := prog_3_method_4_code
def yX2_isRegister : MethodName := ⟨RX2, "isRegister", "(I)Z"⟩
abbrev cX2_within : ByteArray := prog_3_method_5_code
def yX2_within : MethodName := ⟨RX2, "within", "(III)Z"⟩
abbrev cX2_nearest : ByteArray := prog_3_method_6_code
def yX2_nearest : MethodName := ⟨RX2, "nearest", "(ZIZ)I"⟩
abbrev cX2_settle : ByteArray := prog_3_method_7_code
def yX2_settle : MethodName := ⟨RX2, "settle", "()I"⟩
abbrev cX2_take : ByteArray := prog_3_method_8_code
def yX2_take : MethodName := ⟨RX2, "take", "(I)V"⟩
abbrev cX2_keep : ByteArray := prog_3_method_9_code
def yX2_keep : MethodName := ⟨RX2, "keep", "(II)I"⟩
abbrev cX2_set : ByteArray := prog_3_method_10_code
def yX2_set : MethodName := ⟨RX2, "set", "(IJI)I"⟩
abbrev cX2_sizes : ByteArray := prog_3_method_11_code
def yX2_sizes : MethodName := ⟨RX2, "sizes", "(II)I"⟩
abbrev cX2_compareNumbers : ByteArray := prog_3_method_12_code
def yX2_compareNumbers : MethodName := ⟨RX2, "compareNumbers", "(II)I"⟩
abbrev cX2_exactSum : ByteArray := prog_3_method_13_code
def yX2_exactSum : MethodName := ⟨RX2, "exactSum", "(IIZ)Z"⟩
abbrev cX2_swap : ByteArray := prog_3_method_14_code
def yX2_swap : MethodName := ⟨RX2, "swap", "()V"⟩
abbrev cX2_sum : ByteArray := prog_3_method_15_code
def yX2_sum : MethodName := ⟨RX2, "sum", "(IIZ)I"⟩
abbrev cX2_product : ByteArray := prog_3_method_16_code
def yX2_product : MethodName := ⟨RX2, "product", "(II)I"⟩
abbrev cX2_quotient : ByteArray := prog_3_method_17_code
def yX2_quotient : MethodName := ⟨RX2, "quotient", "(ZJIJI)I"⟩
abbrev cX2_rest : ByteArray := prog_3_method_18_code
def yX2_rest : MethodName := ⟨RX2, "rest", "(II)I"⟩
abbrev cX2_errorOf : ByteArray := prog_3_method_19_code
def yX2_errorOf : MethodName := ⟨RX2, "errorOf", "(ZI)I"⟩
abbrev cX2_sumError : ByteArray := prog_3_method_20_code
def yX2_sumError : MethodName := ⟨RX2, "sumError", "(II)I"⟩
abbrev cX2_lower : ByteArray := prog_3_method_21_code
def yX2_lower : MethodName := ⟨RX2, "lower", "(I)V"⟩
abbrev cX2_productError : ByteArray := prog_3_method_22_code
def yX2_productError : MethodName := ⟨RX2, "productError", "(II)I"⟩
abbrev cX2_pick : ByteArray := prog_3_method_23_code
def yX2_pick : MethodName := ⟨RX2, "pick", "(I)I"⟩
abbrev cX2_combined : ByteArray := prog_3_method_24_code
def yX2_combined : MethodName := ⟨RX2, "combined", "(III)I"⟩
abbrev cX2_combine : ByteArray := prog_3_method_25_code
def yX2_combine : MethodName := ⟨RX2, "combine", "(IIII)I"⟩
abbrev cX2_root : ByteArray := prog_3_method_26_code
def yX2_root : MethodName := ⟨RX2, "root", "(I)I"⟩
abbrev cX2_wholeOf : ByteArray := prog_3_method_27_code
def yX2_wholeOf : MethodName := ⟨RX2, "wholeOf", "(II)I"⟩
abbrev cX2_neighbour : ByteArray := prog_3_method_28_code
def yX2_neighbour : MethodName := ⟨RX2, "neighbour", "(IZ)I"⟩
abbrev cX2_changed : ByteArray := prog_3_method_29_code
def yX2_changed : MethodName := ⟨RX2, "changed", "(II)I"⟩
abbrev cX2_change : ByteArray := prog_3_method_30_code
def yX2_change : MethodName := ⟨RX2, "change", "(III)I"⟩
abbrev cX2_multiply : ByteArray := prog_3_method_31_code
def yX2_multiply : MethodName := ⟨RX2, "multiply", "(ZJI)I"⟩
abbrev cX2_raised : ByteArray := prog_3_method_32_code
def yX2_raised : MethodName := ⟨RX2, "raised", "(II)I"⟩
abbrev cX2_power : ByteArray := prog_3_method_33_code
def yX2_power : MethodName := ⟨RX2, "power", "(III)I"⟩
abbrev cX2_order : ByteArray := prog_3_method_34_code
def yX2_order : MethodName := ⟨RX2, "order", "(II)I"⟩
abbrev cX2_digits : ByteArray := prog_3_method_35_code
def yX2_digits : MethodName := ⟨RX2, "digits", "(I)J"⟩
abbrev cX2_exponent : ByteArray := prog_3_method_36_code
def yX2_exponent : MethodName := ⟨RX2, "exponent", "(I)I"⟩
abbrev cX2_value : ByteArray := prog_3_method_37_code
def yX2_value : MethodName := ⟨RX2, "value", "(I)D"⟩
abbrev cX2_whole : ByteArray := prog_3_method_38_code
def yX2_whole : MethodName := ⟨RX2, "whole", "(I)J"⟩
def RJ6 : String := "java/lang/Integer"
def TJ6 : u_T := fun k => match k with
  | _ => ("", "", "", false)
def tyJ6 : Nat → FieldType := fun k => match k with
  | _ => .int
abbrev wsJ60 : List Cond := u_ws RJ6 TJ6 0
theorem nmJ6 : ∀ a, a < 0 → ∀ b, b < 0 → a ≠ b → (TJ6 a).2.1 ≠ (TJ6 b).2.1 := by decide +kernel
theorem tyJ6_ok : ∀ k, k < 0 → parseFieldDescriptor (TJ6 k).2.2.1 = some (tyJ6 k) := by decide +kernel
abbrev cJ6_numberOfLeadingZeros_0f7a4 : ByteArray := prog_8_method_47_code
def yJ6_numberOfLeadingZeros_0f7a4 : MethodName := ⟨RJ6, "numberOfLeadingZeros", "(I)I"⟩
def RJ13 : String := "java/lang/Long"
def TJ13 : u_T := fun k => match k with
  | _ => ("", "", "", false)
def tyJ13 : Nat → FieldType := fun k => match k with
  | _ => .int
abbrev wsJ130 : List Cond := u_ws RJ13 TJ13 0
theorem nmJ13 : ∀ a, a < 0 → ∀ b, b < 0 → a ≠ b → (TJ13 a).2.1 ≠ (TJ13 b).2.1 := by decide +kernel
theorem tyJ13_ok : ∀ k, k < 0 → parseFieldDescriptor (TJ13 k).2.2.1 = some (tyJ13 k) := by decide +kernel
abbrev cJ13_numberOfLeadingZeros_95d88 : ByteArray := prog_9_method_48_code
def yJ13_numberOfLeadingZeros_95d88 : MethodName := ⟨RJ13, "numberOfLeadingZeros", "(J)I"⟩
def RJ9 : String := "java/lang/Math"
def TJ9 : u_T := fun k => match k with
  | _ => ("", "", "", false)
def tyJ9 : Nat → FieldType := fun k => match k with
  | _ => .int
abbrev wsJ90 : List Cond := u_ws RJ9 TJ9 0
theorem nmJ9 : ∀ a, a < 0 → ∀ b, b < 0 → a ≠ b → (TJ9 a).2.1 ≠ (TJ9 b).2.1 := by decide +kernel
theorem tyJ9_ok : ∀ k, k < 0 → parseFieldDescriptor (TJ9 k).2.2.1 = some (tyJ9 k) := by decide +kernel
abbrev cJ9_abs_0f7a4 : ByteArray := prog_10_method_59_code
def yJ9_abs_0f7a4 : MethodName := ⟨RJ9, "abs", "(I)I"⟩
abbrev cJ9_abs_067f4 : ByteArray := prog_10_method_61_code
def yJ9_abs_067f4 : MethodName := ⟨RJ9, "abs", "(J)J"⟩
abbrev cJ9_max_7cf53 : ByteArray := prog_10_method_65_code
def yJ9_max_7cf53 : MethodName := ⟨RJ9, "max", "(II)I"⟩
abbrev cJ9_max_f86c9 : ByteArray := prog_10_method_66_code
def yJ9_max_f86c9 : MethodName := ⟨RJ9, "max", "(JJ)J"⟩
abbrev cJ9_min_7cf53 : ByteArray := prog_10_method_69_code
def yJ9_min_7cf53 : MethodName := ⟨RJ9, "min", "(II)I"⟩
abbrev cJ9_min_f86c9 : ByteArray := prog_10_method_70_code
def yJ9_min_f86c9 : MethodName := ⟨RJ9, "min", "(JJ)J"⟩
def RJ0 : String := "java/lang/String"
def TJ0 : u_T := fun k => match k with
  | _ => ("", "", "", false)
def tyJ0 : Nat → FieldType := fun k => match k with
  | _ => .int
abbrev wsJ00 : List Cond := u_ws RJ0 TJ0 0
theorem nmJ0 : ∀ a, a < 0 → ∀ b, b < 0 → a ≠ b → (TJ0 a).2.1 ≠ (TJ0 b).2.1 := by decide +kernel
theorem tyJ0_ok : ∀ k, k < 0 → parseFieldDescriptor (TJ0 k).2.2.1 = some (tyJ0 k) := by decide +kernel
def RL : String := "RealDeskLaw"
abbrev cL_set : ByteArray := method_3_code
def yL_set : MethodName := ⟨RL, "set", "(LRealDesk;IJI[J)I"⟩
abbrev cL_combine : ByteArray := method_4_code
def yL_combine : MethodName := ⟨RL, "combine", "(LRealDesk;IIII[J)I"⟩
abbrev cL_change : ByteArray := method_5_code
def yL_change : MethodName := ⟨RL, "change", "(LRealDesk;III[J)I"⟩
abbrev cL_power : ByteArray := method_6_code
def yL_power : MethodName := ⟨RL, "power", "(LRealDesk;III[J)I"⟩
abbrev cL_order : ByteArray := method_7_code
def yL_order : MethodName := ⟨RL, "order", "(LRealDesk;II[J)I"⟩
abbrev cL_digits : ByteArray := method_8_code
def yL_digits : MethodName := ⟨RL, "digits", "(LRealDesk;I[J)I"⟩
abbrev cL_exponent : ByteArray := method_9_code
def yL_exponent : MethodName := ⟨RL, "exponent", "(LRealDesk;I[J)I"⟩
abbrev cL_value : ByteArray := method_10_code
def yL_value : MethodName := ⟨RL, "value", "(LRealDesk;I[D)I"⟩
abbrev cL_whole : ByteArray := method_11_code
def yL_whole : MethodName := ⟨RL, "whole", "(LRealDesk;I[J)I"⟩
abbrev cL_law : ByteArray := code
def yL_law : MethodName := ⟨RL, "law", "([I)Z"⟩
abbrev vwCl : List vw_C := [(RX0, TX0, 1), (RX1, TX1, 1), (RX2, TX2, 9)]
end
section
theorem dX0_init_0 : decode cX0_init 0 = .ok (.aload_n 0, 1) := by decide +kernel
theorem dX0_init_1 : decode cX0_init 1 = .ok (.invokespecial 1, 3) := by decide +kernel
theorem dX0_init_4 : decode cX0_init 4 = .ok (.aload_n 0, 1) := by decide +kernel
theorem dX0_init_5 : decode cX0_init 5 = .ok (.bipush 16, 2) := by decide +kernel
theorem dX0_init_7 : decode cX0_init 7 = .ok (.newarray .long, 2) := by decide +kernel
theorem dX0_init_9 : decode cX0_init 9 = .ok (.putfield 9, 3) := by decide +kernel
theorem dX0_init_12 : decode cX0_init 12 = .ok (.return_, 1) := by decide +kernel
theorem dX0_set_0 : decode cX0_set 0 = .ok (.iload_n 1, 1) := by decide +kernel
theorem dX0_set_1 : decode cX0_set 1 = .ok (.invokestatic 13, 3) := by decide +kernel
theorem dX0_set_4 : decode cX0_set 4 = .ok (.lload_n 2, 1) := by decide +kernel
theorem dX0_set_5 : decode cX0_set 5 = .ok (.ldc2_w 17, 3) := by decide +kernel
theorem dX0_set_8 : decode cX0_set 8 = .ok (.lcmp, 1) := by decide +kernel
theorem dX0_set_9 : decode cX0_set 9 = .ok (.ifCond .gt 11, 3) := by decide +kernel
theorem dX0_set_12 : decode cX0_set 12 = .ok (.lload_n 2, 1) := by decide +kernel
theorem dX0_set_13 : decode cX0_set 13 = .ok (.ldc2_w 19, 3) := by decide +kernel
theorem dX0_set_16 : decode cX0_set 16 = .ok (.lcmp, 1) := by decide +kernel
theorem dX0_set_17 : decode cX0_set 17 = .ok (.ifCond .ge 13, 3) := by decide +kernel
theorem dX0_set_20 : decode cX0_set 20 = .ok (.new 21, 3) := by decide +kernel
theorem dX0_set_23 : decode cX0_set 23 = .ok (.dup, 1) := by decide +kernel
theorem dX0_set_24 : decode cX0_set 24 = .ok (.ldc 23, 2) := by decide +kernel
theorem dX0_set_26 : decode cX0_set 26 = .ok (.invokespecial 25, 3) := by decide +kernel
theorem dX0_set_29 : decode cX0_set 29 = .ok (.athrow, 1) := by decide +kernel
theorem dX0_set_30 : decode cX0_set 30 = .ok (.iload 4, 2) := by decide +kernel
theorem dX0_set_32 : decode cX0_set 32 = .ok (.sipush (-1200), 3) := by decide +kernel
theorem dX0_set_35 : decode cX0_set 35 = .ok (.if_icmp .lt 11, 3) := by decide +kernel
theorem dX0_set_38 : decode cX0_set 38 = .ok (.iload 4, 2) := by decide +kernel
theorem dX0_set_40 : decode cX0_set 40 = .ok (.sipush 1100, 3) := by decide +kernel
theorem dX0_set_43 : decode cX0_set 43 = .ok (.if_icmp .le 13, 3) := by decide +kernel
theorem dX0_set_46 : decode cX0_set 46 = .ok (.new 21, 3) := by decide +kernel
theorem dX0_set_49 : decode cX0_set 49 = .ok (.dup, 1) := by decide +kernel
theorem dX0_set_50 : decode cX0_set 50 = .ok (.ldc 28, 2) := by decide +kernel
theorem dX0_set_52 : decode cX0_set 52 = .ok (.invokespecial 25, 3) := by decide +kernel
theorem dX0_set_55 : decode cX0_set 55 = .ok (.athrow, 1) := by decide +kernel
theorem dX0_set_56 : decode cX0_set 56 = .ok (.aload_n 0, 1) := by decide +kernel
theorem dX0_set_57 : decode cX0_set 57 = .ok (.iload_n 1, 1) := by decide +kernel
theorem dX0_set_58 : decode cX0_set 58 = .ok (.lload_n 2, 1) := by decide +kernel
theorem dX0_set_59 : decode cX0_set 59 = .ok (.invokestatic 30, 3) := by decide +kernel
theorem dX0_set_62 : decode cX0_set 62 = .ok (.iload 4, 2) := by decide +kernel
theorem dX0_set_64 : decode cX0_set 64 = .ok (.invokestatic 36, 3) := by decide +kernel
theorem dX0_set_67 : decode cX0_set 67 = .ok (.lload_n 2, 1) := by decide +kernel
theorem dX0_set_68 : decode cX0_set 68 = .ok (.invokestatic 40, 3) := by decide +kernel
theorem dX0_set_71 : decode cX0_set 71 = .ok (.invokevirtual 44, 3) := by decide +kernel
theorem dX0_set_74 : decode cX0_set 74 = .ok (.ireturn, 1) := by decide +kernel
theorem dX0_combine_0 : decode cX0_combine 0 = .ok (.iload_n 1, 1) := by decide +kernel
theorem dX0_combine_1 : decode cX0_combine 1 = .ok (.invokestatic 13, 3) := by decide +kernel
theorem dX0_combine_4 : decode cX0_combine 4 = .ok (.iload_n 3, 1) := by decide +kernel
theorem dX0_combine_5 : decode cX0_combine 5 = .ok (.invokestatic 13, 3) := by decide +kernel
theorem dX0_combine_8 : decode cX0_combine 8 = .ok (.iload 4, 2) := by decide +kernel
theorem dX0_combine_10 : decode cX0_combine 10 = .ok (.invokestatic 13, 3) := by decide +kernel
theorem dX0_combine_13 : decode cX0_combine 13 = .ok (.iload_n 2, 1) := by decide +kernel
theorem dX0_combine_14 : decode cX0_combine 14 = .ok (.invokestatic 48, 3) := by decide +kernel
theorem dX0_combine_17 : decode cX0_combine 17 = .ok (.aload_n 0, 1) := by decide +kernel
theorem dX0_combine_18 : decode cX0_combine 18 = .ok (.iload_n 1, 1) := by decide +kernel
theorem dX0_combine_19 : decode cX0_combine 19 = .ok (.iload_n 2, 1) := by decide +kernel
theorem dX0_combine_20 : decode cX0_combine 20 = .ok (.aload_n 0, 1) := by decide +kernel
theorem dX0_combine_21 : decode cX0_combine 21 = .ok (.getfield 9, 3) := by decide +kernel
theorem dX0_combine_24 : decode cX0_combine 24 = .ok (.iload_n 3, 1) := by decide +kernel
theorem dX0_combine_25 : decode cX0_combine 25 = .ok (.laload, 1) := by decide +kernel
theorem dX0_combine_26 : decode cX0_combine 26 = .ok (.aload_n 0, 1) := by decide +kernel
theorem dX0_combine_27 : decode cX0_combine 27 = .ok (.getfield 9, 3) := by decide +kernel
theorem dX0_combine_30 : decode cX0_combine 30 = .ok (.iload 4, 2) := by decide +kernel
theorem dX0_combine_32 : decode cX0_combine 32 = .ok (.laload, 1) := by decide +kernel
theorem dX0_combine_33 : decode cX0_combine 33 = .ok (.invokevirtual 51, 3) := by decide +kernel
theorem dX0_combine_36 : decode cX0_combine 36 = .ok (.ireturn, 1) := by decide +kernel
theorem dX0_change_0 : decode cX0_change 0 = .ok (.iload_n 1, 1) := by decide +kernel
theorem dX0_change_1 : decode cX0_change 1 = .ok (.invokestatic 13, 3) := by decide +kernel
theorem dX0_change_4 : decode cX0_change 4 = .ok (.iload_n 3, 1) := by decide +kernel
theorem dX0_change_5 : decode cX0_change 5 = .ok (.invokestatic 13, 3) := by decide +kernel
theorem dX0_change_8 : decode cX0_change 8 = .ok (.iload_n 2, 1) := by decide +kernel
theorem dX0_change_9 : decode cX0_change 9 = .ok (.invokestatic 48, 3) := by decide +kernel
theorem dX0_change_12 : decode cX0_change 12 = .ok (.aload_n 0, 1) := by decide +kernel
theorem dX0_change_13 : decode cX0_change 13 = .ok (.iload_n 1, 1) := by decide +kernel
theorem dX0_change_14 : decode cX0_change 14 = .ok (.iload_n 2, 1) := by decide +kernel
theorem dX0_change_15 : decode cX0_change 15 = .ok (.aload_n 0, 1) := by decide +kernel
theorem dX0_change_16 : decode cX0_change 16 = .ok (.getfield 9, 3) := by decide +kernel
theorem dX0_change_19 : decode cX0_change 19 = .ok (.iload_n 3, 1) := by decide +kernel
theorem dX0_change_20 : decode cX0_change 20 = .ok (.laload, 1) := by decide +kernel
theorem dX0_change_21 : decode cX0_change 21 = .ok (.invokevirtual 55, 3) := by decide +kernel
theorem dX0_change_24 : decode cX0_change 24 = .ok (.ireturn, 1) := by decide +kernel
theorem dX0_power_0 : decode cX0_power 0 = .ok (.iload_n 1, 1) := by decide +kernel
theorem dX0_power_1 : decode cX0_power 1 = .ok (.invokestatic 13, 3) := by decide +kernel
theorem dX0_power_4 : decode cX0_power 4 = .ok (.iload_n 2, 1) := by decide +kernel
theorem dX0_power_5 : decode cX0_power 5 = .ok (.invokestatic 13, 3) := by decide +kernel
theorem dX0_power_8 : decode cX0_power 8 = .ok (.iload_n 3, 1) := by decide +kernel
theorem dX0_power_9 : decode cX0_power 9 = .ok (.sipush (-1024), 3) := by decide +kernel
theorem dX0_power_12 : decode cX0_power 12 = .ok (.if_icmp .lt 10, 3) := by decide +kernel
theorem dX0_power_15 : decode cX0_power 15 = .ok (.iload_n 3, 1) := by decide +kernel
theorem dX0_power_16 : decode cX0_power 16 = .ok (.sipush 1024, 3) := by decide +kernel
theorem dX0_power_19 : decode cX0_power 19 = .ok (.if_icmp .le 13, 3) := by decide +kernel
theorem dX0_power_22 : decode cX0_power 22 = .ok (.new 21, 3) := by decide +kernel
theorem dX0_power_25 : decode cX0_power 25 = .ok (.dup, 1) := by decide +kernel
theorem dX0_power_26 : decode cX0_power 26 = .ok (.ldc 59, 2) := by decide +kernel
theorem dX0_power_28 : decode cX0_power 28 = .ok (.invokespecial 25, 3) := by decide +kernel
theorem dX0_power_31 : decode cX0_power 31 = .ok (.athrow, 1) := by decide +kernel
theorem dX0_power_32 : decode cX0_power 32 = .ok (.aload_n 0, 1) := by decide +kernel
theorem dX0_power_33 : decode cX0_power 33 = .ok (.getfield 9, 3) := by decide +kernel
theorem dX0_power_36 : decode cX0_power 36 = .ok (.iload_n 2, 1) := by decide +kernel
theorem dX0_power_37 : decode cX0_power 37 = .ok (.laload, 1) := by decide +kernel
theorem dX0_power_38 : decode cX0_power 38 = .ok (.iload_n 3, 1) := by decide +kernel
theorem dX0_power_39 : decode cX0_power 39 = .ok (.invokestatic 61, 3) := by decide +kernel
theorem dX0_power_42 : decode cX0_power 42 = .ok (.invokestatic 64, 3) := by decide +kernel
theorem dX0_power_45 : decode cX0_power 45 = .ok (.lstore 4, 2) := by decide +kernel
theorem dX0_power_47 : decode cX0_power 47 = .ok (.iload_n 3, 1) := by decide +kernel
theorem dX0_power_48 : decode cX0_power 48 = .ok (.ifCond .ge 11, 3) := by decide +kernel
theorem dX0_power_51 : decode cX0_power 51 = .ok (.lload 4, 2) := by decide +kernel
theorem dX0_power_53 : decode cX0_power 53 = .ok (.invokestatic 67, 3) := by decide +kernel
theorem dX0_power_56 : decode cX0_power 56 = .ok (.ifCond .eq 11, 3) := by decide +kernel
theorem dX0_power_59 : decode cX0_power 59 = .ok (.aload_n 0, 1) := by decide +kernel
theorem dX0_power_60 : decode cX0_power 60 = .ok (.iload_n 1, 1) := by decide +kernel
theorem dX0_power_61 : decode cX0_power 61 = .ok (.lload 4, 2) := by decide +kernel
theorem dX0_power_63 : decode cX0_power 63 = .ok (.invokevirtual 44, 3) := by decide +kernel
theorem dX0_power_66 : decode cX0_power 66 = .ok (.ireturn, 1) := by decide +kernel
theorem dX0_power_67 : decode cX0_power 67 = .ok (.lload 4, 2) := by decide +kernel
theorem dX0_power_69 : decode cX0_power 69 = .ok (.lconst 0, 1) := by decide +kernel
theorem dX0_power_70 : decode cX0_power 70 = .ok (.lcmp, 1) := by decide +kernel
theorem dX0_power_71 : decode cX0_power 71 = .ok (.ifCond .ne 8, 3) := by decide +kernel
theorem dX0_power_74 : decode cX0_power 74 = .ok (.bipush (-2), 2) := by decide +kernel
theorem dX0_power_76 : decode cX0_power 76 = .ok (.goto 16, 3) := by decide +kernel
theorem dX0_power_79 : decode cX0_power 79 = .ok (.aload_n 0, 1) := by decide +kernel
theorem dX0_power_80 : decode cX0_power 80 = .ok (.iload_n 1, 1) := by decide +kernel
theorem dX0_power_81 : decode cX0_power 81 = .ok (.ldc2_w 71, 3) := by decide +kernel
theorem dX0_power_84 : decode cX0_power 84 = .ok (.lload 4, 2) := by decide +kernel
theorem dX0_power_86 : decode cX0_power 86 = .ok (.invokestatic 73, 3) := by decide +kernel
theorem dX0_power_89 : decode cX0_power 89 = .ok (.invokevirtual 44, 3) := by decide +kernel
theorem dX0_power_92 : decode cX0_power 92 = .ok (.ireturn, 1) := by decide +kernel
theorem dX0_order_0 : decode cX0_order 0 = .ok (.iload_n 1, 1) := by decide +kernel
theorem dX0_order_1 : decode cX0_order 1 = .ok (.invokestatic 13, 3) := by decide +kernel
theorem dX0_order_4 : decode cX0_order 4 = .ok (.iload_n 2, 1) := by decide +kernel
theorem dX0_order_5 : decode cX0_order 5 = .ok (.invokestatic 13, 3) := by decide +kernel
theorem dX0_order_8 : decode cX0_order 8 = .ok (.aload_n 0, 1) := by decide +kernel
theorem dX0_order_9 : decode cX0_order 9 = .ok (.getfield 9, 3) := by decide +kernel
theorem dX0_order_12 : decode cX0_order 12 = .ok (.iload_n 1, 1) := by decide +kernel
theorem dX0_order_13 : decode cX0_order 13 = .ok (.laload, 1) := by decide +kernel
theorem dX0_order_14 : decode cX0_order 14 = .ok (.aload_n 0, 1) := by decide +kernel
theorem dX0_order_15 : decode cX0_order 15 = .ok (.getfield 9, 3) := by decide +kernel
theorem dX0_order_18 : decode cX0_order 18 = .ok (.iload_n 2, 1) := by decide +kernel
theorem dX0_order_19 : decode cX0_order 19 = .ok (.laload, 1) := by decide +kernel
theorem dX0_order_20 : decode cX0_order 20 = .ok (.lcmp, 1) := by decide +kernel
theorem dX0_order_21 : decode cX0_order 21 = .ok (.ifCond .ne 5, 3) := by decide +kernel
theorem dX0_order_24 : decode cX0_order 24 = .ok (.iconst 0, 1) := by decide +kernel
theorem dX0_order_25 : decode cX0_order 25 = .ok (.ireturn, 1) := by decide +kernel
theorem dX0_order_26 : decode cX0_order 26 = .ok (.aload_n 0, 1) := by decide +kernel
theorem dX0_order_27 : decode cX0_order 27 = .ok (.getfield 9, 3) := by decide +kernel
theorem dX0_order_30 : decode cX0_order 30 = .ok (.iload_n 1, 1) := by decide +kernel
theorem dX0_order_31 : decode cX0_order 31 = .ok (.laload, 1) := by decide +kernel
theorem dX0_order_32 : decode cX0_order 32 = .ok (.aload_n 0, 1) := by decide +kernel
theorem dX0_order_33 : decode cX0_order 33 = .ok (.getfield 9, 3) := by decide +kernel
theorem dX0_order_36 : decode cX0_order 36 = .ok (.iload_n 2, 1) := by decide +kernel
theorem dX0_order_37 : decode cX0_order 37 = .ok (.laload, 1) := by decide +kernel
theorem dX0_order_38 : decode cX0_order 38 = .ok (.lcmp, 1) := by decide +kernel
theorem dX0_order_39 : decode cX0_order 39 = .ok (.ifCond .ge 7, 3) := by decide +kernel
theorem dX0_order_42 : decode cX0_order 42 = .ok (.iconst (-1), 1) := by decide +kernel
theorem dX0_order_43 : decode cX0_order 43 = .ok (.goto 4, 3) := by decide +kernel
theorem dX0_order_46 : decode cX0_order 46 = .ok (.iconst 1, 1) := by decide +kernel
theorem dX0_order_47 : decode cX0_order 47 = .ok (.ireturn, 1) := by decide +kernel
theorem dX0_digits_0 : decode cX0_digits 0 = .ok (.iload_n 1, 1) := by decide +kernel
theorem dX0_digits_1 : decode cX0_digits 1 = .ok (.invokestatic 13, 3) := by decide +kernel
theorem dX0_digits_4 : decode cX0_digits 4 = .ok (.aload_n 0, 1) := by decide +kernel
theorem dX0_digits_5 : decode cX0_digits 5 = .ok (.getfield 9, 3) := by decide +kernel
theorem dX0_digits_8 : decode cX0_digits 8 = .ok (.iload_n 1, 1) := by decide +kernel
theorem dX0_digits_9 : decode cX0_digits 9 = .ok (.laload, 1) := by decide +kernel
theorem dX0_digits_10 : decode cX0_digits 10 = .ok (.invokestatic 76, 3) := by decide +kernel
theorem dX0_digits_13 : decode cX0_digits 13 = .ok (.aload_n 0, 1) := by decide +kernel
theorem dX0_digits_14 : decode cX0_digits 14 = .ok (.getfield 9, 3) := by decide +kernel
theorem dX0_digits_17 : decode cX0_digits 17 = .ok (.iload_n 1, 1) := by decide +kernel
theorem dX0_digits_18 : decode cX0_digits 18 = .ok (.laload, 1) := by decide +kernel
theorem dX0_digits_19 : decode cX0_digits 19 = .ok (.invokestatic 40, 3) := by decide +kernel
theorem dX0_digits_22 : decode cX0_digits 22 = .ok (.lreturn, 1) := by decide +kernel
theorem dX0_exponent_0 : decode cX0_exponent 0 = .ok (.iload_n 1, 1) := by decide +kernel
theorem dX0_exponent_1 : decode cX0_exponent 1 = .ok (.invokestatic 13, 3) := by decide +kernel
theorem dX0_exponent_4 : decode cX0_exponent 4 = .ok (.aload_n 0, 1) := by decide +kernel
theorem dX0_exponent_5 : decode cX0_exponent 5 = .ok (.getfield 9, 3) := by decide +kernel
theorem dX0_exponent_8 : decode cX0_exponent 8 = .ok (.iload_n 1, 1) := by decide +kernel
theorem dX0_exponent_9 : decode cX0_exponent 9 = .ok (.laload, 1) := by decide +kernel
theorem dX0_exponent_10 : decode cX0_exponent 10 = .ok (.invokestatic 79, 3) := by decide +kernel
theorem dX0_exponent_13 : decode cX0_exponent 13 = .ok (.ireturn, 1) := by decide +kernel
theorem dX0_value_0 : decode cX0_value 0 = .ok (.iload_n 1, 1) := by decide +kernel
theorem dX0_value_1 : decode cX0_value 1 = .ok (.invokestatic 13, 3) := by decide +kernel
theorem dX0_value_4 : decode cX0_value 4 = .ok (.aload_n 0, 1) := by decide +kernel
theorem dX0_value_5 : decode cX0_value 5 = .ok (.getfield 9, 3) := by decide +kernel
theorem dX0_value_8 : decode cX0_value 8 = .ok (.iload_n 1, 1) := by decide +kernel
theorem dX0_value_9 : decode cX0_value 9 = .ok (.laload, 1) := by decide +kernel
theorem dX0_value_10 : decode cX0_value 10 = .ok (.invokestatic 76, 3) := by decide +kernel
theorem dX0_value_13 : decode cX0_value 13 = .ok (.aload_n 0, 1) := by decide +kernel
theorem dX0_value_14 : decode cX0_value 14 = .ok (.getfield 9, 3) := by decide +kernel
theorem dX0_value_17 : decode cX0_value 17 = .ok (.iload_n 1, 1) := by decide +kernel
theorem dX0_value_18 : decode cX0_value 18 = .ok (.laload, 1) := by decide +kernel
theorem dX0_value_19 : decode cX0_value 19 = .ok (.invokestatic 40, 3) := by decide +kernel
theorem dX0_value_22 : decode cX0_value 22 = .ok (.lstore_n 2, 1) := by decide +kernel
theorem dX0_value_23 : decode cX0_value 23 = .ok (.lload_n 2, 1) := by decide +kernel
theorem dX0_value_24 : decode cX0_value 24 = .ok (.l2d, 1) := by decide +kernel
theorem dX0_value_25 : decode cX0_value 25 = .ok (.aload_n 0, 1) := by decide +kernel
theorem dX0_value_26 : decode cX0_value 26 = .ok (.getfield 9, 3) := by decide +kernel
theorem dX0_value_29 : decode cX0_value 29 = .ok (.iload_n 1, 1) := by decide +kernel
theorem dX0_value_30 : decode cX0_value 30 = .ok (.laload, 1) := by decide +kernel
theorem dX0_value_31 : decode cX0_value 31 = .ok (.invokestatic 79, 3) := by decide +kernel
theorem dX0_value_34 : decode cX0_value 34 = .ok (.invokestatic 83, 3) := by decide +kernel
theorem dX0_value_37 : decode cX0_value 37 = .ok (.dmul, 1) := by decide +kernel
theorem dX0_value_38 : decode cX0_value 38 = .ok (.dreturn, 1) := by decide +kernel
theorem dX0_whole_0 : decode cX0_whole 0 = .ok (.iload_n 1, 1) := by decide +kernel
theorem dX0_whole_1 : decode cX0_whole 1 = .ok (.invokestatic 13, 3) := by decide +kernel
theorem dX0_whole_4 : decode cX0_whole 4 = .ok (.aload_n 0, 1) := by decide +kernel
theorem dX0_whole_5 : decode cX0_whole 5 = .ok (.getfield 9, 3) := by decide +kernel
theorem dX0_whole_8 : decode cX0_whole 8 = .ok (.iload_n 1, 1) := by decide +kernel
theorem dX0_whole_9 : decode cX0_whole 9 = .ok (.laload, 1) := by decide +kernel
theorem dX0_whole_10 : decode cX0_whole 10 = .ok (.lstore_n 2, 1) := by decide +kernel
theorem dX0_whole_11 : decode cX0_whole 11 = .ok (.lload_n 2, 1) := by decide +kernel
theorem dX0_whole_12 : decode cX0_whole 12 = .ok (.ldc2_w 87, 3) := by decide +kernel
theorem dX0_whole_15 : decode cX0_whole 15 = .ok (.lcmp, 1) := by decide +kernel
theorem dX0_whole_16 : decode cX0_whole 16 = .ok (.ifCond .ge 11, 3) := by decide +kernel
theorem dX0_whole_19 : decode cX0_whole 19 = .ok (.lload_n 2, 1) := by decide +kernel
theorem dX0_whole_20 : decode cX0_whole 20 = .ok (.ldc2_w 89, 3) := by decide +kernel
theorem dX0_whole_23 : decode cX0_whole 23 = .ok (.lcmp, 1) := by decide +kernel
theorem dX0_whole_24 : decode cX0_whole 24 = .ok (.ifCond .ge 13, 3) := by decide +kernel
theorem dX0_whole_27 : decode cX0_whole 27 = .ok (.new 91, 3) := by decide +kernel
theorem dX0_whole_30 : decode cX0_whole 30 = .ok (.dup, 1) := by decide +kernel
theorem dX0_whole_31 : decode cX0_whole 31 = .ok (.ldc 93, 2) := by decide +kernel
theorem dX0_whole_33 : decode cX0_whole 33 = .ok (.invokespecial 95, 3) := by decide +kernel
theorem dX0_whole_36 : decode cX0_whole 36 = .ok (.athrow, 1) := by decide +kernel
theorem dX0_whole_37 : decode cX0_whole 37 = .ok (.lload_n 2, 1) := by decide +kernel
theorem dX0_whole_38 : decode cX0_whole 38 = .ok (.invokestatic 76, 3) := by decide +kernel
theorem dX0_whole_41 : decode cX0_whole 41 = .ok (.lstore 4, 2) := by decide +kernel
theorem dX0_whole_43 : decode cX0_whole 43 = .ok (.lload_n 2, 1) := by decide +kernel
theorem dX0_whole_44 : decode cX0_whole 44 = .ok (.invokestatic 79, 3) := by decide +kernel
theorem dX0_whole_47 : decode cX0_whole 47 = .ok (.istore 6, 2) := by decide +kernel
theorem dX0_whole_49 : decode cX0_whole 49 = .ok (.iload 6, 2) := by decide +kernel
theorem dX0_whole_51 : decode cX0_whole 51 = .ok (.ifCond .lt 13, 3) := by decide +kernel
theorem dX0_whole_54 : decode cX0_whole 54 = .ok (.lload 4, 2) := by decide +kernel
theorem dX0_whole_56 : decode cX0_whole 56 = .ok (.iload 6, 2) := by decide +kernel
theorem dX0_whole_58 : decode cX0_whole 58 = .ok (.lshl, 1) := by decide +kernel
theorem dX0_whole_59 : decode cX0_whole 59 = .ok (.lload_n 2, 1) := by decide +kernel
theorem dX0_whole_60 : decode cX0_whole 60 = .ok (.invokestatic 40, 3) := by decide +kernel
theorem dX0_whole_63 : decode cX0_whole 63 = .ok (.lreturn, 1) := by decide +kernel
theorem dX0_whole_64 : decode cX0_whole 64 = .ok (.iload 6, 2) := by decide +kernel
theorem dX0_whole_66 : decode cX0_whole 66 = .ok (.ineg, 1) := by decide +kernel
theorem dX0_whole_67 : decode cX0_whole 67 = .ok (.bipush 62, 2) := by decide +kernel
theorem dX0_whole_69 : decode cX0_whole 69 = .ok (.invokestatic 96, 3) := by decide +kernel
theorem dX0_whole_72 : decode cX0_whole 72 = .ok (.istore 7, 2) := by decide +kernel
theorem dX0_whole_74 : decode cX0_whole 74 = .ok (.lload 4, 2) := by decide +kernel
theorem dX0_whole_76 : decode cX0_whole 76 = .ok (.iload 7, 2) := by decide +kernel
theorem dX0_whole_78 : decode cX0_whole 78 = .ok (.invokestatic 100, 3) := by decide +kernel
theorem dX0_whole_81 : decode cX0_whole 81 = .ok (.lconst 0, 1) := by decide +kernel
theorem dX0_whole_82 : decode cX0_whole 82 = .ok (.lcmp, 1) := by decide +kernel
theorem dX0_whole_83 : decode cX0_whole 83 = .ok (.ifCond .eq 13, 3) := by decide +kernel
theorem dX0_whole_86 : decode cX0_whole 86 = .ok (.new 91, 3) := by decide +kernel
theorem dX0_whole_89 : decode cX0_whole 89 = .ok (.dup, 1) := by decide +kernel
theorem dX0_whole_90 : decode cX0_whole 90 = .ok (.ldc 103, 2) := by decide +kernel
theorem dX0_whole_92 : decode cX0_whole 92 = .ok (.invokespecial 95, 3) := by decide +kernel
theorem dX0_whole_95 : decode cX0_whole 95 = .ok (.athrow, 1) := by decide +kernel
theorem dX0_whole_96 : decode cX0_whole 96 = .ok (.lload 4, 2) := by decide +kernel
theorem dX0_whole_98 : decode cX0_whole 98 = .ok (.iload 7, 2) := by decide +kernel
theorem dX0_whole_100 : decode cX0_whole 100 = .ok (.lushr, 1) := by decide +kernel
theorem dX0_whole_101 : decode cX0_whole 101 = .ok (.lload_n 2, 1) := by decide +kernel
theorem dX0_whole_102 : decode cX0_whole 102 = .ok (.invokestatic 40, 3) := by decide +kernel
theorem dX0_whole_105 : decode cX0_whole 105 = .ok (.lreturn, 1) := by decide +kernel
theorem dX0_requireRegister_0 : decode cX0_requireRegister 0 = .ok (.iload_n 0, 1) := by decide +kernel
theorem dX0_requireRegister_1 : decode cX0_requireRegister 1 = .ok (.ifCond .lt 9, 3) := by decide +kernel
theorem dX0_requireRegister_4 : decode cX0_requireRegister 4 = .ok (.iload_n 0, 1) := by decide +kernel
theorem dX0_requireRegister_5 : decode cX0_requireRegister 5 = .ok (.bipush 16, 2) := by decide +kernel
theorem dX0_requireRegister_7 : decode cX0_requireRegister 7 = .ok (.if_icmp .lt 13, 3) := by decide +kernel
theorem dX0_requireRegister_10 : decode cX0_requireRegister 10 = .ok (.new 21, 3) := by decide +kernel
theorem dX0_requireRegister_13 : decode cX0_requireRegister 13 = .ok (.dup, 1) := by decide +kernel
theorem dX0_requireRegister_14 : decode cX0_requireRegister 14 = .ok (.ldc 105, 2) := by decide +kernel
theorem dX0_requireRegister_16 : decode cX0_requireRegister 16 = .ok (.invokespecial 25, 3) := by decide +kernel
theorem dX0_requireRegister_19 : decode cX0_requireRegister 19 = .ok (.athrow, 1) := by decide +kernel
theorem dX0_requireRegister_20 : decode cX0_requireRegister 20 = .ok (.return_, 1) := by decide +kernel
theorem dX0_requireKind_0 : decode cX0_requireKind 0 = .ok (.iload_n 0, 1) := by decide +kernel
theorem dX0_requireKind_1 : decode cX0_requireKind 1 = .ok (.ifCond .lt 9, 3) := by decide +kernel
theorem dX0_requireKind_4 : decode cX0_requireKind 4 = .ok (.iload_n 0, 1) := by decide +kernel
theorem dX0_requireKind_5 : decode cX0_requireKind 5 = .ok (.bipush 8, 2) := by decide +kernel
theorem dX0_requireKind_7 : decode cX0_requireKind 7 = .ok (.if_icmp .le 13, 3) := by decide +kernel
theorem dX0_requireKind_10 : decode cX0_requireKind 10 = .ok (.new 21, 3) := by decide +kernel
theorem dX0_requireKind_13 : decode cX0_requireKind 13 = .ok (.dup, 1) := by decide +kernel
theorem dX0_requireKind_14 : decode cX0_requireKind 14 = .ok (.ldc 107, 2) := by decide +kernel
theorem dX0_requireKind_16 : decode cX0_requireKind 16 = .ok (.invokespecial 25, 3) := by decide +kernel
theorem dX0_requireKind_19 : decode cX0_requireKind 19 = .ok (.athrow, 1) := by decide +kernel
theorem dX0_requireKind_20 : decode cX0_requireKind 20 = .ok (.return_, 1) := by decide +kernel
theorem dX0_keep_0 : decode cX0_keep 0 = .ok (.lload_n 2, 1) := by decide +kernel
theorem dX0_keep_1 : decode cX0_keep 1 = .ok (.invokestatic 67, 3) := by decide +kernel
theorem dX0_keep_4 : decode cX0_keep 4 = .ok (.ifCond .eq 5, 3) := by decide +kernel
theorem dX0_keep_7 : decode cX0_keep 7 = .ok (.iconst (-1), 1) := by decide +kernel
theorem dX0_keep_8 : decode cX0_keep 8 = .ok (.ireturn, 1) := by decide +kernel
theorem dX0_keep_9 : decode cX0_keep 9 = .ok (.aload_n 0, 1) := by decide +kernel
theorem dX0_keep_10 : decode cX0_keep 10 = .ok (.getfield 9, 3) := by decide +kernel
theorem dX0_keep_13 : decode cX0_keep 13 = .ok (.iload_n 1, 1) := by decide +kernel
theorem dX0_keep_14 : decode cX0_keep 14 = .ok (.lload_n 2, 1) := by decide +kernel
theorem dX0_keep_15 : decode cX0_keep 15 = .ok (.lastore, 1) := by decide +kernel
theorem dX0_keep_16 : decode cX0_keep 16 = .ok (.iconst 0, 1) := by decide +kernel
theorem dX0_keep_17 : decode cX0_keep 17 = .ok (.ireturn, 1) := by decide +kernel
theorem dX0_combineRanks_0 : decode cX0_combineRanks 0 = .ok (.iload_n 2, 1) := by decide +kernel
theorem dX0_combineRanks_1 : decode cX0_combineRanks 1 = .ok (.tableswitch 172 0 8 #[51, 63, 76, 88, 112, 136, 148, 160, 172], 51) := by decide +kernel
theorem dX0_combineRanks_52 : decode cX0_combineRanks 52 = .ok (.aload_n 0, 1) := by decide +kernel
theorem dX0_combineRanks_53 : decode cX0_combineRanks 53 = .ok (.iload_n 1, 1) := by decide +kernel
theorem dX0_combineRanks_54 : decode cX0_combineRanks 54 = .ok (.lload_n 3, 1) := by decide +kernel
theorem dX0_combineRanks_55 : decode cX0_combineRanks 55 = .ok (.lload 5, 2) := by decide +kernel
theorem dX0_combineRanks_57 : decode cX0_combineRanks 57 = .ok (.invokestatic 109, 3) := by decide +kernel
theorem dX0_combineRanks_60 : decode cX0_combineRanks 60 = .ok (.invokevirtual 44, 3) := by decide +kernel
theorem dX0_combineRanks_63 : decode cX0_combineRanks 63 = .ok (.ireturn, 1) := by decide +kernel
theorem dX0_combineRanks_64 : decode cX0_combineRanks 64 = .ok (.aload_n 0, 1) := by decide +kernel
theorem dX0_combineRanks_65 : decode cX0_combineRanks 65 = .ok (.iload_n 1, 1) := by decide +kernel
theorem dX0_combineRanks_66 : decode cX0_combineRanks 66 = .ok (.lload_n 3, 1) := by decide +kernel
theorem dX0_combineRanks_67 : decode cX0_combineRanks 67 = .ok (.lload 5, 2) := by decide +kernel
theorem dX0_combineRanks_69 : decode cX0_combineRanks 69 = .ok (.lneg, 1) := by decide +kernel
theorem dX0_combineRanks_70 : decode cX0_combineRanks 70 = .ok (.invokestatic 109, 3) := by decide +kernel
theorem dX0_combineRanks_73 : decode cX0_combineRanks 73 = .ok (.invokevirtual 44, 3) := by decide +kernel
theorem dX0_combineRanks_76 : decode cX0_combineRanks 76 = .ok (.ireturn, 1) := by decide +kernel
theorem dX0_combineRanks_77 : decode cX0_combineRanks 77 = .ok (.aload_n 0, 1) := by decide +kernel
theorem dX0_combineRanks_78 : decode cX0_combineRanks 78 = .ok (.iload_n 1, 1) := by decide +kernel
theorem dX0_combineRanks_79 : decode cX0_combineRanks 79 = .ok (.lload_n 3, 1) := by decide +kernel
theorem dX0_combineRanks_80 : decode cX0_combineRanks 80 = .ok (.lload 5, 2) := by decide +kernel
theorem dX0_combineRanks_82 : decode cX0_combineRanks 82 = .ok (.invokestatic 112, 3) := by decide +kernel
theorem dX0_combineRanks_85 : decode cX0_combineRanks 85 = .ok (.invokevirtual 44, 3) := by decide +kernel
theorem dX0_combineRanks_88 : decode cX0_combineRanks 88 = .ok (.ireturn, 1) := by decide +kernel
theorem dX0_combineRanks_89 : decode cX0_combineRanks 89 = .ok (.lload 5, 2) := by decide +kernel
theorem dX0_combineRanks_91 : decode cX0_combineRanks 91 = .ok (.lconst 0, 1) := by decide +kernel
theorem dX0_combineRanks_92 : decode cX0_combineRanks 92 = .ok (.lcmp, 1) := by decide +kernel
theorem dX0_combineRanks_93 : decode cX0_combineRanks 93 = .ok (.ifCond .ne 8, 3) := by decide +kernel
theorem dX0_combineRanks_96 : decode cX0_combineRanks 96 = .ok (.bipush (-2), 2) := by decide +kernel
theorem dX0_combineRanks_98 : decode cX0_combineRanks 98 = .ok (.goto 14, 3) := by decide +kernel
theorem dX0_combineRanks_101 : decode cX0_combineRanks 101 = .ok (.aload_n 0, 1) := by decide +kernel
theorem dX0_combineRanks_102 : decode cX0_combineRanks 102 = .ok (.iload_n 1, 1) := by decide +kernel
theorem dX0_combineRanks_103 : decode cX0_combineRanks 103 = .ok (.lload_n 3, 1) := by decide +kernel
theorem dX0_combineRanks_104 : decode cX0_combineRanks 104 = .ok (.lload 5, 2) := by decide +kernel
theorem dX0_combineRanks_106 : decode cX0_combineRanks 106 = .ok (.invokestatic 73, 3) := by decide +kernel
theorem dX0_combineRanks_109 : decode cX0_combineRanks 109 = .ok (.invokevirtual 44, 3) := by decide +kernel
theorem dX0_combineRanks_112 : decode cX0_combineRanks 112 = .ok (.ireturn, 1) := by decide +kernel
theorem dX0_combineRanks_113 : decode cX0_combineRanks 113 = .ok (.lload 5, 2) := by decide +kernel
theorem dX0_combineRanks_115 : decode cX0_combineRanks 115 = .ok (.lconst 0, 1) := by decide +kernel
theorem dX0_combineRanks_116 : decode cX0_combineRanks 116 = .ok (.lcmp, 1) := by decide +kernel
theorem dX0_combineRanks_117 : decode cX0_combineRanks 117 = .ok (.ifCond .ne 8, 3) := by decide +kernel
theorem dX0_combineRanks_120 : decode cX0_combineRanks 120 = .ok (.bipush (-2), 2) := by decide +kernel
theorem dX0_combineRanks_122 : decode cX0_combineRanks 122 = .ok (.goto 14, 3) := by decide +kernel
theorem dX0_combineRanks_125 : decode cX0_combineRanks 125 = .ok (.aload_n 0, 1) := by decide +kernel
theorem dX0_combineRanks_126 : decode cX0_combineRanks 126 = .ok (.iload_n 1, 1) := by decide +kernel
theorem dX0_combineRanks_127 : decode cX0_combineRanks 127 = .ok (.lload_n 3, 1) := by decide +kernel
theorem dX0_combineRanks_128 : decode cX0_combineRanks 128 = .ok (.lload 5, 2) := by decide +kernel
theorem dX0_combineRanks_130 : decode cX0_combineRanks 130 = .ok (.invokestatic 115, 3) := by decide +kernel
theorem dX0_combineRanks_133 : decode cX0_combineRanks 133 = .ok (.invokevirtual 44, 3) := by decide +kernel
theorem dX0_combineRanks_136 : decode cX0_combineRanks 136 = .ok (.ireturn, 1) := by decide +kernel
theorem dX0_combineRanks_137 : decode cX0_combineRanks 137 = .ok (.aload_n 0, 1) := by decide +kernel
theorem dX0_combineRanks_138 : decode cX0_combineRanks 138 = .ok (.iload_n 1, 1) := by decide +kernel
theorem dX0_combineRanks_139 : decode cX0_combineRanks 139 = .ok (.lload_n 3, 1) := by decide +kernel
theorem dX0_combineRanks_140 : decode cX0_combineRanks 140 = .ok (.lload 5, 2) := by decide +kernel
theorem dX0_combineRanks_142 : decode cX0_combineRanks 142 = .ok (.invokestatic 118, 3) := by decide +kernel
theorem dX0_combineRanks_145 : decode cX0_combineRanks 145 = .ok (.invokevirtual 44, 3) := by decide +kernel
theorem dX0_combineRanks_148 : decode cX0_combineRanks 148 = .ok (.ireturn, 1) := by decide +kernel
theorem dX0_combineRanks_149 : decode cX0_combineRanks 149 = .ok (.aload_n 0, 1) := by decide +kernel
theorem dX0_combineRanks_150 : decode cX0_combineRanks 150 = .ok (.iload_n 1, 1) := by decide +kernel
theorem dX0_combineRanks_151 : decode cX0_combineRanks 151 = .ok (.lload_n 3, 1) := by decide +kernel
theorem dX0_combineRanks_152 : decode cX0_combineRanks 152 = .ok (.lload 5, 2) := by decide +kernel
theorem dX0_combineRanks_154 : decode cX0_combineRanks 154 = .ok (.invokestatic 120, 3) := by decide +kernel
theorem dX0_combineRanks_157 : decode cX0_combineRanks 157 = .ok (.invokevirtual 44, 3) := by decide +kernel
theorem dX0_combineRanks_160 : decode cX0_combineRanks 160 = .ok (.ireturn, 1) := by decide +kernel
theorem dX0_combineRanks_161 : decode cX0_combineRanks 161 = .ok (.aload_n 0, 1) := by decide +kernel
theorem dX0_combineRanks_162 : decode cX0_combineRanks 162 = .ok (.iload_n 1, 1) := by decide +kernel
theorem dX0_combineRanks_163 : decode cX0_combineRanks 163 = .ok (.lload_n 3, 1) := by decide +kernel
theorem dX0_combineRanks_164 : decode cX0_combineRanks 164 = .ok (.lload 5, 2) := by decide +kernel
theorem dX0_combineRanks_166 : decode cX0_combineRanks 166 = .ok (.invokestatic 123, 3) := by decide +kernel
theorem dX0_combineRanks_169 : decode cX0_combineRanks 169 = .ok (.invokevirtual 44, 3) := by decide +kernel
theorem dX0_combineRanks_172 : decode cX0_combineRanks 172 = .ok (.ireturn, 1) := by decide +kernel
theorem dX0_combineRanks_173 : decode cX0_combineRanks 173 = .ok (.lload_n 3, 1) := by decide +kernel
theorem dX0_combineRanks_174 : decode cX0_combineRanks 174 = .ok (.lload 5, 2) := by decide +kernel
theorem dX0_combineRanks_176 : decode cX0_combineRanks 176 = .ok (.invokestatic 126, 3) := by decide +kernel
theorem dX0_combineRanks_179 : decode cX0_combineRanks 179 = .ok (.ifCond .eq 8, 3) := by decide +kernel
theorem dX0_combineRanks_182 : decode cX0_combineRanks 182 = .ok (.bipush (-4), 2) := by decide +kernel
theorem dX0_combineRanks_184 : decode cX0_combineRanks 184 = .ok (.goto 14, 3) := by decide +kernel
theorem dX0_combineRanks_187 : decode cX0_combineRanks 187 = .ok (.aload_n 0, 1) := by decide +kernel
theorem dX0_combineRanks_188 : decode cX0_combineRanks 188 = .ok (.iload_n 1, 1) := by decide +kernel
theorem dX0_combineRanks_189 : decode cX0_combineRanks 189 = .ok (.lload_n 3, 1) := by decide +kernel
theorem dX0_combineRanks_190 : decode cX0_combineRanks 190 = .ok (.lload 5, 2) := by decide +kernel
theorem dX0_combineRanks_192 : decode cX0_combineRanks 192 = .ok (.invokestatic 130, 3) := by decide +kernel
theorem dX0_combineRanks_195 : decode cX0_combineRanks 195 = .ok (.invokevirtual 44, 3) := by decide +kernel
theorem dX0_combineRanks_198 : decode cX0_combineRanks 198 = .ok (.ireturn, 1) := by decide +kernel
theorem dX0_changeRank_0 : decode cX0_changeRank 0 = .ok (.iload_n 2, 1) := by decide +kernel
theorem dX0_changeRank_1 : decode cX0_changeRank 1 = .ok (.tableswitch 110 0 8 #[51, 59, 69, 90, 90, 90, 90, 101, 110], 51) := by decide +kernel
theorem dX0_changeRank_52 : decode cX0_changeRank 52 = .ok (.aload_n 0, 1) := by decide +kernel
theorem dX0_changeRank_53 : decode cX0_changeRank 53 = .ok (.iload_n 1, 1) := by decide +kernel
theorem dX0_changeRank_54 : decode cX0_changeRank 54 = .ok (.lload_n 3, 1) := by decide +kernel
theorem dX0_changeRank_55 : decode cX0_changeRank 55 = .ok (.lneg, 1) := by decide +kernel
theorem dX0_changeRank_56 : decode cX0_changeRank 56 = .ok (.invokevirtual 44, 3) := by decide +kernel
theorem dX0_changeRank_59 : decode cX0_changeRank 59 = .ok (.ireturn, 1) := by decide +kernel
theorem dX0_changeRank_60 : decode cX0_changeRank 60 = .ok (.aload_n 0, 1) := by decide +kernel
theorem dX0_changeRank_61 : decode cX0_changeRank 61 = .ok (.iload_n 1, 1) := by decide +kernel
theorem dX0_changeRank_62 : decode cX0_changeRank 62 = .ok (.lload_n 3, 1) := by decide +kernel
theorem dX0_changeRank_63 : decode cX0_changeRank 63 = .ok (.invokestatic 30, 3) := by decide +kernel
theorem dX0_changeRank_66 : decode cX0_changeRank 66 = .ok (.invokevirtual 44, 3) := by decide +kernel
theorem dX0_changeRank_69 : decode cX0_changeRank 69 = .ok (.ireturn, 1) := by decide +kernel
theorem dX0_changeRank_70 : decode cX0_changeRank 70 = .ok (.lload_n 3, 1) := by decide +kernel
theorem dX0_changeRank_71 : decode cX0_changeRank 71 = .ok (.lconst 0, 1) := by decide +kernel
theorem dX0_changeRank_72 : decode cX0_changeRank 72 = .ok (.lcmp, 1) := by decide +kernel
theorem dX0_changeRank_73 : decode cX0_changeRank 73 = .ok (.ifCond .ge 8, 3) := by decide +kernel
theorem dX0_changeRank_76 : decode cX0_changeRank 76 = .ok (.bipush (-3), 2) := by decide +kernel
theorem dX0_changeRank_78 : decode cX0_changeRank 78 = .ok (.goto 12, 3) := by decide +kernel
theorem dX0_changeRank_81 : decode cX0_changeRank 81 = .ok (.aload_n 0, 1) := by decide +kernel
theorem dX0_changeRank_82 : decode cX0_changeRank 82 = .ok (.iload_n 1, 1) := by decide +kernel
theorem dX0_changeRank_83 : decode cX0_changeRank 83 = .ok (.lload_n 3, 1) := by decide +kernel
theorem dX0_changeRank_84 : decode cX0_changeRank 84 = .ok (.invokestatic 133, 3) := by decide +kernel
theorem dX0_changeRank_87 : decode cX0_changeRank 87 = .ok (.invokevirtual 44, 3) := by decide +kernel
theorem dX0_changeRank_90 : decode cX0_changeRank 90 = .ok (.ireturn, 1) := by decide +kernel
theorem dX0_changeRank_91 : decode cX0_changeRank 91 = .ok (.aload_n 0, 1) := by decide +kernel
theorem dX0_changeRank_92 : decode cX0_changeRank 92 = .ok (.iload_n 1, 1) := by decide +kernel
theorem dX0_changeRank_93 : decode cX0_changeRank 93 = .ok (.iload_n 2, 1) := by decide +kernel
theorem dX0_changeRank_94 : decode cX0_changeRank 94 = .ok (.lload_n 3, 1) := by decide +kernel
theorem dX0_changeRank_95 : decode cX0_changeRank 95 = .ok (.invokestatic 136, 3) := by decide +kernel
theorem dX0_changeRank_98 : decode cX0_changeRank 98 = .ok (.invokevirtual 44, 3) := by decide +kernel
theorem dX0_changeRank_101 : decode cX0_changeRank 101 = .ok (.ireturn, 1) := by decide +kernel
theorem dX0_changeRank_102 : decode cX0_changeRank 102 = .ok (.aload_n 0, 1) := by decide +kernel
theorem dX0_changeRank_103 : decode cX0_changeRank 103 = .ok (.iload_n 1, 1) := by decide +kernel
theorem dX0_changeRank_104 : decode cX0_changeRank 104 = .ok (.lload_n 3, 1) := by decide +kernel
theorem dX0_changeRank_105 : decode cX0_changeRank 105 = .ok (.lconst 1, 1) := by decide +kernel
theorem dX0_changeRank_106 : decode cX0_changeRank 106 = .ok (.ladd, 1) := by decide +kernel
theorem dX0_changeRank_107 : decode cX0_changeRank 107 = .ok (.invokevirtual 44, 3) := by decide +kernel
theorem dX0_changeRank_110 : decode cX0_changeRank 110 = .ok (.ireturn, 1) := by decide +kernel
theorem dX0_changeRank_111 : decode cX0_changeRank 111 = .ok (.aload_n 0, 1) := by decide +kernel
theorem dX0_changeRank_112 : decode cX0_changeRank 112 = .ok (.iload_n 1, 1) := by decide +kernel
theorem dX0_changeRank_113 : decode cX0_changeRank 113 = .ok (.lload_n 3, 1) := by decide +kernel
theorem dX0_changeRank_114 : decode cX0_changeRank 114 = .ok (.lconst 1, 1) := by decide +kernel
theorem dX0_changeRank_115 : decode cX0_changeRank 115 = .ok (.lsub, 1) := by decide +kernel
theorem dX0_changeRank_116 : decode cX0_changeRank 116 = .ok (.invokevirtual 44, 3) := by decide +kernel
theorem dX0_changeRank_119 : decode cX0_changeRank 119 = .ok (.ireturn, 1) := by decide +kernel
theorem dX0_isOver_0 : decode cX0_isOver 0 = .ok (.lload_n 0, 1) := by decide +kernel
theorem dX0_isOver_1 : decode cX0_isOver 1 = .ok (.ldc2_w 140, 3) := by decide +kernel
theorem dX0_isOver_4 : decode cX0_isOver 4 = .ok (.lcmp, 1) := by decide +kernel
theorem dX0_isOver_5 : decode cX0_isOver 5 = .ok (.ifCond .ge 11, 3) := by decide +kernel
theorem dX0_isOver_8 : decode cX0_isOver 8 = .ok (.lload_n 0, 1) := by decide +kernel
theorem dX0_isOver_9 : decode cX0_isOver 9 = .ok (.ldc2_w 142, 3) := by decide +kernel
theorem dX0_isOver_12 : decode cX0_isOver 12 = .ok (.lcmp, 1) := by decide +kernel
theorem dX0_isOver_13 : decode cX0_isOver 13 = .ok (.ifCond .gt 7, 3) := by decide +kernel
theorem dX0_isOver_16 : decode cX0_isOver 16 = .ok (.iconst 1, 1) := by decide +kernel
theorem dX0_isOver_17 : decode cX0_isOver 17 = .ok (.goto 4, 3) := by decide +kernel
theorem dX0_isOver_20 : decode cX0_isOver 20 = .ok (.iconst 0, 1) := by decide +kernel
theorem dX0_isOver_21 : decode cX0_isOver 21 = .ok (.ireturn, 1) := by decide +kernel
theorem dX0_withSignOf_0 : decode cX0_withSignOf 0 = .ok (.lload_n 2, 1) := by decide +kernel
theorem dX0_withSignOf_1 : decode cX0_withSignOf 1 = .ok (.lconst 0, 1) := by decide +kernel
theorem dX0_withSignOf_2 : decode cX0_withSignOf 2 = .ok (.lcmp, 1) := by decide +kernel
theorem dX0_withSignOf_3 : decode cX0_withSignOf 3 = .ok (.ifCond .ge 8, 3) := by decide +kernel
theorem dX0_withSignOf_6 : decode cX0_withSignOf 6 = .ok (.lload_n 0, 1) := by decide +kernel
theorem dX0_withSignOf_7 : decode cX0_withSignOf 7 = .ok (.lneg, 1) := by decide +kernel
theorem dX0_withSignOf_8 : decode cX0_withSignOf 8 = .ok (.goto 4, 3) := by decide +kernel
theorem dX0_withSignOf_11 : decode cX0_withSignOf 11 = .ok (.lload_n 0, 1) := by decide +kernel
theorem dX0_withSignOf_12 : decode cX0_withSignOf 12 = .ok (.lreturn, 1) := by decide +kernel
theorem dX0_mOf_0 : decode cX0_mOf 0 = .ok (.lload_n 0, 1) := by decide +kernel
theorem dX0_mOf_1 : decode cX0_mOf 1 = .ok (.invokestatic 30, 3) := by decide +kernel
theorem dX0_mOf_4 : decode cX0_mOf 4 = .ok (.lstore_n 2, 1) := by decide +kernel
theorem dX0_mOf_5 : decode cX0_mOf 5 = .ok (.lload_n 2, 1) := by decide +kernel
theorem dX0_mOf_6 : decode cX0_mOf 6 = .ok (.ldc2_w 17, 3) := by decide +kernel
theorem dX0_mOf_9 : decode cX0_mOf 9 = .ok (.lcmp, 1) := by decide +kernel
theorem dX0_mOf_10 : decode cX0_mOf 10 = .ok (.ifCond .ge 7, 3) := by decide +kernel
theorem dX0_mOf_13 : decode cX0_mOf 13 = .ok (.lload_n 2, 1) := by decide +kernel
theorem dX0_mOf_14 : decode cX0_mOf 14 = .ok (.goto 13, 3) := by decide +kernel
theorem dX0_mOf_17 : decode cX0_mOf 17 = .ok (.lload_n 2, 1) := by decide +kernel
theorem dX0_mOf_18 : decode cX0_mOf 18 = .ok (.bipush 52, 2) := by decide +kernel
theorem dX0_mOf_20 : decode cX0_mOf 20 = .ok (.invokestatic 100, 3) := by decide +kernel
theorem dX0_mOf_23 : decode cX0_mOf 23 = .ok (.ldc2_w 144, 3) := by decide +kernel
theorem dX0_mOf_26 : decode cX0_mOf 26 = .ok (.lor, 1) := by decide +kernel
theorem dX0_mOf_27 : decode cX0_mOf 27 = .ok (.lreturn, 1) := by decide +kernel
theorem dX0_eOf_0 : decode cX0_eOf 0 = .ok (.lload_n 0, 1) := by decide +kernel
theorem dX0_eOf_1 : decode cX0_eOf 1 = .ok (.invokestatic 30, 3) := by decide +kernel
theorem dX0_eOf_4 : decode cX0_eOf 4 = .ok (.lstore_n 2, 1) := by decide +kernel
theorem dX0_eOf_5 : decode cX0_eOf 5 = .ok (.lload_n 2, 1) := by decide +kernel
theorem dX0_eOf_6 : decode cX0_eOf 6 = .ok (.ldc2_w 17, 3) := by decide +kernel
theorem dX0_eOf_9 : decode cX0_eOf 9 = .ok (.lcmp, 1) := by decide +kernel
theorem dX0_eOf_10 : decode cX0_eOf 10 = .ok (.ifCond .ge 9, 3) := by decide +kernel
theorem dX0_eOf_13 : decode cX0_eOf 13 = .ok (.sipush (-1074), 3) := by decide +kernel
theorem dX0_eOf_16 : decode cX0_eOf 16 = .ok (.goto 14, 3) := by decide +kernel
theorem dX0_eOf_19 : decode cX0_eOf 19 = .ok (.lload_n 2, 1) := by decide +kernel
theorem dX0_eOf_20 : decode cX0_eOf 20 = .ok (.bipush 52, 2) := by decide +kernel
theorem dX0_eOf_22 : decode cX0_eOf 22 = .ok (.lushr, 1) := by decide +kernel
theorem dX0_eOf_23 : decode cX0_eOf 23 = .ok (.l2i, 1) := by decide +kernel
theorem dX0_eOf_24 : decode cX0_eOf 24 = .ok (.iconst 1, 1) := by decide +kernel
theorem dX0_eOf_25 : decode cX0_eOf 25 = .ok (.isub, 1) := by decide +kernel
theorem dX0_eOf_26 : decode cX0_eOf 26 = .ok (.sipush (-1074), 3) := by decide +kernel
theorem dX0_eOf_29 : decode cX0_eOf 29 = .ok (.iadd, 1) := by decide +kernel
theorem dX0_eOf_30 : decode cX0_eOf 30 = .ok (.ireturn, 1) := by decide +kernel
theorem dX0_lift_0 : decode cX0_lift 0 = .ok (.iconst 0, 1) := by decide +kernel
theorem dX0_lift_1 : decode cX0_lift 1 = .ok (.lload_n 0, 1) := by decide +kernel
theorem dX0_lift_2 : decode cX0_lift 2 = .ok (.invokestatic 76, 3) := by decide +kernel
theorem dX0_lift_5 : decode cX0_lift 5 = .ok (.invokestatic 146, 3) := by decide +kernel
theorem dX0_lift_8 : decode cX0_lift 8 = .ok (.bipush 11, 2) := by decide +kernel
theorem dX0_lift_10 : decode cX0_lift 10 = .ok (.isub, 1) := by decide +kernel
theorem dX0_lift_11 : decode cX0_lift 11 = .ok (.invokestatic 151, 3) := by decide +kernel
theorem dX0_lift_14 : decode cX0_lift 14 = .ok (.ireturn, 1) := by decide +kernel
theorem dX0_liftedM_0 : decode cX0_liftedM 0 = .ok (.lload_n 0, 1) := by decide +kernel
theorem dX0_liftedM_1 : decode cX0_liftedM 1 = .ok (.invokestatic 76, 3) := by decide +kernel
theorem dX0_liftedM_4 : decode cX0_liftedM 4 = .ok (.lload_n 0, 1) := by decide +kernel
theorem dX0_liftedM_5 : decode cX0_liftedM 5 = .ok (.invokestatic 153, 3) := by decide +kernel
theorem dX0_liftedM_8 : decode cX0_liftedM 8 = .ok (.lshl, 1) := by decide +kernel
theorem dX0_liftedM_9 : decode cX0_liftedM 9 = .ok (.lreturn, 1) := by decide +kernel
theorem dX0_liftedE_0 : decode cX0_liftedE 0 = .ok (.lload_n 0, 1) := by decide +kernel
theorem dX0_liftedE_1 : decode cX0_liftedE 1 = .ok (.invokestatic 79, 3) := by decide +kernel
theorem dX0_liftedE_4 : decode cX0_liftedE 4 = .ok (.lload_n 0, 1) := by decide +kernel
theorem dX0_liftedE_5 : decode cX0_liftedE 5 = .ok (.invokestatic 153, 3) := by decide +kernel
theorem dX0_liftedE_8 : decode cX0_liftedE 8 = .ok (.isub, 1) := by decide +kernel
theorem dX0_liftedE_9 : decode cX0_liftedE 9 = .ok (.ireturn, 1) := by decide +kernel
theorem dX0_lowPlaces_0 : decode cX0_lowPlaces 0 = .ok (.lload_n 0, 1) := by decide +kernel
theorem dX0_lowPlaces_1 : decode cX0_lowPlaces 1 = .ok (.lconst 1, 1) := by decide +kernel
theorem dX0_lowPlaces_2 : decode cX0_lowPlaces 2 = .ok (.iload_n 2, 1) := by decide +kernel
theorem dX0_lowPlaces_3 : decode cX0_lowPlaces 3 = .ok (.lshl, 1) := by decide +kernel
theorem dX0_lowPlaces_4 : decode cX0_lowPlaces 4 = .ok (.lconst 1, 1) := by decide +kernel
theorem dX0_lowPlaces_5 : decode cX0_lowPlaces 5 = .ok (.lsub, 1) := by decide +kernel
theorem dX0_lowPlaces_6 : decode cX0_lowPlaces 6 = .ok (.land, 1) := by decide +kernel
theorem dX0_lowPlaces_7 : decode cX0_lowPlaces 7 = .ok (.lreturn, 1) := by decide +kernel
theorem dX0_lower_0 : decode cX0_lower 0 = .ok (.iload_n 2, 1) := by decide +kernel
theorem dX0_lower_1 : decode cX0_lower 1 = .ok (.bipush 62, 2) := by decide +kernel
theorem dX0_lower_3 : decode cX0_lower 3 = .ok (.if_icmp .lt 15, 3) := by decide +kernel
theorem dX0_lower_6 : decode cX0_lower 6 = .ok (.lload_n 0, 1) := by decide +kernel
theorem dX0_lower_7 : decode cX0_lower 7 = .ok (.lconst 0, 1) := by decide +kernel
theorem dX0_lower_8 : decode cX0_lower 8 = .ok (.lcmp, 1) := by decide +kernel
theorem dX0_lower_9 : decode cX0_lower 9 = .ok (.ifCond .ne 7, 3) := by decide +kernel
theorem dX0_lower_12 : decode cX0_lower 12 = .ok (.lconst 0, 1) := by decide +kernel
theorem dX0_lower_13 : decode cX0_lower 13 = .ok (.goto 4, 3) := by decide +kernel
theorem dX0_lower_16 : decode cX0_lower 16 = .ok (.lconst 1, 1) := by decide +kernel
theorem dX0_lower_17 : decode cX0_lower 17 = .ok (.lreturn, 1) := by decide +kernel
theorem dX0_lower_18 : decode cX0_lower 18 = .ok (.lload_n 0, 1) := by decide +kernel
theorem dX0_lower_19 : decode cX0_lower 19 = .ok (.iload_n 2, 1) := by decide +kernel
theorem dX0_lower_20 : decode cX0_lower 20 = .ok (.invokestatic 100, 3) := by decide +kernel
theorem dX0_lower_23 : decode cX0_lower 23 = .ok (.lconst 0, 1) := by decide +kernel
theorem dX0_lower_24 : decode cX0_lower 24 = .ok (.lcmp, 1) := by decide +kernel
theorem dX0_lower_25 : decode cX0_lower 25 = .ok (.ifCond .ne 7, 3) := by decide +kernel
theorem dX0_lower_28 : decode cX0_lower 28 = .ok (.lconst 0, 1) := by decide +kernel
theorem dX0_lower_29 : decode cX0_lower 29 = .ok (.goto 4, 3) := by decide +kernel
theorem dX0_lower_32 : decode cX0_lower 32 = .ok (.lconst 1, 1) := by decide +kernel
theorem dX0_lower_33 : decode cX0_lower 33 = .ok (.lstore_n 3, 1) := by decide +kernel
theorem dX0_lower_34 : decode cX0_lower 34 = .ok (.lload_n 0, 1) := by decide +kernel
theorem dX0_lower_35 : decode cX0_lower 35 = .ok (.iload_n 2, 1) := by decide +kernel
theorem dX0_lower_36 : decode cX0_lower 36 = .ok (.lushr, 1) := by decide +kernel
theorem dX0_lower_37 : decode cX0_lower 37 = .ok (.lload_n 3, 1) := by decide +kernel
theorem dX0_lower_38 : decode cX0_lower 38 = .ok (.lor, 1) := by decide +kernel
theorem dX0_lower_39 : decode cX0_lower 39 = .ok (.lreturn, 1) := by decide +kernel
theorem dX0_nearestWhole_0 : decode cX0_nearestWhole 0 = .ok (.lload_n 0, 1) := by decide +kernel
theorem dX0_nearestWhole_1 : decode cX0_nearestWhole 1 = .ok (.iload_n 2, 1) := by decide +kernel
theorem dX0_nearestWhole_2 : decode cX0_nearestWhole 2 = .ok (.lushr, 1) := by decide +kernel
theorem dX0_nearestWhole_3 : decode cX0_nearestWhole 3 = .ok (.lstore_n 3, 1) := by decide +kernel
theorem dX0_nearestWhole_4 : decode cX0_nearestWhole 4 = .ok (.lload_n 0, 1) := by decide +kernel
theorem dX0_nearestWhole_5 : decode cX0_nearestWhole 5 = .ok (.iload_n 2, 1) := by decide +kernel
theorem dX0_nearestWhole_6 : decode cX0_nearestWhole 6 = .ok (.invokestatic 100, 3) := by decide +kernel
theorem dX0_nearestWhole_9 : decode cX0_nearestWhole 9 = .ok (.lstore 5, 2) := by decide +kernel
theorem dX0_nearestWhole_11 : decode cX0_nearestWhole 11 = .ok (.lconst 1, 1) := by decide +kernel
theorem dX0_nearestWhole_12 : decode cX0_nearestWhole 12 = .ok (.iload_n 2, 1) := by decide +kernel
theorem dX0_nearestWhole_13 : decode cX0_nearestWhole 13 = .ok (.iconst 1, 1) := by decide +kernel
theorem dX0_nearestWhole_14 : decode cX0_nearestWhole 14 = .ok (.isub, 1) := by decide +kernel
theorem dX0_nearestWhole_15 : decode cX0_nearestWhole 15 = .ok (.lshl, 1) := by decide +kernel
theorem dX0_nearestWhole_16 : decode cX0_nearestWhole 16 = .ok (.lstore 7, 2) := by decide +kernel
theorem dX0_nearestWhole_18 : decode cX0_nearestWhole 18 = .ok (.lload 5, 2) := by decide +kernel
theorem dX0_nearestWhole_20 : decode cX0_nearestWhole 20 = .ok (.lload 7, 2) := by decide +kernel
theorem dX0_nearestWhole_22 : decode cX0_nearestWhole 22 = .ok (.lcmp, 1) := by decide +kernel
theorem dX0_nearestWhole_23 : decode cX0_nearestWhole 23 = .ok (.ifCond .gt 19, 3) := by decide +kernel
theorem dX0_nearestWhole_26 : decode cX0_nearestWhole 26 = .ok (.lload 5, 2) := by decide +kernel
theorem dX0_nearestWhole_28 : decode cX0_nearestWhole 28 = .ok (.lload 7, 2) := by decide +kernel
theorem dX0_nearestWhole_30 : decode cX0_nearestWhole 30 = .ok (.lcmp, 1) := by decide +kernel
theorem dX0_nearestWhole_31 : decode cX0_nearestWhole 31 = .ok (.ifCond .ne 15, 3) := by decide +kernel
theorem dX0_nearestWhole_34 : decode cX0_nearestWhole 34 = .ok (.lload_n 3, 1) := by decide +kernel
theorem dX0_nearestWhole_35 : decode cX0_nearestWhole 35 = .ok (.lconst 1, 1) := by decide +kernel
theorem dX0_nearestWhole_36 : decode cX0_nearestWhole 36 = .ok (.land, 1) := by decide +kernel
theorem dX0_nearestWhole_37 : decode cX0_nearestWhole 37 = .ok (.lconst 1, 1) := by decide +kernel
theorem dX0_nearestWhole_38 : decode cX0_nearestWhole 38 = .ok (.lcmp, 1) := by decide +kernel
theorem dX0_nearestWhole_39 : decode cX0_nearestWhole 39 = .ok (.ifCond .ne 7, 3) := by decide +kernel
theorem dX0_nearestWhole_42 : decode cX0_nearestWhole 42 = .ok (.iconst 1, 1) := by decide +kernel
theorem dX0_nearestWhole_43 : decode cX0_nearestWhole 43 = .ok (.goto 4, 3) := by decide +kernel
theorem dX0_nearestWhole_46 : decode cX0_nearestWhole 46 = .ok (.iconst 0, 1) := by decide +kernel
theorem dX0_nearestWhole_47 : decode cX0_nearestWhole 47 = .ok (.istore 9, 2) := by decide +kernel
theorem dX0_nearestWhole_49 : decode cX0_nearestWhole 49 = .ok (.iload 9, 2) := by decide +kernel
theorem dX0_nearestWhole_51 : decode cX0_nearestWhole 51 = .ok (.ifCond .eq 9, 3) := by decide +kernel
theorem dX0_nearestWhole_54 : decode cX0_nearestWhole 54 = .ok (.lload_n 3, 1) := by decide +kernel
theorem dX0_nearestWhole_55 : decode cX0_nearestWhole 55 = .ok (.lconst 1, 1) := by decide +kernel
theorem dX0_nearestWhole_56 : decode cX0_nearestWhole 56 = .ok (.ladd, 1) := by decide +kernel
theorem dX0_nearestWhole_57 : decode cX0_nearestWhole 57 = .ok (.goto 4, 3) := by decide +kernel
theorem dX0_nearestWhole_60 : decode cX0_nearestWhole 60 = .ok (.lload_n 3, 1) := by decide +kernel
theorem dX0_nearestWhole_61 : decode cX0_nearestWhole 61 = .ok (.lreturn, 1) := by decide +kernel
theorem dX0_nearest_0 : decode cX0_nearest 0 = .ok (.lload_n 0, 1) := by decide +kernel
theorem dX0_nearest_1 : decode cX0_nearest 1 = .ok (.lconst 0, 1) := by decide +kernel
theorem dX0_nearest_2 : decode cX0_nearest 2 = .ok (.lcmp, 1) := by decide +kernel
theorem dX0_nearest_3 : decode cX0_nearest 3 = .ok (.ifCond .ne 5, 3) := by decide +kernel
theorem dX0_nearest_6 : decode cX0_nearest 6 = .ok (.lconst 0, 1) := by decide +kernel
theorem dX0_nearest_7 : decode cX0_nearest 7 = .ok (.lreturn, 1) := by decide +kernel
theorem dX0_nearest_8 : decode cX0_nearest 8 = .ok (.bipush 64, 2) := by decide +kernel
theorem dX0_nearest_10 : decode cX0_nearest 10 = .ok (.lload_n 0, 1) := by decide +kernel
theorem dX0_nearest_11 : decode cX0_nearest 11 = .ok (.invokestatic 146, 3) := by decide +kernel
theorem dX0_nearest_14 : decode cX0_nearest 14 = .ok (.isub, 1) := by decide +kernel
theorem dX0_nearest_15 : decode cX0_nearest 15 = .ok (.istore_n 3, 1) := by decide +kernel
theorem dX0_nearest_16 : decode cX0_nearest 16 = .ok (.iload_n 3, 1) := by decide +kernel
theorem dX0_nearest_17 : decode cX0_nearest 17 = .ok (.bipush 53, 2) := by decide +kernel
theorem dX0_nearest_19 : decode cX0_nearest 19 = .ok (.isub, 1) := by decide +kernel
theorem dX0_nearest_20 : decode cX0_nearest 20 = .ok (.sipush (-1074), 3) := by decide +kernel
theorem dX0_nearest_23 : decode cX0_nearest 23 = .ok (.iload_n 2, 1) := by decide +kernel
theorem dX0_nearest_24 : decode cX0_nearest 24 = .ok (.isub, 1) := by decide +kernel
theorem dX0_nearest_25 : decode cX0_nearest 25 = .ok (.invokestatic 151, 3) := by decide +kernel
theorem dX0_nearest_28 : decode cX0_nearest 28 = .ok (.istore 4, 2) := by decide +kernel
theorem dX0_nearest_30 : decode cX0_nearest 30 = .ok (.iload 4, 2) := by decide +kernel
theorem dX0_nearest_32 : decode cX0_nearest 32 = .ok (.bipush 63, 2) := by decide +kernel
theorem dX0_nearest_34 : decode cX0_nearest 34 = .ok (.if_icmp .le 5, 3) := by decide +kernel
theorem dX0_nearest_37 : decode cX0_nearest 37 = .ok (.lconst 0, 1) := by decide +kernel
theorem dX0_nearest_38 : decode cX0_nearest 38 = .ok (.lreturn, 1) := by decide +kernel
theorem dX0_nearest_39 : decode cX0_nearest 39 = .ok (.iload_n 2, 1) := by decide +kernel
theorem dX0_nearest_40 : decode cX0_nearest 40 = .ok (.iload 4, 2) := by decide +kernel
theorem dX0_nearest_42 : decode cX0_nearest 42 = .ok (.iadd, 1) := by decide +kernel
theorem dX0_nearest_43 : decode cX0_nearest 43 = .ok (.istore 5, 2) := by decide +kernel
theorem dX0_nearest_45 : decode cX0_nearest 45 = .ok (.iload 5, 2) := by decide +kernel
theorem dX0_nearest_47 : decode cX0_nearest 47 = .ok (.sipush 971, 3) := by decide +kernel
theorem dX0_nearest_50 : decode cX0_nearest 50 = .ok (.if_icmp .le 7, 3) := by decide +kernel
theorem dX0_nearest_53 : decode cX0_nearest 53 = .ok (.ldc2_w 140, 3) := by decide +kernel
theorem dX0_nearest_56 : decode cX0_nearest 56 = .ok (.lreturn, 1) := by decide +kernel
theorem dX0_nearest_57 : decode cX0_nearest 57 = .ok (.iload 4, 2) := by decide +kernel
theorem dX0_nearest_59 : decode cX0_nearest 59 = .ok (.ifCond .le 12, 3) := by decide +kernel
theorem dX0_nearest_62 : decode cX0_nearest 62 = .ok (.lload_n 0, 1) := by decide +kernel
theorem dX0_nearest_63 : decode cX0_nearest 63 = .ok (.iload 4, 2) := by decide +kernel
theorem dX0_nearest_65 : decode cX0_nearest 65 = .ok (.invokestatic 156, 3) := by decide +kernel
theorem dX0_nearest_68 : decode cX0_nearest 68 = .ok (.goto 8, 3) := by decide +kernel
theorem dX0_nearest_71 : decode cX0_nearest 71 = .ok (.lload_n 0, 1) := by decide +kernel
theorem dX0_nearest_72 : decode cX0_nearest 72 = .ok (.iload 4, 2) := by decide +kernel
theorem dX0_nearest_74 : decode cX0_nearest 74 = .ok (.ineg, 1) := by decide +kernel
theorem dX0_nearest_75 : decode cX0_nearest 75 = .ok (.lshl, 1) := by decide +kernel
theorem dX0_nearest_76 : decode cX0_nearest 76 = .ok (.lstore 6, 2) := by decide +kernel
theorem dX0_nearest_78 : decode cX0_nearest 78 = .ok (.iload 5, 2) := by decide +kernel
theorem dX0_nearest_80 : decode cX0_nearest 80 = .ok (.sipush (-1074), 3) := by decide +kernel
theorem dX0_nearest_83 : decode cX0_nearest 83 = .ok (.isub, 1) := by decide +kernel
theorem dX0_nearest_84 : decode cX0_nearest 84 = .ok (.i2l, 1) := by decide +kernel
theorem dX0_nearest_85 : decode cX0_nearest 85 = .ok (.bipush 52, 2) := by decide +kernel
theorem dX0_nearest_87 : decode cX0_nearest 87 = .ok (.lshl, 1) := by decide +kernel
theorem dX0_nearest_88 : decode cX0_nearest 88 = .ok (.lload 6, 2) := by decide +kernel
theorem dX0_nearest_90 : decode cX0_nearest 90 = .ok (.ladd, 1) := by decide +kernel
theorem dX0_nearest_91 : decode cX0_nearest 91 = .ok (.lreturn, 1) := by decide +kernel
theorem dX0_greatInSize_0 : decode cX0_greatInSize 0 = .ok (.lload_n 0, 1) := by decide +kernel
theorem dX0_greatInSize_1 : decode cX0_greatInSize 1 = .ok (.invokestatic 30, 3) := by decide +kernel
theorem dX0_greatInSize_4 : decode cX0_greatInSize 4 = .ok (.lload_n 2, 1) := by decide +kernel
theorem dX0_greatInSize_5 : decode cX0_greatInSize 5 = .ok (.invokestatic 30, 3) := by decide +kernel
theorem dX0_greatInSize_8 : decode cX0_greatInSize 8 = .ok (.lcmp, 1) := by decide +kernel
theorem dX0_greatInSize_9 : decode cX0_greatInSize 9 = .ok (.ifCond .lt 7, 3) := by decide +kernel
theorem dX0_greatInSize_12 : decode cX0_greatInSize 12 = .ok (.lload_n 0, 1) := by decide +kernel
theorem dX0_greatInSize_13 : decode cX0_greatInSize 13 = .ok (.goto 4, 3) := by decide +kernel
theorem dX0_greatInSize_16 : decode cX0_greatInSize 16 = .ok (.lload_n 2, 1) := by decide +kernel
theorem dX0_greatInSize_17 : decode cX0_greatInSize 17 = .ok (.lreturn, 1) := by decide +kernel
theorem dX0_smallInSize_0 : decode cX0_smallInSize 0 = .ok (.lload_n 0, 1) := by decide +kernel
theorem dX0_smallInSize_1 : decode cX0_smallInSize 1 = .ok (.invokestatic 30, 3) := by decide +kernel
theorem dX0_smallInSize_4 : decode cX0_smallInSize 4 = .ok (.lload_n 2, 1) := by decide +kernel
theorem dX0_smallInSize_5 : decode cX0_smallInSize 5 = .ok (.invokestatic 30, 3) := by decide +kernel
theorem dX0_smallInSize_8 : decode cX0_smallInSize 8 = .ok (.lcmp, 1) := by decide +kernel
theorem dX0_smallInSize_9 : decode cX0_smallInSize 9 = .ok (.ifCond .lt 7, 3) := by decide +kernel
theorem dX0_smallInSize_12 : decode cX0_smallInSize 12 = .ok (.lload_n 2, 1) := by decide +kernel
theorem dX0_smallInSize_13 : decode cX0_smallInSize 13 = .ok (.goto 4, 3) := by decide +kernel
theorem dX0_smallInSize_16 : decode cX0_smallInSize 16 = .ok (.lload_n 0, 1) := by decide +kernel
theorem dX0_smallInSize_17 : decode cX0_smallInSize 17 = .ok (.lreturn, 1) := by decide +kernel
theorem dX0_sum_0 : decode cX0_sum 0 = .ok (.lload_n 0, 1) := by decide +kernel
theorem dX0_sum_1 : decode cX0_sum 1 = .ok (.lload_n 2, 1) := by decide +kernel
theorem dX0_sum_2 : decode cX0_sum 2 = .ok (.invokestatic 159, 3) := by decide +kernel
theorem dX0_sum_5 : decode cX0_sum 5 = .ok (.lstore 4, 2) := by decide +kernel
theorem dX0_sum_7 : decode cX0_sum 7 = .ok (.lload_n 0, 1) := by decide +kernel
theorem dX0_sum_8 : decode cX0_sum 8 = .ok (.lload_n 2, 1) := by decide +kernel
theorem dX0_sum_9 : decode cX0_sum 9 = .ok (.invokestatic 162, 3) := by decide +kernel
theorem dX0_sum_12 : decode cX0_sum 12 = .ok (.lstore 6, 2) := by decide +kernel
theorem dX0_sum_14 : decode cX0_sum 14 = .ok (.lload 4, 2) := by decide +kernel
theorem dX0_sum_16 : decode cX0_sum 16 = .ok (.invokestatic 79, 3) := by decide +kernel
theorem dX0_sum_19 : decode cX0_sum 19 = .ok (.lload 6, 2) := by decide +kernel
theorem dX0_sum_21 : decode cX0_sum 21 = .ok (.invokestatic 79, 3) := by decide +kernel
theorem dX0_sum_24 : decode cX0_sum 24 = .ok (.isub, 1) := by decide +kernel
theorem dX0_sum_25 : decode cX0_sum 25 = .ok (.istore 8, 2) := by decide +kernel
theorem dX0_sum_27 : decode cX0_sum 27 = .ok (.iload 8, 2) := by decide +kernel
theorem dX0_sum_29 : decode cX0_sum 29 = .ok (.bipush 9, 2) := by decide +kernel
theorem dX0_sum_31 : decode cX0_sum 31 = .ok (.invokestatic 96, 3) := by decide +kernel
theorem dX0_sum_34 : decode cX0_sum 34 = .ok (.istore 9, 2) := by decide +kernel
theorem dX0_sum_36 : decode cX0_sum 36 = .ok (.lload 4, 2) := by decide +kernel
theorem dX0_sum_38 : decode cX0_sum 38 = .ok (.invokestatic 76, 3) := by decide +kernel
theorem dX0_sum_41 : decode cX0_sum 41 = .ok (.iload 9, 2) := by decide +kernel
theorem dX0_sum_43 : decode cX0_sum 43 = .ok (.lshl, 1) := by decide +kernel
theorem dX0_sum_44 : decode cX0_sum 44 = .ok (.lstore 10, 2) := by decide +kernel
theorem dX0_sum_46 : decode cX0_sum 46 = .ok (.lload 6, 2) := by decide +kernel
theorem dX0_sum_48 : decode cX0_sum 48 = .ok (.invokestatic 76, 3) := by decide +kernel
theorem dX0_sum_51 : decode cX0_sum 51 = .ok (.iload 8, 2) := by decide +kernel
theorem dX0_sum_53 : decode cX0_sum 53 = .ok (.iload 9, 2) := by decide +kernel
theorem dX0_sum_55 : decode cX0_sum 55 = .ok (.isub, 1) := by decide +kernel
theorem dX0_sum_56 : decode cX0_sum 56 = .ok (.invokestatic 165, 3) := by decide +kernel
theorem dX0_sum_59 : decode cX0_sum 59 = .ok (.lstore 12, 2) := by decide +kernel
theorem dX0_sum_61 : decode cX0_sum 61 = .ok (.lload 4, 2) := by decide +kernel
theorem dX0_sum_63 : decode cX0_sum 63 = .ok (.lconst 0, 1) := by decide +kernel
theorem dX0_sum_64 : decode cX0_sum 64 = .ok (.lcmp, 1) := by decide +kernel
theorem dX0_sum_65 : decode cX0_sum 65 = .ok (.ifCond .ge 7, 3) := by decide +kernel
theorem dX0_sum_68 : decode cX0_sum 68 = .ok (.iconst 1, 1) := by decide +kernel
theorem dX0_sum_69 : decode cX0_sum 69 = .ok (.goto 4, 3) := by decide +kernel
theorem dX0_sum_72 : decode cX0_sum 72 = .ok (.iconst 0, 1) := by decide +kernel
theorem dX0_sum_73 : decode cX0_sum 73 = .ok (.lload 6, 2) := by decide +kernel
theorem dX0_sum_75 : decode cX0_sum 75 = .ok (.lconst 0, 1) := by decide +kernel
theorem dX0_sum_76 : decode cX0_sum 76 = .ok (.lcmp, 1) := by decide +kernel
theorem dX0_sum_77 : decode cX0_sum 77 = .ok (.ifCond .ge 7, 3) := by decide +kernel
theorem dX0_sum_80 : decode cX0_sum 80 = .ok (.iconst 1, 1) := by decide +kernel
theorem dX0_sum_81 : decode cX0_sum 81 = .ok (.goto 4, 3) := by decide +kernel
theorem dX0_sum_84 : decode cX0_sum 84 = .ok (.iconst 0, 1) := by decide +kernel
theorem dX0_sum_85 : decode cX0_sum 85 = .ok (.if_icmp .ne 7, 3) := by decide +kernel
theorem dX0_sum_88 : decode cX0_sum 88 = .ok (.iconst 1, 1) := by decide +kernel
theorem dX0_sum_89 : decode cX0_sum 89 = .ok (.goto 4, 3) := by decide +kernel
theorem dX0_sum_92 : decode cX0_sum 92 = .ok (.iconst 0, 1) := by decide +kernel
theorem dX0_sum_93 : decode cX0_sum 93 = .ok (.istore 14, 2) := by decide +kernel
theorem dX0_sum_95 : decode cX0_sum 95 = .ok (.iload 14, 2) := by decide +kernel
theorem dX0_sum_97 : decode cX0_sum 97 = .ok (.ifCond .eq 11, 3) := by decide +kernel
theorem dX0_sum_100 : decode cX0_sum 100 = .ok (.lload 10, 2) := by decide +kernel
theorem dX0_sum_102 : decode cX0_sum 102 = .ok (.lload 12, 2) := by decide +kernel
theorem dX0_sum_104 : decode cX0_sum 104 = .ok (.ladd, 1) := by decide +kernel
theorem dX0_sum_105 : decode cX0_sum 105 = .ok (.goto 8, 3) := by decide +kernel
theorem dX0_sum_108 : decode cX0_sum 108 = .ok (.lload 10, 2) := by decide +kernel
theorem dX0_sum_110 : decode cX0_sum 110 = .ok (.lload 12, 2) := by decide +kernel
theorem dX0_sum_112 : decode cX0_sum 112 = .ok (.lsub, 1) := by decide +kernel
theorem dX0_sum_113 : decode cX0_sum 113 = .ok (.lstore 15, 2) := by decide +kernel
theorem dX0_sum_115 : decode cX0_sum 115 = .ok (.lload 15, 2) := by decide +kernel
theorem dX0_sum_117 : decode cX0_sum 117 = .ok (.lload 4, 2) := by decide +kernel
theorem dX0_sum_119 : decode cX0_sum 119 = .ok (.invokestatic 79, 3) := by decide +kernel
theorem dX0_sum_122 : decode cX0_sum 122 = .ok (.iload 9, 2) := by decide +kernel
theorem dX0_sum_124 : decode cX0_sum 124 = .ok (.isub, 1) := by decide +kernel
theorem dX0_sum_125 : decode cX0_sum 125 = .ok (.invokestatic 36, 3) := by decide +kernel
theorem dX0_sum_128 : decode cX0_sum 128 = .ok (.lload 4, 2) := by decide +kernel
theorem dX0_sum_130 : decode cX0_sum 130 = .ok (.invokestatic 40, 3) := by decide +kernel
theorem dX0_sum_133 : decode cX0_sum 133 = .ok (.lreturn, 1) := by decide +kernel
theorem dX0_sumError_0 : decode cX0_sumError 0 = .ok (.lload_n 0, 1) := by decide +kernel
theorem dX0_sumError_1 : decode cX0_sumError 1 = .ok (.lload_n 2, 1) := by decide +kernel
theorem dX0_sumError_2 : decode cX0_sumError 2 = .ok (.invokestatic 159, 3) := by decide +kernel
theorem dX0_sumError_5 : decode cX0_sumError 5 = .ok (.lstore 4, 2) := by decide +kernel
theorem dX0_sumError_7 : decode cX0_sumError 7 = .ok (.lload_n 0, 1) := by decide +kernel
theorem dX0_sumError_8 : decode cX0_sumError 8 = .ok (.lload_n 2, 1) := by decide +kernel
theorem dX0_sumError_9 : decode cX0_sumError 9 = .ok (.invokestatic 162, 3) := by decide +kernel
theorem dX0_sumError_12 : decode cX0_sumError 12 = .ok (.lstore 6, 2) := by decide +kernel
theorem dX0_sumError_14 : decode cX0_sumError 14 = .ok (.lload 4, 2) := by decide +kernel
theorem dX0_sumError_16 : decode cX0_sumError 16 = .ok (.lload 6, 2) := by decide +kernel
theorem dX0_sumError_18 : decode cX0_sumError 18 = .ok (.invokestatic 109, 3) := by decide +kernel
theorem dX0_sumError_21 : decode cX0_sumError 21 = .ok (.lstore 8, 2) := by decide +kernel
theorem dX0_sumError_23 : decode cX0_sumError 23 = .ok (.lload 8, 2) := by decide +kernel
theorem dX0_sumError_25 : decode cX0_sumError 25 = .ok (.invokestatic 67, 3) := by decide +kernel
theorem dX0_sumError_28 : decode cX0_sumError 28 = .ok (.ifCond .eq 6, 3) := by decide +kernel
theorem dX0_sumError_31 : decode cX0_sumError 31 = .ok (.lload 8, 2) := by decide +kernel
theorem dX0_sumError_33 : decode cX0_sumError 33 = .ok (.lreturn, 1) := by decide +kernel
theorem dX0_sumError_34 : decode cX0_sumError 34 = .ok (.lload 6, 2) := by decide +kernel
theorem dX0_sumError_36 : decode cX0_sumError 36 = .ok (.lload 8, 2) := by decide +kernel
theorem dX0_sumError_38 : decode cX0_sumError 38 = .ok (.lload 4, 2) := by decide +kernel
theorem dX0_sumError_40 : decode cX0_sumError 40 = .ok (.lneg, 1) := by decide +kernel
theorem dX0_sumError_41 : decode cX0_sumError 41 = .ok (.invokestatic 109, 3) := by decide +kernel
theorem dX0_sumError_44 : decode cX0_sumError 44 = .ok (.lneg, 1) := by decide +kernel
theorem dX0_sumError_45 : decode cX0_sumError 45 = .ok (.invokestatic 109, 3) := by decide +kernel
theorem dX0_sumError_48 : decode cX0_sumError 48 = .ok (.lreturn, 1) := by decide +kernel
theorem dX0_product_0 : decode cX0_product 0 = .ok (.lload_n 0, 1) := by decide +kernel
theorem dX0_product_1 : decode cX0_product 1 = .ok (.lconst 0, 1) := by decide +kernel
theorem dX0_product_2 : decode cX0_product 2 = .ok (.lcmp, 1) := by decide +kernel
theorem dX0_product_3 : decode cX0_product 3 = .ok (.ifCond .eq 9, 3) := by decide +kernel
theorem dX0_product_6 : decode cX0_product 6 = .ok (.lload_n 2, 1) := by decide +kernel
theorem dX0_product_7 : decode cX0_product 7 = .ok (.lconst 0, 1) := by decide +kernel
theorem dX0_product_8 : decode cX0_product 8 = .ok (.lcmp, 1) := by decide +kernel
theorem dX0_product_9 : decode cX0_product 9 = .ok (.ifCond .ne 5, 3) := by decide +kernel
theorem dX0_product_12 : decode cX0_product 12 = .ok (.lconst 0, 1) := by decide +kernel
theorem dX0_product_13 : decode cX0_product 13 = .ok (.lreturn, 1) := by decide +kernel
theorem dX0_product_14 : decode cX0_product 14 = .ok (.lload_n 0, 1) := by decide +kernel
theorem dX0_product_15 : decode cX0_product 15 = .ok (.invokestatic 168, 3) := by decide +kernel
theorem dX0_product_18 : decode cX0_product 18 = .ok (.lload_n 2, 1) := by decide +kernel
theorem dX0_product_19 : decode cX0_product 19 = .ok (.invokestatic 168, 3) := by decide +kernel
theorem dX0_product_22 : decode cX0_product 22 = .ok (.iadd, 1) := by decide +kernel
theorem dX0_product_23 : decode cX0_product 23 = .ok (.bipush 45, 2) := by decide +kernel
theorem dX0_product_25 : decode cX0_product 25 = .ok (.iadd, 1) := by decide +kernel
theorem dX0_product_26 : decode cX0_product 26 = .ok (.istore 4, 2) := by decide +kernel
theorem dX0_product_28 : decode cX0_product 28 = .ok (.lload_n 0, 1) := by decide +kernel
theorem dX0_product_29 : decode cX0_product 29 = .ok (.invokestatic 171, 3) := by decide +kernel
theorem dX0_product_32 : decode cX0_product 32 = .ok (.lload_n 2, 1) := by decide +kernel
theorem dX0_product_33 : decode cX0_product 33 = .ok (.invokestatic 171, 3) := by decide +kernel
theorem dX0_product_36 : decode cX0_product 36 = .ok (.invokestatic 174, 3) := by decide +kernel
theorem dX0_product_39 : decode cX0_product 39 = .ok (.iload 4, 2) := by decide +kernel
theorem dX0_product_41 : decode cX0_product 41 = .ok (.invokestatic 36, 3) := by decide +kernel
theorem dX0_product_44 : decode cX0_product 44 = .ok (.lload_n 0, 1) := by decide +kernel
theorem dX0_product_45 : decode cX0_product 45 = .ok (.lload_n 2, 1) := by decide +kernel
theorem dX0_product_46 : decode cX0_product 46 = .ok (.lxor, 1) := by decide +kernel
theorem dX0_product_47 : decode cX0_product 47 = .ok (.invokestatic 40, 3) := by decide +kernel
theorem dX0_product_50 : decode cX0_product 50 = .ok (.lreturn, 1) := by decide +kernel
theorem dX0_topOfProduct_0 : decode cX0_topOfProduct 0 = .ok (.lload_n 0, 1) := by decide +kernel
theorem dX0_topOfProduct_1 : decode cX0_topOfProduct 1 = .ok (.bipush 27, 2) := by decide +kernel
theorem dX0_topOfProduct_3 : decode cX0_topOfProduct 3 = .ok (.lushr, 1) := by decide +kernel
theorem dX0_topOfProduct_4 : decode cX0_topOfProduct 4 = .ok (.lstore 4, 2) := by decide +kernel
theorem dX0_topOfProduct_6 : decode cX0_topOfProduct 6 = .ok (.lload_n 0, 1) := by decide +kernel
theorem dX0_topOfProduct_7 : decode cX0_topOfProduct 7 = .ok (.bipush 27, 2) := by decide +kernel
theorem dX0_topOfProduct_9 : decode cX0_topOfProduct 9 = .ok (.invokestatic 100, 3) := by decide +kernel
theorem dX0_topOfProduct_12 : decode cX0_topOfProduct 12 = .ok (.lstore 6, 2) := by decide +kernel
theorem dX0_topOfProduct_14 : decode cX0_topOfProduct 14 = .ok (.lload_n 2, 1) := by decide +kernel
theorem dX0_topOfProduct_15 : decode cX0_topOfProduct 15 = .ok (.bipush 27, 2) := by decide +kernel
theorem dX0_topOfProduct_17 : decode cX0_topOfProduct 17 = .ok (.lushr, 1) := by decide +kernel
theorem dX0_topOfProduct_18 : decode cX0_topOfProduct 18 = .ok (.lstore 8, 2) := by decide +kernel
theorem dX0_topOfProduct_20 : decode cX0_topOfProduct 20 = .ok (.lload_n 2, 1) := by decide +kernel
theorem dX0_topOfProduct_21 : decode cX0_topOfProduct 21 = .ok (.bipush 27, 2) := by decide +kernel
theorem dX0_topOfProduct_23 : decode cX0_topOfProduct 23 = .ok (.invokestatic 100, 3) := by decide +kernel
theorem dX0_topOfProduct_26 : decode cX0_topOfProduct 26 = .ok (.lstore 10, 2) := by decide +kernel
theorem dX0_topOfProduct_28 : decode cX0_topOfProduct 28 = .ok (.lload 4, 2) := by decide +kernel
theorem dX0_topOfProduct_30 : decode cX0_topOfProduct 30 = .ok (.lload 10, 2) := by decide +kernel
theorem dX0_topOfProduct_32 : decode cX0_topOfProduct 32 = .ok (.lmul, 1) := by decide +kernel
theorem dX0_topOfProduct_33 : decode cX0_topOfProduct 33 = .ok (.lload 6, 2) := by decide +kernel
theorem dX0_topOfProduct_35 : decode cX0_topOfProduct 35 = .ok (.lload 8, 2) := by decide +kernel
theorem dX0_topOfProduct_37 : decode cX0_topOfProduct 37 = .ok (.lmul, 1) := by decide +kernel
theorem dX0_topOfProduct_38 : decode cX0_topOfProduct 38 = .ok (.ladd, 1) := by decide +kernel
theorem dX0_topOfProduct_39 : decode cX0_topOfProduct 39 = .ok (.lstore 12, 2) := by decide +kernel
theorem dX0_topOfProduct_41 : decode cX0_topOfProduct 41 = .ok (.lload 6, 2) := by decide +kernel
theorem dX0_topOfProduct_43 : decode cX0_topOfProduct 43 = .ok (.lload 10, 2) := by decide +kernel
theorem dX0_topOfProduct_45 : decode cX0_topOfProduct 45 = .ok (.lmul, 1) := by decide +kernel
theorem dX0_topOfProduct_46 : decode cX0_topOfProduct 46 = .ok (.lload 12, 2) := by decide +kernel
theorem dX0_topOfProduct_48 : decode cX0_topOfProduct 48 = .ok (.bipush 27, 2) := by decide +kernel
theorem dX0_topOfProduct_50 : decode cX0_topOfProduct 50 = .ok (.invokestatic 100, 3) := by decide +kernel
theorem dX0_topOfProduct_53 : decode cX0_topOfProduct 53 = .ok (.bipush 27, 2) := by decide +kernel
theorem dX0_topOfProduct_55 : decode cX0_topOfProduct 55 = .ok (.lshl, 1) := by decide +kernel
theorem dX0_topOfProduct_56 : decode cX0_topOfProduct 56 = .ok (.ladd, 1) := by decide +kernel
theorem dX0_topOfProduct_57 : decode cX0_topOfProduct 57 = .ok (.lstore 14, 2) := by decide +kernel
theorem dX0_topOfProduct_59 : decode cX0_topOfProduct 59 = .ok (.lload 4, 2) := by decide +kernel
theorem dX0_topOfProduct_61 : decode cX0_topOfProduct 61 = .ok (.lload 8, 2) := by decide +kernel
theorem dX0_topOfProduct_63 : decode cX0_topOfProduct 63 = .ok (.lmul, 1) := by decide +kernel
theorem dX0_topOfProduct_64 : decode cX0_topOfProduct 64 = .ok (.lload 12, 2) := by decide +kernel
theorem dX0_topOfProduct_66 : decode cX0_topOfProduct 66 = .ok (.bipush 27, 2) := by decide +kernel
theorem dX0_topOfProduct_68 : decode cX0_topOfProduct 68 = .ok (.lushr, 1) := by decide +kernel
theorem dX0_topOfProduct_69 : decode cX0_topOfProduct 69 = .ok (.ladd, 1) := by decide +kernel
theorem dX0_topOfProduct_70 : decode cX0_topOfProduct 70 = .ok (.lload 14, 2) := by decide +kernel
theorem dX0_topOfProduct_72 : decode cX0_topOfProduct 72 = .ok (.bipush 54, 2) := by decide +kernel
theorem dX0_topOfProduct_74 : decode cX0_topOfProduct 74 = .ok (.lushr, 1) := by decide +kernel
theorem dX0_topOfProduct_75 : decode cX0_topOfProduct 75 = .ok (.ladd, 1) := by decide +kernel
theorem dX0_topOfProduct_76 : decode cX0_topOfProduct 76 = .ok (.lstore 16, 2) := by decide +kernel
theorem dX0_topOfProduct_78 : decode cX0_topOfProduct 78 = .ok (.lload 14, 2) := by decide +kernel
theorem dX0_topOfProduct_80 : decode cX0_topOfProduct 80 = .ok (.bipush 54, 2) := by decide +kernel
theorem dX0_topOfProduct_82 : decode cX0_topOfProduct 82 = .ok (.invokestatic 100, 3) := by decide +kernel
theorem dX0_topOfProduct_85 : decode cX0_topOfProduct 85 = .ok (.lstore 18, 2) := by decide +kernel
theorem dX0_topOfProduct_87 : decode cX0_topOfProduct 87 = .ok (.lload 16, 2) := by decide +kernel
theorem dX0_topOfProduct_89 : decode cX0_topOfProduct 89 = .ok (.bipush 9, 2) := by decide +kernel
theorem dX0_topOfProduct_91 : decode cX0_topOfProduct 91 = .ok (.lshl, 1) := by decide +kernel
theorem dX0_topOfProduct_92 : decode cX0_topOfProduct 92 = .ok (.lload 18, 2) := by decide +kernel
theorem dX0_topOfProduct_94 : decode cX0_topOfProduct 94 = .ok (.bipush 45, 2) := by decide +kernel
theorem dX0_topOfProduct_96 : decode cX0_topOfProduct 96 = .ok (.invokestatic 165, 3) := by decide +kernel
theorem dX0_topOfProduct_99 : decode cX0_topOfProduct 99 = .ok (.lor, 1) := by decide +kernel
theorem dX0_topOfProduct_100 : decode cX0_topOfProduct 100 = .ok (.lreturn, 1) := by decide +kernel
theorem dX0_isSmallProduct_0 : decode cX0_isSmallProduct 0 = .ok (.lload_n 0, 1) := by decide +kernel
theorem dX0_isSmallProduct_1 : decode cX0_isSmallProduct 1 = .ok (.lconst 0, 1) := by decide +kernel
theorem dX0_isSmallProduct_2 : decode cX0_isSmallProduct 2 = .ok (.lcmp, 1) := by decide +kernel
theorem dX0_isSmallProduct_3 : decode cX0_isSmallProduct 3 = .ok (.ifCond .eq 9, 3) := by decide +kernel
theorem dX0_isSmallProduct_6 : decode cX0_isSmallProduct 6 = .ok (.lload_n 2, 1) := by decide +kernel
theorem dX0_isSmallProduct_7 : decode cX0_isSmallProduct 7 = .ok (.lconst 0, 1) := by decide +kernel
theorem dX0_isSmallProduct_8 : decode cX0_isSmallProduct 8 = .ok (.lcmp, 1) := by decide +kernel
theorem dX0_isSmallProduct_9 : decode cX0_isSmallProduct 9 = .ok (.ifCond .ne 5, 3) := by decide +kernel
theorem dX0_isSmallProduct_12 : decode cX0_isSmallProduct 12 = .ok (.iconst 0, 1) := by decide +kernel
theorem dX0_isSmallProduct_13 : decode cX0_isSmallProduct 13 = .ok (.ireturn, 1) := by decide +kernel
theorem dX0_isSmallProduct_14 : decode cX0_isSmallProduct 14 = .ok (.lload_n 0, 1) := by decide +kernel
theorem dX0_isSmallProduct_15 : decode cX0_isSmallProduct 15 = .ok (.invokestatic 171, 3) := by decide +kernel
theorem dX0_isSmallProduct_18 : decode cX0_isSmallProduct 18 = .ok (.lload_n 2, 1) := by decide +kernel
theorem dX0_isSmallProduct_19 : decode cX0_isSmallProduct 19 = .ok (.invokestatic 171, 3) := by decide +kernel
theorem dX0_isSmallProduct_22 : decode cX0_isSmallProduct 22 = .ok (.invokestatic 174, 3) := by decide +kernel
theorem dX0_isSmallProduct_25 : decode cX0_isSmallProduct 25 = .ok (.lstore 4, 2) := by decide +kernel
theorem dX0_isSmallProduct_27 : decode cX0_isSmallProduct 27 = .ok (.bipush 63, 2) := by decide +kernel
theorem dX0_isSmallProduct_29 : decode cX0_isSmallProduct 29 = .ok (.lload 4, 2) := by decide +kernel
theorem dX0_isSmallProduct_31 : decode cX0_isSmallProduct 31 = .ok (.invokestatic 146, 3) := by decide +kernel
theorem dX0_isSmallProduct_34 : decode cX0_isSmallProduct 34 = .ok (.isub, 1) := by decide +kernel
theorem dX0_isSmallProduct_35 : decode cX0_isSmallProduct 35 = .ok (.istore 6, 2) := by decide +kernel
theorem dX0_isSmallProduct_37 : decode cX0_isSmallProduct 37 = .ok (.iload 6, 2) := by decide +kernel
theorem dX0_isSmallProduct_39 : decode cX0_isSmallProduct 39 = .ok (.bipush 45, 2) := by decide +kernel
theorem dX0_isSmallProduct_41 : decode cX0_isSmallProduct 41 = .ok (.iadd, 1) := by decide +kernel
theorem dX0_isSmallProduct_42 : decode cX0_isSmallProduct 42 = .ok (.lload_n 0, 1) := by decide +kernel
theorem dX0_isSmallProduct_43 : decode cX0_isSmallProduct 43 = .ok (.invokestatic 168, 3) := by decide +kernel
theorem dX0_isSmallProduct_46 : decode cX0_isSmallProduct 46 = .ok (.iadd, 1) := by decide +kernel
theorem dX0_isSmallProduct_47 : decode cX0_isSmallProduct 47 = .ok (.lload_n 2, 1) := by decide +kernel
theorem dX0_isSmallProduct_48 : decode cX0_isSmallProduct 48 = .ok (.invokestatic 168, 3) := by decide +kernel
theorem dX0_isSmallProduct_51 : decode cX0_isSmallProduct 51 = .ok (.iadd, 1) := by decide +kernel
theorem dX0_isSmallProduct_52 : decode cX0_isSmallProduct 52 = .ok (.sipush (-960), 3) := by decide +kernel
theorem dX0_isSmallProduct_55 : decode cX0_isSmallProduct 55 = .ok (.if_icmp .ge 7, 3) := by decide +kernel
theorem dX0_isSmallProduct_58 : decode cX0_isSmallProduct 58 = .ok (.iconst 1, 1) := by decide +kernel
theorem dX0_isSmallProduct_59 : decode cX0_isSmallProduct 59 = .ok (.goto 4, 3) := by decide +kernel
theorem dX0_isSmallProduct_62 : decode cX0_isSmallProduct 62 = .ok (.iconst 0, 1) := by decide +kernel
theorem dX0_isSmallProduct_63 : decode cX0_isSmallProduct 63 = .ok (.ireturn, 1) := by decide +kernel
theorem dX0_productError_0 : decode cX0_productError 0 = .ok (.lload_n 0, 1) := by decide +kernel
theorem dX0_productError_1 : decode cX0_productError 1 = .ok (.lload_n 2, 1) := by decide +kernel
theorem dX0_productError_2 : decode cX0_productError 2 = .ok (.invokestatic 112, 3) := by decide +kernel
theorem dX0_productError_5 : decode cX0_productError 5 = .ok (.lstore 4, 2) := by decide +kernel
theorem dX0_productError_7 : decode cX0_productError 7 = .ok (.lload 4, 2) := by decide +kernel
theorem dX0_productError_9 : decode cX0_productError 9 = .ok (.lconst 0, 1) := by decide +kernel
theorem dX0_productError_10 : decode cX0_productError 10 = .ok (.lcmp, 1) := by decide +kernel
theorem dX0_productError_11 : decode cX0_productError 11 = .ok (.ifCond .eq 11, 3) := by decide +kernel
theorem dX0_productError_14 : decode cX0_productError 14 = .ok (.lload 4, 2) := by decide +kernel
theorem dX0_productError_16 : decode cX0_productError 16 = .ok (.invokestatic 67, 3) := by decide +kernel
theorem dX0_productError_19 : decode cX0_productError 19 = .ok (.ifCond .eq 6, 3) := by decide +kernel
theorem dX0_productError_22 : decode cX0_productError 22 = .ok (.lload 4, 2) := by decide +kernel
theorem dX0_productError_24 : decode cX0_productError 24 = .ok (.lreturn, 1) := by decide +kernel
theorem dX0_productError_25 : decode cX0_productError 25 = .ok (.lload_n 0, 1) := by decide +kernel
theorem dX0_productError_26 : decode cX0_productError 26 = .ok (.invokestatic 168, 3) := by decide +kernel
theorem dX0_productError_29 : decode cX0_productError 29 = .ok (.lload_n 2, 1) := by decide +kernel
theorem dX0_productError_30 : decode cX0_productError 30 = .ok (.invokestatic 168, 3) := by decide +kernel
theorem dX0_productError_33 : decode cX0_productError 33 = .ok (.iadd, 1) := by decide +kernel
theorem dX0_productError_34 : decode cX0_productError 34 = .ok (.istore 6, 2) := by decide +kernel
theorem dX0_productError_36 : decode cX0_productError 36 = .ok (.lload_n 0, 1) := by decide +kernel
theorem dX0_productError_37 : decode cX0_productError 37 = .ok (.invokestatic 171, 3) := by decide +kernel
theorem dX0_productError_40 : decode cX0_productError 40 = .ok (.lload_n 2, 1) := by decide +kernel
theorem dX0_productError_41 : decode cX0_productError 41 = .ok (.invokestatic 171, 3) := by decide +kernel
theorem dX0_productError_44 : decode cX0_productError 44 = .ok (.lmul, 1) := by decide +kernel
theorem dX0_productError_45 : decode cX0_productError 45 = .ok (.lstore 7, 2) := by decide +kernel
theorem dX0_productError_47 : decode cX0_productError 47 = .ok (.lload 7, 2) := by decide +kernel
theorem dX0_productError_49 : decode cX0_productError 49 = .ok (.lload 4, 2) := by decide +kernel
theorem dX0_productError_51 : decode cX0_productError 51 = .ok (.invokestatic 76, 3) := by decide +kernel
theorem dX0_productError_54 : decode cX0_productError 54 = .ok (.lload 4, 2) := by decide +kernel
theorem dX0_productError_56 : decode cX0_productError 56 = .ok (.invokestatic 79, 3) := by decide +kernel
theorem dX0_productError_59 : decode cX0_productError 59 = .ok (.iload 6, 2) := by decide +kernel
theorem dX0_productError_61 : decode cX0_productError 61 = .ok (.isub, 1) := by decide +kernel
theorem dX0_productError_62 : decode cX0_productError 62 = .ok (.lshl, 1) := by decide +kernel
theorem dX0_productError_63 : decode cX0_productError 63 = .ok (.lsub, 1) := by decide +kernel
theorem dX0_productError_64 : decode cX0_productError 64 = .ok (.lstore 9, 2) := by decide +kernel
theorem dX0_productError_66 : decode cX0_productError 66 = .ok (.lload 9, 2) := by decide +kernel
theorem dX0_productError_68 : decode cX0_productError 68 = .ok (.invokestatic 30, 3) := by decide +kernel
theorem dX0_productError_71 : decode cX0_productError 71 = .ok (.iload 6, 2) := by decide +kernel
theorem dX0_productError_73 : decode cX0_productError 73 = .ok (.invokestatic 36, 3) := by decide +kernel
theorem dX0_productError_76 : decode cX0_productError 76 = .ok (.lload 9, 2) := by decide +kernel
theorem dX0_productError_78 : decode cX0_productError 78 = .ok (.lload 4, 2) := by decide +kernel
theorem dX0_productError_80 : decode cX0_productError 80 = .ok (.lxor, 1) := by decide +kernel
theorem dX0_productError_81 : decode cX0_productError 81 = .ok (.invokestatic 40, 3) := by decide +kernel
theorem dX0_productError_84 : decode cX0_productError 84 = .ok (.lreturn, 1) := by decide +kernel
theorem dX0_quotient_0 : decode cX0_quotient 0 = .ok (.lload_n 2, 1) := by decide +kernel
theorem dX0_quotient_1 : decode cX0_quotient 1 = .ok (.invokestatic 171, 3) := by decide +kernel
theorem dX0_quotient_4 : decode cX0_quotient 4 = .ok (.lstore 4, 2) := by decide +kernel
theorem dX0_quotient_6 : decode cX0_quotient 6 = .ok (.lload 4, 2) := by decide +kernel
theorem dX0_quotient_8 : decode cX0_quotient 8 = .ok (.lconst 0, 1) := by decide +kernel
theorem dX0_quotient_9 : decode cX0_quotient 9 = .ok (.lcmp, 1) := by decide +kernel
theorem dX0_quotient_10 : decode cX0_quotient 10 = .ok (.ifCond .ne 7, 3) := by decide +kernel
theorem dX0_quotient_13 : decode cX0_quotient 13 = .ok (.ldc2_w 140, 3) := by decide +kernel
theorem dX0_quotient_16 : decode cX0_quotient 16 = .ok (.lreturn, 1) := by decide +kernel
theorem dX0_quotient_17 : decode cX0_quotient 17 = .ok (.lload_n 0, 1) := by decide +kernel
theorem dX0_quotient_18 : decode cX0_quotient 18 = .ok (.invokestatic 171, 3) := by decide +kernel
theorem dX0_quotient_21 : decode cX0_quotient 21 = .ok (.lload 4, 2) := by decide +kernel
theorem dX0_quotient_23 : decode cX0_quotient 23 = .ok (.ldiv, 1) := by decide +kernel
theorem dX0_quotient_24 : decode cX0_quotient 24 = .ok (.lstore 6, 2) := by decide +kernel
theorem dX0_quotient_26 : decode cX0_quotient 26 = .ok (.lload_n 0, 1) := by decide +kernel
theorem dX0_quotient_27 : decode cX0_quotient 27 = .ok (.invokestatic 171, 3) := by decide +kernel
theorem dX0_quotient_30 : decode cX0_quotient 30 = .ok (.lload 4, 2) := by decide +kernel
theorem dX0_quotient_32 : decode cX0_quotient 32 = .ok (.lrem, 1) := by decide +kernel
theorem dX0_quotient_33 : decode cX0_quotient 33 = .ok (.lstore 8, 2) := by decide +kernel
theorem dX0_quotient_35 : decode cX0_quotient 35 = .ok (.iconst 0, 1) := by decide +kernel
theorem dX0_quotient_36 : decode cX0_quotient 36 = .ok (.istore 10, 2) := by decide +kernel
theorem dX0_quotient_38 : decode cX0_quotient 38 = .ok (.iload 10, 2) := by decide +kernel
theorem dX0_quotient_40 : decode cX0_quotient 40 = .ok (.bipush 6, 2) := by decide +kernel
theorem dX0_quotient_42 : decode cX0_quotient 42 = .ok (.if_icmp .ge 36, 3) := by decide +kernel
theorem dX0_quotient_45 : decode cX0_quotient 45 = .ok (.lload 8, 2) := by decide +kernel
theorem dX0_quotient_47 : decode cX0_quotient 47 = .ok (.bipush 10, 2) := by decide +kernel
theorem dX0_quotient_49 : decode cX0_quotient 49 = .ok (.lshl, 1) := by decide +kernel
theorem dX0_quotient_50 : decode cX0_quotient 50 = .ok (.lstore 8, 2) := by decide +kernel
theorem dX0_quotient_52 : decode cX0_quotient 52 = .ok (.lload 6, 2) := by decide +kernel
theorem dX0_quotient_54 : decode cX0_quotient 54 = .ok (.bipush 10, 2) := by decide +kernel
theorem dX0_quotient_56 : decode cX0_quotient 56 = .ok (.lshl, 1) := by decide +kernel
theorem dX0_quotient_57 : decode cX0_quotient 57 = .ok (.lload 8, 2) := by decide +kernel
theorem dX0_quotient_59 : decode cX0_quotient 59 = .ok (.lload 4, 2) := by decide +kernel
theorem dX0_quotient_61 : decode cX0_quotient 61 = .ok (.ldiv, 1) := by decide +kernel
theorem dX0_quotient_62 : decode cX0_quotient 62 = .ok (.lor, 1) := by decide +kernel
theorem dX0_quotient_63 : decode cX0_quotient 63 = .ok (.lstore 6, 2) := by decide +kernel
theorem dX0_quotient_65 : decode cX0_quotient 65 = .ok (.lload 8, 2) := by decide +kernel
theorem dX0_quotient_67 : decode cX0_quotient 67 = .ok (.lload 4, 2) := by decide +kernel
theorem dX0_quotient_69 : decode cX0_quotient 69 = .ok (.lrem, 1) := by decide +kernel
theorem dX0_quotient_70 : decode cX0_quotient 70 = .ok (.lstore 8, 2) := by decide +kernel
theorem dX0_quotient_72 : decode cX0_quotient 72 = .ok (.iinc 10 1, 3) := by decide +kernel
theorem dX0_quotient_75 : decode cX0_quotient 75 = .ok (.goto (-37), 3) := by decide +kernel
theorem dX0_quotient_78 : decode cX0_quotient 78 = .ok (.lload 8, 2) := by decide +kernel
theorem dX0_quotient_80 : decode cX0_quotient 80 = .ok (.lconst 0, 1) := by decide +kernel
theorem dX0_quotient_81 : decode cX0_quotient 81 = .ok (.lcmp, 1) := by decide +kernel
theorem dX0_quotient_82 : decode cX0_quotient 82 = .ok (.ifCond .ne 8, 3) := by decide +kernel
theorem dX0_quotient_85 : decode cX0_quotient 85 = .ok (.lload 6, 2) := by decide +kernel
theorem dX0_quotient_87 : decode cX0_quotient 87 = .ok (.goto 7, 3) := by decide +kernel
theorem dX0_quotient_90 : decode cX0_quotient 90 = .ok (.lload 6, 2) := by decide +kernel
theorem dX0_quotient_92 : decode cX0_quotient 92 = .ok (.lconst 1, 1) := by decide +kernel
theorem dX0_quotient_93 : decode cX0_quotient 93 = .ok (.lor, 1) := by decide +kernel
theorem dX0_quotient_94 : decode cX0_quotient 94 = .ok (.lstore 10, 2) := by decide +kernel
theorem dX0_quotient_96 : decode cX0_quotient 96 = .ok (.lload_n 0, 1) := by decide +kernel
theorem dX0_quotient_97 : decode cX0_quotient 97 = .ok (.invokestatic 168, 3) := by decide +kernel
theorem dX0_quotient_100 : decode cX0_quotient 100 = .ok (.lload_n 2, 1) := by decide +kernel
theorem dX0_quotient_101 : decode cX0_quotient 101 = .ok (.invokestatic 168, 3) := by decide +kernel
theorem dX0_quotient_104 : decode cX0_quotient 104 = .ok (.isub, 1) := by decide +kernel
theorem dX0_quotient_105 : decode cX0_quotient 105 = .ok (.bipush 60, 2) := by decide +kernel
theorem dX0_quotient_107 : decode cX0_quotient 107 = .ok (.isub, 1) := by decide +kernel
theorem dX0_quotient_108 : decode cX0_quotient 108 = .ok (.istore 12, 2) := by decide +kernel
theorem dX0_quotient_110 : decode cX0_quotient 110 = .ok (.lload 10, 2) := by decide +kernel
theorem dX0_quotient_112 : decode cX0_quotient 112 = .ok (.iload 12, 2) := by decide +kernel
theorem dX0_quotient_114 : decode cX0_quotient 114 = .ok (.invokestatic 36, 3) := by decide +kernel
theorem dX0_quotient_117 : decode cX0_quotient 117 = .ok (.lload_n 0, 1) := by decide +kernel
theorem dX0_quotient_118 : decode cX0_quotient 118 = .ok (.lload_n 2, 1) := by decide +kernel
theorem dX0_quotient_119 : decode cX0_quotient 119 = .ok (.lxor, 1) := by decide +kernel
theorem dX0_quotient_120 : decode cX0_quotient 120 = .ok (.invokestatic 40, 3) := by decide +kernel
theorem dX0_quotient_123 : decode cX0_quotient 123 = .ok (.lreturn, 1) := by decide +kernel
theorem dX0_rest_0 : decode cX0_rest 0 = .ok (.lload_n 2, 1) := by decide +kernel
theorem dX0_rest_1 : decode cX0_rest 1 = .ok (.invokestatic 76, 3) := by decide +kernel
theorem dX0_rest_4 : decode cX0_rest 4 = .ok (.lstore 4, 2) := by decide +kernel
theorem dX0_rest_6 : decode cX0_rest 6 = .ok (.lload 4, 2) := by decide +kernel
theorem dX0_rest_8 : decode cX0_rest 8 = .ok (.lconst 0, 1) := by decide +kernel
theorem dX0_rest_9 : decode cX0_rest 9 = .ok (.lcmp, 1) := by decide +kernel
theorem dX0_rest_10 : decode cX0_rest 10 = .ok (.ifCond .eq 15, 3) := by decide +kernel
theorem dX0_rest_13 : decode cX0_rest 13 = .ok (.lload_n 0, 1) := by decide +kernel
theorem dX0_rest_14 : decode cX0_rest 14 = .ok (.invokestatic 30, 3) := by decide +kernel
theorem dX0_rest_17 : decode cX0_rest 17 = .ok (.lload_n 2, 1) := by decide +kernel
theorem dX0_rest_18 : decode cX0_rest 18 = .ok (.invokestatic 30, 3) := by decide +kernel
theorem dX0_rest_21 : decode cX0_rest 21 = .ok (.lcmp, 1) := by decide +kernel
theorem dX0_rest_22 : decode cX0_rest 22 = .ok (.ifCond .ge 5, 3) := by decide +kernel
theorem dX0_rest_25 : decode cX0_rest 25 = .ok (.lload_n 0, 1) := by decide +kernel
theorem dX0_rest_26 : decode cX0_rest 26 = .ok (.lreturn, 1) := by decide +kernel
theorem dX0_rest_27 : decode cX0_rest 27 = .ok (.lload_n 0, 1) := by decide +kernel
theorem dX0_rest_28 : decode cX0_rest 28 = .ok (.invokestatic 76, 3) := by decide +kernel
theorem dX0_rest_31 : decode cX0_rest 31 = .ok (.lload 4, 2) := by decide +kernel
theorem dX0_rest_33 : decode cX0_rest 33 = .ok (.lrem, 1) := by decide +kernel
theorem dX0_rest_34 : decode cX0_rest 34 = .ok (.lstore 6, 2) := by decide +kernel
theorem dX0_rest_36 : decode cX0_rest 36 = .ok (.lload_n 0, 1) := by decide +kernel
theorem dX0_rest_37 : decode cX0_rest 37 = .ok (.invokestatic 79, 3) := by decide +kernel
theorem dX0_rest_40 : decode cX0_rest 40 = .ok (.lload_n 2, 1) := by decide +kernel
theorem dX0_rest_41 : decode cX0_rest 41 = .ok (.invokestatic 79, 3) := by decide +kernel
theorem dX0_rest_44 : decode cX0_rest 44 = .ok (.isub, 1) := by decide +kernel
theorem dX0_rest_45 : decode cX0_rest 45 = .ok (.istore 8, 2) := by decide +kernel
theorem dX0_rest_47 : decode cX0_rest 47 = .ok (.iload 8, 2) := by decide +kernel
theorem dX0_rest_49 : decode cX0_rest 49 = .ok (.ifCond .le 24, 3) := by decide +kernel
theorem dX0_rest_52 : decode cX0_rest 52 = .ok (.lload 6, 2) := by decide +kernel
theorem dX0_rest_54 : decode cX0_rest 54 = .ok (.iload 8, 2) := by decide +kernel
theorem dX0_rest_56 : decode cX0_rest 56 = .ok (.bipush 10, 2) := by decide +kernel
theorem dX0_rest_58 : decode cX0_rest 58 = .ok (.invokestatic 96, 3) := by decide +kernel
theorem dX0_rest_61 : decode cX0_rest 61 = .ok (.lshl, 1) := by decide +kernel
theorem dX0_rest_62 : decode cX0_rest 62 = .ok (.lload 4, 2) := by decide +kernel
theorem dX0_rest_64 : decode cX0_rest 64 = .ok (.lrem, 1) := by decide +kernel
theorem dX0_rest_65 : decode cX0_rest 65 = .ok (.lstore 6, 2) := by decide +kernel
theorem dX0_rest_67 : decode cX0_rest 67 = .ok (.iinc 8 (-10), 3) := by decide +kernel
theorem dX0_rest_70 : decode cX0_rest 70 = .ok (.goto (-23), 3) := by decide +kernel
theorem dX0_rest_73 : decode cX0_rest 73 = .ok (.lload 6, 2) := by decide +kernel
theorem dX0_rest_75 : decode cX0_rest 75 = .ok (.lload_n 2, 1) := by decide +kernel
theorem dX0_rest_76 : decode cX0_rest 76 = .ok (.invokestatic 79, 3) := by decide +kernel
theorem dX0_rest_79 : decode cX0_rest 79 = .ok (.invokestatic 36, 3) := by decide +kernel
theorem dX0_rest_82 : decode cX0_rest 82 = .ok (.lload_n 0, 1) := by decide +kernel
theorem dX0_rest_83 : decode cX0_rest 83 = .ok (.invokestatic 40, 3) := by decide +kernel
theorem dX0_rest_86 : decode cX0_rest 86 = .ok (.lreturn, 1) := by decide +kernel
theorem dX0_root_0 : decode cX0_root 0 = .ok (.lload_n 0, 1) := by decide +kernel
theorem dX0_root_1 : decode cX0_root 1 = .ok (.lconst 0, 1) := by decide +kernel
theorem dX0_root_2 : decode cX0_root 2 = .ok (.lcmp, 1) := by decide +kernel
theorem dX0_root_3 : decode cX0_root 3 = .ok (.ifCond .ne 5, 3) := by decide +kernel
theorem dX0_root_6 : decode cX0_root 6 = .ok (.lconst 0, 1) := by decide +kernel
theorem dX0_root_7 : decode cX0_root 7 = .ok (.lreturn, 1) := by decide +kernel
theorem dX0_root_8 : decode cX0_root 8 = .ok (.lload_n 0, 1) := by decide +kernel
theorem dX0_root_9 : decode cX0_root 9 = .ok (.invokestatic 168, 3) := by decide +kernel
theorem dX0_root_12 : decode cX0_root 12 = .ok (.iconst 1, 1) := by decide +kernel
theorem dX0_root_13 : decode cX0_root 13 = .ok (.iand, 1) := by decide +kernel
theorem dX0_root_14 : decode cX0_root 14 = .ok (.istore_n 2, 1) := by decide +kernel
theorem dX0_root_15 : decode cX0_root 15 = .ok (.lload_n 0, 1) := by decide +kernel
theorem dX0_root_16 : decode cX0_root 16 = .ok (.invokestatic 171, 3) := by decide +kernel
theorem dX0_root_19 : decode cX0_root 19 = .ok (.iload_n 2, 1) := by decide +kernel
theorem dX0_root_20 : decode cX0_root 20 = .ok (.lshl, 1) := by decide +kernel
theorem dX0_root_21 : decode cX0_root 21 = .ok (.lstore_n 3, 1) := by decide +kernel
theorem dX0_root_22 : decode cX0_root 22 = .ok (.lload_n 0, 1) := by decide +kernel
theorem dX0_root_23 : decode cX0_root 23 = .ok (.invokestatic 168, 3) := by decide +kernel
theorem dX0_root_26 : decode cX0_root 26 = .ok (.iload_n 2, 1) := by decide +kernel
theorem dX0_root_27 : decode cX0_root 27 = .ok (.isub, 1) := by decide +kernel
theorem dX0_root_28 : decode cX0_root 28 = .ok (.istore 5, 2) := by decide +kernel
theorem dX0_root_30 : decode cX0_root 30 = .ok (.lconst 0, 1) := by decide +kernel
theorem dX0_root_31 : decode cX0_root 31 = .ok (.lstore 6, 2) := by decide +kernel
theorem dX0_root_33 : decode cX0_root 33 = .ok (.lconst 0, 1) := by decide +kernel
theorem dX0_root_34 : decode cX0_root 34 = .ok (.lstore 8, 2) := by decide +kernel
theorem dX0_root_36 : decode cX0_root 36 = .ok (.iconst 1, 1) := by decide +kernel
theorem dX0_root_37 : decode cX0_root 37 = .ok (.istore 10, 2) := by decide +kernel
theorem dX0_root_39 : decode cX0_root 39 = .ok (.iload 10, 2) := by decide +kernel
theorem dX0_root_41 : decode cX0_root 41 = .ok (.bipush 56, 2) := by decide +kernel
theorem dX0_root_43 : decode cX0_root 43 = .ok (.if_icmp .gt 79, 3) := by decide +kernel
theorem dX0_root_46 : decode cX0_root 46 = .ok (.iload 10, 2) := by decide +kernel
theorem dX0_root_48 : decode cX0_root 48 = .ok (.bipush 27, 2) := by decide +kernel
theorem dX0_root_50 : decode cX0_root 50 = .ok (.if_icmp .gt 19, 3) := by decide +kernel
theorem dX0_root_53 : decode cX0_root 53 = .ok (.lload_n 3, 1) := by decide +kernel
theorem dX0_root_54 : decode cX0_root 54 = .ok (.iconst 2, 1) := by decide +kernel
theorem dX0_root_55 : decode cX0_root 55 = .ok (.bipush 27, 2) := by decide +kernel
theorem dX0_root_57 : decode cX0_root 57 = .ok (.iload 10, 2) := by decide +kernel
theorem dX0_root_59 : decode cX0_root 59 = .ok (.isub, 1) := by decide +kernel
theorem dX0_root_60 : decode cX0_root 60 = .ok (.imul, 1) := by decide +kernel
theorem dX0_root_61 : decode cX0_root 61 = .ok (.lushr, 1) := by decide +kernel
theorem dX0_root_62 : decode cX0_root 62 = .ok (.iconst 2, 1) := by decide +kernel
theorem dX0_root_63 : decode cX0_root 63 = .ok (.invokestatic 100, 3) := by decide +kernel
theorem dX0_root_66 : decode cX0_root 66 = .ok (.goto 4, 3) := by decide +kernel
theorem dX0_root_69 : decode cX0_root 69 = .ok (.lconst 0, 1) := by decide +kernel
end
section
theorem dX0_root_70 : decode cX0_root 70 = .ok (.lstore 11, 2) := by decide +kernel
theorem dX0_root_72 : decode cX0_root 72 = .ok (.lload 8, 2) := by decide +kernel
theorem dX0_root_74 : decode cX0_root 74 = .ok (.iconst 2, 1) := by decide +kernel
theorem dX0_root_75 : decode cX0_root 75 = .ok (.lshl, 1) := by decide +kernel
theorem dX0_root_76 : decode cX0_root 76 = .ok (.lload 11, 2) := by decide +kernel
theorem dX0_root_78 : decode cX0_root 78 = .ok (.lor, 1) := by decide +kernel
theorem dX0_root_79 : decode cX0_root 79 = .ok (.lstore 8, 2) := by decide +kernel
theorem dX0_root_81 : decode cX0_root 81 = .ok (.lload 6, 2) := by decide +kernel
theorem dX0_root_83 : decode cX0_root 83 = .ok (.iconst 2, 1) := by decide +kernel
theorem dX0_root_84 : decode cX0_root 84 = .ok (.lshl, 1) := by decide +kernel
theorem dX0_root_85 : decode cX0_root 85 = .ok (.lconst 1, 1) := by decide +kernel
theorem dX0_root_86 : decode cX0_root 86 = .ok (.lor, 1) := by decide +kernel
theorem dX0_root_87 : decode cX0_root 87 = .ok (.lstore 13, 2) := by decide +kernel
theorem dX0_root_89 : decode cX0_root 89 = .ok (.lload 6, 2) := by decide +kernel
theorem dX0_root_91 : decode cX0_root 91 = .ok (.iconst 1, 1) := by decide +kernel
theorem dX0_root_92 : decode cX0_root 92 = .ok (.lshl, 1) := by decide +kernel
theorem dX0_root_93 : decode cX0_root 93 = .ok (.lstore 6, 2) := by decide +kernel
theorem dX0_root_95 : decode cX0_root 95 = .ok (.lload 8, 2) := by decide +kernel
theorem dX0_root_97 : decode cX0_root 97 = .ok (.lload 13, 2) := by decide +kernel
theorem dX0_root_99 : decode cX0_root 99 = .ok (.lcmp, 1) := by decide +kernel
theorem dX0_root_100 : decode cX0_root 100 = .ok (.ifCond .lt 16, 3) := by decide +kernel
theorem dX0_root_103 : decode cX0_root 103 = .ok (.lload 8, 2) := by decide +kernel
theorem dX0_root_105 : decode cX0_root 105 = .ok (.lload 13, 2) := by decide +kernel
theorem dX0_root_107 : decode cX0_root 107 = .ok (.lsub, 1) := by decide +kernel
theorem dX0_root_108 : decode cX0_root 108 = .ok (.lstore 8, 2) := by decide +kernel
theorem dX0_root_110 : decode cX0_root 110 = .ok (.lload 6, 2) := by decide +kernel
theorem dX0_root_112 : decode cX0_root 112 = .ok (.lconst 1, 1) := by decide +kernel
theorem dX0_root_113 : decode cX0_root 113 = .ok (.lor, 1) := by decide +kernel
theorem dX0_root_114 : decode cX0_root 114 = .ok (.lstore 6, 2) := by decide +kernel
theorem dX0_root_116 : decode cX0_root 116 = .ok (.iinc 10 1, 3) := by decide +kernel
theorem dX0_root_119 : decode cX0_root 119 = .ok (.goto (-80), 3) := by decide +kernel
theorem dX0_root_122 : decode cX0_root 122 = .ok (.lload 8, 2) := by decide +kernel
theorem dX0_root_124 : decode cX0_root 124 = .ok (.lconst 0, 1) := by decide +kernel
theorem dX0_root_125 : decode cX0_root 125 = .ok (.lcmp, 1) := by decide +kernel
theorem dX0_root_126 : decode cX0_root 126 = .ok (.ifCond .ne 8, 3) := by decide +kernel
theorem dX0_root_129 : decode cX0_root 129 = .ok (.lload 6, 2) := by decide +kernel
theorem dX0_root_131 : decode cX0_root 131 = .ok (.goto 7, 3) := by decide +kernel
theorem dX0_root_134 : decode cX0_root 134 = .ok (.lload 6, 2) := by decide +kernel
theorem dX0_root_136 : decode cX0_root 136 = .ok (.lconst 1, 1) := by decide +kernel
theorem dX0_root_137 : decode cX0_root 137 = .ok (.lor, 1) := by decide +kernel
theorem dX0_root_138 : decode cX0_root 138 = .ok (.lstore 10, 2) := by decide +kernel
theorem dX0_root_140 : decode cX0_root 140 = .ok (.lload 10, 2) := by decide +kernel
theorem dX0_root_142 : decode cX0_root 142 = .ok (.iload 5, 2) := by decide +kernel
theorem dX0_root_144 : decode cX0_root 144 = .ok (.iconst 2, 1) := by decide +kernel
theorem dX0_root_145 : decode cX0_root 145 = .ok (.idiv, 1) := by decide +kernel
theorem dX0_root_146 : decode cX0_root 146 = .ok (.bipush 29, 2) := by decide +kernel
theorem dX0_root_148 : decode cX0_root 148 = .ok (.isub, 1) := by decide +kernel
theorem dX0_root_149 : decode cX0_root 149 = .ok (.invokestatic 36, 3) := by decide +kernel
theorem dX0_root_152 : decode cX0_root 152 = .ok (.lreturn, 1) := by decide +kernel
theorem dX0_wholeNear_0 : decode cX0_wholeNear 0 = .ok (.lload_n 1, 1) := by decide +kernel
theorem dX0_wholeNear_1 : decode cX0_wholeNear 1 = .ok (.invokestatic 79, 3) := by decide +kernel
theorem dX0_wholeNear_4 : decode cX0_wholeNear 4 = .ok (.istore_n 3, 1) := by decide +kernel
theorem dX0_wholeNear_5 : decode cX0_wholeNear 5 = .ok (.iload_n 3, 1) := by decide +kernel
theorem dX0_wholeNear_6 : decode cX0_wholeNear 6 = .ok (.ifCond .lt 5, 3) := by decide +kernel
theorem dX0_wholeNear_9 : decode cX0_wholeNear 9 = .ok (.lload_n 1, 1) := by decide +kernel
theorem dX0_wholeNear_10 : decode cX0_wholeNear 10 = .ok (.lreturn, 1) := by decide +kernel
theorem dX0_wholeNear_11 : decode cX0_wholeNear 11 = .ok (.lload_n 1, 1) := by decide +kernel
theorem dX0_wholeNear_12 : decode cX0_wholeNear 12 = .ok (.invokestatic 76, 3) := by decide +kernel
theorem dX0_wholeNear_15 : decode cX0_wholeNear 15 = .ok (.lstore 4, 2) := by decide +kernel
theorem dX0_wholeNear_17 : decode cX0_wholeNear 17 = .ok (.iload_n 3, 1) := by decide +kernel
theorem dX0_wholeNear_18 : decode cX0_wholeNear 18 = .ok (.ineg, 1) := by decide +kernel
theorem dX0_wholeNear_19 : decode cX0_wholeNear 19 = .ok (.bipush 62, 2) := by decide +kernel
theorem dX0_wholeNear_21 : decode cX0_wholeNear 21 = .ok (.invokestatic 96, 3) := by decide +kernel
theorem dX0_wholeNear_24 : decode cX0_wholeNear 24 = .ok (.istore 6, 2) := by decide +kernel
theorem dX0_wholeNear_26 : decode cX0_wholeNear 26 = .ok (.lload 4, 2) := by decide +kernel
theorem dX0_wholeNear_28 : decode cX0_wholeNear 28 = .ok (.iload 6, 2) := by decide +kernel
theorem dX0_wholeNear_30 : decode cX0_wholeNear 30 = .ok (.lushr, 1) := by decide +kernel
theorem dX0_wholeNear_31 : decode cX0_wholeNear 31 = .ok (.lstore 7, 2) := by decide +kernel
theorem dX0_wholeNear_33 : decode cX0_wholeNear 33 = .ok (.lload 4, 2) := by decide +kernel
theorem dX0_wholeNear_35 : decode cX0_wholeNear 35 = .ok (.iload 6, 2) := by decide +kernel
theorem dX0_wholeNear_37 : decode cX0_wholeNear 37 = .ok (.invokestatic 100, 3) := by decide +kernel
theorem dX0_wholeNear_40 : decode cX0_wholeNear 40 = .ok (.lconst 0, 1) := by decide +kernel
theorem dX0_wholeNear_41 : decode cX0_wholeNear 41 = .ok (.lcmp, 1) := by decide +kernel
theorem dX0_wholeNear_42 : decode cX0_wholeNear 42 = .ok (.ifCond .ne 8, 3) := by decide +kernel
theorem dX0_wholeNear_45 : decode cX0_wholeNear 45 = .ok (.lload 7, 2) := by decide +kernel
theorem dX0_wholeNear_47 : decode cX0_wholeNear 47 = .ok (.goto 7, 3) := by decide +kernel
theorem dX0_wholeNear_50 : decode cX0_wholeNear 50 = .ok (.lload 7, 2) := by decide +kernel
theorem dX0_wholeNear_52 : decode cX0_wholeNear 52 = .ok (.lconst 1, 1) := by decide +kernel
theorem dX0_wholeNear_53 : decode cX0_wholeNear 53 = .ok (.ladd, 1) := by decide +kernel
theorem dX0_wholeNear_54 : decode cX0_wholeNear 54 = .ok (.lstore 9, 2) := by decide +kernel
theorem dX0_wholeNear_56 : decode cX0_wholeNear 56 = .ok (.iload_n 0, 1) := by decide +kernel
theorem dX0_wholeNear_57 : decode cX0_wholeNear 57 = .ok (.tableswitch 74 3 6 #[31, 49, 67, 74], 31) := by decide +kernel
theorem dX0_wholeNear_88 : decode cX0_wholeNear 88 = .ok (.lload_n 1, 1) := by decide +kernel
theorem dX0_wholeNear_89 : decode cX0_wholeNear 89 = .ok (.lconst 0, 1) := by decide +kernel
theorem dX0_wholeNear_90 : decode cX0_wholeNear 90 = .ok (.lcmp, 1) := by decide +kernel
theorem dX0_wholeNear_91 : decode cX0_wholeNear 91 = .ok (.ifCond .ge 8, 3) := by decide +kernel
theorem dX0_wholeNear_94 : decode cX0_wholeNear 94 = .ok (.lload 9, 2) := by decide +kernel
theorem dX0_wholeNear_96 : decode cX0_wholeNear 96 = .ok (.goto 5, 3) := by decide +kernel
theorem dX0_wholeNear_99 : decode cX0_wholeNear 99 = .ok (.lload 7, 2) := by decide +kernel
theorem dX0_wholeNear_101 : decode cX0_wholeNear 101 = .ok (.lstore 11, 2) := by decide +kernel
theorem dX0_wholeNear_103 : decode cX0_wholeNear 103 = .ok (.goto 37, 3) := by decide +kernel
theorem dX0_wholeNear_106 : decode cX0_wholeNear 106 = .ok (.lload_n 1, 1) := by decide +kernel
theorem dX0_wholeNear_107 : decode cX0_wholeNear 107 = .ok (.lconst 0, 1) := by decide +kernel
theorem dX0_wholeNear_108 : decode cX0_wholeNear 108 = .ok (.lcmp, 1) := by decide +kernel
theorem dX0_wholeNear_109 : decode cX0_wholeNear 109 = .ok (.ifCond .ge 8, 3) := by decide +kernel
theorem dX0_wholeNear_112 : decode cX0_wholeNear 112 = .ok (.lload 7, 2) := by decide +kernel
theorem dX0_wholeNear_114 : decode cX0_wholeNear 114 = .ok (.goto 5, 3) := by decide +kernel
theorem dX0_wholeNear_117 : decode cX0_wholeNear 117 = .ok (.lload 9, 2) := by decide +kernel
theorem dX0_wholeNear_119 : decode cX0_wholeNear 119 = .ok (.lstore 11, 2) := by decide +kernel
theorem dX0_wholeNear_121 : decode cX0_wholeNear 121 = .ok (.goto 19, 3) := by decide +kernel
theorem dX0_wholeNear_124 : decode cX0_wholeNear 124 = .ok (.lload 7, 2) := by decide +kernel
theorem dX0_wholeNear_126 : decode cX0_wholeNear 126 = .ok (.lstore 11, 2) := by decide +kernel
theorem dX0_wholeNear_128 : decode cX0_wholeNear 128 = .ok (.goto 12, 3) := by decide +kernel
theorem dX0_wholeNear_131 : decode cX0_wholeNear 131 = .ok (.lload 4, 2) := by decide +kernel
theorem dX0_wholeNear_133 : decode cX0_wholeNear 133 = .ok (.iload 6, 2) := by decide +kernel
theorem dX0_wholeNear_135 : decode cX0_wholeNear 135 = .ok (.invokestatic 156, 3) := by decide +kernel
theorem dX0_wholeNear_138 : decode cX0_wholeNear 138 = .ok (.lstore 11, 2) := by decide +kernel
theorem dX0_wholeNear_140 : decode cX0_wholeNear 140 = .ok (.lload 11, 2) := by decide +kernel
theorem dX0_wholeNear_142 : decode cX0_wholeNear 142 = .ok (.iconst 0, 1) := by decide +kernel
theorem dX0_wholeNear_143 : decode cX0_wholeNear 143 = .ok (.invokestatic 36, 3) := by decide +kernel
theorem dX0_wholeNear_146 : decode cX0_wholeNear 146 = .ok (.lload_n 1, 1) := by decide +kernel
theorem dX0_wholeNear_147 : decode cX0_wholeNear 147 = .ok (.invokestatic 40, 3) := by decide +kernel
theorem dX0_wholeNear_150 : decode cX0_wholeNear 150 = .ok (.lreturn, 1) := by decide +kernel
theorem dX0_raise_0 : decode cX0_raise 0 = .ok (.iload_n 2, 1) := by decide +kernel
theorem dX0_raise_1 : decode cX0_raise 1 = .ok (.ifCond .ne 7, 3) := by decide +kernel
theorem dX0_raise_4 : decode cX0_raise 4 = .ok (.ldc2_w 71, 3) := by decide +kernel
theorem dX0_raise_7 : decode cX0_raise 7 = .ok (.lreturn, 1) := by decide +kernel
theorem dX0_raise_8 : decode cX0_raise 8 = .ok (.lload_n 0, 1) := by decide +kernel
theorem dX0_raise_9 : decode cX0_raise 9 = .ok (.lstore_n 3, 1) := by decide +kernel
theorem dX0_raise_10 : decode cX0_raise 10 = .ok (.bipush 31, 2) := by decide +kernel
theorem dX0_raise_12 : decode cX0_raise 12 = .ok (.iload_n 2, 1) := by decide +kernel
theorem dX0_raise_13 : decode cX0_raise 13 = .ok (.invokestatic 177, 3) := by decide +kernel
theorem dX0_raise_16 : decode cX0_raise 16 = .ok (.isub, 1) := by decide +kernel
theorem dX0_raise_17 : decode cX0_raise 17 = .ok (.istore 5, 2) := by decide +kernel
theorem dX0_raise_19 : decode cX0_raise 19 = .ok (.iload 5, 2) := by decide +kernel
theorem dX0_raise_21 : decode cX0_raise 21 = .ok (.iconst 1, 1) := by decide +kernel
theorem dX0_raise_22 : decode cX0_raise 22 = .ok (.isub, 1) := by decide +kernel
theorem dX0_raise_23 : decode cX0_raise 23 = .ok (.istore 6, 2) := by decide +kernel
theorem dX0_raise_25 : decode cX0_raise 25 = .ok (.iload 6, 2) := by decide +kernel
theorem dX0_raise_27 : decode cX0_raise 27 = .ok (.ifCond .lt 45, 3) := by decide +kernel
theorem dX0_raise_30 : decode cX0_raise 30 = .ok (.lload_n 3, 1) := by decide +kernel
theorem dX0_raise_31 : decode cX0_raise 31 = .ok (.invokestatic 67, 3) := by decide +kernel
theorem dX0_raise_34 : decode cX0_raise 34 = .ok (.ifCond .ne 38, 3) := by decide +kernel
theorem dX0_raise_37 : decode cX0_raise 37 = .ok (.lload_n 3, 1) := by decide +kernel
theorem dX0_raise_38 : decode cX0_raise 38 = .ok (.lload_n 3, 1) := by decide +kernel
theorem dX0_raise_39 : decode cX0_raise 39 = .ok (.invokestatic 112, 3) := by decide +kernel
theorem dX0_raise_42 : decode cX0_raise 42 = .ok (.lstore_n 3, 1) := by decide +kernel
theorem dX0_raise_43 : decode cX0_raise 43 = .ok (.iload_n 2, 1) := by decide +kernel
theorem dX0_raise_44 : decode cX0_raise 44 = .ok (.iload 6, 2) := by decide +kernel
theorem dX0_raise_46 : decode cX0_raise 46 = .ok (.iushr, 1) := by decide +kernel
theorem dX0_raise_47 : decode cX0_raise 47 = .ok (.iconst 1, 1) := by decide +kernel
theorem dX0_raise_48 : decode cX0_raise 48 = .ok (.iand, 1) := by decide +kernel
theorem dX0_raise_49 : decode cX0_raise 49 = .ok (.iconst 1, 1) := by decide +kernel
theorem dX0_raise_50 : decode cX0_raise 50 = .ok (.if_icmp .ne 16, 3) := by decide +kernel
theorem dX0_raise_53 : decode cX0_raise 53 = .ok (.lload_n 3, 1) := by decide +kernel
theorem dX0_raise_54 : decode cX0_raise 54 = .ok (.invokestatic 67, 3) := by decide +kernel
theorem dX0_raise_57 : decode cX0_raise 57 = .ok (.ifCond .ne 9, 3) := by decide +kernel
theorem dX0_raise_60 : decode cX0_raise 60 = .ok (.lload_n 3, 1) := by decide +kernel
theorem dX0_raise_61 : decode cX0_raise 61 = .ok (.lload_n 0, 1) := by decide +kernel
theorem dX0_raise_62 : decode cX0_raise 62 = .ok (.invokestatic 112, 3) := by decide +kernel
theorem dX0_raise_65 : decode cX0_raise 65 = .ok (.lstore_n 3, 1) := by decide +kernel
theorem dX0_raise_66 : decode cX0_raise 66 = .ok (.iinc 6 (-1), 3) := by decide +kernel
theorem dX0_raise_69 : decode cX0_raise 69 = .ok (.goto (-44), 3) := by decide +kernel
theorem dX0_raise_72 : decode cX0_raise 72 = .ok (.lload_n 3, 1) := by decide +kernel
theorem dX0_raise_73 : decode cX0_raise 73 = .ok (.lreturn, 1) := by decide +kernel
theorem dX0_powerOfTwo_0 : decode cX0_powerOfTwo 0 = .ok (.dconst 1, 1) := by decide +kernel
theorem dX0_powerOfTwo_1 : decode cX0_powerOfTwo 1 = .ok (.dstore_n 1, 1) := by decide +kernel
theorem dX0_powerOfTwo_2 : decode cX0_powerOfTwo 2 = .ok (.iload_n 0, 1) := by decide +kernel
theorem dX0_powerOfTwo_3 : decode cX0_powerOfTwo 3 = .ok (.ifCond .ge 9, 3) := by decide +kernel
theorem dX0_powerOfTwo_6 : decode cX0_powerOfTwo 6 = .ok (.ldc2_w 181, 3) := by decide +kernel
theorem dX0_powerOfTwo_9 : decode cX0_powerOfTwo 9 = .ok (.goto 6, 3) := by decide +kernel
theorem dX0_powerOfTwo_12 : decode cX0_powerOfTwo 12 = .ok (.ldc2_w 183, 3) := by decide +kernel
theorem dX0_powerOfTwo_15 : decode cX0_powerOfTwo 15 = .ok (.dstore_n 3, 1) := by decide +kernel
theorem dX0_powerOfTwo_16 : decode cX0_powerOfTwo 16 = .ok (.iload_n 0, 1) := by decide +kernel
theorem dX0_powerOfTwo_17 : decode cX0_powerOfTwo 17 = .ok (.invokestatic 61, 3) := by decide +kernel
theorem dX0_powerOfTwo_20 : decode cX0_powerOfTwo 20 = .ok (.istore 5, 2) := by decide +kernel
theorem dX0_powerOfTwo_22 : decode cX0_powerOfTwo 22 = .ok (.iload 5, 2) := by decide +kernel
theorem dX0_powerOfTwo_24 : decode cX0_powerOfTwo 24 = .ok (.ifCond .le 34, 3) := by decide +kernel
theorem dX0_powerOfTwo_27 : decode cX0_powerOfTwo 27 = .ok (.iload 5, 2) := by decide +kernel
theorem dX0_powerOfTwo_29 : decode cX0_powerOfTwo 29 = .ok (.iconst 1, 1) := by decide +kernel
theorem dX0_powerOfTwo_30 : decode cX0_powerOfTwo 30 = .ok (.iand, 1) := by decide +kernel
theorem dX0_powerOfTwo_31 : decode cX0_powerOfTwo 31 = .ok (.iconst 1, 1) := by decide +kernel
theorem dX0_powerOfTwo_32 : decode cX0_powerOfTwo 32 = .ok (.if_icmp .ne 7, 3) := by decide +kernel
theorem dX0_powerOfTwo_35 : decode cX0_powerOfTwo 35 = .ok (.dload_n 1, 1) := by decide +kernel
theorem dX0_powerOfTwo_36 : decode cX0_powerOfTwo 36 = .ok (.dload_n 3, 1) := by decide +kernel
theorem dX0_powerOfTwo_37 : decode cX0_powerOfTwo 37 = .ok (.dmul, 1) := by decide +kernel
theorem dX0_powerOfTwo_38 : decode cX0_powerOfTwo 38 = .ok (.dstore_n 1, 1) := by decide +kernel
theorem dX0_powerOfTwo_39 : decode cX0_powerOfTwo 39 = .ok (.iload 5, 2) := by decide +kernel
theorem dX0_powerOfTwo_41 : decode cX0_powerOfTwo 41 = .ok (.iconst 1, 1) := by decide +kernel
theorem dX0_powerOfTwo_42 : decode cX0_powerOfTwo 42 = .ok (.if_icmp .le 7, 3) := by decide +kernel
theorem dX0_powerOfTwo_45 : decode cX0_powerOfTwo 45 = .ok (.dload_n 3, 1) := by decide +kernel
theorem dX0_powerOfTwo_46 : decode cX0_powerOfTwo 46 = .ok (.dload_n 3, 1) := by decide +kernel
theorem dX0_powerOfTwo_47 : decode cX0_powerOfTwo 47 = .ok (.dmul, 1) := by decide +kernel
theorem dX0_powerOfTwo_48 : decode cX0_powerOfTwo 48 = .ok (.dstore_n 3, 1) := by decide +kernel
theorem dX0_powerOfTwo_49 : decode cX0_powerOfTwo 49 = .ok (.iload 5, 2) := by decide +kernel
theorem dX0_powerOfTwo_51 : decode cX0_powerOfTwo 51 = .ok (.iconst 1, 1) := by decide +kernel
theorem dX0_powerOfTwo_52 : decode cX0_powerOfTwo 52 = .ok (.iushr, 1) := by decide +kernel
theorem dX0_powerOfTwo_53 : decode cX0_powerOfTwo 53 = .ok (.istore 5, 2) := by decide +kernel
theorem dX0_powerOfTwo_55 : decode cX0_powerOfTwo 55 = .ok (.goto (-33), 3) := by decide +kernel
theorem dX0_powerOfTwo_58 : decode cX0_powerOfTwo 58 = .ok (.dload_n 1, 1) := by decide +kernel
theorem dX0_powerOfTwo_59 : decode cX0_powerOfTwo 59 = .ok (.dreturn, 1) := by decide +kernel
theorem dX1_init_0 : decode cX1_init 0 = .ok (.aload_n 0, 1) := by decide +kernel
theorem dX1_init_1 : decode cX1_init 1 = .ok (.invokespecial 1, 3) := by decide +kernel
theorem dX1_init_4 : decode cX1_init 4 = .ok (.aload_n 0, 1) := by decide +kernel
theorem dX1_init_5 : decode cX1_init 5 = .ok (.sipush 140, 3) := by decide +kernel
theorem dX1_init_8 : decode cX1_init 8 = .ok (.newarray .int, 2) := by decide +kernel
theorem dX1_init_10 : decode cX1_init 10 = .ok (.putfield 7, 3) := by decide +kernel
theorem dX1_init_13 : decode cX1_init 13 = .ok (.return_, 1) := by decide +kernel
theorem dX1_set_0 : decode cX1_set 0 = .ok (.iconst 0, 1) := by decide +kernel
theorem dX1_set_1 : decode cX1_set 1 = .ok (.istore_n 3, 1) := by decide +kernel
theorem dX1_set_2 : decode cX1_set 2 = .ok (.iload_n 3, 1) := by decide +kernel
theorem dX1_set_3 : decode cX1_set 3 = .ok (.sipush 140, 3) := by decide +kernel
theorem dX1_set_6 : decode cX1_set 6 = .ok (.if_icmp .ge 35, 3) := by decide +kernel
theorem dX1_set_9 : decode cX1_set 9 = .ok (.aload_n 0, 1) := by decide +kernel
theorem dX1_set_10 : decode cX1_set 10 = .ok (.getfield 7, 3) := by decide +kernel
theorem dX1_set_13 : decode cX1_set 13 = .ok (.iload_n 3, 1) := by decide +kernel
theorem dX1_set_14 : decode cX1_set 14 = .ok (.iload_n 3, 1) := by decide +kernel
theorem dX1_set_15 : decode cX1_set 15 = .ok (.iconst 3, 1) := by decide +kernel
theorem dX1_set_16 : decode cX1_set 16 = .ok (.if_icmp .ge 17, 3) := by decide +kernel
theorem dX1_set_19 : decode cX1_set 19 = .ok (.lload_n 1, 1) := by decide +kernel
theorem dX1_set_20 : decode cX1_set 20 = .ok (.bipush 24, 2) := by decide +kernel
theorem dX1_set_22 : decode cX1_set 22 = .ok (.iload_n 3, 1) := by decide +kernel
theorem dX1_set_23 : decode cX1_set 23 = .ok (.imul, 1) := by decide +kernel
theorem dX1_set_24 : decode cX1_set 24 = .ok (.lshr, 1) := by decide +kernel
theorem dX1_set_25 : decode cX1_set 25 = .ok (.ldc2_w 13, 3) := by decide +kernel
theorem dX1_set_28 : decode cX1_set 28 = .ok (.land, 1) := by decide +kernel
theorem dX1_set_29 : decode cX1_set 29 = .ok (.l2i, 1) := by decide +kernel
theorem dX1_set_30 : decode cX1_set 30 = .ok (.goto 4, 3) := by decide +kernel
theorem dX1_set_33 : decode cX1_set 33 = .ok (.iconst 0, 1) := by decide +kernel
theorem dX1_set_34 : decode cX1_set 34 = .ok (.iastore, 1) := by decide +kernel
theorem dX1_set_35 : decode cX1_set 35 = .ok (.iinc 3 1, 3) := by decide +kernel
theorem dX1_set_38 : decode cX1_set 38 = .ok (.goto (-36), 3) := by decide +kernel
theorem dX1_set_41 : decode cX1_set 41 = .ok (.return_, 1) := by decide +kernel
theorem dX1_bit_0 : decode cX1_bit 0 = .ok (.iload_n 1, 1) := by decide +kernel
theorem dX1_bit_1 : decode cX1_bit 1 = .ok (.ifCond .lt 34, 3) := by decide +kernel
theorem dX1_bit_4 : decode cX1_bit 4 = .ok (.iload_n 1, 1) := by decide +kernel
theorem dX1_bit_5 : decode cX1_bit 5 = .ok (.sipush 3360, 3) := by decide +kernel
theorem dX1_bit_8 : decode cX1_bit 8 = .ok (.if_icmp .ge 27, 3) := by decide +kernel
theorem dX1_bit_11 : decode cX1_bit 11 = .ok (.aload_n 0, 1) := by decide +kernel
theorem dX1_bit_12 : decode cX1_bit 12 = .ok (.getfield 7, 3) := by decide +kernel
theorem dX1_bit_15 : decode cX1_bit 15 = .ok (.iload_n 1, 1) := by decide +kernel
theorem dX1_bit_16 : decode cX1_bit 16 = .ok (.bipush 24, 2) := by decide +kernel
theorem dX1_bit_18 : decode cX1_bit 18 = .ok (.idiv, 1) := by decide +kernel
theorem dX1_bit_19 : decode cX1_bit 19 = .ok (.iaload, 1) := by decide +kernel
theorem dX1_bit_20 : decode cX1_bit 20 = .ok (.iload_n 1, 1) := by decide +kernel
theorem dX1_bit_21 : decode cX1_bit 21 = .ok (.bipush 24, 2) := by decide +kernel
theorem dX1_bit_23 : decode cX1_bit 23 = .ok (.irem, 1) := by decide +kernel
theorem dX1_bit_24 : decode cX1_bit 24 = .ok (.ishr, 1) := by decide +kernel
theorem dX1_bit_25 : decode cX1_bit 25 = .ok (.iconst 1, 1) := by decide +kernel
theorem dX1_bit_26 : decode cX1_bit 26 = .ok (.iand, 1) := by decide +kernel
theorem dX1_bit_27 : decode cX1_bit 27 = .ok (.iconst 1, 1) := by decide +kernel
theorem dX1_bit_28 : decode cX1_bit 28 = .ok (.if_icmp .ne 7, 3) := by decide +kernel
theorem dX1_bit_31 : decode cX1_bit 31 = .ok (.iconst 1, 1) := by decide +kernel
theorem dX1_bit_32 : decode cX1_bit 32 = .ok (.goto 4, 3) := by decide +kernel
theorem dX1_bit_35 : decode cX1_bit 35 = .ok (.iconst 0, 1) := by decide +kernel
theorem dX1_bit_36 : decode cX1_bit 36 = .ok (.ireturn, 1) := by decide +kernel
theorem dX1_length_0 : decode cX1_length 0 = .ok (.sipush 3360, 3) := by decide +kernel
theorem dX1_length_3 : decode cX1_length 3 = .ok (.istore_n 1, 1) := by decide +kernel
theorem dX1_length_4 : decode cX1_length 4 = .ok (.iload_n 1, 1) := by decide +kernel
theorem dX1_length_5 : decode cX1_length 5 = .ok (.ifCond .le 19, 3) := by decide +kernel
theorem dX1_length_8 : decode cX1_length 8 = .ok (.aload_n 0, 1) := by decide +kernel
theorem dX1_length_9 : decode cX1_length 9 = .ok (.iload_n 1, 1) := by decide +kernel
theorem dX1_length_10 : decode cX1_length 10 = .ok (.iconst 1, 1) := by decide +kernel
theorem dX1_length_11 : decode cX1_length 11 = .ok (.isub, 1) := by decide +kernel
theorem dX1_length_12 : decode cX1_length 12 = .ok (.invokevirtual 15, 3) := by decide +kernel
theorem dX1_length_15 : decode cX1_length 15 = .ok (.ifCond .ne 9, 3) := by decide +kernel
theorem dX1_length_18 : decode cX1_length 18 = .ok (.iinc 1 (-1), 3) := by decide +kernel
theorem dX1_length_21 : decode cX1_length 21 = .ok (.goto (-17), 3) := by decide +kernel
theorem dX1_length_24 : decode cX1_length 24 = .ok (.iload_n 1, 1) := by decide +kernel
theorem dX1_length_25 : decode cX1_length 25 = .ok (.ireturn, 1) := by decide +kernel
theorem dX1_twice_0 : decode cX1_twice 0 = .ok (.iload_n 1, 1) := by decide +kernel
theorem dX1_twice_1 : decode cX1_twice 1 = .ok (.ifCond .eq 7, 3) := by decide +kernel
theorem dX1_twice_4 : decode cX1_twice 4 = .ok (.iconst 1, 1) := by decide +kernel
theorem dX1_twice_5 : decode cX1_twice 5 = .ok (.goto 4, 3) := by decide +kernel
theorem dX1_twice_8 : decode cX1_twice 8 = .ok (.iconst 0, 1) := by decide +kernel
theorem dX1_twice_9 : decode cX1_twice 9 = .ok (.istore_n 2, 1) := by decide +kernel
theorem dX1_twice_10 : decode cX1_twice 10 = .ok (.iconst 0, 1) := by decide +kernel
theorem dX1_twice_11 : decode cX1_twice 11 = .ok (.istore_n 3, 1) := by decide +kernel
theorem dX1_twice_12 : decode cX1_twice 12 = .ok (.iload_n 3, 1) := by decide +kernel
theorem dX1_twice_13 : decode cX1_twice 13 = .ok (.sipush 140, 3) := by decide +kernel
theorem dX1_twice_16 : decode cX1_twice 16 = .ok (.if_icmp .ge 38, 3) := by decide +kernel
theorem dX1_twice_19 : decode cX1_twice 19 = .ok (.iconst 2, 1) := by decide +kernel
theorem dX1_twice_20 : decode cX1_twice 20 = .ok (.aload_n 0, 1) := by decide +kernel
theorem dX1_twice_21 : decode cX1_twice 21 = .ok (.getfield 7, 3) := by decide +kernel
theorem dX1_twice_24 : decode cX1_twice 24 = .ok (.iload_n 3, 1) := by decide +kernel
theorem dX1_twice_25 : decode cX1_twice 25 = .ok (.iaload, 1) := by decide +kernel
theorem dX1_twice_26 : decode cX1_twice 26 = .ok (.imul, 1) := by decide +kernel
theorem dX1_twice_27 : decode cX1_twice 27 = .ok (.iload_n 2, 1) := by decide +kernel
theorem dX1_twice_28 : decode cX1_twice 28 = .ok (.iadd, 1) := by decide +kernel
theorem dX1_twice_29 : decode cX1_twice 29 = .ok (.istore 4, 2) := by decide +kernel
theorem dX1_twice_31 : decode cX1_twice 31 = .ok (.aload_n 0, 1) := by decide +kernel
theorem dX1_twice_32 : decode cX1_twice 32 = .ok (.getfield 7, 3) := by decide +kernel
theorem dX1_twice_35 : decode cX1_twice 35 = .ok (.iload_n 3, 1) := by decide +kernel
theorem dX1_twice_36 : decode cX1_twice 36 = .ok (.iload 4, 2) := by decide +kernel
theorem dX1_twice_38 : decode cX1_twice 38 = .ok (.ldc 19, 2) := by decide +kernel
theorem dX1_twice_40 : decode cX1_twice 40 = .ok (.iand, 1) := by decide +kernel
theorem dX1_twice_41 : decode cX1_twice 41 = .ok (.iastore, 1) := by decide +kernel
theorem dX1_twice_42 : decode cX1_twice 42 = .ok (.iload 4, 2) := by decide +kernel
theorem dX1_twice_44 : decode cX1_twice 44 = .ok (.bipush 24, 2) := by decide +kernel
theorem dX1_twice_46 : decode cX1_twice 46 = .ok (.ishr, 1) := by decide +kernel
theorem dX1_twice_47 : decode cX1_twice 47 = .ok (.istore_n 2, 1) := by decide +kernel
theorem dX1_twice_48 : decode cX1_twice 48 = .ok (.iinc 3 1, 3) := by decide +kernel
theorem dX1_twice_51 : decode cX1_twice 51 = .ok (.goto (-39), 3) := by decide +kernel
theorem dX1_twice_54 : decode cX1_twice 54 = .ok (.return_, 1) := by decide +kernel
theorem dX1_up_0 : decode cX1_up 0 = .ok (.sipush 139, 3) := by decide +kernel
theorem dX1_up_3 : decode cX1_up 3 = .ok (.istore_n 2, 1) := by decide +kernel
theorem dX1_up_4 : decode cX1_up 4 = .ok (.iload_n 2, 1) := by decide +kernel
theorem dX1_up_5 : decode cX1_up 5 = .ok (.ifCond .lt 77, 3) := by decide +kernel
theorem dX1_up_8 : decode cX1_up 8 = .ok (.iload_n 2, 1) := by decide +kernel
theorem dX1_up_9 : decode cX1_up 9 = .ok (.iload_n 1, 1) := by decide +kernel
theorem dX1_up_10 : decode cX1_up 10 = .ok (.bipush 24, 2) := by decide +kernel
theorem dX1_up_12 : decode cX1_up 12 = .ok (.idiv, 1) := by decide +kernel
theorem dX1_up_13 : decode cX1_up 13 = .ok (.isub, 1) := by decide +kernel
theorem dX1_up_14 : decode cX1_up 14 = .ok (.istore_n 3, 1) := by decide +kernel
theorem dX1_up_15 : decode cX1_up 15 = .ok (.iload_n 3, 1) := by decide +kernel
theorem dX1_up_16 : decode cX1_up 16 = .ok (.ifCond .lt 17, 3) := by decide +kernel
theorem dX1_up_19 : decode cX1_up 19 = .ok (.aload_n 0, 1) := by decide +kernel
theorem dX1_up_20 : decode cX1_up 20 = .ok (.getfield 7, 3) := by decide +kernel
theorem dX1_up_23 : decode cX1_up 23 = .ok (.iload_n 3, 1) := by decide +kernel
theorem dX1_up_24 : decode cX1_up 24 = .ok (.iaload, 1) := by decide +kernel
theorem dX1_up_25 : decode cX1_up 25 = .ok (.iload_n 1, 1) := by decide +kernel
theorem dX1_up_26 : decode cX1_up 26 = .ok (.bipush 24, 2) := by decide +kernel
theorem dX1_up_28 : decode cX1_up 28 = .ok (.irem, 1) := by decide +kernel
theorem dX1_up_29 : decode cX1_up 29 = .ok (.ishl, 1) := by decide +kernel
theorem dX1_up_30 : decode cX1_up 30 = .ok (.goto 4, 3) := by decide +kernel
theorem dX1_up_33 : decode cX1_up 33 = .ok (.iconst 0, 1) := by decide +kernel
theorem dX1_up_34 : decode cX1_up 34 = .ok (.istore 4, 2) := by decide +kernel
theorem dX1_up_36 : decode cX1_up 36 = .ok (.iload_n 3, 1) := by decide +kernel
theorem dX1_up_37 : decode cX1_up 37 = .ok (.ifCond .le 22, 3) := by decide +kernel
theorem dX1_up_40 : decode cX1_up 40 = .ok (.aload_n 0, 1) := by decide +kernel
theorem dX1_up_41 : decode cX1_up 41 = .ok (.getfield 7, 3) := by decide +kernel
theorem dX1_up_44 : decode cX1_up 44 = .ok (.iload_n 3, 1) := by decide +kernel
theorem dX1_up_45 : decode cX1_up 45 = .ok (.iconst 1, 1) := by decide +kernel
theorem dX1_up_46 : decode cX1_up 46 = .ok (.isub, 1) := by decide +kernel
theorem dX1_up_47 : decode cX1_up 47 = .ok (.iaload, 1) := by decide +kernel
theorem dX1_up_48 : decode cX1_up 48 = .ok (.bipush 24, 2) := by decide +kernel
theorem dX1_up_50 : decode cX1_up 50 = .ok (.iload_n 1, 1) := by decide +kernel
theorem dX1_up_51 : decode cX1_up 51 = .ok (.bipush 24, 2) := by decide +kernel
theorem dX1_up_53 : decode cX1_up 53 = .ok (.irem, 1) := by decide +kernel
theorem dX1_up_54 : decode cX1_up 54 = .ok (.isub, 1) := by decide +kernel
theorem dX1_up_55 : decode cX1_up 55 = .ok (.ishr, 1) := by decide +kernel
theorem dX1_up_56 : decode cX1_up 56 = .ok (.goto 4, 3) := by decide +kernel
theorem dX1_up_59 : decode cX1_up 59 = .ok (.iconst 0, 1) := by decide +kernel
theorem dX1_up_60 : decode cX1_up 60 = .ok (.istore 5, 2) := by decide +kernel
theorem dX1_up_62 : decode cX1_up 62 = .ok (.aload_n 0, 1) := by decide +kernel
theorem dX1_up_63 : decode cX1_up 63 = .ok (.getfield 7, 3) := by decide +kernel
theorem dX1_up_66 : decode cX1_up 66 = .ok (.iload_n 2, 1) := by decide +kernel
theorem dX1_up_67 : decode cX1_up 67 = .ok (.iload 4, 2) := by decide +kernel
theorem dX1_up_69 : decode cX1_up 69 = .ok (.iload 5, 2) := by decide +kernel
theorem dX1_up_71 : decode cX1_up 71 = .ok (.ior, 1) := by decide +kernel
theorem dX1_up_72 : decode cX1_up 72 = .ok (.ldc 19, 2) := by decide +kernel
theorem dX1_up_74 : decode cX1_up 74 = .ok (.iand, 1) := by decide +kernel
theorem dX1_up_75 : decode cX1_up 75 = .ok (.iastore, 1) := by decide +kernel
theorem dX1_up_76 : decode cX1_up 76 = .ok (.iinc 2 (-1), 3) := by decide +kernel
theorem dX1_up_79 : decode cX1_up 79 = .ok (.goto (-75), 3) := by decide +kernel
theorem dX1_up_82 : decode cX1_up 82 = .ok (.return_, 1) := by decide +kernel
theorem dX1_add_0 : decode cX1_add 0 = .ok (.iconst 0, 1) := by decide +kernel
theorem dX1_add_1 : decode cX1_add 1 = .ok (.istore_n 2, 1) := by decide +kernel
theorem dX1_add_2 : decode cX1_add 2 = .ok (.iconst 0, 1) := by decide +kernel
theorem dX1_add_3 : decode cX1_add 3 = .ok (.istore_n 3, 1) := by decide +kernel
theorem dX1_add_4 : decode cX1_add 4 = .ok (.iload_n 3, 1) := by decide +kernel
theorem dX1_add_5 : decode cX1_add 5 = .ok (.sipush 140, 3) := by decide +kernel
theorem dX1_add_8 : decode cX1_add 8 = .ok (.if_icmp .ge 43, 3) := by decide +kernel
theorem dX1_add_11 : decode cX1_add 11 = .ok (.aload_n 0, 1) := by decide +kernel
theorem dX1_add_12 : decode cX1_add 12 = .ok (.getfield 7, 3) := by decide +kernel
theorem dX1_add_15 : decode cX1_add 15 = .ok (.iload_n 3, 1) := by decide +kernel
theorem dX1_add_16 : decode cX1_add 16 = .ok (.iaload, 1) := by decide +kernel
theorem dX1_add_17 : decode cX1_add 17 = .ok (.aload_n 1, 1) := by decide +kernel
theorem dX1_add_18 : decode cX1_add 18 = .ok (.getfield 7, 3) := by decide +kernel
theorem dX1_add_21 : decode cX1_add 21 = .ok (.iload_n 3, 1) := by decide +kernel
theorem dX1_add_22 : decode cX1_add 22 = .ok (.iaload, 1) := by decide +kernel
theorem dX1_add_23 : decode cX1_add 23 = .ok (.iadd, 1) := by decide +kernel
theorem dX1_add_24 : decode cX1_add 24 = .ok (.iload_n 2, 1) := by decide +kernel
theorem dX1_add_25 : decode cX1_add 25 = .ok (.iadd, 1) := by decide +kernel
theorem dX1_add_26 : decode cX1_add 26 = .ok (.istore 4, 2) := by decide +kernel
theorem dX1_add_28 : decode cX1_add 28 = .ok (.aload_n 0, 1) := by decide +kernel
theorem dX1_add_29 : decode cX1_add 29 = .ok (.getfield 7, 3) := by decide +kernel
theorem dX1_add_32 : decode cX1_add 32 = .ok (.iload_n 3, 1) := by decide +kernel
theorem dX1_add_33 : decode cX1_add 33 = .ok (.iload 4, 2) := by decide +kernel
theorem dX1_add_35 : decode cX1_add 35 = .ok (.ldc 19, 2) := by decide +kernel
theorem dX1_add_37 : decode cX1_add 37 = .ok (.iand, 1) := by decide +kernel
theorem dX1_add_38 : decode cX1_add 38 = .ok (.iastore, 1) := by decide +kernel
theorem dX1_add_39 : decode cX1_add 39 = .ok (.iload 4, 2) := by decide +kernel
theorem dX1_add_41 : decode cX1_add 41 = .ok (.bipush 24, 2) := by decide +kernel
theorem dX1_add_43 : decode cX1_add 43 = .ok (.ishr, 1) := by decide +kernel
theorem dX1_add_44 : decode cX1_add 44 = .ok (.istore_n 2, 1) := by decide +kernel
theorem dX1_add_45 : decode cX1_add 45 = .ok (.iinc 3 1, 3) := by decide +kernel
theorem dX1_add_48 : decode cX1_add 48 = .ok (.goto (-44), 3) := by decide +kernel
theorem dX1_add_51 : decode cX1_add 51 = .ok (.return_, 1) := by decide +kernel
theorem dX1_less_0 : decode cX1_less 0 = .ok (.iconst 0, 1) := by decide +kernel
theorem dX1_less_1 : decode cX1_less 1 = .ok (.istore_n 2, 1) := by decide +kernel
theorem dX1_less_2 : decode cX1_less 2 = .ok (.iconst 0, 1) := by decide +kernel
theorem dX1_less_3 : decode cX1_less 3 = .ok (.istore_n 3, 1) := by decide +kernel
theorem dX1_less_4 : decode cX1_less 4 = .ok (.iload_n 3, 1) := by decide +kernel
theorem dX1_less_5 : decode cX1_less 5 = .ok (.sipush 140, 3) := by decide +kernel
theorem dX1_less_8 : decode cX1_less 8 = .ok (.if_icmp .ge 48, 3) := by decide +kernel
theorem dX1_less_11 : decode cX1_less 11 = .ok (.aload_n 0, 1) := by decide +kernel
theorem dX1_less_12 : decode cX1_less 12 = .ok (.getfield 7, 3) := by decide +kernel
theorem dX1_less_15 : decode cX1_less 15 = .ok (.iload_n 3, 1) := by decide +kernel
theorem dX1_less_16 : decode cX1_less 16 = .ok (.iaload, 1) := by decide +kernel
theorem dX1_less_17 : decode cX1_less 17 = .ok (.aload_n 1, 1) := by decide +kernel
theorem dX1_less_18 : decode cX1_less 18 = .ok (.getfield 7, 3) := by decide +kernel
theorem dX1_less_21 : decode cX1_less 21 = .ok (.iload_n 3, 1) := by decide +kernel
theorem dX1_less_22 : decode cX1_less 22 = .ok (.iaload, 1) := by decide +kernel
theorem dX1_less_23 : decode cX1_less 23 = .ok (.isub, 1) := by decide +kernel
theorem dX1_less_24 : decode cX1_less 24 = .ok (.iload_n 2, 1) := by decide +kernel
theorem dX1_less_25 : decode cX1_less 25 = .ok (.isub, 1) := by decide +kernel
theorem dX1_less_26 : decode cX1_less 26 = .ok (.istore 4, 2) := by decide +kernel
theorem dX1_less_28 : decode cX1_less 28 = .ok (.iload 4, 2) := by decide +kernel
theorem dX1_less_30 : decode cX1_less 30 = .ok (.ifCond .ge 7, 3) := by decide +kernel
theorem dX1_less_33 : decode cX1_less 33 = .ok (.iconst 1, 1) := by decide +kernel
theorem dX1_less_34 : decode cX1_less 34 = .ok (.goto 4, 3) := by decide +kernel
theorem dX1_less_37 : decode cX1_less 37 = .ok (.iconst 0, 1) := by decide +kernel
theorem dX1_less_38 : decode cX1_less 38 = .ok (.istore_n 2, 1) := by decide +kernel
theorem dX1_less_39 : decode cX1_less 39 = .ok (.aload_n 0, 1) := by decide +kernel
theorem dX1_less_40 : decode cX1_less 40 = .ok (.getfield 7, 3) := by decide +kernel
theorem dX1_less_43 : decode cX1_less 43 = .ok (.iload_n 3, 1) := by decide +kernel
theorem dX1_less_44 : decode cX1_less 44 = .ok (.iload 4, 2) := by decide +kernel
theorem dX1_less_46 : decode cX1_less 46 = .ok (.ldc 19, 2) := by decide +kernel
theorem dX1_less_48 : decode cX1_less 48 = .ok (.iand, 1) := by decide +kernel
theorem dX1_less_49 : decode cX1_less 49 = .ok (.iastore, 1) := by decide +kernel
theorem dX1_less_50 : decode cX1_less 50 = .ok (.iinc 3 1, 3) := by decide +kernel
theorem dX1_less_53 : decode cX1_less 53 = .ok (.goto (-49), 3) := by decide +kernel
theorem dX1_less_56 : decode cX1_less 56 = .ok (.return_, 1) := by decide +kernel
theorem dX1_compare_0 : decode cX1_compare 0 = .ok (.sipush 139, 3) := by decide +kernel
theorem dX1_compare_3 : decode cX1_compare 3 = .ok (.istore_n 2, 1) := by decide +kernel
theorem dX1_compare_4 : decode cX1_compare 4 = .ok (.iload_n 2, 1) := by decide +kernel
theorem dX1_compare_5 : decode cX1_compare 5 = .ok (.ifCond .lt 24, 3) := by decide +kernel
theorem dX1_compare_8 : decode cX1_compare 8 = .ok (.aload_n 0, 1) := by decide +kernel
theorem dX1_compare_9 : decode cX1_compare 9 = .ok (.getfield 7, 3) := by decide +kernel
theorem dX1_compare_12 : decode cX1_compare 12 = .ok (.iload_n 2, 1) := by decide +kernel
theorem dX1_compare_13 : decode cX1_compare 13 = .ok (.iaload, 1) := by decide +kernel
theorem dX1_compare_14 : decode cX1_compare 14 = .ok (.aload_n 1, 1) := by decide +kernel
theorem dX1_compare_15 : decode cX1_compare 15 = .ok (.getfield 7, 3) := by decide +kernel
theorem dX1_compare_18 : decode cX1_compare 18 = .ok (.iload_n 2, 1) := by decide +kernel
theorem dX1_compare_19 : decode cX1_compare 19 = .ok (.iaload, 1) := by decide +kernel
theorem dX1_compare_20 : decode cX1_compare 20 = .ok (.if_icmp .ne 9, 3) := by decide +kernel
theorem dX1_compare_23 : decode cX1_compare 23 = .ok (.iinc 2 (-1), 3) := by decide +kernel
theorem dX1_compare_26 : decode cX1_compare 26 = .ok (.goto (-22), 3) := by decide +kernel
theorem dX1_compare_29 : decode cX1_compare 29 = .ok (.iload_n 2, 1) := by decide +kernel
theorem dX1_compare_30 : decode cX1_compare 30 = .ok (.ifCond .ge 7, 3) := by decide +kernel
theorem dX1_compare_33 : decode cX1_compare 33 = .ok (.iconst 0, 1) := by decide +kernel
theorem dX1_compare_34 : decode cX1_compare 34 = .ok (.goto 23, 3) := by decide +kernel
theorem dX1_compare_37 : decode cX1_compare 37 = .ok (.aload_n 0, 1) := by decide +kernel
theorem dX1_compare_38 : decode cX1_compare 38 = .ok (.getfield 7, 3) := by decide +kernel
theorem dX1_compare_41 : decode cX1_compare 41 = .ok (.iload_n 2, 1) := by decide +kernel
theorem dX1_compare_42 : decode cX1_compare 42 = .ok (.iaload, 1) := by decide +kernel
theorem dX1_compare_43 : decode cX1_compare 43 = .ok (.aload_n 1, 1) := by decide +kernel
theorem dX1_compare_44 : decode cX1_compare 44 = .ok (.getfield 7, 3) := by decide +kernel
theorem dX1_compare_47 : decode cX1_compare 47 = .ok (.iload_n 2, 1) := by decide +kernel
theorem dX1_compare_48 : decode cX1_compare 48 = .ok (.iaload, 1) := by decide +kernel
theorem dX1_compare_49 : decode cX1_compare 49 = .ok (.if_icmp .ge 7, 3) := by decide +kernel
theorem dX1_compare_52 : decode cX1_compare 52 = .ok (.iconst (-1), 1) := by decide +kernel
theorem dX1_compare_53 : decode cX1_compare 53 = .ok (.goto 4, 3) := by decide +kernel
theorem dX1_compare_56 : decode cX1_compare 56 = .ok (.iconst 1, 1) := by decide +kernel
theorem dX1_compare_57 : decode cX1_compare 57 = .ok (.ireturn, 1) := by decide +kernel
theorem dX1_product_0 : decode cX1_product 0 = .ok (.aload_n 0, 1) := by decide +kernel
theorem dX1_product_1 : decode cX1_product 1 = .ok (.lconst 0, 1) := by decide +kernel
theorem dX1_product_2 : decode cX1_product 2 = .ok (.invokevirtual 20, 3) := by decide +kernel
theorem dX1_product_5 : decode cX1_product 5 = .ok (.bipush 60, 2) := by decide +kernel
theorem dX1_product_7 : decode cX1_product 7 = .ok (.istore 5, 2) := by decide +kernel
theorem dX1_product_9 : decode cX1_product 9 = .ok (.iload 5, 2) := by decide +kernel
theorem dX1_product_11 : decode cX1_product 11 = .ok (.ifCond .lt 30, 3) := by decide +kernel
theorem dX1_product_14 : decode cX1_product 14 = .ok (.aload_n 0, 1) := by decide +kernel
theorem dX1_product_15 : decode cX1_product 15 = .ok (.iconst 0, 1) := by decide +kernel
theorem dX1_product_16 : decode cX1_product 16 = .ok (.invokevirtual 24, 3) := by decide +kernel
theorem dX1_product_19 : decode cX1_product 19 = .ok (.lload_n 3, 1) := by decide +kernel
theorem dX1_product_20 : decode cX1_product 20 = .ok (.iload 5, 2) := by decide +kernel
theorem dX1_product_22 : decode cX1_product 22 = .ok (.lshr, 1) := by decide +kernel
theorem dX1_product_23 : decode cX1_product 23 = .ok (.lconst 1, 1) := by decide +kernel
theorem dX1_product_24 : decode cX1_product 24 = .ok (.land, 1) := by decide +kernel
theorem dX1_product_25 : decode cX1_product 25 = .ok (.lconst 1, 1) := by decide +kernel
theorem dX1_product_26 : decode cX1_product 26 = .ok (.lcmp, 1) := by decide +kernel
theorem dX1_product_27 : decode cX1_product 27 = .ok (.ifCond .ne 8, 3) := by decide +kernel
theorem dX1_product_30 : decode cX1_product 30 = .ok (.aload_n 0, 1) := by decide +kernel
theorem dX1_product_31 : decode cX1_product 31 = .ok (.lload_n 1, 1) := by decide +kernel
theorem dX1_product_32 : decode cX1_product 32 = .ok (.invokevirtual 28, 3) := by decide +kernel
theorem dX1_product_35 : decode cX1_product 35 = .ok (.iinc 5 (-1), 3) := by decide +kernel
theorem dX1_product_38 : decode cX1_product 38 = .ok (.goto (-29), 3) := by decide +kernel
theorem dX1_product_41 : decode cX1_product 41 = .ok (.return_, 1) := by decide +kernel
theorem dX1_addLong_0 : decode cX1_addLong 0 = .ok (.lload_n 1, 1) := by decide +kernel
theorem dX1_addLong_1 : decode cX1_addLong 1 = .ok (.lstore_n 3, 1) := by decide +kernel
theorem dX1_addLong_2 : decode cX1_addLong 2 = .ok (.iconst 0, 1) := by decide +kernel
theorem dX1_addLong_3 : decode cX1_addLong 3 = .ok (.istore 5, 2) := by decide +kernel
theorem dX1_addLong_5 : decode cX1_addLong 5 = .ok (.iload 5, 2) := by decide +kernel
theorem dX1_addLong_7 : decode cX1_addLong 7 = .ok (.sipush 140, 3) := by decide +kernel
theorem dX1_addLong_10 : decode cX1_addLong 10 = .ok (.if_icmp .ge 38, 3) := by decide +kernel
theorem dX1_addLong_13 : decode cX1_addLong 13 = .ok (.lload_n 3, 1) := by decide +kernel
theorem dX1_addLong_14 : decode cX1_addLong 14 = .ok (.aload_n 0, 1) := by decide +kernel
theorem dX1_addLong_15 : decode cX1_addLong 15 = .ok (.getfield 7, 3) := by decide +kernel
theorem dX1_addLong_18 : decode cX1_addLong 18 = .ok (.iload 5, 2) := by decide +kernel
theorem dX1_addLong_20 : decode cX1_addLong 20 = .ok (.iaload, 1) := by decide +kernel
theorem dX1_addLong_21 : decode cX1_addLong 21 = .ok (.i2l, 1) := by decide +kernel
theorem dX1_addLong_22 : decode cX1_addLong 22 = .ok (.ladd, 1) := by decide +kernel
theorem dX1_addLong_23 : decode cX1_addLong 23 = .ok (.lstore_n 3, 1) := by decide +kernel
theorem dX1_addLong_24 : decode cX1_addLong 24 = .ok (.aload_n 0, 1) := by decide +kernel
theorem dX1_addLong_25 : decode cX1_addLong 25 = .ok (.getfield 7, 3) := by decide +kernel
theorem dX1_addLong_28 : decode cX1_addLong 28 = .ok (.iload 5, 2) := by decide +kernel
theorem dX1_addLong_30 : decode cX1_addLong 30 = .ok (.lload_n 3, 1) := by decide +kernel
theorem dX1_addLong_31 : decode cX1_addLong 31 = .ok (.ldc2_w 13, 3) := by decide +kernel
theorem dX1_addLong_34 : decode cX1_addLong 34 = .ok (.land, 1) := by decide +kernel
theorem dX1_addLong_35 : decode cX1_addLong 35 = .ok (.l2i, 1) := by decide +kernel
theorem dX1_addLong_36 : decode cX1_addLong 36 = .ok (.iastore, 1) := by decide +kernel
theorem dX1_addLong_37 : decode cX1_addLong 37 = .ok (.lload_n 3, 1) := by decide +kernel
theorem dX1_addLong_38 : decode cX1_addLong 38 = .ok (.bipush 24, 2) := by decide +kernel
theorem dX1_addLong_40 : decode cX1_addLong 40 = .ok (.lshr, 1) := by decide +kernel
theorem dX1_addLong_41 : decode cX1_addLong 41 = .ok (.lstore_n 3, 1) := by decide +kernel
theorem dX1_addLong_42 : decode cX1_addLong 42 = .ok (.iinc 5 1, 3) := by decide +kernel
theorem dX1_addLong_45 : decode cX1_addLong 45 = .ok (.goto (-40), 3) := by decide +kernel
theorem dX1_addLong_48 : decode cX1_addLong 48 = .ok (.return_, 1) := by decide +kernel
theorem dX1_places_0 : decode cX1_places 0 = .ok (.lconst 0, 1) := by decide +kernel
theorem dX1_places_1 : decode cX1_places 1 = .ok (.lstore_n 2, 1) := by decide +kernel
theorem dX1_places_2 : decode cX1_places 2 = .ok (.bipush 52, 2) := by decide +kernel
theorem dX1_places_4 : decode cX1_places 4 = .ok (.istore 4, 2) := by decide +kernel
theorem dX1_places_6 : decode cX1_places 6 = .ok (.iload 4, 2) := by decide +kernel
theorem dX1_places_8 : decode cX1_places 8 = .ok (.ifCond .lt 32, 3) := by decide +kernel
theorem dX1_places_11 : decode cX1_places 11 = .ok (.ldc2_w 31, 3) := by decide +kernel
theorem dX1_places_14 : decode cX1_places 14 = .ok (.lload_n 2, 1) := by decide +kernel
theorem dX1_places_15 : decode cX1_places 15 = .ok (.lmul, 1) := by decide +kernel
theorem dX1_places_16 : decode cX1_places 16 = .ok (.aload_n 0, 1) := by decide +kernel
theorem dX1_places_17 : decode cX1_places 17 = .ok (.iload_n 1, 1) := by decide +kernel
theorem dX1_places_18 : decode cX1_places 18 = .ok (.iload 4, 2) := by decide +kernel
theorem dX1_places_20 : decode cX1_places 20 = .ok (.iadd, 1) := by decide +kernel
theorem dX1_places_21 : decode cX1_places 21 = .ok (.invokevirtual 15, 3) := by decide +kernel
theorem dX1_places_24 : decode cX1_places 24 = .ok (.ifCond .eq 7, 3) := by decide +kernel
theorem dX1_places_27 : decode cX1_places 27 = .ok (.lconst 1, 1) := by decide +kernel
theorem dX1_places_28 : decode cX1_places 28 = .ok (.goto 4, 3) := by decide +kernel
theorem dX1_places_31 : decode cX1_places 31 = .ok (.lconst 0, 1) := by decide +kernel
theorem dX1_places_32 : decode cX1_places 32 = .ok (.ladd, 1) := by decide +kernel
theorem dX1_places_33 : decode cX1_places 33 = .ok (.lstore_n 2, 1) := by decide +kernel
theorem dX1_places_34 : decode cX1_places 34 = .ok (.iinc 4 (-1), 3) := by decide +kernel
theorem dX1_places_37 : decode cX1_places 37 = .ok (.goto (-31), 3) := by decide +kernel
theorem dX1_places_40 : decode cX1_places 40 = .ok (.lload_n 2, 1) := by decide +kernel
theorem dX1_places_41 : decode cX1_places 41 = .ok (.lreturn, 1) := by decide +kernel
theorem dX1_hasBelow_0 : decode cX1_hasBelow 0 = .ok (.iconst 0, 1) := by decide +kernel
theorem dX1_hasBelow_1 : decode cX1_hasBelow 1 = .ok (.istore_n 2, 1) := by decide +kernel
theorem dX1_hasBelow_2 : decode cX1_hasBelow 2 = .ok (.iconst 0, 1) := by decide +kernel
theorem dX1_hasBelow_3 : decode cX1_hasBelow 3 = .ok (.istore_n 3, 1) := by decide +kernel
theorem dX1_hasBelow_4 : decode cX1_hasBelow 4 = .ok (.iload_n 3, 1) := by decide +kernel
theorem dX1_hasBelow_5 : decode cX1_hasBelow 5 = .ok (.iload_n 1, 1) := by decide +kernel
theorem dX1_hasBelow_6 : decode cX1_hasBelow 6 = .ok (.if_icmp .ge 19, 3) := by decide +kernel
theorem dX1_hasBelow_9 : decode cX1_hasBelow 9 = .ok (.iload_n 2, 1) := by decide +kernel
theorem dX1_hasBelow_10 : decode cX1_hasBelow 10 = .ok (.ifCond .ne 15, 3) := by decide +kernel
theorem dX1_hasBelow_13 : decode cX1_hasBelow 13 = .ok (.aload_n 0, 1) := by decide +kernel
theorem dX1_hasBelow_14 : decode cX1_hasBelow 14 = .ok (.iload_n 3, 1) := by decide +kernel
theorem dX1_hasBelow_15 : decode cX1_hasBelow 15 = .ok (.invokevirtual 15, 3) := by decide +kernel
theorem dX1_hasBelow_18 : decode cX1_hasBelow 18 = .ok (.istore_n 2, 1) := by decide +kernel
theorem dX1_hasBelow_19 : decode cX1_hasBelow 19 = .ok (.iinc 3 1, 3) := by decide +kernel
theorem dX1_hasBelow_22 : decode cX1_hasBelow 22 = .ok (.goto (-18), 3) := by decide +kernel
theorem dX1_hasBelow_25 : decode cX1_hasBelow 25 = .ok (.iload_n 2, 1) := by decide +kernel
theorem dX1_hasBelow_26 : decode cX1_hasBelow 26 = .ok (.ireturn, 1) := by decide +kernel
theorem dX2_init_0 : decode cX2_init 0 = .ok (.aload_n 0, 1) := by decide +kernel
theorem dX2_init_1 : decode cX2_init 1 = .ok (.invokespecial 1, 3) := by decide +kernel
theorem dX2_init_4 : decode cX2_init 4 = .ok (.aload_n 0, 1) := by decide +kernel
theorem dX2_init_5 : decode cX2_init 5 = .ok (.bipush 16, 2) := by decide +kernel
theorem dX2_init_7 : decode cX2_init 7 = .ok (.newarray .boolean, 2) := by decide +kernel
theorem dX2_init_9 : decode cX2_init 9 = .ok (.putfield 7, 3) := by decide +kernel
theorem dX2_init_12 : decode cX2_init 12 = .ok (.aload_n 0, 1) := by decide +kernel
theorem dX2_init_13 : decode cX2_init 13 = .ok (.bipush 16, 2) := by decide +kernel
theorem dX2_init_15 : decode cX2_init 15 = .ok (.newarray .long, 2) := by decide +kernel
theorem dX2_init_17 : decode cX2_init 17 = .ok (.putfield 13, 3) := by decide +kernel
theorem dX2_init_20 : decode cX2_init 20 = .ok (.aload_n 0, 1) := by decide +kernel
theorem dX2_init_21 : decode cX2_init 21 = .ok (.bipush 16, 2) := by decide +kernel
theorem dX2_init_23 : decode cX2_init 23 = .ok (.newarray .int, 2) := by decide +kernel
theorem dX2_init_25 : decode cX2_init 25 = .ok (.putfield 17, 3) := by decide +kernel
theorem dX2_init_28 : decode cX2_init 28 = .ok (.aload_n 0, 1) := by decide +kernel
theorem dX2_init_29 : decode cX2_init 29 = .ok (.new 21, 3) := by decide +kernel
theorem dX2_init_32 : decode cX2_init 32 = .ok (.dup, 1) := by decide +kernel
theorem dX2_init_33 : decode cX2_init 33 = .ok (.invokespecial 23, 3) := by decide +kernel
theorem dX2_init_36 : decode cX2_init 36 = .ok (.putfield 24, 3) := by decide +kernel
theorem dX2_init_39 : decode cX2_init 39 = .ok (.aload_n 0, 1) := by decide +kernel
theorem dX2_init_40 : decode cX2_init 40 = .ok (.new 21, 3) := by decide +kernel
theorem dX2_init_43 : decode cX2_init 43 = .ok (.dup, 1) := by decide +kernel
theorem dX2_init_44 : decode cX2_init 44 = .ok (.invokespecial 23, 3) := by decide +kernel
theorem dX2_init_47 : decode cX2_init 47 = .ok (.putfield 28, 3) := by decide +kernel
theorem dX2_init_50 : decode cX2_init 50 = .ok (.iconst 0, 1) := by decide +kernel
theorem dX2_init_51 : decode cX2_init 51 = .ok (.istore_n 1, 1) := by decide +kernel
theorem dX2_init_52 : decode cX2_init 52 = .ok (.iload_n 1, 1) := by decide +kernel
theorem dX2_init_53 : decode cX2_init 53 = .ok (.bipush 16, 2) := by decide +kernel
theorem dX2_init_55 : decode cX2_init 55 = .ok (.if_icmp .ge 18, 3) := by decide +kernel
theorem dX2_init_58 : decode cX2_init 58 = .ok (.aload_n 0, 1) := by decide +kernel
theorem dX2_init_59 : decode cX2_init 59 = .ok (.getfield 17, 3) := by decide +kernel
theorem dX2_init_62 : decode cX2_init 62 = .ok (.iload_n 1, 1) := by decide +kernel
theorem dX2_init_63 : decode cX2_init 63 = .ok (.sipush (-1074), 3) := by decide +kernel
theorem dX2_init_66 : decode cX2_init 66 = .ok (.iastore, 1) := by decide +kernel
theorem dX2_init_67 : decode cX2_init 67 = .ok (.iinc 1 1, 3) := by decide +kernel
theorem dX2_init_70 : decode cX2_init 70 = .ok (.goto (-18), 3) := by decide +kernel
theorem dX2_init_73 : decode cX2_init 73 = .ok (.return_, 1) := by decide +kernel
theorem dX2_thrown_0 : decode cX2_thrown 0 = .ok (.aload_n 0, 1) := by decide +kernel
theorem dX2_thrown_1 : decode cX2_thrown 1 = .ok (.getfield 31, 3) := by decide +kernel
theorem dX2_thrown_4 : decode cX2_thrown 4 = .ok (.ireturn, 1) := by decide +kernel
theorem dX2_refuse_0 : decode cX2_refuse 0 = .ok (.aload_n 0, 1) := by decide +kernel
theorem dX2_refuse_1 : decode cX2_refuse 1 = .ok (.iload_n 1, 1) := by decide +kernel
theorem dX2_refuse_2 : decode cX2_refuse 2 = .ok (.putfield 31, 3) := by decide +kernel
theorem dX2_refuse_5 : decode cX2_refuse 5 = .ok (.iconst 0, 1) := by decide +kernel
theorem dX2_refuse_6 : decode cX2_refuse 6 = .ok (.ireturn, 1) := by decide +kernel
theorem dX2_isRegister_0 : decode cX2_isRegister 0 = .ok (.iload_n 0, 1) := by decide +kernel
theorem dX2_isRegister_1 : decode cX2_isRegister 1 = .ok (.ifCond .lt 13, 3) := by decide +kernel
theorem dX2_isRegister_4 : decode cX2_isRegister 4 = .ok (.iload_n 0, 1) := by decide +kernel
theorem dX2_isRegister_5 : decode cX2_isRegister 5 = .ok (.bipush 16, 2) := by decide +kernel
theorem dX2_isRegister_7 : decode cX2_isRegister 7 = .ok (.if_icmp .ge 7, 3) := by decide +kernel
theorem dX2_isRegister_10 : decode cX2_isRegister 10 = .ok (.iconst 1, 1) := by decide +kernel
theorem dX2_isRegister_11 : decode cX2_isRegister 11 = .ok (.goto 4, 3) := by decide +kernel
theorem dX2_isRegister_14 : decode cX2_isRegister 14 = .ok (.iconst 0, 1) := by decide +kernel
theorem dX2_isRegister_15 : decode cX2_isRegister 15 = .ok (.ireturn, 1) := by decide +kernel
theorem dX2_within_0 : decode cX2_within 0 = .ok (.iload_n 0, 1) := by decide +kernel
theorem dX2_within_1 : decode cX2_within 1 = .ok (.iload_n 1, 1) := by decide +kernel
theorem dX2_within_2 : decode cX2_within 2 = .ok (.if_icmp .lt 12, 3) := by decide +kernel
theorem dX2_within_5 : decode cX2_within 5 = .ok (.iload_n 0, 1) := by decide +kernel
theorem dX2_within_6 : decode cX2_within 6 = .ok (.iload_n 2, 1) := by decide +kernel
theorem dX2_within_7 : decode cX2_within 7 = .ok (.if_icmp .gt 7, 3) := by decide +kernel
theorem dX2_within_10 : decode cX2_within 10 = .ok (.iconst 1, 1) := by decide +kernel
theorem dX2_within_11 : decode cX2_within 11 = .ok (.goto 4, 3) := by decide +kernel
theorem dX2_within_14 : decode cX2_within 14 = .ok (.iconst 0, 1) := by decide +kernel
theorem dX2_within_15 : decode cX2_within 15 = .ok (.ireturn, 1) := by decide +kernel
theorem dX2_nearest_0 : decode cX2_nearest 0 = .ok (.aload_n 0, 1) := by decide +kernel
theorem dX2_nearest_1 : decode cX2_nearest 1 = .ok (.getfield 24, 3) := by decide +kernel
theorem dX2_nearest_4 : decode cX2_nearest 4 = .ok (.invokevirtual 35, 3) := by decide +kernel
theorem dX2_nearest_7 : decode cX2_nearest 7 = .ok (.istore 4, 2) := by decide +kernel
theorem dX2_nearest_9 : decode cX2_nearest 9 = .ok (.iload 4, 2) := by decide +kernel
theorem dX2_nearest_11 : decode cX2_nearest 11 = .ok (.bipush 53, 2) := by decide +kernel
theorem dX2_nearest_13 : decode cX2_nearest 13 = .ok (.isub, 1) := by decide +kernel
theorem dX2_nearest_14 : decode cX2_nearest 14 = .ok (.sipush (-1074), 3) := by decide +kernel
theorem dX2_nearest_17 : decode cX2_nearest 17 = .ok (.iload_n 2, 1) := by decide +kernel
theorem dX2_nearest_18 : decode cX2_nearest 18 = .ok (.isub, 1) := by decide +kernel
theorem dX2_nearest_19 : decode cX2_nearest 19 = .ok (.if_icmp .le 11, 3) := by decide +kernel
theorem dX2_nearest_22 : decode cX2_nearest 22 = .ok (.iload 4, 2) := by decide +kernel
theorem dX2_nearest_24 : decode cX2_nearest 24 = .ok (.bipush 53, 2) := by decide +kernel
theorem dX2_nearest_26 : decode cX2_nearest 26 = .ok (.isub, 1) := by decide +kernel
theorem dX2_nearest_27 : decode cX2_nearest 27 = .ok (.goto 8, 3) := by decide +kernel
theorem dX2_nearest_30 : decode cX2_nearest 30 = .ok (.sipush (-1074), 3) := by decide +kernel
theorem dX2_nearest_33 : decode cX2_nearest 33 = .ok (.iload_n 2, 1) := by decide +kernel
theorem dX2_nearest_34 : decode cX2_nearest 34 = .ok (.isub, 1) := by decide +kernel
theorem dX2_nearest_35 : decode cX2_nearest 35 = .ok (.istore 5, 2) := by decide +kernel
theorem dX2_nearest_37 : decode cX2_nearest 37 = .ok (.aload_n 0, 1) := by decide +kernel
theorem dX2_nearest_38 : decode cX2_nearest 38 = .ok (.iload_n 1, 1) := by decide +kernel
theorem dX2_nearest_39 : decode cX2_nearest 39 = .ok (.putfield 39, 3) := by decide +kernel
theorem dX2_nearest_42 : decode cX2_nearest 42 = .ok (.iload 5, 2) := by decide +kernel
theorem dX2_nearest_44 : decode cX2_nearest 44 = .ok (.ifCond .gt 23, 3) := by decide +kernel
theorem dX2_nearest_47 : decode cX2_nearest 47 = .ok (.aload_n 0, 1) := by decide +kernel
theorem dX2_nearest_48 : decode cX2_nearest 48 = .ok (.aload_n 0, 1) := by decide +kernel
theorem dX2_nearest_49 : decode cX2_nearest 49 = .ok (.getfield 24, 3) := by decide +kernel
theorem dX2_nearest_52 : decode cX2_nearest 52 = .ok (.iconst 0, 1) := by decide +kernel
theorem dX2_nearest_53 : decode cX2_nearest 53 = .ok (.invokevirtual 43, 3) := by decide +kernel
theorem dX2_nearest_56 : decode cX2_nearest 56 = .ok (.putfield 47, 3) := by decide +kernel
theorem dX2_nearest_59 : decode cX2_nearest 59 = .ok (.aload_n 0, 1) := by decide +kernel
theorem dX2_nearest_60 : decode cX2_nearest 60 = .ok (.iload_n 2, 1) := by decide +kernel
theorem dX2_nearest_61 : decode cX2_nearest 61 = .ok (.putfield 51, 3) := by decide +kernel
theorem dX2_nearest_64 : decode cX2_nearest 64 = .ok (.goto 98, 3) := by decide +kernel
theorem dX2_nearest_67 : decode cX2_nearest 67 = .ok (.aload_n 0, 1) := by decide +kernel
theorem dX2_nearest_68 : decode cX2_nearest 68 = .ok (.aload_n 0, 1) := by decide +kernel
theorem dX2_nearest_69 : decode cX2_nearest 69 = .ok (.getfield 24, 3) := by decide +kernel
theorem dX2_nearest_72 : decode cX2_nearest 72 = .ok (.iload 5, 2) := by decide +kernel
theorem dX2_nearest_74 : decode cX2_nearest 74 = .ok (.invokevirtual 43, 3) := by decide +kernel
theorem dX2_nearest_77 : decode cX2_nearest 77 = .ok (.putfield 47, 3) := by decide +kernel
theorem dX2_nearest_80 : decode cX2_nearest 80 = .ok (.aload_n 0, 1) := by decide +kernel
theorem dX2_nearest_81 : decode cX2_nearest 81 = .ok (.iload_n 2, 1) := by decide +kernel
theorem dX2_nearest_82 : decode cX2_nearest 82 = .ok (.iload 5, 2) := by decide +kernel
theorem dX2_nearest_84 : decode cX2_nearest 84 = .ok (.iadd, 1) := by decide +kernel
theorem dX2_nearest_85 : decode cX2_nearest 85 = .ok (.putfield 51, 3) := by decide +kernel
theorem dX2_nearest_88 : decode cX2_nearest 88 = .ok (.iload_n 3, 1) := by decide +kernel
theorem dX2_nearest_89 : decode cX2_nearest 89 = .ok (.ifCond .ne 17, 3) := by decide +kernel
theorem dX2_nearest_92 : decode cX2_nearest 92 = .ok (.aload_n 0, 1) := by decide +kernel
theorem dX2_nearest_93 : decode cX2_nearest 93 = .ok (.getfield 24, 3) := by decide +kernel
theorem dX2_nearest_96 : decode cX2_nearest 96 = .ok (.iload 5, 2) := by decide +kernel
theorem dX2_nearest_98 : decode cX2_nearest 98 = .ok (.iconst 1, 1) := by decide +kernel
theorem dX2_nearest_99 : decode cX2_nearest 99 = .ok (.isub, 1) := by decide +kernel
theorem dX2_nearest_100 : decode cX2_nearest 100 = .ok (.invokevirtual 54, 3) := by decide +kernel
theorem dX2_nearest_103 : decode cX2_nearest 103 = .ok (.ifCond .eq 7, 3) := by decide +kernel
theorem dX2_nearest_106 : decode cX2_nearest 106 = .ok (.iconst 1, 1) := by decide +kernel
theorem dX2_nearest_107 : decode cX2_nearest 107 = .ok (.goto 4, 3) := by decide +kernel
theorem dX2_nearest_110 : decode cX2_nearest 110 = .ok (.iconst 0, 1) := by decide +kernel
theorem dX2_nearest_111 : decode cX2_nearest 111 = .ok (.istore 6, 2) := by decide +kernel
theorem dX2_nearest_113 : decode cX2_nearest 113 = .ok (.aload_n 0, 1) := by decide +kernel
theorem dX2_nearest_114 : decode cX2_nearest 114 = .ok (.aload_n 0, 1) := by decide +kernel
theorem dX2_nearest_115 : decode cX2_nearest 115 = .ok (.getfield 24, 3) := by decide +kernel
theorem dX2_nearest_118 : decode cX2_nearest 118 = .ok (.iload 5, 2) := by decide +kernel
theorem dX2_nearest_120 : decode cX2_nearest 120 = .ok (.iconst 1, 1) := by decide +kernel
theorem dX2_nearest_121 : decode cX2_nearest 121 = .ok (.isub, 1) := by decide +kernel
theorem dX2_nearest_122 : decode cX2_nearest 122 = .ok (.invokevirtual 58, 3) := by decide +kernel
theorem dX2_nearest_125 : decode cX2_nearest 125 = .ok (.ifCond .eq 30, 3) := by decide +kernel
theorem dX2_nearest_128 : decode cX2_nearest 128 = .ok (.iload 6, 2) := by decide +kernel
theorem dX2_nearest_130 : decode cX2_nearest 130 = .ok (.ifCond .ne 16, 3) := by decide +kernel
theorem dX2_nearest_133 : decode cX2_nearest 133 = .ok (.aload_n 0, 1) := by decide +kernel
theorem dX2_nearest_134 : decode cX2_nearest 134 = .ok (.getfield 47, 3) := by decide +kernel
theorem dX2_nearest_137 : decode cX2_nearest 137 = .ok (.ldc2_w 61, 3) := by decide +kernel
theorem dX2_nearest_140 : decode cX2_nearest 140 = .ok (.lrem, 1) := by decide +kernel
theorem dX2_nearest_141 : decode cX2_nearest 141 = .ok (.lconst 1, 1) := by decide +kernel
theorem dX2_nearest_142 : decode cX2_nearest 142 = .ok (.lcmp, 1) := by decide +kernel
theorem dX2_nearest_143 : decode cX2_nearest 143 = .ok (.ifCond .ne 12, 3) := by decide +kernel
theorem dX2_nearest_146 : decode cX2_nearest 146 = .ok (.aload_n 0, 1) := by decide +kernel
theorem dX2_nearest_147 : decode cX2_nearest 147 = .ok (.getfield 47, 3) := by decide +kernel
theorem dX2_nearest_150 : decode cX2_nearest 150 = .ok (.lconst 1, 1) := by decide +kernel
theorem dX2_nearest_151 : decode cX2_nearest 151 = .ok (.ladd, 1) := by decide +kernel
theorem dX2_nearest_152 : decode cX2_nearest 152 = .ok (.goto 7, 3) := by decide +kernel
theorem dX2_nearest_155 : decode cX2_nearest 155 = .ok (.aload_n 0, 1) := by decide +kernel
theorem dX2_nearest_156 : decode cX2_nearest 156 = .ok (.getfield 47, 3) := by decide +kernel
theorem dX2_nearest_159 : decode cX2_nearest 159 = .ok (.putfield 47, 3) := by decide +kernel
theorem dX2_nearest_162 : decode cX2_nearest 162 = .ok (.aload_n 0, 1) := by decide +kernel
theorem dX2_nearest_163 : decode cX2_nearest 163 = .ok (.invokevirtual 63, 3) := by decide +kernel
theorem dX2_nearest_166 : decode cX2_nearest 166 = .ok (.ireturn, 1) := by decide +kernel
theorem dX2_settle_0 : decode cX2_settle 0 = .ok (.aload_n 0, 1) := by decide +kernel
theorem dX2_settle_1 : decode cX2_settle 1 = .ok (.getfield 47, 3) := by decide +kernel
theorem dX2_settle_4 : decode cX2_settle 4 = .ok (.lconst 0, 1) := by decide +kernel
theorem dX2_settle_5 : decode cX2_settle 5 = .ok (.lcmp, 1) := by decide +kernel
theorem dX2_settle_6 : decode cX2_settle 6 = .ok (.ifCond .ne 15, 3) := by decide +kernel
theorem dX2_settle_9 : decode cX2_settle 9 = .ok (.aload_n 0, 1) := by decide +kernel
theorem dX2_settle_10 : decode cX2_settle 10 = .ok (.iconst 0, 1) := by decide +kernel
theorem dX2_settle_11 : decode cX2_settle 11 = .ok (.putfield 39, 3) := by decide +kernel
theorem dX2_settle_14 : decode cX2_settle 14 = .ok (.aload_n 0, 1) := by decide +kernel
theorem dX2_settle_15 : decode cX2_settle 15 = .ok (.sipush (-1074), 3) := by decide +kernel
theorem dX2_settle_18 : decode cX2_settle 18 = .ok (.putfield 51, 3) := by decide +kernel
theorem dX2_settle_21 : decode cX2_settle 21 = .ok (.aload_n 0, 1) := by decide +kernel
theorem dX2_settle_22 : decode cX2_settle 22 = .ok (.getfield 47, 3) := by decide +kernel
theorem dX2_settle_25 : decode cX2_settle 25 = .ok (.ldc2_w 66, 3) := by decide +kernel
theorem dX2_settle_28 : decode cX2_settle 28 = .ok (.lcmp, 1) := by decide +kernel
theorem dX2_settle_29 : decode cX2_settle 29 = .ok (.ifCond .lt 28, 3) := by decide +kernel
theorem dX2_settle_32 : decode cX2_settle 32 = .ok (.aload_n 0, 1) := by decide +kernel
theorem dX2_settle_33 : decode cX2_settle 33 = .ok (.aload_n 0, 1) := by decide +kernel
theorem dX2_settle_34 : decode cX2_settle 34 = .ok (.getfield 47, 3) := by decide +kernel
theorem dX2_settle_37 : decode cX2_settle 37 = .ok (.ldc2_w 61, 3) := by decide +kernel
theorem dX2_settle_40 : decode cX2_settle 40 = .ok (.ldiv, 1) := by decide +kernel
theorem dX2_settle_41 : decode cX2_settle 41 = .ok (.putfield 47, 3) := by decide +kernel
theorem dX2_settle_44 : decode cX2_settle 44 = .ok (.aload_n 0, 1) := by decide +kernel
theorem dX2_settle_45 : decode cX2_settle 45 = .ok (.dup, 1) := by decide +kernel
theorem dX2_settle_46 : decode cX2_settle 46 = .ok (.getfield 51, 3) := by decide +kernel
theorem dX2_settle_49 : decode cX2_settle 49 = .ok (.iconst 1, 1) := by decide +kernel
theorem dX2_settle_50 : decode cX2_settle 50 = .ok (.iadd, 1) := by decide +kernel
theorem dX2_settle_51 : decode cX2_settle 51 = .ok (.putfield 51, 3) := by decide +kernel
theorem dX2_settle_54 : decode cX2_settle 54 = .ok (.goto (-33), 3) := by decide +kernel
theorem dX2_settle_57 : decode cX2_settle 57 = .ok (.aload_n 0, 1) := by decide +kernel
theorem dX2_settle_58 : decode cX2_settle 58 = .ok (.getfield 47, 3) := by decide +kernel
theorem dX2_settle_61 : decode cX2_settle 61 = .ok (.lconst 0, 1) := by decide +kernel
theorem dX2_settle_62 : decode cX2_settle 62 = .ok (.lcmp, 1) := by decide +kernel
theorem dX2_settle_63 : decode cX2_settle 63 = .ok (.ifCond .le 49, 3) := by decide +kernel
theorem dX2_settle_66 : decode cX2_settle 66 = .ok (.aload_n 0, 1) := by decide +kernel
theorem dX2_settle_67 : decode cX2_settle 67 = .ok (.getfield 47, 3) := by decide +kernel
theorem dX2_settle_70 : decode cX2_settle 70 = .ok (.ldc2_w 68, 3) := by decide +kernel
theorem dX2_settle_73 : decode cX2_settle 73 = .ok (.lcmp, 1) := by decide +kernel
theorem dX2_settle_74 : decode cX2_settle 74 = .ok (.ifCond .ge 38, 3) := by decide +kernel
theorem dX2_settle_77 : decode cX2_settle 77 = .ok (.aload_n 0, 1) := by decide +kernel
theorem dX2_settle_78 : decode cX2_settle 78 = .ok (.getfield 51, 3) := by decide +kernel
theorem dX2_settle_81 : decode cX2_settle 81 = .ok (.sipush (-1074), 3) := by decide +kernel
theorem dX2_settle_84 : decode cX2_settle 84 = .ok (.if_icmp .le 28, 3) := by decide +kernel
theorem dX2_settle_87 : decode cX2_settle 87 = .ok (.aload_n 0, 1) := by decide +kernel
theorem dX2_settle_88 : decode cX2_settle 88 = .ok (.ldc2_w 61, 3) := by decide +kernel
theorem dX2_settle_91 : decode cX2_settle 91 = .ok (.aload_n 0, 1) := by decide +kernel
theorem dX2_settle_92 : decode cX2_settle 92 = .ok (.getfield 47, 3) := by decide +kernel
theorem dX2_settle_95 : decode cX2_settle 95 = .ok (.lmul, 1) := by decide +kernel
theorem dX2_settle_96 : decode cX2_settle 96 = .ok (.putfield 47, 3) := by decide +kernel
theorem dX2_settle_99 : decode cX2_settle 99 = .ok (.aload_n 0, 1) := by decide +kernel
theorem dX2_settle_100 : decode cX2_settle 100 = .ok (.dup, 1) := by decide +kernel
theorem dX2_settle_101 : decode cX2_settle 101 = .ok (.getfield 51, 3) := by decide +kernel
theorem dX2_settle_104 : decode cX2_settle 104 = .ok (.iconst 1, 1) := by decide +kernel
theorem dX2_settle_105 : decode cX2_settle 105 = .ok (.isub, 1) := by decide +kernel
theorem dX2_settle_106 : decode cX2_settle 106 = .ok (.putfield 51, 3) := by decide +kernel
theorem dX2_settle_109 : decode cX2_settle 109 = .ok (.goto (-52), 3) := by decide +kernel
theorem dX2_settle_112 : decode cX2_settle 112 = .ok (.aload_n 0, 1) := by decide +kernel
theorem dX2_settle_113 : decode cX2_settle 113 = .ok (.getfield 51, 3) := by decide +kernel
theorem dX2_settle_116 : decode cX2_settle 116 = .ok (.sipush 971, 3) := by decide +kernel
theorem dX2_settle_119 : decode cX2_settle 119 = .ok (.if_icmp .le 7, 3) := by decide +kernel
theorem dX2_settle_122 : decode cX2_settle 122 = .ok (.iconst (-1), 1) := by decide +kernel
theorem dX2_settle_123 : decode cX2_settle 123 = .ok (.goto 4, 3) := by decide +kernel
theorem dX2_settle_126 : decode cX2_settle 126 = .ok (.iconst 0, 1) := by decide +kernel
theorem dX2_settle_127 : decode cX2_settle 127 = .ok (.ireturn, 1) := by decide +kernel
theorem dX2_take_0 : decode cX2_take 0 = .ok (.aload_n 0, 1) := by decide +kernel
theorem dX2_take_1 : decode cX2_take 1 = .ok (.aload_n 0, 1) := by decide +kernel
theorem dX2_take_2 : decode cX2_take 2 = .ok (.getfield 7, 3) := by decide +kernel
theorem dX2_take_5 : decode cX2_take 5 = .ok (.iload_n 1, 1) := by decide +kernel
theorem dX2_take_6 : decode cX2_take 6 = .ok (.baload, 1) := by decide +kernel
theorem dX2_take_7 : decode cX2_take 7 = .ok (.putfield 39, 3) := by decide +kernel
theorem dX2_take_10 : decode cX2_take 10 = .ok (.aload_n 0, 1) := by decide +kernel
theorem dX2_take_11 : decode cX2_take 11 = .ok (.aload_n 0, 1) := by decide +kernel
theorem dX2_take_12 : decode cX2_take 12 = .ok (.getfield 13, 3) := by decide +kernel
theorem dX2_take_15 : decode cX2_take 15 = .ok (.iload_n 1, 1) := by decide +kernel
theorem dX2_take_16 : decode cX2_take 16 = .ok (.laload, 1) := by decide +kernel
theorem dX2_take_17 : decode cX2_take 17 = .ok (.putfield 47, 3) := by decide +kernel
theorem dX2_take_20 : decode cX2_take 20 = .ok (.aload_n 0, 1) := by decide +kernel
theorem dX2_take_21 : decode cX2_take 21 = .ok (.aload_n 0, 1) := by decide +kernel
theorem dX2_take_22 : decode cX2_take 22 = .ok (.getfield 17, 3) := by decide +kernel
theorem dX2_take_25 : decode cX2_take 25 = .ok (.iload_n 1, 1) := by decide +kernel
theorem dX2_take_26 : decode cX2_take 26 = .ok (.iaload, 1) := by decide +kernel
theorem dX2_take_27 : decode cX2_take 27 = .ok (.putfield 51, 3) := by decide +kernel
theorem dX2_take_30 : decode cX2_take 30 = .ok (.return_, 1) := by decide +kernel
theorem dX2_keep_0 : decode cX2_keep 0 = .ok (.iload_n 2, 1) := by decide +kernel
theorem dX2_keep_1 : decode cX2_keep 1 = .ok (.ifCond .ne 33, 3) := by decide +kernel
theorem dX2_keep_4 : decode cX2_keep 4 = .ok (.aload_n 0, 1) := by decide +kernel
theorem dX2_keep_5 : decode cX2_keep 5 = .ok (.getfield 7, 3) := by decide +kernel
theorem dX2_keep_8 : decode cX2_keep 8 = .ok (.iload_n 1, 1) := by decide +kernel
theorem dX2_keep_9 : decode cX2_keep 9 = .ok (.aload_n 0, 1) := by decide +kernel
theorem dX2_keep_10 : decode cX2_keep 10 = .ok (.getfield 39, 3) := by decide +kernel
theorem dX2_keep_13 : decode cX2_keep 13 = .ok (.bastore, 1) := by decide +kernel
theorem dX2_keep_14 : decode cX2_keep 14 = .ok (.aload_n 0, 1) := by decide +kernel
theorem dX2_keep_15 : decode cX2_keep 15 = .ok (.getfield 13, 3) := by decide +kernel
theorem dX2_keep_18 : decode cX2_keep 18 = .ok (.iload_n 1, 1) := by decide +kernel
theorem dX2_keep_19 : decode cX2_keep 19 = .ok (.aload_n 0, 1) := by decide +kernel
theorem dX2_keep_20 : decode cX2_keep 20 = .ok (.getfield 47, 3) := by decide +kernel
theorem dX2_keep_23 : decode cX2_keep 23 = .ok (.lastore, 1) := by decide +kernel
theorem dX2_keep_24 : decode cX2_keep 24 = .ok (.aload_n 0, 1) := by decide +kernel
theorem dX2_keep_25 : decode cX2_keep 25 = .ok (.getfield 17, 3) := by decide +kernel
theorem dX2_keep_28 : decode cX2_keep 28 = .ok (.iload_n 1, 1) := by decide +kernel
theorem dX2_keep_29 : decode cX2_keep 29 = .ok (.aload_n 0, 1) := by decide +kernel
theorem dX2_keep_30 : decode cX2_keep 30 = .ok (.getfield 51, 3) := by decide +kernel
theorem dX2_keep_33 : decode cX2_keep 33 = .ok (.iastore, 1) := by decide +kernel
theorem dX2_keep_34 : decode cX2_keep 34 = .ok (.iload_n 2, 1) := by decide +kernel
theorem dX2_keep_35 : decode cX2_keep 35 = .ok (.ireturn, 1) := by decide +kernel
theorem dX2_set_0 : decode cX2_set 0 = .ok (.iload_n 1, 1) := by decide +kernel
theorem dX2_set_1 : decode cX2_set 1 = .ok (.invokestatic 70, 3) := by decide +kernel
theorem dX2_set_4 : decode cX2_set 4 = .ok (.ifCond .eq 37, 3) := by decide +kernel
theorem dX2_set_7 : decode cX2_set 7 = .ok (.lload_n 2, 1) := by decide +kernel
theorem dX2_set_8 : decode cX2_set 8 = .ok (.ldc2_w 73, 3) := by decide +kernel
theorem dX2_set_11 : decode cX2_set 11 = .ok (.lcmp, 1) := by decide +kernel
theorem dX2_set_12 : decode cX2_set 12 = .ok (.ifCond .lt 29, 3) := by decide +kernel
theorem dX2_set_15 : decode cX2_set 15 = .ok (.lload_n 2, 1) := by decide +kernel
theorem dX2_set_16 : decode cX2_set 16 = .ok (.ldc2_w 66, 3) := by decide +kernel
theorem dX2_set_19 : decode cX2_set 19 = .ok (.lcmp, 1) := by decide +kernel
theorem dX2_set_20 : decode cX2_set 20 = .ok (.ifCond .gt 21, 3) := by decide +kernel
theorem dX2_set_23 : decode cX2_set 23 = .ok (.iload 4, 2) := by decide +kernel
theorem dX2_set_25 : decode cX2_set 25 = .ok (.sipush (-1200), 3) := by decide +kernel
theorem dX2_set_28 : decode cX2_set 28 = .ok (.sipush 1100, 3) := by decide +kernel
theorem dX2_set_31 : decode cX2_set 31 = .ok (.invokestatic 75, 3) := by decide +kernel
theorem dX2_set_34 : decode cX2_set 34 = .ok (.ifCond .eq 7, 3) := by decide +kernel
theorem dX2_set_37 : decode cX2_set 37 = .ok (.iconst 1, 1) := by decide +kernel
theorem dX2_set_38 : decode cX2_set 38 = .ok (.goto 4, 3) := by decide +kernel
theorem dX2_set_41 : decode cX2_set 41 = .ok (.iconst 0, 1) := by decide +kernel
theorem dX2_set_42 : decode cX2_set 42 = .ok (.istore 5, 2) := by decide +kernel
theorem dX2_set_44 : decode cX2_set 44 = .ok (.aload_n 0, 1) := by decide +kernel
theorem dX2_set_45 : decode cX2_set 45 = .ok (.iload 5, 2) := by decide +kernel
theorem dX2_set_47 : decode cX2_set 47 = .ok (.ifCond .eq 7, 3) := by decide +kernel
theorem dX2_set_50 : decode cX2_set 50 = .ok (.iconst 0, 1) := by decide +kernel
theorem dX2_set_51 : decode cX2_set 51 = .ok (.goto 4, 3) := by decide +kernel
theorem dX2_set_54 : decode cX2_set 54 = .ok (.iconst 1, 1) := by decide +kernel
theorem dX2_set_55 : decode cX2_set 55 = .ok (.putfield 31, 3) := by decide +kernel
theorem dX2_set_58 : decode cX2_set 58 = .ok (.iload 5, 2) := by decide +kernel
theorem dX2_set_60 : decode cX2_set 60 = .ok (.ifCond .ne 5, 3) := by decide +kernel
theorem dX2_set_63 : decode cX2_set 63 = .ok (.iconst 0, 1) := by decide +kernel
theorem dX2_set_64 : decode cX2_set 64 = .ok (.ireturn, 1) := by decide +kernel
theorem dX2_set_65 : decode cX2_set 65 = .ok (.aload_n 0, 1) := by decide +kernel
theorem dX2_set_66 : decode cX2_set 66 = .ok (.getfield 24, 3) := by decide +kernel
theorem dX2_set_69 : decode cX2_set 69 = .ok (.lload_n 2, 1) := by decide +kernel
theorem dX2_set_70 : decode cX2_set 70 = .ok (.lconst 0, 1) := by decide +kernel
theorem dX2_set_71 : decode cX2_set 71 = .ok (.lcmp, 1) := by decide +kernel
theorem dX2_set_72 : decode cX2_set 72 = .ok (.ifCond .ge 8, 3) := by decide +kernel
theorem dX2_set_75 : decode cX2_set 75 = .ok (.lload_n 2, 1) := by decide +kernel
theorem dX2_set_76 : decode cX2_set 76 = .ok (.lneg, 1) := by decide +kernel
theorem dX2_set_77 : decode cX2_set 77 = .ok (.goto 4, 3) := by decide +kernel
theorem dX2_set_80 : decode cX2_set 80 = .ok (.lload_n 2, 1) := by decide +kernel
theorem dX2_set_81 : decode cX2_set 81 = .ok (.invokevirtual 79, 3) := by decide +kernel
theorem dX2_set_84 : decode cX2_set 84 = .ok (.aload_n 0, 1) := by decide +kernel
theorem dX2_set_85 : decode cX2_set 85 = .ok (.iload_n 1, 1) := by decide +kernel
theorem dX2_set_86 : decode cX2_set 86 = .ok (.aload_n 0, 1) := by decide +kernel
theorem dX2_set_87 : decode cX2_set 87 = .ok (.lload_n 2, 1) := by decide +kernel
theorem dX2_set_88 : decode cX2_set 88 = .ok (.lconst 0, 1) := by decide +kernel
theorem dX2_set_89 : decode cX2_set 89 = .ok (.lcmp, 1) := by decide +kernel
theorem dX2_set_90 : decode cX2_set 90 = .ok (.ifCond .ge 7, 3) := by decide +kernel
theorem dX2_set_93 : decode cX2_set 93 = .ok (.iconst 1, 1) := by decide +kernel
theorem dX2_set_94 : decode cX2_set 94 = .ok (.goto 4, 3) := by decide +kernel
theorem dX2_set_97 : decode cX2_set 97 = .ok (.iconst 0, 1) := by decide +kernel
theorem dX2_set_98 : decode cX2_set 98 = .ok (.iload 4, 2) := by decide +kernel
theorem dX2_set_100 : decode cX2_set 100 = .ok (.iconst 0, 1) := by decide +kernel
theorem dX2_set_101 : decode cX2_set 101 = .ok (.invokevirtual 83, 3) := by decide +kernel
theorem dX2_set_104 : decode cX2_set 104 = .ok (.invokevirtual 87, 3) := by decide +kernel
theorem dX2_set_107 : decode cX2_set 107 = .ok (.ireturn, 1) := by decide +kernel
theorem dX2_sizes_0 : decode cX2_sizes 0 = .ok (.aload_n 0, 1) := by decide +kernel
theorem dX2_sizes_1 : decode cX2_sizes 1 = .ok (.getfield 13, 3) := by decide +kernel
theorem dX2_sizes_4 : decode cX2_sizes 4 = .ok (.iload_n 1, 1) := by decide +kernel
theorem dX2_sizes_5 : decode cX2_sizes 5 = .ok (.laload, 1) := by decide +kernel
theorem dX2_sizes_6 : decode cX2_sizes 6 = .ok (.lconst 0, 1) := by decide +kernel
theorem dX2_sizes_7 : decode cX2_sizes 7 = .ok (.lcmp, 1) := by decide +kernel
theorem dX2_sizes_8 : decode cX2_sizes 8 = .ok (.ifCond .eq 14, 3) := by decide +kernel
theorem dX2_sizes_11 : decode cX2_sizes 11 = .ok (.aload_n 0, 1) := by decide +kernel
theorem dX2_sizes_12 : decode cX2_sizes 12 = .ok (.getfield 13, 3) := by decide +kernel
theorem dX2_sizes_15 : decode cX2_sizes 15 = .ok (.iload_n 2, 1) := by decide +kernel
theorem dX2_sizes_16 : decode cX2_sizes 16 = .ok (.laload, 1) := by decide +kernel
theorem dX2_sizes_17 : decode cX2_sizes 17 = .ok (.lconst 0, 1) := by decide +kernel
theorem dX2_sizes_18 : decode cX2_sizes 18 = .ok (.lcmp, 1) := by decide +kernel
theorem dX2_sizes_19 : decode cX2_sizes 19 = .ok (.ifCond .ne 40, 3) := by decide +kernel
theorem dX2_sizes_22 : decode cX2_sizes 22 = .ok (.aload_n 0, 1) := by decide +kernel
theorem dX2_sizes_23 : decode cX2_sizes 23 = .ok (.getfield 13, 3) := by decide +kernel
theorem dX2_sizes_26 : decode cX2_sizes 26 = .ok (.iload_n 1, 1) := by decide +kernel
theorem dX2_sizes_27 : decode cX2_sizes 27 = .ok (.laload, 1) := by decide +kernel
theorem dX2_sizes_28 : decode cX2_sizes 28 = .ok (.aload_n 0, 1) := by decide +kernel
theorem dX2_sizes_29 : decode cX2_sizes 29 = .ok (.getfield 13, 3) := by decide +kernel
theorem dX2_sizes_32 : decode cX2_sizes 32 = .ok (.iload_n 2, 1) := by decide +kernel
theorem dX2_sizes_33 : decode cX2_sizes 33 = .ok (.laload, 1) := by decide +kernel
theorem dX2_sizes_34 : decode cX2_sizes 34 = .ok (.lcmp, 1) := by decide +kernel
theorem dX2_sizes_35 : decode cX2_sizes 35 = .ok (.ifCond .ne 7, 3) := by decide +kernel
theorem dX2_sizes_38 : decode cX2_sizes 38 = .ok (.iconst 0, 1) := by decide +kernel
theorem dX2_sizes_39 : decode cX2_sizes 39 = .ok (.goto 19, 3) := by decide +kernel
theorem dX2_sizes_42 : decode cX2_sizes 42 = .ok (.aload_n 0, 1) := by decide +kernel
theorem dX2_sizes_43 : decode cX2_sizes 43 = .ok (.getfield 13, 3) := by decide +kernel
theorem dX2_sizes_46 : decode cX2_sizes 46 = .ok (.iload_n 1, 1) := by decide +kernel
theorem dX2_sizes_47 : decode cX2_sizes 47 = .ok (.laload, 1) := by decide +kernel
theorem dX2_sizes_48 : decode cX2_sizes 48 = .ok (.lconst 0, 1) := by decide +kernel
theorem dX2_sizes_49 : decode cX2_sizes 49 = .ok (.lcmp, 1) := by decide +kernel
theorem dX2_sizes_50 : decode cX2_sizes 50 = .ok (.ifCond .ne 7, 3) := by decide +kernel
theorem dX2_sizes_53 : decode cX2_sizes 53 = .ok (.iconst (-1), 1) := by decide +kernel
theorem dX2_sizes_54 : decode cX2_sizes 54 = .ok (.goto 4, 3) := by decide +kernel
theorem dX2_sizes_57 : decode cX2_sizes 57 = .ok (.iconst 1, 1) := by decide +kernel
theorem dX2_sizes_58 : decode cX2_sizes 58 = .ok (.ireturn, 1) := by decide +kernel
theorem dX2_sizes_59 : decode cX2_sizes 59 = .ok (.aload_n 0, 1) := by decide +kernel
theorem dX2_sizes_60 : decode cX2_sizes 60 = .ok (.getfield 17, 3) := by decide +kernel
theorem dX2_sizes_63 : decode cX2_sizes 63 = .ok (.iload_n 1, 1) := by decide +kernel
theorem dX2_sizes_64 : decode cX2_sizes 64 = .ok (.iaload, 1) := by decide +kernel
theorem dX2_sizes_65 : decode cX2_sizes 65 = .ok (.aload_n 0, 1) := by decide +kernel
theorem dX2_sizes_66 : decode cX2_sizes 66 = .ok (.getfield 17, 3) := by decide +kernel
theorem dX2_sizes_69 : decode cX2_sizes 69 = .ok (.iload_n 2, 1) := by decide +kernel
theorem dX2_sizes_70 : decode cX2_sizes 70 = .ok (.iaload, 1) := by decide +kernel
theorem dX2_sizes_71 : decode cX2_sizes 71 = .ok (.if_icmp .eq 24, 3) := by decide +kernel
theorem dX2_sizes_74 : decode cX2_sizes 74 = .ok (.aload_n 0, 1) := by decide +kernel
theorem dX2_sizes_75 : decode cX2_sizes 75 = .ok (.getfield 17, 3) := by decide +kernel
theorem dX2_sizes_78 : decode cX2_sizes 78 = .ok (.iload_n 1, 1) := by decide +kernel
theorem dX2_sizes_79 : decode cX2_sizes 79 = .ok (.iaload, 1) := by decide +kernel
theorem dX2_sizes_80 : decode cX2_sizes 80 = .ok (.aload_n 0, 1) := by decide +kernel
theorem dX2_sizes_81 : decode cX2_sizes 81 = .ok (.getfield 17, 3) := by decide +kernel
theorem dX2_sizes_84 : decode cX2_sizes 84 = .ok (.iload_n 2, 1) := by decide +kernel
theorem dX2_sizes_85 : decode cX2_sizes 85 = .ok (.iaload, 1) := by decide +kernel
theorem dX2_sizes_86 : decode cX2_sizes 86 = .ok (.if_icmp .ge 7, 3) := by decide +kernel
theorem dX2_sizes_89 : decode cX2_sizes 89 = .ok (.iconst (-1), 1) := by decide +kernel
theorem dX2_sizes_90 : decode cX2_sizes 90 = .ok (.goto 4, 3) := by decide +kernel
theorem dX2_sizes_93 : decode cX2_sizes 93 = .ok (.iconst 1, 1) := by decide +kernel
theorem dX2_sizes_94 : decode cX2_sizes 94 = .ok (.ireturn, 1) := by decide +kernel
theorem dX2_sizes_95 : decode cX2_sizes 95 = .ok (.aload_n 0, 1) := by decide +kernel
theorem dX2_sizes_96 : decode cX2_sizes 96 = .ok (.getfield 13, 3) := by decide +kernel
theorem dX2_sizes_99 : decode cX2_sizes 99 = .ok (.iload_n 1, 1) := by decide +kernel
theorem dX2_sizes_100 : decode cX2_sizes 100 = .ok (.laload, 1) := by decide +kernel
theorem dX2_sizes_101 : decode cX2_sizes 101 = .ok (.aload_n 0, 1) := by decide +kernel
theorem dX2_sizes_102 : decode cX2_sizes 102 = .ok (.getfield 13, 3) := by decide +kernel
theorem dX2_sizes_105 : decode cX2_sizes 105 = .ok (.iload_n 2, 1) := by decide +kernel
theorem dX2_sizes_106 : decode cX2_sizes 106 = .ok (.laload, 1) := by decide +kernel
theorem dX2_sizes_107 : decode cX2_sizes 107 = .ok (.lcmp, 1) := by decide +kernel
theorem dX2_sizes_108 : decode cX2_sizes 108 = .ok (.ifCond .ge 7, 3) := by decide +kernel
theorem dX2_sizes_111 : decode cX2_sizes 111 = .ok (.iconst (-1), 1) := by decide +kernel
theorem dX2_sizes_112 : decode cX2_sizes 112 = .ok (.goto 24, 3) := by decide +kernel
theorem dX2_sizes_115 : decode cX2_sizes 115 = .ok (.aload_n 0, 1) := by decide +kernel
theorem dX2_sizes_116 : decode cX2_sizes 116 = .ok (.getfield 13, 3) := by decide +kernel
theorem dX2_sizes_119 : decode cX2_sizes 119 = .ok (.iload_n 1, 1) := by decide +kernel
theorem dX2_sizes_120 : decode cX2_sizes 120 = .ok (.laload, 1) := by decide +kernel
theorem dX2_sizes_121 : decode cX2_sizes 121 = .ok (.aload_n 0, 1) := by decide +kernel
theorem dX2_sizes_122 : decode cX2_sizes 122 = .ok (.getfield 13, 3) := by decide +kernel
theorem dX2_sizes_125 : decode cX2_sizes 125 = .ok (.iload_n 2, 1) := by decide +kernel
theorem dX2_sizes_126 : decode cX2_sizes 126 = .ok (.laload, 1) := by decide +kernel
theorem dX2_sizes_127 : decode cX2_sizes 127 = .ok (.lcmp, 1) := by decide +kernel
theorem dX2_sizes_128 : decode cX2_sizes 128 = .ok (.ifCond .ne 7, 3) := by decide +kernel
theorem dX2_sizes_131 : decode cX2_sizes 131 = .ok (.iconst 0, 1) := by decide +kernel
theorem dX2_sizes_132 : decode cX2_sizes 132 = .ok (.goto 4, 3) := by decide +kernel
theorem dX2_sizes_135 : decode cX2_sizes 135 = .ok (.iconst 1, 1) := by decide +kernel
theorem dX2_sizes_136 : decode cX2_sizes 136 = .ok (.ireturn, 1) := by decide +kernel
theorem dX2_compareNumbers_0 : decode cX2_compareNumbers 0 = .ok (.aload_n 0, 1) := by decide +kernel
theorem dX2_compareNumbers_1 : decode cX2_compareNumbers 1 = .ok (.iload_n 1, 1) := by decide +kernel
theorem dX2_compareNumbers_2 : decode cX2_compareNumbers 2 = .ok (.iload_n 2, 1) := by decide +kernel
theorem dX2_compareNumbers_3 : decode cX2_compareNumbers 3 = .ok (.invokevirtual 91, 3) := by decide +kernel
theorem dX2_compareNumbers_6 : decode cX2_compareNumbers 6 = .ok (.istore_n 3, 1) := by decide +kernel
theorem dX2_compareNumbers_7 : decode cX2_compareNumbers 7 = .ok (.aload_n 0, 1) := by decide +kernel
theorem dX2_compareNumbers_8 : decode cX2_compareNumbers 8 = .ok (.getfield 7, 3) := by decide +kernel
theorem dX2_compareNumbers_11 : decode cX2_compareNumbers 11 = .ok (.iload_n 1, 1) := by decide +kernel
theorem dX2_compareNumbers_12 : decode cX2_compareNumbers 12 = .ok (.baload, 1) := by decide +kernel
theorem dX2_compareNumbers_13 : decode cX2_compareNumbers 13 = .ok (.aload_n 0, 1) := by decide +kernel
theorem dX2_compareNumbers_14 : decode cX2_compareNumbers 14 = .ok (.getfield 7, 3) := by decide +kernel
theorem dX2_compareNumbers_17 : decode cX2_compareNumbers 17 = .ok (.iload_n 2, 1) := by decide +kernel
theorem dX2_compareNumbers_18 : decode cX2_compareNumbers 18 = .ok (.baload, 1) := by decide +kernel
theorem dX2_compareNumbers_19 : decode cX2_compareNumbers 19 = .ok (.if_icmp .eq 18, 3) := by decide +kernel
theorem dX2_compareNumbers_22 : decode cX2_compareNumbers 22 = .ok (.aload_n 0, 1) := by decide +kernel
theorem dX2_compareNumbers_23 : decode cX2_compareNumbers 23 = .ok (.getfield 7, 3) := by decide +kernel
theorem dX2_compareNumbers_26 : decode cX2_compareNumbers 26 = .ok (.iload_n 1, 1) := by decide +kernel
theorem dX2_compareNumbers_27 : decode cX2_compareNumbers 27 = .ok (.baload, 1) := by decide +kernel
theorem dX2_compareNumbers_28 : decode cX2_compareNumbers 28 = .ok (.ifCond .eq 7, 3) := by decide +kernel
theorem dX2_compareNumbers_31 : decode cX2_compareNumbers 31 = .ok (.iconst (-1), 1) := by decide +kernel
theorem dX2_compareNumbers_32 : decode cX2_compareNumbers 32 = .ok (.goto 4, 3) := by decide +kernel
theorem dX2_compareNumbers_35 : decode cX2_compareNumbers 35 = .ok (.iconst 1, 1) := by decide +kernel
theorem dX2_compareNumbers_36 : decode cX2_compareNumbers 36 = .ok (.ireturn, 1) := by decide +kernel
theorem dX2_compareNumbers_37 : decode cX2_compareNumbers 37 = .ok (.aload_n 0, 1) := by decide +kernel
theorem dX2_compareNumbers_38 : decode cX2_compareNumbers 38 = .ok (.getfield 7, 3) := by decide +kernel
theorem dX2_compareNumbers_41 : decode cX2_compareNumbers 41 = .ok (.iload_n 1, 1) := by decide +kernel
theorem dX2_compareNumbers_42 : decode cX2_compareNumbers 42 = .ok (.baload, 1) := by decide +kernel
theorem dX2_compareNumbers_43 : decode cX2_compareNumbers 43 = .ok (.ifCond .eq 8, 3) := by decide +kernel
theorem dX2_compareNumbers_46 : decode cX2_compareNumbers 46 = .ok (.iload_n 3, 1) := by decide +kernel
theorem dX2_compareNumbers_47 : decode cX2_compareNumbers 47 = .ok (.ineg, 1) := by decide +kernel
theorem dX2_compareNumbers_48 : decode cX2_compareNumbers 48 = .ok (.goto 4, 3) := by decide +kernel
theorem dX2_compareNumbers_51 : decode cX2_compareNumbers 51 = .ok (.iload_n 3, 1) := by decide +kernel
theorem dX2_compareNumbers_52 : decode cX2_compareNumbers 52 = .ok (.ireturn, 1) := by decide +kernel
theorem dX2_exactSum_0 : decode cX2_exactSum 0 = .ok (.aload_n 0, 1) := by decide +kernel
theorem dX2_exactSum_1 : decode cX2_exactSum 1 = .ok (.getfield 17, 3) := by decide +kernel
theorem dX2_exactSum_4 : decode cX2_exactSum 4 = .ok (.iload_n 1, 1) := by decide +kernel
theorem dX2_exactSum_5 : decode cX2_exactSum 5 = .ok (.iaload, 1) := by decide +kernel
theorem dX2_exactSum_6 : decode cX2_exactSum 6 = .ok (.aload_n 0, 1) := by decide +kernel
theorem dX2_exactSum_7 : decode cX2_exactSum 7 = .ok (.getfield 17, 3) := by decide +kernel
theorem dX2_exactSum_10 : decode cX2_exactSum 10 = .ok (.iload_n 2, 1) := by decide +kernel
theorem dX2_exactSum_11 : decode cX2_exactSum 11 = .ok (.iaload, 1) := by decide +kernel
theorem dX2_exactSum_12 : decode cX2_exactSum 12 = .ok (.if_icmp .ge 12, 3) := by decide +kernel
theorem dX2_exactSum_15 : decode cX2_exactSum 15 = .ok (.aload_n 0, 1) := by decide +kernel
theorem dX2_exactSum_16 : decode cX2_exactSum 16 = .ok (.getfield 17, 3) := by decide +kernel
theorem dX2_exactSum_19 : decode cX2_exactSum 19 = .ok (.iload_n 1, 1) := by decide +kernel
theorem dX2_exactSum_20 : decode cX2_exactSum 20 = .ok (.iaload, 1) := by decide +kernel
theorem dX2_exactSum_21 : decode cX2_exactSum 21 = .ok (.goto 9, 3) := by decide +kernel
theorem dX2_exactSum_24 : decode cX2_exactSum 24 = .ok (.aload_n 0, 1) := by decide +kernel
theorem dX2_exactSum_25 : decode cX2_exactSum 25 = .ok (.getfield 17, 3) := by decide +kernel
theorem dX2_exactSum_28 : decode cX2_exactSum 28 = .ok (.iload_n 2, 1) := by decide +kernel
theorem dX2_exactSum_29 : decode cX2_exactSum 29 = .ok (.iaload, 1) := by decide +kernel
theorem dX2_exactSum_30 : decode cX2_exactSum 30 = .ok (.istore 4, 2) := by decide +kernel
theorem dX2_exactSum_32 : decode cX2_exactSum 32 = .ok (.aload_n 0, 1) := by decide +kernel
theorem dX2_exactSum_33 : decode cX2_exactSum 33 = .ok (.getfield 7, 3) := by decide +kernel
theorem dX2_exactSum_36 : decode cX2_exactSum 36 = .ok (.iload_n 2, 1) := by decide +kernel
theorem dX2_exactSum_37 : decode cX2_exactSum 37 = .ok (.baload, 1) := by decide +kernel
theorem dX2_exactSum_38 : decode cX2_exactSum 38 = .ok (.iload_n 3, 1) := by decide +kernel
theorem dX2_exactSum_39 : decode cX2_exactSum 39 = .ok (.if_icmp .eq 18, 3) := by decide +kernel
theorem dX2_exactSum_42 : decode cX2_exactSum 42 = .ok (.aload_n 0, 1) := by decide +kernel
theorem dX2_exactSum_43 : decode cX2_exactSum 43 = .ok (.getfield 13, 3) := by decide +kernel
theorem dX2_exactSum_46 : decode cX2_exactSum 46 = .ok (.iload_n 2, 1) := by decide +kernel
theorem dX2_exactSum_47 : decode cX2_exactSum 47 = .ok (.laload, 1) := by decide +kernel
theorem dX2_exactSum_48 : decode cX2_exactSum 48 = .ok (.lconst 0, 1) := by decide +kernel
theorem dX2_exactSum_49 : decode cX2_exactSum 49 = .ok (.lcmp, 1) := by decide +kernel
theorem dX2_exactSum_50 : decode cX2_exactSum 50 = .ok (.ifCond .le 7, 3) := by decide +kernel
theorem dX2_exactSum_53 : decode cX2_exactSum 53 = .ok (.iconst 1, 1) := by decide +kernel
theorem dX2_exactSum_54 : decode cX2_exactSum 54 = .ok (.goto 4, 3) := by decide +kernel
theorem dX2_exactSum_57 : decode cX2_exactSum 57 = .ok (.iconst 0, 1) := by decide +kernel
theorem dX2_exactSum_58 : decode cX2_exactSum 58 = .ok (.istore 5, 2) := by decide +kernel
theorem dX2_exactSum_60 : decode cX2_exactSum 60 = .ok (.aload_n 0, 1) := by decide +kernel
theorem dX2_exactSum_61 : decode cX2_exactSum 61 = .ok (.getfield 24, 3) := by decide +kernel
theorem dX2_exactSum_64 : decode cX2_exactSum 64 = .ok (.aload_n 0, 1) := by decide +kernel
theorem dX2_exactSum_65 : decode cX2_exactSum 65 = .ok (.getfield 13, 3) := by decide +kernel
theorem dX2_exactSum_68 : decode cX2_exactSum 68 = .ok (.iload_n 1, 1) := by decide +kernel
theorem dX2_exactSum_69 : decode cX2_exactSum 69 = .ok (.laload, 1) := by decide +kernel
theorem dX2_exactSum_70 : decode cX2_exactSum 70 = .ok (.invokevirtual 79, 3) := by decide +kernel
theorem dX2_exactSum_73 : decode cX2_exactSum 73 = .ok (.aload_n 0, 1) := by decide +kernel
theorem dX2_exactSum_74 : decode cX2_exactSum 74 = .ok (.getfield 24, 3) := by decide +kernel
theorem dX2_exactSum_77 : decode cX2_exactSum 77 = .ok (.aload_n 0, 1) := by decide +kernel
theorem dX2_exactSum_78 : decode cX2_exactSum 78 = .ok (.getfield 17, 3) := by decide +kernel
theorem dX2_exactSum_81 : decode cX2_exactSum 81 = .ok (.iload_n 1, 1) := by decide +kernel
theorem dX2_exactSum_82 : decode cX2_exactSum 82 = .ok (.iaload, 1) := by decide +kernel
theorem dX2_exactSum_83 : decode cX2_exactSum 83 = .ok (.iload 4, 2) := by decide +kernel
theorem dX2_exactSum_85 : decode cX2_exactSum 85 = .ok (.isub, 1) := by decide +kernel
theorem dX2_exactSum_86 : decode cX2_exactSum 86 = .ok (.invokevirtual 94, 3) := by decide +kernel
theorem dX2_exactSum_89 : decode cX2_exactSum 89 = .ok (.aload_n 0, 1) := by decide +kernel
theorem dX2_exactSum_90 : decode cX2_exactSum 90 = .ok (.getfield 28, 3) := by decide +kernel
theorem dX2_exactSum_93 : decode cX2_exactSum 93 = .ok (.aload_n 0, 1) := by decide +kernel
theorem dX2_exactSum_94 : decode cX2_exactSum 94 = .ok (.getfield 13, 3) := by decide +kernel
theorem dX2_exactSum_97 : decode cX2_exactSum 97 = .ok (.iload_n 2, 1) := by decide +kernel
theorem dX2_exactSum_98 : decode cX2_exactSum 98 = .ok (.laload, 1) := by decide +kernel
theorem dX2_exactSum_99 : decode cX2_exactSum 99 = .ok (.invokevirtual 79, 3) := by decide +kernel
theorem dX2_exactSum_102 : decode cX2_exactSum 102 = .ok (.aload_n 0, 1) := by decide +kernel
theorem dX2_exactSum_103 : decode cX2_exactSum 103 = .ok (.getfield 28, 3) := by decide +kernel
theorem dX2_exactSum_106 : decode cX2_exactSum 106 = .ok (.aload_n 0, 1) := by decide +kernel
theorem dX2_exactSum_107 : decode cX2_exactSum 107 = .ok (.getfield 17, 3) := by decide +kernel
theorem dX2_exactSum_110 : decode cX2_exactSum 110 = .ok (.iload_n 2, 1) := by decide +kernel
theorem dX2_exactSum_111 : decode cX2_exactSum 111 = .ok (.iaload, 1) := by decide +kernel
theorem dX2_exactSum_112 : decode cX2_exactSum 112 = .ok (.iload 4, 2) := by decide +kernel
theorem dX2_exactSum_114 : decode cX2_exactSum 114 = .ok (.isub, 1) := by decide +kernel
theorem dX2_exactSum_115 : decode cX2_exactSum 115 = .ok (.invokevirtual 94, 3) := by decide +kernel
theorem dX2_exactSum_118 : decode cX2_exactSum 118 = .ok (.aload_n 0, 1) := by decide +kernel
theorem dX2_exactSum_119 : decode cX2_exactSum 119 = .ok (.getfield 7, 3) := by decide +kernel
theorem dX2_exactSum_122 : decode cX2_exactSum 122 = .ok (.iload_n 1, 1) := by decide +kernel
theorem dX2_exactSum_123 : decode cX2_exactSum 123 = .ok (.baload, 1) := by decide +kernel
theorem dX2_exactSum_124 : decode cX2_exactSum 124 = .ok (.iload 5, 2) := by decide +kernel
theorem dX2_exactSum_126 : decode cX2_exactSum 126 = .ok (.if_icmp .ne 21, 3) := by decide +kernel
theorem dX2_exactSum_129 : decode cX2_exactSum 129 = .ok (.aload_n 0, 1) := by decide +kernel
theorem dX2_exactSum_130 : decode cX2_exactSum 130 = .ok (.getfield 24, 3) := by decide +kernel
theorem dX2_exactSum_133 : decode cX2_exactSum 133 = .ok (.aload_n 0, 1) := by decide +kernel
theorem dX2_exactSum_134 : decode cX2_exactSum 134 = .ok (.getfield 28, 3) := by decide +kernel
theorem dX2_exactSum_137 : decode cX2_exactSum 137 = .ok (.invokevirtual 98, 3) := by decide +kernel
theorem dX2_exactSum_140 : decode cX2_exactSum 140 = .ok (.aload_n 0, 1) := by decide +kernel
theorem dX2_exactSum_141 : decode cX2_exactSum 141 = .ok (.getfield 7, 3) := by decide +kernel
theorem dX2_exactSum_144 : decode cX2_exactSum 144 = .ok (.iload_n 1, 1) := by decide +kernel
theorem dX2_exactSum_145 : decode cX2_exactSum 145 = .ok (.baload, 1) := by decide +kernel
theorem dX2_exactSum_146 : decode cX2_exactSum 146 = .ok (.ireturn, 1) := by decide +kernel
theorem dX2_exactSum_147 : decode cX2_exactSum 147 = .ok (.aload_n 0, 1) := by decide +kernel
theorem dX2_exactSum_148 : decode cX2_exactSum 148 = .ok (.getfield 24, 3) := by decide +kernel
theorem dX2_exactSum_151 : decode cX2_exactSum 151 = .ok (.aload_n 0, 1) := by decide +kernel
theorem dX2_exactSum_152 : decode cX2_exactSum 152 = .ok (.getfield 28, 3) := by decide +kernel
theorem dX2_exactSum_155 : decode cX2_exactSum 155 = .ok (.invokevirtual 102, 3) := by decide +kernel
end
section
theorem dX2_exactSum_158 : decode cX2_exactSum 158 = .ok (.ifCond .lt 21, 3) := by decide +kernel
theorem dX2_exactSum_161 : decode cX2_exactSum 161 = .ok (.aload_n 0, 1) := by decide +kernel
theorem dX2_exactSum_162 : decode cX2_exactSum 162 = .ok (.getfield 24, 3) := by decide +kernel
theorem dX2_exactSum_165 : decode cX2_exactSum 165 = .ok (.aload_n 0, 1) := by decide +kernel
theorem dX2_exactSum_166 : decode cX2_exactSum 166 = .ok (.getfield 28, 3) := by decide +kernel
theorem dX2_exactSum_169 : decode cX2_exactSum 169 = .ok (.invokevirtual 106, 3) := by decide +kernel
theorem dX2_exactSum_172 : decode cX2_exactSum 172 = .ok (.aload_n 0, 1) := by decide +kernel
theorem dX2_exactSum_173 : decode cX2_exactSum 173 = .ok (.getfield 7, 3) := by decide +kernel
theorem dX2_exactSum_176 : decode cX2_exactSum 176 = .ok (.iload_n 1, 1) := by decide +kernel
theorem dX2_exactSum_177 : decode cX2_exactSum 177 = .ok (.baload, 1) := by decide +kernel
theorem dX2_exactSum_178 : decode cX2_exactSum 178 = .ok (.ireturn, 1) := by decide +kernel
theorem dX2_exactSum_179 : decode cX2_exactSum 179 = .ok (.aload_n 0, 1) := by decide +kernel
theorem dX2_exactSum_180 : decode cX2_exactSum 180 = .ok (.invokevirtual 109, 3) := by decide +kernel
theorem dX2_exactSum_183 : decode cX2_exactSum 183 = .ok (.aload_n 0, 1) := by decide +kernel
theorem dX2_exactSum_184 : decode cX2_exactSum 184 = .ok (.getfield 24, 3) := by decide +kernel
theorem dX2_exactSum_187 : decode cX2_exactSum 187 = .ok (.aload_n 0, 1) := by decide +kernel
theorem dX2_exactSum_188 : decode cX2_exactSum 188 = .ok (.getfield 28, 3) := by decide +kernel
theorem dX2_exactSum_191 : decode cX2_exactSum 191 = .ok (.invokevirtual 106, 3) := by decide +kernel
theorem dX2_exactSum_194 : decode cX2_exactSum 194 = .ok (.iload 5, 2) := by decide +kernel
theorem dX2_exactSum_196 : decode cX2_exactSum 196 = .ok (.ireturn, 1) := by decide +kernel
theorem dX2_swap_0 : decode cX2_swap 0 = .ok (.iconst 0, 1) := by decide +kernel
theorem dX2_swap_1 : decode cX2_swap 1 = .ok (.istore_n 1, 1) := by decide +kernel
theorem dX2_swap_2 : decode cX2_swap 2 = .ok (.iload_n 1, 1) := by decide +kernel
theorem dX2_swap_3 : decode cX2_swap 3 = .ok (.sipush 140, 3) := by decide +kernel
theorem dX2_swap_6 : decode cX2_swap 6 = .ok (.if_icmp .ge 47, 3) := by decide +kernel
theorem dX2_swap_9 : decode cX2_swap 9 = .ok (.aload_n 0, 1) := by decide +kernel
theorem dX2_swap_10 : decode cX2_swap 10 = .ok (.getfield 24, 3) := by decide +kernel
theorem dX2_swap_13 : decode cX2_swap 13 = .ok (.getfield 112, 3) := by decide +kernel
theorem dX2_swap_16 : decode cX2_swap 16 = .ok (.iload_n 1, 1) := by decide +kernel
theorem dX2_swap_17 : decode cX2_swap 17 = .ok (.iaload, 1) := by decide +kernel
theorem dX2_swap_18 : decode cX2_swap 18 = .ok (.istore_n 2, 1) := by decide +kernel
theorem dX2_swap_19 : decode cX2_swap 19 = .ok (.aload_n 0, 1) := by decide +kernel
theorem dX2_swap_20 : decode cX2_swap 20 = .ok (.getfield 24, 3) := by decide +kernel
theorem dX2_swap_23 : decode cX2_swap 23 = .ok (.getfield 112, 3) := by decide +kernel
theorem dX2_swap_26 : decode cX2_swap 26 = .ok (.iload_n 1, 1) := by decide +kernel
theorem dX2_swap_27 : decode cX2_swap 27 = .ok (.aload_n 0, 1) := by decide +kernel
theorem dX2_swap_28 : decode cX2_swap 28 = .ok (.getfield 28, 3) := by decide +kernel
theorem dX2_swap_31 : decode cX2_swap 31 = .ok (.getfield 112, 3) := by decide +kernel
theorem dX2_swap_34 : decode cX2_swap 34 = .ok (.iload_n 1, 1) := by decide +kernel
theorem dX2_swap_35 : decode cX2_swap 35 = .ok (.iaload, 1) := by decide +kernel
theorem dX2_swap_36 : decode cX2_swap 36 = .ok (.iastore, 1) := by decide +kernel
theorem dX2_swap_37 : decode cX2_swap 37 = .ok (.aload_n 0, 1) := by decide +kernel
theorem dX2_swap_38 : decode cX2_swap 38 = .ok (.getfield 28, 3) := by decide +kernel
theorem dX2_swap_41 : decode cX2_swap 41 = .ok (.getfield 112, 3) := by decide +kernel
theorem dX2_swap_44 : decode cX2_swap 44 = .ok (.iload_n 1, 1) := by decide +kernel
theorem dX2_swap_45 : decode cX2_swap 45 = .ok (.iload_n 2, 1) := by decide +kernel
theorem dX2_swap_46 : decode cX2_swap 46 = .ok (.iastore, 1) := by decide +kernel
theorem dX2_swap_47 : decode cX2_swap 47 = .ok (.iinc 1 1, 3) := by decide +kernel
theorem dX2_swap_50 : decode cX2_swap 50 = .ok (.goto (-48), 3) := by decide +kernel
theorem dX2_swap_53 : decode cX2_swap 53 = .ok (.return_, 1) := by decide +kernel
theorem dX2_sum_0 : decode cX2_sum 0 = .ok (.aload_n 0, 1) := by decide +kernel
theorem dX2_sum_1 : decode cX2_sum 1 = .ok (.iload_n 1, 1) := by decide +kernel
theorem dX2_sum_2 : decode cX2_sum 2 = .ok (.iload_n 2, 1) := by decide +kernel
theorem dX2_sum_3 : decode cX2_sum 3 = .ok (.iload_n 3, 1) := by decide +kernel
theorem dX2_sum_4 : decode cX2_sum 4 = .ok (.invokevirtual 115, 3) := by decide +kernel
theorem dX2_sum_7 : decode cX2_sum 7 = .ok (.istore 4, 2) := by decide +kernel
theorem dX2_sum_9 : decode cX2_sum 9 = .ok (.aload_n 0, 1) := by decide +kernel
theorem dX2_sum_10 : decode cX2_sum 10 = .ok (.iload 4, 2) := by decide +kernel
theorem dX2_sum_12 : decode cX2_sum 12 = .ok (.aload_n 0, 1) := by decide +kernel
theorem dX2_sum_13 : decode cX2_sum 13 = .ok (.getfield 17, 3) := by decide +kernel
theorem dX2_sum_16 : decode cX2_sum 16 = .ok (.iload_n 1, 1) := by decide +kernel
theorem dX2_sum_17 : decode cX2_sum 17 = .ok (.iaload, 1) := by decide +kernel
theorem dX2_sum_18 : decode cX2_sum 18 = .ok (.aload_n 0, 1) := by decide +kernel
theorem dX2_sum_19 : decode cX2_sum 19 = .ok (.getfield 17, 3) := by decide +kernel
theorem dX2_sum_22 : decode cX2_sum 22 = .ok (.iload_n 2, 1) := by decide +kernel
theorem dX2_sum_23 : decode cX2_sum 23 = .ok (.iaload, 1) := by decide +kernel
theorem dX2_sum_24 : decode cX2_sum 24 = .ok (.if_icmp .ge 12, 3) := by decide +kernel
theorem dX2_sum_27 : decode cX2_sum 27 = .ok (.aload_n 0, 1) := by decide +kernel
theorem dX2_sum_28 : decode cX2_sum 28 = .ok (.getfield 17, 3) := by decide +kernel
theorem dX2_sum_31 : decode cX2_sum 31 = .ok (.iload_n 1, 1) := by decide +kernel
theorem dX2_sum_32 : decode cX2_sum 32 = .ok (.iaload, 1) := by decide +kernel
theorem dX2_sum_33 : decode cX2_sum 33 = .ok (.goto 9, 3) := by decide +kernel
theorem dX2_sum_36 : decode cX2_sum 36 = .ok (.aload_n 0, 1) := by decide +kernel
theorem dX2_sum_37 : decode cX2_sum 37 = .ok (.getfield 17, 3) := by decide +kernel
theorem dX2_sum_40 : decode cX2_sum 40 = .ok (.iload_n 2, 1) := by decide +kernel
theorem dX2_sum_41 : decode cX2_sum 41 = .ok (.iaload, 1) := by decide +kernel
theorem dX2_sum_42 : decode cX2_sum 42 = .ok (.iconst 0, 1) := by decide +kernel
theorem dX2_sum_43 : decode cX2_sum 43 = .ok (.invokevirtual 83, 3) := by decide +kernel
theorem dX2_sum_46 : decode cX2_sum 46 = .ok (.ireturn, 1) := by decide +kernel
theorem dX2_product_0 : decode cX2_product 0 = .ok (.aload_n 0, 1) := by decide +kernel
theorem dX2_product_1 : decode cX2_product 1 = .ok (.getfield 24, 3) := by decide +kernel
theorem dX2_product_4 : decode cX2_product 4 = .ok (.aload_n 0, 1) := by decide +kernel
theorem dX2_product_5 : decode cX2_product 5 = .ok (.getfield 13, 3) := by decide +kernel
theorem dX2_product_8 : decode cX2_product 8 = .ok (.iload_n 1, 1) := by decide +kernel
theorem dX2_product_9 : decode cX2_product 9 = .ok (.laload, 1) := by decide +kernel
theorem dX2_product_10 : decode cX2_product 10 = .ok (.aload_n 0, 1) := by decide +kernel
theorem dX2_product_11 : decode cX2_product 11 = .ok (.getfield 13, 3) := by decide +kernel
theorem dX2_product_14 : decode cX2_product 14 = .ok (.iload_n 2, 1) := by decide +kernel
theorem dX2_product_15 : decode cX2_product 15 = .ok (.laload, 1) := by decide +kernel
theorem dX2_product_16 : decode cX2_product 16 = .ok (.invokevirtual 119, 3) := by decide +kernel
theorem dX2_product_19 : decode cX2_product 19 = .ok (.aload_n 0, 1) := by decide +kernel
theorem dX2_product_20 : decode cX2_product 20 = .ok (.aload_n 0, 1) := by decide +kernel
theorem dX2_product_21 : decode cX2_product 21 = .ok (.getfield 7, 3) := by decide +kernel
theorem dX2_product_24 : decode cX2_product 24 = .ok (.iload_n 1, 1) := by decide +kernel
theorem dX2_product_25 : decode cX2_product 25 = .ok (.baload, 1) := by decide +kernel
theorem dX2_product_26 : decode cX2_product 26 = .ok (.aload_n 0, 1) := by decide +kernel
theorem dX2_product_27 : decode cX2_product 27 = .ok (.getfield 7, 3) := by decide +kernel
theorem dX2_product_30 : decode cX2_product 30 = .ok (.iload_n 2, 1) := by decide +kernel
theorem dX2_product_31 : decode cX2_product 31 = .ok (.baload, 1) := by decide +kernel
theorem dX2_product_32 : decode cX2_product 32 = .ok (.if_icmp .eq 7, 3) := by decide +kernel
theorem dX2_product_35 : decode cX2_product 35 = .ok (.iconst 1, 1) := by decide +kernel
theorem dX2_product_36 : decode cX2_product 36 = .ok (.goto 4, 3) := by decide +kernel
theorem dX2_product_39 : decode cX2_product 39 = .ok (.iconst 0, 1) := by decide +kernel
theorem dX2_product_40 : decode cX2_product 40 = .ok (.aload_n 0, 1) := by decide +kernel
theorem dX2_product_41 : decode cX2_product 41 = .ok (.getfield 17, 3) := by decide +kernel
theorem dX2_product_44 : decode cX2_product 44 = .ok (.iload_n 1, 1) := by decide +kernel
theorem dX2_product_45 : decode cX2_product 45 = .ok (.iaload, 1) := by decide +kernel
theorem dX2_product_46 : decode cX2_product 46 = .ok (.aload_n 0, 1) := by decide +kernel
theorem dX2_product_47 : decode cX2_product 47 = .ok (.getfield 17, 3) := by decide +kernel
theorem dX2_product_50 : decode cX2_product 50 = .ok (.iload_n 2, 1) := by decide +kernel
theorem dX2_product_51 : decode cX2_product 51 = .ok (.iaload, 1) := by decide +kernel
theorem dX2_product_52 : decode cX2_product 52 = .ok (.iadd, 1) := by decide +kernel
theorem dX2_product_53 : decode cX2_product 53 = .ok (.iconst 0, 1) := by decide +kernel
theorem dX2_product_54 : decode cX2_product 54 = .ok (.invokevirtual 83, 3) := by decide +kernel
theorem dX2_product_57 : decode cX2_product 57 = .ok (.ireturn, 1) := by decide +kernel
theorem dX2_quotient_0 : decode cX2_quotient 0 = .ok (.aload_n 0, 1) := by decide +kernel
theorem dX2_quotient_1 : decode cX2_quotient 1 = .ok (.getfield 24, 3) := by decide +kernel
theorem dX2_quotient_4 : decode cX2_quotient 4 = .ok (.lload_n 2, 1) := by decide +kernel
theorem dX2_quotient_5 : decode cX2_quotient 5 = .ok (.lload 5, 2) := by decide +kernel
theorem dX2_quotient_7 : decode cX2_quotient 7 = .ok (.ldiv, 1) := by decide +kernel
theorem dX2_quotient_8 : decode cX2_quotient 8 = .ok (.invokevirtual 79, 3) := by decide +kernel
theorem dX2_quotient_11 : decode cX2_quotient 11 = .ok (.lload_n 2, 1) := by decide +kernel
theorem dX2_quotient_12 : decode cX2_quotient 12 = .ok (.lload 5, 2) := by decide +kernel
theorem dX2_quotient_14 : decode cX2_quotient 14 = .ok (.lrem, 1) := by decide +kernel
theorem dX2_quotient_15 : decode cX2_quotient 15 = .ok (.lstore 8, 2) := by decide +kernel
theorem dX2_quotient_17 : decode cX2_quotient 17 = .ok (.iconst 0, 1) := by decide +kernel
theorem dX2_quotient_18 : decode cX2_quotient 18 = .ok (.istore 10, 2) := by decide +kernel
theorem dX2_quotient_20 : decode cX2_quotient 20 = .ok (.iload 10, 2) := by decide +kernel
theorem dX2_quotient_22 : decode cX2_quotient 22 = .ok (.bipush 120, 2) := by decide +kernel
theorem dX2_quotient_24 : decode cX2_quotient 24 = .ok (.if_icmp .ge 57, 3) := by decide +kernel
theorem dX2_quotient_27 : decode cX2_quotient 27 = .ok (.ldc2_w 61, 3) := by decide +kernel
theorem dX2_quotient_30 : decode cX2_quotient 30 = .ok (.lload 8, 2) := by decide +kernel
theorem dX2_quotient_32 : decode cX2_quotient 32 = .ok (.lmul, 1) := by decide +kernel
theorem dX2_quotient_33 : decode cX2_quotient 33 = .ok (.lstore 8, 2) := by decide +kernel
theorem dX2_quotient_35 : decode cX2_quotient 35 = .ok (.aload_n 0, 1) := by decide +kernel
theorem dX2_quotient_36 : decode cX2_quotient 36 = .ok (.getfield 24, 3) := by decide +kernel
theorem dX2_quotient_39 : decode cX2_quotient 39 = .ok (.lload 8, 2) := by decide +kernel
theorem dX2_quotient_41 : decode cX2_quotient 41 = .ok (.lload 5, 2) := by decide +kernel
theorem dX2_quotient_43 : decode cX2_quotient 43 = .ok (.lcmp, 1) := by decide +kernel
theorem dX2_quotient_44 : decode cX2_quotient 44 = .ok (.ifCond .lt 7, 3) := by decide +kernel
theorem dX2_quotient_47 : decode cX2_quotient 47 = .ok (.iconst 1, 1) := by decide +kernel
theorem dX2_quotient_48 : decode cX2_quotient 48 = .ok (.goto 4, 3) := by decide +kernel
theorem dX2_quotient_51 : decode cX2_quotient 51 = .ok (.iconst 0, 1) := by decide +kernel
theorem dX2_quotient_52 : decode cX2_quotient 52 = .ok (.invokevirtual 123, 3) := by decide +kernel
theorem dX2_quotient_55 : decode cX2_quotient 55 = .ok (.lload 8, 2) := by decide +kernel
theorem dX2_quotient_57 : decode cX2_quotient 57 = .ok (.lload 5, 2) := by decide +kernel
theorem dX2_quotient_59 : decode cX2_quotient 59 = .ok (.lcmp, 1) := by decide +kernel
theorem dX2_quotient_60 : decode cX2_quotient 60 = .ok (.ifCond .lt 11, 3) := by decide +kernel
theorem dX2_quotient_63 : decode cX2_quotient 63 = .ok (.lload 8, 2) := by decide +kernel
theorem dX2_quotient_65 : decode cX2_quotient 65 = .ok (.lload 5, 2) := by decide +kernel
theorem dX2_quotient_67 : decode cX2_quotient 67 = .ok (.lsub, 1) := by decide +kernel
theorem dX2_quotient_68 : decode cX2_quotient 68 = .ok (.goto 5, 3) := by decide +kernel
theorem dX2_quotient_71 : decode cX2_quotient 71 = .ok (.lload 8, 2) := by decide +kernel
theorem dX2_quotient_73 : decode cX2_quotient 73 = .ok (.lstore 8, 2) := by decide +kernel
theorem dX2_quotient_75 : decode cX2_quotient 75 = .ok (.iinc 10 1, 3) := by decide +kernel
theorem dX2_quotient_78 : decode cX2_quotient 78 = .ok (.goto (-58), 3) := by decide +kernel
theorem dX2_quotient_81 : decode cX2_quotient 81 = .ok (.aload_n 0, 1) := by decide +kernel
theorem dX2_quotient_82 : decode cX2_quotient 82 = .ok (.iload_n 1, 1) := by decide +kernel
theorem dX2_quotient_83 : decode cX2_quotient 83 = .ok (.iload 4, 2) := by decide +kernel
theorem dX2_quotient_85 : decode cX2_quotient 85 = .ok (.iload 7, 2) := by decide +kernel
theorem dX2_quotient_87 : decode cX2_quotient 87 = .ok (.isub, 1) := by decide +kernel
theorem dX2_quotient_88 : decode cX2_quotient 88 = .ok (.bipush 120, 2) := by decide +kernel
theorem dX2_quotient_90 : decode cX2_quotient 90 = .ok (.isub, 1) := by decide +kernel
theorem dX2_quotient_91 : decode cX2_quotient 91 = .ok (.lload 8, 2) := by decide +kernel
theorem dX2_quotient_93 : decode cX2_quotient 93 = .ok (.lconst 0, 1) := by decide +kernel
theorem dX2_quotient_94 : decode cX2_quotient 94 = .ok (.lcmp, 1) := by decide +kernel
theorem dX2_quotient_95 : decode cX2_quotient 95 = .ok (.ifCond .le 7, 3) := by decide +kernel
theorem dX2_quotient_98 : decode cX2_quotient 98 = .ok (.iconst 1, 1) := by decide +kernel
theorem dX2_quotient_99 : decode cX2_quotient 99 = .ok (.goto 4, 3) := by decide +kernel
theorem dX2_quotient_102 : decode cX2_quotient 102 = .ok (.iconst 0, 1) := by decide +kernel
theorem dX2_quotient_103 : decode cX2_quotient 103 = .ok (.invokevirtual 83, 3) := by decide +kernel
theorem dX2_quotient_106 : decode cX2_quotient 106 = .ok (.ireturn, 1) := by decide +kernel
theorem dX2_rest_0 : decode cX2_rest 0 = .ok (.aload_n 0, 1) := by decide +kernel
theorem dX2_rest_1 : decode cX2_rest 1 = .ok (.iload_n 1, 1) := by decide +kernel
theorem dX2_rest_2 : decode cX2_rest 2 = .ok (.invokevirtual 127, 3) := by decide +kernel
theorem dX2_rest_5 : decode cX2_rest 5 = .ok (.aload_n 0, 1) := by decide +kernel
theorem dX2_rest_6 : decode cX2_rest 6 = .ok (.getfield 17, 3) := by decide +kernel
theorem dX2_rest_9 : decode cX2_rest 9 = .ok (.iload_n 1, 1) := by decide +kernel
theorem dX2_rest_10 : decode cX2_rest 10 = .ok (.iaload, 1) := by decide +kernel
theorem dX2_rest_11 : decode cX2_rest 11 = .ok (.aload_n 0, 1) := by decide +kernel
theorem dX2_rest_12 : decode cX2_rest 12 = .ok (.getfield 17, 3) := by decide +kernel
theorem dX2_rest_15 : decode cX2_rest 15 = .ok (.iload_n 2, 1) := by decide +kernel
theorem dX2_rest_16 : decode cX2_rest 16 = .ok (.iaload, 1) := by decide +kernel
theorem dX2_rest_17 : decode cX2_rest 17 = .ok (.isub, 1) := by decide +kernel
theorem dX2_rest_18 : decode cX2_rest 18 = .ok (.istore_n 3, 1) := by decide +kernel
theorem dX2_rest_19 : decode cX2_rest 19 = .ok (.iload_n 3, 1) := by decide +kernel
theorem dX2_rest_20 : decode cX2_rest 20 = .ok (.ifCond .lt 67, 3) := by decide +kernel
theorem dX2_rest_23 : decode cX2_rest 23 = .ok (.aload_n 0, 1) := by decide +kernel
theorem dX2_rest_24 : decode cX2_rest 24 = .ok (.getfield 13, 3) := by decide +kernel
theorem dX2_rest_27 : decode cX2_rest 27 = .ok (.iload_n 1, 1) := by decide +kernel
theorem dX2_rest_28 : decode cX2_rest 28 = .ok (.laload, 1) := by decide +kernel
theorem dX2_rest_29 : decode cX2_rest 29 = .ok (.aload_n 0, 1) := by decide +kernel
theorem dX2_rest_30 : decode cX2_rest 30 = .ok (.getfield 13, 3) := by decide +kernel
theorem dX2_rest_33 : decode cX2_rest 33 = .ok (.iload_n 2, 1) := by decide +kernel
theorem dX2_rest_34 : decode cX2_rest 34 = .ok (.laload, 1) := by decide +kernel
theorem dX2_rest_35 : decode cX2_rest 35 = .ok (.lrem, 1) := by decide +kernel
theorem dX2_rest_36 : decode cX2_rest 36 = .ok (.lstore 4, 2) := by decide +kernel
theorem dX2_rest_38 : decode cX2_rest 38 = .ok (.iconst 0, 1) := by decide +kernel
theorem dX2_rest_39 : decode cX2_rest 39 = .ok (.istore 6, 2) := by decide +kernel
theorem dX2_rest_41 : decode cX2_rest 41 = .ok (.iload 6, 2) := by decide +kernel
theorem dX2_rest_43 : decode cX2_rest 43 = .ok (.iload_n 3, 1) := by decide +kernel
theorem dX2_rest_44 : decode cX2_rest 44 = .ok (.if_icmp .ge 24, 3) := by decide +kernel
theorem dX2_rest_47 : decode cX2_rest 47 = .ok (.ldc2_w 61, 3) := by decide +kernel
theorem dX2_rest_50 : decode cX2_rest 50 = .ok (.lload 4, 2) := by decide +kernel
theorem dX2_rest_52 : decode cX2_rest 52 = .ok (.lmul, 1) := by decide +kernel
theorem dX2_rest_53 : decode cX2_rest 53 = .ok (.aload_n 0, 1) := by decide +kernel
theorem dX2_rest_54 : decode cX2_rest 54 = .ok (.getfield 13, 3) := by decide +kernel
theorem dX2_rest_57 : decode cX2_rest 57 = .ok (.iload_n 2, 1) := by decide +kernel
theorem dX2_rest_58 : decode cX2_rest 58 = .ok (.laload, 1) := by decide +kernel
theorem dX2_rest_59 : decode cX2_rest 59 = .ok (.lrem, 1) := by decide +kernel
theorem dX2_rest_60 : decode cX2_rest 60 = .ok (.lstore 4, 2) := by decide +kernel
theorem dX2_rest_62 : decode cX2_rest 62 = .ok (.iinc 6 1, 3) := by decide +kernel
theorem dX2_rest_65 : decode cX2_rest 65 = .ok (.goto (-24), 3) := by decide +kernel
theorem dX2_rest_68 : decode cX2_rest 68 = .ok (.aload_n 0, 1) := by decide +kernel
theorem dX2_rest_69 : decode cX2_rest 69 = .ok (.lload 4, 2) := by decide +kernel
theorem dX2_rest_71 : decode cX2_rest 71 = .ok (.putfield 47, 3) := by decide +kernel
theorem dX2_rest_74 : decode cX2_rest 74 = .ok (.aload_n 0, 1) := by decide +kernel
theorem dX2_rest_75 : decode cX2_rest 75 = .ok (.aload_n 0, 1) := by decide +kernel
theorem dX2_rest_76 : decode cX2_rest 76 = .ok (.getfield 17, 3) := by decide +kernel
theorem dX2_rest_79 : decode cX2_rest 79 = .ok (.iload_n 2, 1) := by decide +kernel
theorem dX2_rest_80 : decode cX2_rest 80 = .ok (.iaload, 1) := by decide +kernel
theorem dX2_rest_81 : decode cX2_rest 81 = .ok (.putfield 51, 3) := by decide +kernel
theorem dX2_rest_84 : decode cX2_rest 84 = .ok (.goto 49, 3) := by decide +kernel
theorem dX2_rest_87 : decode cX2_rest 87 = .ok (.iload_n 3, 1) := by decide +kernel
theorem dX2_rest_88 : decode cX2_rest 88 = .ok (.ineg, 1) := by decide +kernel
theorem dX2_rest_89 : decode cX2_rest 89 = .ok (.bipush 60, 2) := by decide +kernel
theorem dX2_rest_91 : decode cX2_rest 91 = .ok (.if_icmp .ge 42, 3) := by decide +kernel
theorem dX2_rest_94 : decode cX2_rest 94 = .ok (.aload_n 0, 1) := by decide +kernel
theorem dX2_rest_95 : decode cX2_rest 95 = .ok (.getfield 13, 3) := by decide +kernel
theorem dX2_rest_98 : decode cX2_rest 98 = .ok (.iload_n 2, 1) := by decide +kernel
theorem dX2_rest_99 : decode cX2_rest 99 = .ok (.laload, 1) := by decide +kernel
theorem dX2_rest_100 : decode cX2_rest 100 = .ok (.aload_n 0, 1) := by decide +kernel
theorem dX2_rest_101 : decode cX2_rest 101 = .ok (.getfield 13, 3) := by decide +kernel
theorem dX2_rest_104 : decode cX2_rest 104 = .ok (.iload_n 1, 1) := by decide +kernel
theorem dX2_rest_105 : decode cX2_rest 105 = .ok (.laload, 1) := by decide +kernel
theorem dX2_rest_106 : decode cX2_rest 106 = .ok (.iload_n 3, 1) := by decide +kernel
theorem dX2_rest_107 : decode cX2_rest 107 = .ok (.ineg, 1) := by decide +kernel
theorem dX2_rest_108 : decode cX2_rest 108 = .ok (.lshr, 1) := by decide +kernel
theorem dX2_rest_109 : decode cX2_rest 109 = .ok (.lcmp, 1) := by decide +kernel
theorem dX2_rest_110 : decode cX2_rest 110 = .ok (.ifCond .gt 23, 3) := by decide +kernel
theorem dX2_rest_113 : decode cX2_rest 113 = .ok (.aload_n 0, 1) := by decide +kernel
theorem dX2_rest_114 : decode cX2_rest 114 = .ok (.aload_n 0, 1) := by decide +kernel
theorem dX2_rest_115 : decode cX2_rest 115 = .ok (.getfield 13, 3) := by decide +kernel
theorem dX2_rest_118 : decode cX2_rest 118 = .ok (.iload_n 1, 1) := by decide +kernel
theorem dX2_rest_119 : decode cX2_rest 119 = .ok (.laload, 1) := by decide +kernel
theorem dX2_rest_120 : decode cX2_rest 120 = .ok (.aload_n 0, 1) := by decide +kernel
theorem dX2_rest_121 : decode cX2_rest 121 = .ok (.getfield 13, 3) := by decide +kernel
theorem dX2_rest_124 : decode cX2_rest 124 = .ok (.iload_n 2, 1) := by decide +kernel
theorem dX2_rest_125 : decode cX2_rest 125 = .ok (.laload, 1) := by decide +kernel
theorem dX2_rest_126 : decode cX2_rest 126 = .ok (.iload_n 3, 1) := by decide +kernel
theorem dX2_rest_127 : decode cX2_rest 127 = .ok (.ineg, 1) := by decide +kernel
theorem dX2_rest_128 : decode cX2_rest 128 = .ok (.lshl, 1) := by decide +kernel
theorem dX2_rest_129 : decode cX2_rest 129 = .ok (.lrem, 1) := by decide +kernel
theorem dX2_rest_130 : decode cX2_rest 130 = .ok (.putfield 47, 3) := by decide +kernel
theorem dX2_rest_133 : decode cX2_rest 133 = .ok (.aload_n 0, 1) := by decide +kernel
theorem dX2_rest_134 : decode cX2_rest 134 = .ok (.invokevirtual 63, 3) := by decide +kernel
theorem dX2_rest_137 : decode cX2_rest 137 = .ok (.ireturn, 1) := by decide +kernel
theorem dX2_errorOf_0 : decode cX2_errorOf 0 = .ok (.aload_n 0, 1) := by decide +kernel
theorem dX2_errorOf_1 : decode cX2_errorOf 1 = .ok (.getfield 28, 3) := by decide +kernel
theorem dX2_errorOf_4 : decode cX2_errorOf 4 = .ok (.aload_n 0, 1) := by decide +kernel
theorem dX2_errorOf_5 : decode cX2_errorOf 5 = .ok (.getfield 47, 3) := by decide +kernel
theorem dX2_errorOf_8 : decode cX2_errorOf 8 = .ok (.invokevirtual 79, 3) := by decide +kernel
theorem dX2_errorOf_11 : decode cX2_errorOf 11 = .ok (.aload_n 0, 1) := by decide +kernel
theorem dX2_errorOf_12 : decode cX2_errorOf 12 = .ok (.getfield 28, 3) := by decide +kernel
theorem dX2_errorOf_15 : decode cX2_errorOf 15 = .ok (.aload_n 0, 1) := by decide +kernel
theorem dX2_errorOf_16 : decode cX2_errorOf 16 = .ok (.getfield 51, 3) := by decide +kernel
theorem dX2_errorOf_19 : decode cX2_errorOf 19 = .ok (.iload_n 2, 1) := by decide +kernel
theorem dX2_errorOf_20 : decode cX2_errorOf 20 = .ok (.isub, 1) := by decide +kernel
theorem dX2_errorOf_21 : decode cX2_errorOf 21 = .ok (.invokevirtual 94, 3) := by decide +kernel
theorem dX2_errorOf_24 : decode cX2_errorOf 24 = .ok (.aload_n 0, 1) := by decide +kernel
theorem dX2_errorOf_25 : decode cX2_errorOf 25 = .ok (.getfield 24, 3) := by decide +kernel
theorem dX2_errorOf_28 : decode cX2_errorOf 28 = .ok (.aload_n 0, 1) := by decide +kernel
theorem dX2_errorOf_29 : decode cX2_errorOf 29 = .ok (.getfield 28, 3) := by decide +kernel
theorem dX2_errorOf_32 : decode cX2_errorOf 32 = .ok (.invokevirtual 102, 3) := by decide +kernel
theorem dX2_errorOf_35 : decode cX2_errorOf 35 = .ok (.istore_n 3, 1) := by decide +kernel
theorem dX2_errorOf_36 : decode cX2_errorOf 36 = .ok (.iload_n 3, 1) := by decide +kernel
theorem dX2_errorOf_37 : decode cX2_errorOf 37 = .ok (.ifCond .ge 7, 3) := by decide +kernel
theorem dX2_errorOf_40 : decode cX2_errorOf 40 = .ok (.aload_n 0, 1) := by decide +kernel
theorem dX2_errorOf_41 : decode cX2_errorOf 41 = .ok (.invokevirtual 109, 3) := by decide +kernel
theorem dX2_errorOf_44 : decode cX2_errorOf 44 = .ok (.aload_n 0, 1) := by decide +kernel
theorem dX2_errorOf_45 : decode cX2_errorOf 45 = .ok (.getfield 24, 3) := by decide +kernel
theorem dX2_errorOf_48 : decode cX2_errorOf 48 = .ok (.aload_n 0, 1) := by decide +kernel
theorem dX2_errorOf_49 : decode cX2_errorOf 49 = .ok (.getfield 28, 3) := by decide +kernel
theorem dX2_errorOf_52 : decode cX2_errorOf 52 = .ok (.invokevirtual 106, 3) := by decide +kernel
theorem dX2_errorOf_55 : decode cX2_errorOf 55 = .ok (.aload_n 0, 1) := by decide +kernel
theorem dX2_errorOf_56 : decode cX2_errorOf 56 = .ok (.iload_n 1, 1) := by decide +kernel
theorem dX2_errorOf_57 : decode cX2_errorOf 57 = .ok (.iload_n 3, 1) := by decide +kernel
theorem dX2_errorOf_58 : decode cX2_errorOf 58 = .ok (.ifCond .ge 7, 3) := by decide +kernel
theorem dX2_errorOf_61 : decode cX2_errorOf 61 = .ok (.iconst 1, 1) := by decide +kernel
theorem dX2_errorOf_62 : decode cX2_errorOf 62 = .ok (.goto 4, 3) := by decide +kernel
theorem dX2_errorOf_65 : decode cX2_errorOf 65 = .ok (.iconst 0, 1) := by decide +kernel
theorem dX2_errorOf_66 : decode cX2_errorOf 66 = .ok (.if_icmp .eq 7, 3) := by decide +kernel
theorem dX2_errorOf_69 : decode cX2_errorOf 69 = .ok (.iconst 1, 1) := by decide +kernel
theorem dX2_errorOf_70 : decode cX2_errorOf 70 = .ok (.goto 4, 3) := by decide +kernel
theorem dX2_errorOf_73 : decode cX2_errorOf 73 = .ok (.iconst 0, 1) := by decide +kernel
theorem dX2_errorOf_74 : decode cX2_errorOf 74 = .ok (.iload_n 2, 1) := by decide +kernel
theorem dX2_errorOf_75 : decode cX2_errorOf 75 = .ok (.iconst 0, 1) := by decide +kernel
theorem dX2_errorOf_76 : decode cX2_errorOf 76 = .ok (.invokevirtual 83, 3) := by decide +kernel
theorem dX2_errorOf_79 : decode cX2_errorOf 79 = .ok (.ireturn, 1) := by decide +kernel
theorem dX2_sumError_0 : decode cX2_sumError 0 = .ok (.aload_n 0, 1) := by decide +kernel
theorem dX2_sumError_1 : decode cX2_sumError 1 = .ok (.iload_n 1, 1) := by decide +kernel
theorem dX2_sumError_2 : decode cX2_sumError 2 = .ok (.iload_n 2, 1) := by decide +kernel
theorem dX2_sumError_3 : decode cX2_sumError 3 = .ok (.iconst 0, 1) := by decide +kernel
theorem dX2_sumError_4 : decode cX2_sumError 4 = .ok (.invokevirtual 115, 3) := by decide +kernel
theorem dX2_sumError_7 : decode cX2_sumError 7 = .ok (.istore_n 3, 1) := by decide +kernel
theorem dX2_sumError_8 : decode cX2_sumError 8 = .ok (.aload_n 0, 1) := by decide +kernel
theorem dX2_sumError_9 : decode cX2_sumError 9 = .ok (.getfield 17, 3) := by decide +kernel
theorem dX2_sumError_12 : decode cX2_sumError 12 = .ok (.iload_n 1, 1) := by decide +kernel
theorem dX2_sumError_13 : decode cX2_sumError 13 = .ok (.iaload, 1) := by decide +kernel
theorem dX2_sumError_14 : decode cX2_sumError 14 = .ok (.aload_n 0, 1) := by decide +kernel
theorem dX2_sumError_15 : decode cX2_sumError 15 = .ok (.getfield 17, 3) := by decide +kernel
theorem dX2_sumError_18 : decode cX2_sumError 18 = .ok (.iload_n 2, 1) := by decide +kernel
theorem dX2_sumError_19 : decode cX2_sumError 19 = .ok (.iaload, 1) := by decide +kernel
theorem dX2_sumError_20 : decode cX2_sumError 20 = .ok (.if_icmp .ge 12, 3) := by decide +kernel
theorem dX2_sumError_23 : decode cX2_sumError 23 = .ok (.aload_n 0, 1) := by decide +kernel
theorem dX2_sumError_24 : decode cX2_sumError 24 = .ok (.getfield 17, 3) := by decide +kernel
theorem dX2_sumError_27 : decode cX2_sumError 27 = .ok (.iload_n 1, 1) := by decide +kernel
theorem dX2_sumError_28 : decode cX2_sumError 28 = .ok (.iaload, 1) := by decide +kernel
theorem dX2_sumError_29 : decode cX2_sumError 29 = .ok (.goto 9, 3) := by decide +kernel
theorem dX2_sumError_32 : decode cX2_sumError 32 = .ok (.aload_n 0, 1) := by decide +kernel
theorem dX2_sumError_33 : decode cX2_sumError 33 = .ok (.getfield 17, 3) := by decide +kernel
theorem dX2_sumError_36 : decode cX2_sumError 36 = .ok (.iload_n 2, 1) := by decide +kernel
theorem dX2_sumError_37 : decode cX2_sumError 37 = .ok (.iaload, 1) := by decide +kernel
theorem dX2_sumError_38 : decode cX2_sumError 38 = .ok (.istore 4, 2) := by decide +kernel
theorem dX2_sumError_40 : decode cX2_sumError 40 = .ok (.aload_n 0, 1) := by decide +kernel
theorem dX2_sumError_41 : decode cX2_sumError 41 = .ok (.iload_n 3, 1) := by decide +kernel
theorem dX2_sumError_42 : decode cX2_sumError 42 = .ok (.iload 4, 2) := by decide +kernel
theorem dX2_sumError_44 : decode cX2_sumError 44 = .ok (.iconst 0, 1) := by decide +kernel
theorem dX2_sumError_45 : decode cX2_sumError 45 = .ok (.invokevirtual 83, 3) := by decide +kernel
theorem dX2_sumError_48 : decode cX2_sumError 48 = .ok (.iconst (-1), 1) := by decide +kernel
theorem dX2_sumError_49 : decode cX2_sumError 49 = .ok (.if_icmp .ne 5, 3) := by decide +kernel
theorem dX2_sumError_52 : decode cX2_sumError 52 = .ok (.iconst (-1), 1) := by decide +kernel
theorem dX2_sumError_53 : decode cX2_sumError 53 = .ok (.ireturn, 1) := by decide +kernel
theorem dX2_sumError_54 : decode cX2_sumError 54 = .ok (.aload_n 0, 1) := by decide +kernel
theorem dX2_sumError_55 : decode cX2_sumError 55 = .ok (.iload 4, 2) := by decide +kernel
theorem dX2_sumError_57 : decode cX2_sumError 57 = .ok (.invokevirtual 130, 3) := by decide +kernel
theorem dX2_sumError_60 : decode cX2_sumError 60 = .ok (.aload_n 0, 1) := by decide +kernel
theorem dX2_sumError_61 : decode cX2_sumError 61 = .ok (.iload_n 3, 1) := by decide +kernel
theorem dX2_sumError_62 : decode cX2_sumError 62 = .ok (.iload 4, 2) := by decide +kernel
theorem dX2_sumError_64 : decode cX2_sumError 64 = .ok (.invokevirtual 133, 3) := by decide +kernel
theorem dX2_sumError_67 : decode cX2_sumError 67 = .ok (.ireturn, 1) := by decide +kernel
theorem dX2_lower_0 : decode cX2_lower 0 = .ok (.aload_n 0, 1) := by decide +kernel
theorem dX2_lower_1 : decode cX2_lower 1 = .ok (.getfield 51, 3) := by decide +kernel
theorem dX2_lower_4 : decode cX2_lower 4 = .ok (.iload_n 1, 1) := by decide +kernel
theorem dX2_lower_5 : decode cX2_lower 5 = .ok (.if_icmp .ge 28, 3) := by decide +kernel
theorem dX2_lower_8 : decode cX2_lower 8 = .ok (.aload_n 0, 1) := by decide +kernel
theorem dX2_lower_9 : decode cX2_lower 9 = .ok (.aload_n 0, 1) := by decide +kernel
theorem dX2_lower_10 : decode cX2_lower 10 = .ok (.getfield 47, 3) := by decide +kernel
theorem dX2_lower_13 : decode cX2_lower 13 = .ok (.ldc2_w 61, 3) := by decide +kernel
theorem dX2_lower_16 : decode cX2_lower 16 = .ok (.ldiv, 1) := by decide +kernel
theorem dX2_lower_17 : decode cX2_lower 17 = .ok (.putfield 47, 3) := by decide +kernel
theorem dX2_lower_20 : decode cX2_lower 20 = .ok (.aload_n 0, 1) := by decide +kernel
theorem dX2_lower_21 : decode cX2_lower 21 = .ok (.dup, 1) := by decide +kernel
theorem dX2_lower_22 : decode cX2_lower 22 = .ok (.getfield 51, 3) := by decide +kernel
theorem dX2_lower_25 : decode cX2_lower 25 = .ok (.iconst 1, 1) := by decide +kernel
theorem dX2_lower_26 : decode cX2_lower 26 = .ok (.iadd, 1) := by decide +kernel
theorem dX2_lower_27 : decode cX2_lower 27 = .ok (.putfield 51, 3) := by decide +kernel
theorem dX2_lower_30 : decode cX2_lower 30 = .ok (.goto (-30), 3) := by decide +kernel
theorem dX2_lower_33 : decode cX2_lower 33 = .ok (.return_, 1) := by decide +kernel
theorem dX2_productError_0 : decode cX2_productError 0 = .ok (.aload_n 0, 1) := by decide +kernel
theorem dX2_productError_1 : decode cX2_productError 1 = .ok (.iload_n 1, 1) := by decide +kernel
theorem dX2_productError_2 : decode cX2_productError 2 = .ok (.iload_n 2, 1) := by decide +kernel
theorem dX2_productError_3 : decode cX2_productError 3 = .ok (.invokevirtual 137, 3) := by decide +kernel
theorem dX2_productError_6 : decode cX2_productError 6 = .ok (.iconst (-1), 1) := by decide +kernel
theorem dX2_productError_7 : decode cX2_productError 7 = .ok (.if_icmp .ne 5, 3) := by decide +kernel
theorem dX2_productError_10 : decode cX2_productError 10 = .ok (.iconst (-1), 1) := by decide +kernel
theorem dX2_productError_11 : decode cX2_productError 11 = .ok (.ireturn, 1) := by decide +kernel
theorem dX2_productError_12 : decode cX2_productError 12 = .ok (.aload_n 0, 1) := by decide +kernel
theorem dX2_productError_13 : decode cX2_productError 13 = .ok (.getfield 13, 3) := by decide +kernel
theorem dX2_productError_16 : decode cX2_productError 16 = .ok (.iload_n 1, 1) := by decide +kernel
theorem dX2_productError_17 : decode cX2_productError 17 = .ok (.laload, 1) := by decide +kernel
theorem dX2_productError_18 : decode cX2_productError 18 = .ok (.lconst 0, 1) := by decide +kernel
theorem dX2_productError_19 : decode cX2_productError 19 = .ok (.lcmp, 1) := by decide +kernel
theorem dX2_productError_20 : decode cX2_productError 20 = .ok (.ifCond .eq 14, 3) := by decide +kernel
theorem dX2_productError_23 : decode cX2_productError 23 = .ok (.aload_n 0, 1) := by decide +kernel
theorem dX2_productError_24 : decode cX2_productError 24 = .ok (.getfield 13, 3) := by decide +kernel
theorem dX2_productError_27 : decode cX2_productError 27 = .ok (.iload_n 2, 1) := by decide +kernel
theorem dX2_productError_28 : decode cX2_productError 28 = .ok (.laload, 1) := by decide +kernel
theorem dX2_productError_29 : decode cX2_productError 29 = .ok (.lconst 0, 1) := by decide +kernel
theorem dX2_productError_30 : decode cX2_productError 30 = .ok (.lcmp, 1) := by decide +kernel
theorem dX2_productError_31 : decode cX2_productError 31 = .ok (.ifCond .ne 8, 3) := by decide +kernel
theorem dX2_productError_34 : decode cX2_productError 34 = .ok (.aload_n 0, 1) := by decide +kernel
theorem dX2_productError_35 : decode cX2_productError 35 = .ok (.invokevirtual 63, 3) := by decide +kernel
theorem dX2_productError_38 : decode cX2_productError 38 = .ok (.ireturn, 1) := by decide +kernel
theorem dX2_productError_39 : decode cX2_productError 39 = .ok (.aload_n 0, 1) := by decide +kernel
theorem dX2_productError_40 : decode cX2_productError 40 = .ok (.getfield 17, 3) := by decide +kernel
theorem dX2_productError_43 : decode cX2_productError 43 = .ok (.iload_n 1, 1) := by decide +kernel
theorem dX2_productError_44 : decode cX2_productError 44 = .ok (.iaload, 1) := by decide +kernel
theorem dX2_productError_45 : decode cX2_productError 45 = .ok (.aload_n 0, 1) := by decide +kernel
theorem dX2_productError_46 : decode cX2_productError 46 = .ok (.getfield 17, 3) := by decide +kernel
theorem dX2_productError_49 : decode cX2_productError 49 = .ok (.iload_n 2, 1) := by decide +kernel
theorem dX2_productError_50 : decode cX2_productError 50 = .ok (.iaload, 1) := by decide +kernel
theorem dX2_productError_51 : decode cX2_productError 51 = .ok (.iadd, 1) := by decide +kernel
theorem dX2_productError_52 : decode cX2_productError 52 = .ok (.istore_n 3, 1) := by decide +kernel
theorem dX2_productError_53 : decode cX2_productError 53 = .ok (.aload_n 0, 1) := by decide +kernel
theorem dX2_productError_54 : decode cX2_productError 54 = .ok (.getfield 24, 3) := by decide +kernel
theorem dX2_productError_57 : decode cX2_productError 57 = .ok (.invokevirtual 35, 3) := by decide +kernel
theorem dX2_productError_60 : decode cX2_productError 60 = .ok (.iconst 1, 1) := by decide +kernel
theorem dX2_productError_61 : decode cX2_productError 61 = .ok (.isub, 1) := by decide +kernel
theorem dX2_productError_62 : decode cX2_productError 62 = .ok (.iload_n 3, 1) := by decide +kernel
theorem dX2_productError_63 : decode cX2_productError 63 = .ok (.iadd, 1) := by decide +kernel
theorem dX2_productError_64 : decode cX2_productError 64 = .ok (.sipush (-960), 3) := by decide +kernel
theorem dX2_productError_67 : decode cX2_productError 67 = .ok (.if_icmp .ge 6, 3) := by decide +kernel
theorem dX2_productError_70 : decode cX2_productError 70 = .ok (.bipush (-4), 2) := by decide +kernel
theorem dX2_productError_72 : decode cX2_productError 72 = .ok (.ireturn, 1) := by decide +kernel
theorem dX2_productError_73 : decode cX2_productError 73 = .ok (.aload_n 0, 1) := by decide +kernel
theorem dX2_productError_74 : decode cX2_productError 74 = .ok (.iload_n 3, 1) := by decide +kernel
theorem dX2_productError_75 : decode cX2_productError 75 = .ok (.invokevirtual 130, 3) := by decide +kernel
theorem dX2_productError_78 : decode cX2_productError 78 = .ok (.aload_n 0, 1) := by decide +kernel
theorem dX2_productError_79 : decode cX2_productError 79 = .ok (.aload_n 0, 1) := by decide +kernel
theorem dX2_productError_80 : decode cX2_productError 80 = .ok (.getfield 39, 3) := by decide +kernel
theorem dX2_productError_83 : decode cX2_productError 83 = .ok (.iload_n 3, 1) := by decide +kernel
theorem dX2_productError_84 : decode cX2_productError 84 = .ok (.invokevirtual 133, 3) := by decide +kernel
theorem dX2_productError_87 : decode cX2_productError 87 = .ok (.ireturn, 1) := by decide +kernel
theorem dX2_pick_0 : decode cX2_pick 0 = .ok (.aload_n 0, 1) := by decide +kernel
theorem dX2_pick_1 : decode cX2_pick 1 = .ok (.iload_n 1, 1) := by decide +kernel
theorem dX2_pick_2 : decode cX2_pick 2 = .ok (.invokevirtual 127, 3) := by decide +kernel
theorem dX2_pick_5 : decode cX2_pick 5 = .ok (.iconst 0, 1) := by decide +kernel
theorem dX2_pick_6 : decode cX2_pick 6 = .ok (.ireturn, 1) := by decide +kernel
theorem dX2_combined_0 : decode cX2_combined 0 = .ok (.iload_n 1, 1) := by decide +kernel
theorem dX2_combined_1 : decode cX2_combined 1 = .ok (.tableswitch 203 0 7 #[47, 55, 63, 70, 135, 158, 177, 196], 47) := by decide +kernel
theorem dX2_combined_48 : decode cX2_combined 48 = .ok (.aload_n 0, 1) := by decide +kernel
theorem dX2_combined_49 : decode cX2_combined 49 = .ok (.iload_n 2, 1) := by decide +kernel
theorem dX2_combined_50 : decode cX2_combined 50 = .ok (.iload_n 3, 1) := by decide +kernel
theorem dX2_combined_51 : decode cX2_combined 51 = .ok (.iconst 0, 1) := by decide +kernel
theorem dX2_combined_52 : decode cX2_combined 52 = .ok (.invokevirtual 139, 3) := by decide +kernel
theorem dX2_combined_55 : decode cX2_combined 55 = .ok (.ireturn, 1) := by decide +kernel
theorem dX2_combined_56 : decode cX2_combined 56 = .ok (.aload_n 0, 1) := by decide +kernel
theorem dX2_combined_57 : decode cX2_combined 57 = .ok (.iload_n 2, 1) := by decide +kernel
theorem dX2_combined_58 : decode cX2_combined 58 = .ok (.iload_n 3, 1) := by decide +kernel
theorem dX2_combined_59 : decode cX2_combined 59 = .ok (.iconst 1, 1) := by decide +kernel
theorem dX2_combined_60 : decode cX2_combined 60 = .ok (.invokevirtual 139, 3) := by decide +kernel
theorem dX2_combined_63 : decode cX2_combined 63 = .ok (.ireturn, 1) := by decide +kernel
theorem dX2_combined_64 : decode cX2_combined 64 = .ok (.aload_n 0, 1) := by decide +kernel
theorem dX2_combined_65 : decode cX2_combined 65 = .ok (.iload_n 2, 1) := by decide +kernel
theorem dX2_combined_66 : decode cX2_combined 66 = .ok (.iload_n 3, 1) := by decide +kernel
theorem dX2_combined_67 : decode cX2_combined 67 = .ok (.invokevirtual 137, 3) := by decide +kernel
theorem dX2_combined_70 : decode cX2_combined 70 = .ok (.ireturn, 1) := by decide +kernel
theorem dX2_combined_71 : decode cX2_combined 71 = .ok (.aload_n 0, 1) := by decide +kernel
theorem dX2_combined_72 : decode cX2_combined 72 = .ok (.getfield 13, 3) := by decide +kernel
theorem dX2_combined_75 : decode cX2_combined 75 = .ok (.iload_n 3, 1) := by decide +kernel
theorem dX2_combined_76 : decode cX2_combined 76 = .ok (.laload, 1) := by decide +kernel
theorem dX2_combined_77 : decode cX2_combined 77 = .ok (.lconst 0, 1) := by decide +kernel
theorem dX2_combined_78 : decode cX2_combined 78 = .ok (.lcmp, 1) := by decide +kernel
theorem dX2_combined_79 : decode cX2_combined 79 = .ok (.ifCond .ne 8, 3) := by decide +kernel
theorem dX2_combined_82 : decode cX2_combined 82 = .ok (.bipush (-2), 2) := by decide +kernel
theorem dX2_combined_84 : decode cX2_combined 84 = .ok (.goto 51, 3) := by decide +kernel
theorem dX2_combined_87 : decode cX2_combined 87 = .ok (.aload_n 0, 1) := by decide +kernel
theorem dX2_combined_88 : decode cX2_combined 88 = .ok (.aload_n 0, 1) := by decide +kernel
theorem dX2_combined_89 : decode cX2_combined 89 = .ok (.getfield 7, 3) := by decide +kernel
theorem dX2_combined_92 : decode cX2_combined 92 = .ok (.iload_n 2, 1) := by decide +kernel
theorem dX2_combined_93 : decode cX2_combined 93 = .ok (.baload, 1) := by decide +kernel
theorem dX2_combined_94 : decode cX2_combined 94 = .ok (.aload_n 0, 1) := by decide +kernel
theorem dX2_combined_95 : decode cX2_combined 95 = .ok (.getfield 7, 3) := by decide +kernel
theorem dX2_combined_98 : decode cX2_combined 98 = .ok (.iload_n 3, 1) := by decide +kernel
theorem dX2_combined_99 : decode cX2_combined 99 = .ok (.baload, 1) := by decide +kernel
theorem dX2_combined_100 : decode cX2_combined 100 = .ok (.if_icmp .eq 7, 3) := by decide +kernel
theorem dX2_combined_103 : decode cX2_combined 103 = .ok (.iconst 1, 1) := by decide +kernel
theorem dX2_combined_104 : decode cX2_combined 104 = .ok (.goto 4, 3) := by decide +kernel
theorem dX2_combined_107 : decode cX2_combined 107 = .ok (.iconst 0, 1) := by decide +kernel
theorem dX2_combined_108 : decode cX2_combined 108 = .ok (.aload_n 0, 1) := by decide +kernel
theorem dX2_combined_109 : decode cX2_combined 109 = .ok (.getfield 13, 3) := by decide +kernel
theorem dX2_combined_112 : decode cX2_combined 112 = .ok (.iload_n 2, 1) := by decide +kernel
theorem dX2_combined_113 : decode cX2_combined 113 = .ok (.laload, 1) := by decide +kernel
theorem dX2_combined_114 : decode cX2_combined 114 = .ok (.aload_n 0, 1) := by decide +kernel
theorem dX2_combined_115 : decode cX2_combined 115 = .ok (.getfield 17, 3) := by decide +kernel
theorem dX2_combined_118 : decode cX2_combined 118 = .ok (.iload_n 2, 1) := by decide +kernel
theorem dX2_combined_119 : decode cX2_combined 119 = .ok (.iaload, 1) := by decide +kernel
theorem dX2_combined_120 : decode cX2_combined 120 = .ok (.aload_n 0, 1) := by decide +kernel
theorem dX2_combined_121 : decode cX2_combined 121 = .ok (.getfield 13, 3) := by decide +kernel
theorem dX2_combined_124 : decode cX2_combined 124 = .ok (.iload_n 3, 1) := by decide +kernel
theorem dX2_combined_125 : decode cX2_combined 125 = .ok (.laload, 1) := by decide +kernel
theorem dX2_combined_126 : decode cX2_combined 126 = .ok (.aload_n 0, 1) := by decide +kernel
theorem dX2_combined_127 : decode cX2_combined 127 = .ok (.getfield 17, 3) := by decide +kernel
theorem dX2_combined_130 : decode cX2_combined 130 = .ok (.iload_n 3, 1) := by decide +kernel
theorem dX2_combined_131 : decode cX2_combined 131 = .ok (.iaload, 1) := by decide +kernel
theorem dX2_combined_132 : decode cX2_combined 132 = .ok (.invokevirtual 143, 3) := by decide +kernel
theorem dX2_combined_135 : decode cX2_combined 135 = .ok (.ireturn, 1) := by decide +kernel
theorem dX2_combined_136 : decode cX2_combined 136 = .ok (.aload_n 0, 1) := by decide +kernel
theorem dX2_combined_137 : decode cX2_combined 137 = .ok (.getfield 13, 3) := by decide +kernel
theorem dX2_combined_140 : decode cX2_combined 140 = .ok (.iload_n 3, 1) := by decide +kernel
theorem dX2_combined_141 : decode cX2_combined 141 = .ok (.laload, 1) := by decide +kernel
theorem dX2_combined_142 : decode cX2_combined 142 = .ok (.lconst 0, 1) := by decide +kernel
theorem dX2_combined_143 : decode cX2_combined 143 = .ok (.lcmp, 1) := by decide +kernel
theorem dX2_combined_144 : decode cX2_combined 144 = .ok (.ifCond .ne 8, 3) := by decide +kernel
theorem dX2_combined_147 : decode cX2_combined 147 = .ok (.bipush (-2), 2) := by decide +kernel
theorem dX2_combined_149 : decode cX2_combined 149 = .ok (.goto 9, 3) := by decide +kernel
theorem dX2_combined_152 : decode cX2_combined 152 = .ok (.aload_n 0, 1) := by decide +kernel
theorem dX2_combined_153 : decode cX2_combined 153 = .ok (.iload_n 2, 1) := by decide +kernel
theorem dX2_combined_154 : decode cX2_combined 154 = .ok (.iload_n 3, 1) := by decide +kernel
theorem dX2_combined_155 : decode cX2_combined 155 = .ok (.invokevirtual 147, 3) := by decide +kernel
theorem dX2_combined_158 : decode cX2_combined 158 = .ok (.ireturn, 1) := by decide +kernel
theorem dX2_combined_159 : decode cX2_combined 159 = .ok (.aload_n 0, 1) := by decide +kernel
theorem dX2_combined_160 : decode cX2_combined 160 = .ok (.aload_n 0, 1) := by decide +kernel
theorem dX2_combined_161 : decode cX2_combined 161 = .ok (.iload_n 3, 1) := by decide +kernel
theorem dX2_combined_162 : decode cX2_combined 162 = .ok (.iload_n 2, 1) := by decide +kernel
theorem dX2_combined_163 : decode cX2_combined 163 = .ok (.invokevirtual 150, 3) := by decide +kernel
theorem dX2_combined_166 : decode cX2_combined 166 = .ok (.ifCond .ge 7, 3) := by decide +kernel
theorem dX2_combined_169 : decode cX2_combined 169 = .ok (.iload_n 3, 1) := by decide +kernel
theorem dX2_combined_170 : decode cX2_combined 170 = .ok (.goto 4, 3) := by decide +kernel
theorem dX2_combined_173 : decode cX2_combined 173 = .ok (.iload_n 2, 1) := by decide +kernel
theorem dX2_combined_174 : decode cX2_combined 174 = .ok (.invokevirtual 153, 3) := by decide +kernel
theorem dX2_combined_177 : decode cX2_combined 177 = .ok (.ireturn, 1) := by decide +kernel
theorem dX2_combined_178 : decode cX2_combined 178 = .ok (.aload_n 0, 1) := by decide +kernel
theorem dX2_combined_179 : decode cX2_combined 179 = .ok (.aload_n 0, 1) := by decide +kernel
theorem dX2_combined_180 : decode cX2_combined 180 = .ok (.iload_n 3, 1) := by decide +kernel
theorem dX2_combined_181 : decode cX2_combined 181 = .ok (.iload_n 2, 1) := by decide +kernel
theorem dX2_combined_182 : decode cX2_combined 182 = .ok (.invokevirtual 150, 3) := by decide +kernel
theorem dX2_combined_185 : decode cX2_combined 185 = .ok (.ifCond .le 7, 3) := by decide +kernel
theorem dX2_combined_188 : decode cX2_combined 188 = .ok (.iload_n 3, 1) := by decide +kernel
theorem dX2_combined_189 : decode cX2_combined 189 = .ok (.goto 4, 3) := by decide +kernel
theorem dX2_combined_192 : decode cX2_combined 192 = .ok (.iload_n 2, 1) := by decide +kernel
theorem dX2_combined_193 : decode cX2_combined 193 = .ok (.invokevirtual 153, 3) := by decide +kernel
theorem dX2_combined_196 : decode cX2_combined 196 = .ok (.ireturn, 1) := by decide +kernel
theorem dX2_combined_197 : decode cX2_combined 197 = .ok (.aload_n 0, 1) := by decide +kernel
theorem dX2_combined_198 : decode cX2_combined 198 = .ok (.iload_n 2, 1) := by decide +kernel
theorem dX2_combined_199 : decode cX2_combined 199 = .ok (.iload_n 3, 1) := by decide +kernel
theorem dX2_combined_200 : decode cX2_combined 200 = .ok (.invokevirtual 157, 3) := by decide +kernel
theorem dX2_combined_203 : decode cX2_combined 203 = .ok (.ireturn, 1) := by decide +kernel
theorem dX2_combined_204 : decode cX2_combined 204 = .ok (.aload_n 0, 1) := by decide +kernel
theorem dX2_combined_205 : decode cX2_combined 205 = .ok (.iload_n 2, 1) := by decide +kernel
theorem dX2_combined_206 : decode cX2_combined 206 = .ok (.iload_n 3, 1) := by decide +kernel
theorem dX2_combined_207 : decode cX2_combined 207 = .ok (.invokevirtual 160, 3) := by decide +kernel
theorem dX2_combined_210 : decode cX2_combined 210 = .ok (.ireturn, 1) := by decide +kernel
theorem dX2_combine_0 : decode cX2_combine 0 = .ok (.aload_n 0, 1) := by decide +kernel
theorem dX2_combine_1 : decode cX2_combine 1 = .ok (.iload_n 1, 1) := by decide +kernel
theorem dX2_combine_2 : decode cX2_combine 2 = .ok (.invokestatic 70, 3) := by decide +kernel
theorem dX2_combine_5 : decode cX2_combine 5 = .ok (.ifCond .eq 32, 3) := by decide +kernel
theorem dX2_combine_8 : decode cX2_combine 8 = .ok (.iload_n 3, 1) := by decide +kernel
theorem dX2_combine_9 : decode cX2_combine 9 = .ok (.invokestatic 70, 3) := by decide +kernel
theorem dX2_combine_12 : decode cX2_combine 12 = .ok (.ifCond .eq 25, 3) := by decide +kernel
theorem dX2_combine_15 : decode cX2_combine 15 = .ok (.iload 4, 2) := by decide +kernel
theorem dX2_combine_17 : decode cX2_combine 17 = .ok (.invokestatic 70, 3) := by decide +kernel
theorem dX2_combine_20 : decode cX2_combine 20 = .ok (.ifCond .eq 17, 3) := by decide +kernel
theorem dX2_combine_23 : decode cX2_combine 23 = .ok (.iload_n 2, 1) := by decide +kernel
theorem dX2_combine_24 : decode cX2_combine 24 = .ok (.iconst 0, 1) := by decide +kernel
theorem dX2_combine_25 : decode cX2_combine 25 = .ok (.bipush 8, 2) := by decide +kernel
theorem dX2_combine_27 : decode cX2_combine 27 = .ok (.invokestatic 75, 3) := by decide +kernel
theorem dX2_combine_30 : decode cX2_combine 30 = .ok (.ifCond .eq 7, 3) := by decide +kernel
theorem dX2_combine_33 : decode cX2_combine 33 = .ok (.iconst 0, 1) := by decide +kernel
theorem dX2_combine_34 : decode cX2_combine 34 = .ok (.goto 4, 3) := by decide +kernel
theorem dX2_combine_37 : decode cX2_combine 37 = .ok (.iconst 1, 1) := by decide +kernel
theorem dX2_combine_38 : decode cX2_combine 38 = .ok (.putfield 31, 3) := by decide +kernel
theorem dX2_combine_41 : decode cX2_combine 41 = .ok (.aload_n 0, 1) := by decide +kernel
theorem dX2_combine_42 : decode cX2_combine 42 = .ok (.getfield 31, 3) := by decide +kernel
theorem dX2_combine_45 : decode cX2_combine 45 = .ok (.ifCond .le 7, 3) := by decide +kernel
theorem dX2_combine_48 : decode cX2_combine 48 = .ok (.iconst 0, 1) := by decide +kernel
theorem dX2_combine_49 : decode cX2_combine 49 = .ok (.goto 16, 3) := by decide +kernel
theorem dX2_combine_52 : decode cX2_combine 52 = .ok (.aload_n 0, 1) := by decide +kernel
theorem dX2_combine_53 : decode cX2_combine 53 = .ok (.iload_n 1, 1) := by decide +kernel
theorem dX2_combine_54 : decode cX2_combine 54 = .ok (.aload_n 0, 1) := by decide +kernel
theorem dX2_combine_55 : decode cX2_combine 55 = .ok (.iload_n 2, 1) := by decide +kernel
theorem dX2_combine_56 : decode cX2_combine 56 = .ok (.iload_n 3, 1) := by decide +kernel
theorem dX2_combine_57 : decode cX2_combine 57 = .ok (.iload 4, 2) := by decide +kernel
theorem dX2_combine_59 : decode cX2_combine 59 = .ok (.invokevirtual 163, 3) := by decide +kernel
theorem dX2_combine_62 : decode cX2_combine 62 = .ok (.invokevirtual 87, 3) := by decide +kernel
theorem dX2_combine_65 : decode cX2_combine 65 = .ok (.ireturn, 1) := by decide +kernel
theorem dX2_root_0 : decode cX2_root 0 = .ok (.aload_n 0, 1) := by decide +kernel
theorem dX2_root_1 : decode cX2_root 1 = .ok (.getfield 13, 3) := by decide +kernel
theorem dX2_root_4 : decode cX2_root 4 = .ok (.iload_n 1, 1) := by decide +kernel
theorem dX2_root_5 : decode cX2_root 5 = .ok (.laload, 1) := by decide +kernel
theorem dX2_root_6 : decode cX2_root 6 = .ok (.lstore_n 2, 1) := by decide +kernel
theorem dX2_root_7 : decode cX2_root 7 = .ok (.aload_n 0, 1) := by decide +kernel
theorem dX2_root_8 : decode cX2_root 8 = .ok (.getfield 17, 3) := by decide +kernel
theorem dX2_root_11 : decode cX2_root 11 = .ok (.iload_n 1, 1) := by decide +kernel
theorem dX2_root_12 : decode cX2_root 12 = .ok (.iaload, 1) := by decide +kernel
theorem dX2_root_13 : decode cX2_root 13 = .ok (.istore 4, 2) := by decide +kernel
theorem dX2_root_15 : decode cX2_root 15 = .ok (.iload 4, 2) := by decide +kernel
theorem dX2_root_17 : decode cX2_root 17 = .ok (.iconst 2, 1) := by decide +kernel
theorem dX2_root_18 : decode cX2_root 18 = .ok (.irem, 1) := by decide +kernel
theorem dX2_root_19 : decode cX2_root 19 = .ok (.ifCond .eq 12, 3) := by decide +kernel
theorem dX2_root_22 : decode cX2_root 22 = .ok (.ldc2_w 61, 3) := by decide +kernel
theorem dX2_root_25 : decode cX2_root 25 = .ok (.lload_n 2, 1) := by decide +kernel
theorem dX2_root_26 : decode cX2_root 26 = .ok (.lmul, 1) := by decide +kernel
theorem dX2_root_27 : decode cX2_root 27 = .ok (.lstore_n 2, 1) := by decide +kernel
theorem dX2_root_28 : decode cX2_root 28 = .ok (.iinc 4 (-1), 3) := by decide +kernel
theorem dX2_root_31 : decode cX2_root 31 = .ok (.aload_n 0, 1) := by decide +kernel
theorem dX2_root_32 : decode cX2_root 32 = .ok (.getfield 28, 3) := by decide +kernel
theorem dX2_root_35 : decode cX2_root 35 = .ok (.lload_n 2, 1) := by decide +kernel
theorem dX2_root_36 : decode cX2_root 36 = .ok (.invokevirtual 79, 3) := by decide +kernel
theorem dX2_root_39 : decode cX2_root 39 = .ok (.bipush 118, 2) := by decide +kernel
theorem dX2_root_41 : decode cX2_root 41 = .ok (.aload_n 0, 1) := by decide +kernel
theorem dX2_root_42 : decode cX2_root 42 = .ok (.getfield 28, 3) := by decide +kernel
theorem dX2_root_45 : decode cX2_root 45 = .ok (.invokevirtual 35, 3) := by decide +kernel
theorem dX2_root_48 : decode cX2_root 48 = .ok (.isub, 1) := by decide +kernel
theorem dX2_root_49 : decode cX2_root 49 = .ok (.istore 5, 2) := by decide +kernel
theorem dX2_root_51 : decode cX2_root 51 = .ok (.iload 5, 2) := by decide +kernel
theorem dX2_root_53 : decode cX2_root 53 = .ok (.iconst 2, 1) := by decide +kernel
theorem dX2_root_54 : decode cX2_root 54 = .ok (.irem, 1) := by decide +kernel
theorem dX2_root_55 : decode cX2_root 55 = .ok (.ifCond .ne 8, 3) := by decide +kernel
theorem dX2_root_58 : decode cX2_root 58 = .ok (.iload 5, 2) := by decide +kernel
theorem dX2_root_60 : decode cX2_root 60 = .ok (.goto 7, 3) := by decide +kernel
theorem dX2_root_63 : decode cX2_root 63 = .ok (.iload 5, 2) := by decide +kernel
theorem dX2_root_65 : decode cX2_root 65 = .ok (.iconst 1, 1) := by decide +kernel
theorem dX2_root_66 : decode cX2_root 66 = .ok (.iadd, 1) := by decide +kernel
theorem dX2_root_67 : decode cX2_root 67 = .ok (.istore 5, 2) := by decide +kernel
theorem dX2_root_69 : decode cX2_root 69 = .ok (.aload_n 0, 1) := by decide +kernel
theorem dX2_root_70 : decode cX2_root 70 = .ok (.getfield 28, 3) := by decide +kernel
theorem dX2_root_73 : decode cX2_root 73 = .ok (.iload 5, 2) := by decide +kernel
theorem dX2_root_75 : decode cX2_root 75 = .ok (.invokevirtual 94, 3) := by decide +kernel
theorem dX2_root_78 : decode cX2_root 78 = .ok (.lconst 0, 1) := by decide +kernel
theorem dX2_root_79 : decode cX2_root 79 = .ok (.lstore 6, 2) := by decide +kernel
theorem dX2_root_81 : decode cX2_root 81 = .ok (.bipush 60, 2) := by decide +kernel
theorem dX2_root_83 : decode cX2_root 83 = .ok (.istore 8, 2) := by decide +kernel
theorem dX2_root_85 : decode cX2_root 85 = .ok (.iload 8, 2) := by decide +kernel
theorem dX2_root_87 : decode cX2_root 87 = .ok (.ifCond .lt 61, 3) := by decide +kernel
theorem dX2_root_90 : decode cX2_root 90 = .ok (.lload 6, 2) := by decide +kernel
theorem dX2_root_92 : decode cX2_root 92 = .ok (.lconst 1, 1) := by decide +kernel
theorem dX2_root_93 : decode cX2_root 93 = .ok (.iload 8, 2) := by decide +kernel
theorem dX2_root_95 : decode cX2_root 95 = .ok (.lshl, 1) := by decide +kernel
theorem dX2_root_96 : decode cX2_root 96 = .ok (.ladd, 1) := by decide +kernel
theorem dX2_root_97 : decode cX2_root 97 = .ok (.lstore 9, 2) := by decide +kernel
theorem dX2_root_99 : decode cX2_root 99 = .ok (.lload 9, 2) := by decide +kernel
theorem dX2_root_101 : decode cX2_root 101 = .ok (.ldc2_w 167, 3) := by decide +kernel
theorem dX2_root_104 : decode cX2_root 104 = .ok (.lcmp, 1) := by decide +kernel
theorem dX2_root_105 : decode cX2_root 105 = .ok (.ifCond .ge 37, 3) := by decide +kernel
theorem dX2_root_108 : decode cX2_root 108 = .ok (.aload_n 0, 1) := by decide +kernel
theorem dX2_root_109 : decode cX2_root 109 = .ok (.getfield 24, 3) := by decide +kernel
theorem dX2_root_112 : decode cX2_root 112 = .ok (.lload 9, 2) := by decide +kernel
theorem dX2_root_114 : decode cX2_root 114 = .ok (.lload 9, 2) := by decide +kernel
theorem dX2_root_116 : decode cX2_root 116 = .ok (.invokevirtual 119, 3) := by decide +kernel
theorem dX2_root_119 : decode cX2_root 119 = .ok (.aload_n 0, 1) := by decide +kernel
theorem dX2_root_120 : decode cX2_root 120 = .ok (.getfield 24, 3) := by decide +kernel
theorem dX2_root_123 : decode cX2_root 123 = .ok (.aload_n 0, 1) := by decide +kernel
theorem dX2_root_124 : decode cX2_root 124 = .ok (.getfield 28, 3) := by decide +kernel
theorem dX2_root_127 : decode cX2_root 127 = .ok (.invokevirtual 102, 3) := by decide +kernel
theorem dX2_root_130 : decode cX2_root 130 = .ok (.ifCond .gt 8, 3) := by decide +kernel
theorem dX2_root_133 : decode cX2_root 133 = .ok (.lload 9, 2) := by decide +kernel
theorem dX2_root_135 : decode cX2_root 135 = .ok (.goto 5, 3) := by decide +kernel
theorem dX2_root_138 : decode cX2_root 138 = .ok (.lload 6, 2) := by decide +kernel
theorem dX2_root_140 : decode cX2_root 140 = .ok (.lstore 6, 2) := by decide +kernel
theorem dX2_root_142 : decode cX2_root 142 = .ok (.iinc 8 (-1), 3) := by decide +kernel
theorem dX2_root_145 : decode cX2_root 145 = .ok (.goto (-60), 3) := by decide +kernel
theorem dX2_root_148 : decode cX2_root 148 = .ok (.aload_n 0, 1) := by decide +kernel
theorem dX2_root_149 : decode cX2_root 149 = .ok (.getfield 24, 3) := by decide +kernel
theorem dX2_root_152 : decode cX2_root 152 = .ok (.lload 6, 2) := by decide +kernel
theorem dX2_root_154 : decode cX2_root 154 = .ok (.lload 6, 2) := by decide +kernel
theorem dX2_root_156 : decode cX2_root 156 = .ok (.invokevirtual 119, 3) := by decide +kernel
theorem dX2_root_159 : decode cX2_root 159 = .ok (.aload_n 0, 1) := by decide +kernel
theorem dX2_root_160 : decode cX2_root 160 = .ok (.getfield 24, 3) := by decide +kernel
theorem dX2_root_163 : decode cX2_root 163 = .ok (.aload_n 0, 1) := by decide +kernel
theorem dX2_root_164 : decode cX2_root 164 = .ok (.getfield 28, 3) := by decide +kernel
theorem dX2_root_167 : decode cX2_root 167 = .ok (.invokevirtual 102, 3) := by decide +kernel
theorem dX2_root_170 : decode cX2_root 170 = .ok (.ifCond .ge 7, 3) := by decide +kernel
theorem dX2_root_173 : decode cX2_root 173 = .ok (.iconst 1, 1) := by decide +kernel
theorem dX2_root_174 : decode cX2_root 174 = .ok (.goto 4, 3) := by decide +kernel
theorem dX2_root_177 : decode cX2_root 177 = .ok (.iconst 0, 1) := by decide +kernel
theorem dX2_root_178 : decode cX2_root 178 = .ok (.istore 8, 2) := by decide +kernel
theorem dX2_root_180 : decode cX2_root 180 = .ok (.aload_n 0, 1) := by decide +kernel
theorem dX2_root_181 : decode cX2_root 181 = .ok (.getfield 24, 3) := by decide +kernel
theorem dX2_root_184 : decode cX2_root 184 = .ok (.lload 6, 2) := by decide +kernel
theorem dX2_root_186 : decode cX2_root 186 = .ok (.invokevirtual 79, 3) := by decide +kernel
theorem dX2_root_189 : decode cX2_root 189 = .ok (.aload_n 0, 1) := by decide +kernel
theorem dX2_root_190 : decode cX2_root 190 = .ok (.iconst 0, 1) := by decide +kernel
theorem dX2_root_191 : decode cX2_root 191 = .ok (.iload 4, 2) := by decide +kernel
theorem dX2_root_193 : decode cX2_root 193 = .ok (.iload 5, 2) := by decide +kernel
theorem dX2_root_195 : decode cX2_root 195 = .ok (.isub, 1) := by decide +kernel
theorem dX2_root_196 : decode cX2_root 196 = .ok (.iconst 2, 1) := by decide +kernel
theorem dX2_root_197 : decode cX2_root 197 = .ok (.idiv, 1) := by decide +kernel
theorem dX2_root_198 : decode cX2_root 198 = .ok (.iload 8, 2) := by decide +kernel
theorem dX2_root_200 : decode cX2_root 200 = .ok (.invokevirtual 83, 3) := by decide +kernel
theorem dX2_root_203 : decode cX2_root 203 = .ok (.ireturn, 1) := by decide +kernel
theorem dX2_wholeOf_0 : decode cX2_wholeOf 0 = .ok (.aload_n 0, 1) := by decide +kernel
theorem dX2_wholeOf_1 : decode cX2_wholeOf 1 = .ok (.iload_n 1, 1) := by decide +kernel
theorem dX2_wholeOf_2 : decode cX2_wholeOf 2 = .ok (.invokevirtual 127, 3) := by decide +kernel
theorem dX2_wholeOf_5 : decode cX2_wholeOf 5 = .ok (.aload_n 0, 1) := by decide +kernel
theorem dX2_wholeOf_6 : decode cX2_wholeOf 6 = .ok (.getfield 51, 3) := by decide +kernel
theorem dX2_wholeOf_9 : decode cX2_wholeOf 9 = .ok (.ifCond .lt 5, 3) := by decide +kernel
theorem dX2_wholeOf_12 : decode cX2_wholeOf 12 = .ok (.iconst 0, 1) := by decide +kernel
theorem dX2_wholeOf_13 : decode cX2_wholeOf 13 = .ok (.ireturn, 1) := by decide +kernel
theorem dX2_wholeOf_14 : decode cX2_wholeOf 14 = .ok (.aload_n 0, 1) := by decide +kernel
theorem dX2_wholeOf_15 : decode cX2_wholeOf 15 = .ok (.getfield 51, 3) := by decide +kernel
theorem dX2_wholeOf_18 : decode cX2_wholeOf 18 = .ok (.ineg, 1) := by decide +kernel
theorem dX2_wholeOf_19 : decode cX2_wholeOf 19 = .ok (.istore_n 3, 1) := by decide +kernel
theorem dX2_wholeOf_20 : decode cX2_wholeOf 20 = .ok (.iload_n 3, 1) := by decide +kernel
theorem dX2_wholeOf_21 : decode cX2_wholeOf 21 = .ok (.bipush 53, 2) := by decide +kernel
theorem dX2_wholeOf_23 : decode cX2_wholeOf 23 = .ok (.if_icmp .le 7, 3) := by decide +kernel
theorem dX2_wholeOf_26 : decode cX2_wholeOf 26 = .ok (.lconst 0, 1) := by decide +kernel
theorem dX2_wholeOf_27 : decode cX2_wholeOf 27 = .ok (.goto 9, 3) := by decide +kernel
theorem dX2_wholeOf_30 : decode cX2_wholeOf 30 = .ok (.aload_n 0, 1) := by decide +kernel
theorem dX2_wholeOf_31 : decode cX2_wholeOf 31 = .ok (.getfield 47, 3) := by decide +kernel
theorem dX2_wholeOf_34 : decode cX2_wholeOf 34 = .ok (.iload_n 3, 1) := by decide +kernel
theorem dX2_wholeOf_35 : decode cX2_wholeOf 35 = .ok (.lshr, 1) := by decide +kernel
theorem dX2_wholeOf_36 : decode cX2_wholeOf 36 = .ok (.lstore 4, 2) := by decide +kernel
theorem dX2_wholeOf_38 : decode cX2_wholeOf 38 = .ok (.iload_n 3, 1) := by decide +kernel
theorem dX2_wholeOf_39 : decode cX2_wholeOf 39 = .ok (.bipush 53, 2) := by decide +kernel
theorem dX2_wholeOf_41 : decode cX2_wholeOf 41 = .ok (.if_icmp .gt 22, 3) := by decide +kernel
theorem dX2_wholeOf_44 : decode cX2_wholeOf 44 = .ok (.aload_n 0, 1) := by decide +kernel
theorem dX2_wholeOf_45 : decode cX2_wholeOf 45 = .ok (.getfield 47, 3) := by decide +kernel
theorem dX2_wholeOf_48 : decode cX2_wholeOf 48 = .ok (.iload_n 3, 1) := by decide +kernel
theorem dX2_wholeOf_49 : decode cX2_wholeOf 49 = .ok (.iconst 1, 1) := by decide +kernel
theorem dX2_wholeOf_50 : decode cX2_wholeOf 50 = .ok (.isub, 1) := by decide +kernel
theorem dX2_wholeOf_51 : decode cX2_wholeOf 51 = .ok (.lshr, 1) := by decide +kernel
theorem dX2_wholeOf_52 : decode cX2_wholeOf 52 = .ok (.lconst 1, 1) := by decide +kernel
theorem dX2_wholeOf_53 : decode cX2_wholeOf 53 = .ok (.land, 1) := by decide +kernel
theorem dX2_wholeOf_54 : decode cX2_wholeOf 54 = .ok (.lconst 1, 1) := by decide +kernel
theorem dX2_wholeOf_55 : decode cX2_wholeOf 55 = .ok (.lcmp, 1) := by decide +kernel
theorem dX2_wholeOf_56 : decode cX2_wholeOf 56 = .ok (.ifCond .ne 7, 3) := by decide +kernel
theorem dX2_wholeOf_59 : decode cX2_wholeOf 59 = .ok (.iconst 1, 1) := by decide +kernel
theorem dX2_wholeOf_60 : decode cX2_wholeOf 60 = .ok (.goto 4, 3) := by decide +kernel
theorem dX2_wholeOf_63 : decode cX2_wholeOf 63 = .ok (.iconst 0, 1) := by decide +kernel
theorem dX2_wholeOf_64 : decode cX2_wholeOf 64 = .ok (.istore 6, 2) := by decide +kernel
theorem dX2_wholeOf_66 : decode cX2_wholeOf 66 = .ok (.iload_n 3, 1) := by decide +kernel
theorem dX2_wholeOf_67 : decode cX2_wholeOf 67 = .ok (.bipush 53, 2) := by decide +kernel
theorem dX2_wholeOf_69 : decode cX2_wholeOf 69 = .ok (.if_icmp .le 20, 3) := by decide +kernel
theorem dX2_wholeOf_72 : decode cX2_wholeOf 72 = .ok (.aload_n 0, 1) := by decide +kernel
theorem dX2_wholeOf_73 : decode cX2_wholeOf 73 = .ok (.getfield 47, 3) := by decide +kernel
theorem dX2_wholeOf_76 : decode cX2_wholeOf 76 = .ok (.lconst 0, 1) := by decide +kernel
theorem dX2_wholeOf_77 : decode cX2_wholeOf 77 = .ok (.lcmp, 1) := by decide +kernel
theorem dX2_wholeOf_78 : decode cX2_wholeOf 78 = .ok (.ifCond .le 7, 3) := by decide +kernel
theorem dX2_wholeOf_81 : decode cX2_wholeOf 81 = .ok (.iconst 1, 1) := by decide +kernel
theorem dX2_wholeOf_82 : decode cX2_wholeOf 82 = .ok (.goto 29, 3) := by decide +kernel
theorem dX2_wholeOf_85 : decode cX2_wholeOf 85 = .ok (.iconst 0, 1) := by decide +kernel
theorem dX2_wholeOf_86 : decode cX2_wholeOf 86 = .ok (.goto 25, 3) := by decide +kernel
theorem dX2_wholeOf_89 : decode cX2_wholeOf 89 = .ok (.aload_n 0, 1) := by decide +kernel
theorem dX2_wholeOf_90 : decode cX2_wholeOf 90 = .ok (.getfield 47, 3) := by decide +kernel
theorem dX2_wholeOf_93 : decode cX2_wholeOf 93 = .ok (.lconst 1, 1) := by decide +kernel
theorem dX2_wholeOf_94 : decode cX2_wholeOf 94 = .ok (.iload_n 3, 1) := by decide +kernel
theorem dX2_wholeOf_95 : decode cX2_wholeOf 95 = .ok (.iconst 1, 1) := by decide +kernel
theorem dX2_wholeOf_96 : decode cX2_wholeOf 96 = .ok (.isub, 1) := by decide +kernel
theorem dX2_wholeOf_97 : decode cX2_wholeOf 97 = .ok (.lshl, 1) := by decide +kernel
theorem dX2_wholeOf_98 : decode cX2_wholeOf 98 = .ok (.lconst 1, 1) := by decide +kernel
theorem dX2_wholeOf_99 : decode cX2_wholeOf 99 = .ok (.lsub, 1) := by decide +kernel
theorem dX2_wholeOf_100 : decode cX2_wholeOf 100 = .ok (.land, 1) := by decide +kernel
theorem dX2_wholeOf_101 : decode cX2_wholeOf 101 = .ok (.lconst 0, 1) := by decide +kernel
theorem dX2_wholeOf_102 : decode cX2_wholeOf 102 = .ok (.lcmp, 1) := by decide +kernel
theorem dX2_wholeOf_103 : decode cX2_wholeOf 103 = .ok (.ifCond .le 7, 3) := by decide +kernel
theorem dX2_wholeOf_106 : decode cX2_wholeOf 106 = .ok (.iconst 1, 1) := by decide +kernel
theorem dX2_wholeOf_107 : decode cX2_wholeOf 107 = .ok (.goto 4, 3) := by decide +kernel
theorem dX2_wholeOf_110 : decode cX2_wholeOf 110 = .ok (.iconst 0, 1) := by decide +kernel
theorem dX2_wholeOf_111 : decode cX2_wholeOf 111 = .ok (.istore 7, 2) := by decide +kernel
theorem dX2_wholeOf_113 : decode cX2_wholeOf 113 = .ok (.iload 6, 2) := by decide +kernel
theorem dX2_wholeOf_115 : decode cX2_wholeOf 115 = .ok (.ifCond .ne 8, 3) := by decide +kernel
theorem dX2_wholeOf_118 : decode cX2_wholeOf 118 = .ok (.iload 7, 2) := by decide +kernel
theorem dX2_wholeOf_120 : decode cX2_wholeOf 120 = .ok (.ifCond .eq 7, 3) := by decide +kernel
theorem dX2_wholeOf_123 : decode cX2_wholeOf 123 = .ok (.iconst 1, 1) := by decide +kernel
theorem dX2_wholeOf_124 : decode cX2_wholeOf 124 = .ok (.goto 4, 3) := by decide +kernel
theorem dX2_wholeOf_127 : decode cX2_wholeOf 127 = .ok (.iconst 0, 1) := by decide +kernel
theorem dX2_wholeOf_128 : decode cX2_wholeOf 128 = .ok (.istore 8, 2) := by decide +kernel
theorem dX2_wholeOf_130 : decode cX2_wholeOf 130 = .ok (.iload_n 2, 1) := by decide +kernel
theorem dX2_wholeOf_131 : decode cX2_wholeOf 131 = .ok (.ifCond .ne 23, 3) := by decide +kernel
theorem dX2_wholeOf_134 : decode cX2_wholeOf 134 = .ok (.aload_n 0, 1) := by decide +kernel
theorem dX2_wholeOf_135 : decode cX2_wholeOf 135 = .ok (.getfield 39, 3) := by decide +kernel
theorem dX2_wholeOf_138 : decode cX2_wholeOf 138 = .ok (.ifCond .eq 12, 3) := by decide +kernel
theorem dX2_wholeOf_141 : decode cX2_wholeOf 141 = .ok (.iload 8, 2) := by decide +kernel
theorem dX2_wholeOf_143 : decode cX2_wholeOf 143 = .ok (.ifCond .eq 7, 3) := by decide +kernel
theorem dX2_wholeOf_146 : decode cX2_wholeOf 146 = .ok (.iconst 1, 1) := by decide +kernel
theorem dX2_wholeOf_147 : decode cX2_wholeOf 147 = .ok (.goto 63, 3) := by decide +kernel
theorem dX2_wholeOf_150 : decode cX2_wholeOf 150 = .ok (.iconst 0, 1) := by decide +kernel
theorem dX2_wholeOf_151 : decode cX2_wholeOf 151 = .ok (.goto 59, 3) := by decide +kernel
theorem dX2_wholeOf_154 : decode cX2_wholeOf 154 = .ok (.iload_n 2, 1) := by decide +kernel
theorem dX2_wholeOf_155 : decode cX2_wholeOf 155 = .ok (.iconst 1, 1) := by decide +kernel
theorem dX2_wholeOf_156 : decode cX2_wholeOf 156 = .ok (.if_icmp .ne 23, 3) := by decide +kernel
theorem dX2_wholeOf_159 : decode cX2_wholeOf 159 = .ok (.aload_n 0, 1) := by decide +kernel
theorem dX2_wholeOf_160 : decode cX2_wholeOf 160 = .ok (.getfield 39, 3) := by decide +kernel
theorem dX2_wholeOf_163 : decode cX2_wholeOf 163 = .ok (.ifCond .ne 12, 3) := by decide +kernel
theorem dX2_wholeOf_166 : decode cX2_wholeOf 166 = .ok (.iload 8, 2) := by decide +kernel
theorem dX2_wholeOf_168 : decode cX2_wholeOf 168 = .ok (.ifCond .eq 7, 3) := by decide +kernel
theorem dX2_wholeOf_171 : decode cX2_wholeOf 171 = .ok (.iconst 1, 1) := by decide +kernel
theorem dX2_wholeOf_172 : decode cX2_wholeOf 172 = .ok (.goto 38, 3) := by decide +kernel
theorem dX2_wholeOf_175 : decode cX2_wholeOf 175 = .ok (.iconst 0, 1) := by decide +kernel
theorem dX2_wholeOf_176 : decode cX2_wholeOf 176 = .ok (.goto 34, 3) := by decide +kernel
theorem dX2_wholeOf_179 : decode cX2_wholeOf 179 = .ok (.iload_n 2, 1) := by decide +kernel
theorem dX2_wholeOf_180 : decode cX2_wholeOf 180 = .ok (.iconst 3, 1) := by decide +kernel
theorem dX2_wholeOf_181 : decode cX2_wholeOf 181 = .ok (.if_icmp .ne 28, 3) := by decide +kernel
theorem dX2_wholeOf_184 : decode cX2_wholeOf 184 = .ok (.iload 6, 2) := by decide +kernel
theorem dX2_wholeOf_186 : decode cX2_wholeOf 186 = .ok (.ifCond .eq 23, 3) := by decide +kernel
theorem dX2_wholeOf_189 : decode cX2_wholeOf 189 = .ok (.iload 7, 2) := by decide +kernel
theorem dX2_wholeOf_191 : decode cX2_wholeOf 191 = .ok (.ifCond .ne 14, 3) := by decide +kernel
theorem dX2_wholeOf_194 : decode cX2_wholeOf 194 = .ok (.lload 4, 2) := by decide +kernel
theorem dX2_wholeOf_196 : decode cX2_wholeOf 196 = .ok (.ldc2_w 61, 3) := by decide +kernel
theorem dX2_wholeOf_199 : decode cX2_wholeOf 199 = .ok (.lrem, 1) := by decide +kernel
theorem dX2_wholeOf_200 : decode cX2_wholeOf 200 = .ok (.lconst 1, 1) := by decide +kernel
theorem dX2_wholeOf_201 : decode cX2_wholeOf 201 = .ok (.lcmp, 1) := by decide +kernel
theorem dX2_wholeOf_202 : decode cX2_wholeOf 202 = .ok (.ifCond .ne 7, 3) := by decide +kernel
theorem dX2_wholeOf_205 : decode cX2_wholeOf 205 = .ok (.iconst 1, 1) := by decide +kernel
theorem dX2_wholeOf_206 : decode cX2_wholeOf 206 = .ok (.goto 4, 3) := by decide +kernel
theorem dX2_wholeOf_209 : decode cX2_wholeOf 209 = .ok (.iconst 0, 1) := by decide +kernel
theorem dX2_wholeOf_210 : decode cX2_wholeOf 210 = .ok (.istore 9, 2) := by decide +kernel
theorem dX2_wholeOf_212 : decode cX2_wholeOf 212 = .ok (.aload_n 0, 1) := by decide +kernel
theorem dX2_wholeOf_213 : decode cX2_wholeOf 213 = .ok (.iload 9, 2) := by decide +kernel
theorem dX2_wholeOf_215 : decode cX2_wholeOf 215 = .ok (.ifCond .eq 10, 3) := by decide +kernel
theorem dX2_wholeOf_218 : decode cX2_wholeOf 218 = .ok (.lload 4, 2) := by decide +kernel
theorem dX2_wholeOf_220 : decode cX2_wholeOf 220 = .ok (.lconst 1, 1) := by decide +kernel
theorem dX2_wholeOf_221 : decode cX2_wholeOf 221 = .ok (.ladd, 1) := by decide +kernel
theorem dX2_wholeOf_222 : decode cX2_wholeOf 222 = .ok (.goto 5, 3) := by decide +kernel
theorem dX2_wholeOf_225 : decode cX2_wholeOf 225 = .ok (.lload 4, 2) := by decide +kernel
theorem dX2_wholeOf_227 : decode cX2_wholeOf 227 = .ok (.putfield 47, 3) := by decide +kernel
theorem dX2_wholeOf_230 : decode cX2_wholeOf 230 = .ok (.aload_n 0, 1) := by decide +kernel
theorem dX2_wholeOf_231 : decode cX2_wholeOf 231 = .ok (.iconst 0, 1) := by decide +kernel
theorem dX2_wholeOf_232 : decode cX2_wholeOf 232 = .ok (.putfield 51, 3) := by decide +kernel
theorem dX2_wholeOf_235 : decode cX2_wholeOf 235 = .ok (.aload_n 0, 1) := by decide +kernel
theorem dX2_wholeOf_236 : decode cX2_wholeOf 236 = .ok (.invokevirtual 63, 3) := by decide +kernel
theorem dX2_wholeOf_239 : decode cX2_wholeOf 239 = .ok (.ireturn, 1) := by decide +kernel
theorem dX2_neighbour_0 : decode cX2_neighbour 0 = .ok (.aload_n 0, 1) := by decide +kernel
theorem dX2_neighbour_1 : decode cX2_neighbour 1 = .ok (.getfield 17, 3) := by decide +kernel
theorem dX2_neighbour_4 : decode cX2_neighbour 4 = .ok (.iload_n 1, 1) := by decide +kernel
theorem dX2_neighbour_5 : decode cX2_neighbour 5 = .ok (.iaload, 1) := by decide +kernel
theorem dX2_neighbour_6 : decode cX2_neighbour 6 = .ok (.sipush 1074, 3) := by decide +kernel
theorem dX2_neighbour_9 : decode cX2_neighbour 9 = .ok (.iadd, 1) := by decide +kernel
theorem dX2_neighbour_10 : decode cX2_neighbour 10 = .ok (.i2l, 1) := by decide +kernel
theorem dX2_neighbour_11 : decode cX2_neighbour 11 = .ok (.bipush 52, 2) := by decide +kernel
theorem dX2_neighbour_13 : decode cX2_neighbour 13 = .ok (.lshl, 1) := by decide +kernel
theorem dX2_neighbour_14 : decode cX2_neighbour 14 = .ok (.aload_n 0, 1) := by decide +kernel
theorem dX2_neighbour_15 : decode cX2_neighbour 15 = .ok (.getfield 13, 3) := by decide +kernel
theorem dX2_neighbour_18 : decode cX2_neighbour 18 = .ok (.iload_n 1, 1) := by decide +kernel
theorem dX2_neighbour_19 : decode cX2_neighbour 19 = .ok (.laload, 1) := by decide +kernel
theorem dX2_neighbour_20 : decode cX2_neighbour 20 = .ok (.ladd, 1) := by decide +kernel
theorem dX2_neighbour_21 : decode cX2_neighbour 21 = .ok (.lstore_n 3, 1) := by decide +kernel
theorem dX2_neighbour_22 : decode cX2_neighbour 22 = .ok (.ldc2_w 169, 3) := by decide +kernel
theorem dX2_neighbour_25 : decode cX2_neighbour 25 = .ok (.lstore 5, 2) := by decide +kernel
theorem dX2_neighbour_27 : decode cX2_neighbour 27 = .ok (.aload_n 0, 1) := by decide +kernel
theorem dX2_neighbour_28 : decode cX2_neighbour 28 = .ok (.getfield 7, 3) := by decide +kernel
theorem dX2_neighbour_31 : decode cX2_neighbour 31 = .ok (.iload_n 1, 1) := by decide +kernel
theorem dX2_neighbour_32 : decode cX2_neighbour 32 = .ok (.baload, 1) := by decide +kernel
theorem dX2_neighbour_33 : decode cX2_neighbour 33 = .ok (.ifCond .eq 8, 3) := by decide +kernel
theorem dX2_neighbour_36 : decode cX2_neighbour 36 = .ok (.lload_n 3, 1) := by decide +kernel
theorem dX2_neighbour_37 : decode cX2_neighbour 37 = .ok (.lneg, 1) := by decide +kernel
theorem dX2_neighbour_38 : decode cX2_neighbour 38 = .ok (.goto 4, 3) := by decide +kernel
theorem dX2_neighbour_41 : decode cX2_neighbour 41 = .ok (.lload_n 3, 1) := by decide +kernel
theorem dX2_neighbour_42 : decode cX2_neighbour 42 = .ok (.lstore_n 3, 1) := by decide +kernel
theorem dX2_neighbour_43 : decode cX2_neighbour 43 = .ok (.iload_n 2, 1) := by decide +kernel
theorem dX2_neighbour_44 : decode cX2_neighbour 44 = .ok (.ifCond .eq 9, 3) := by decide +kernel
theorem dX2_neighbour_47 : decode cX2_neighbour 47 = .ok (.lload_n 3, 1) := by decide +kernel
theorem dX2_neighbour_48 : decode cX2_neighbour 48 = .ok (.lconst 1, 1) := by decide +kernel
theorem dX2_neighbour_49 : decode cX2_neighbour 49 = .ok (.ladd, 1) := by decide +kernel
theorem dX2_neighbour_50 : decode cX2_neighbour 50 = .ok (.goto 6, 3) := by decide +kernel
theorem dX2_neighbour_53 : decode cX2_neighbour 53 = .ok (.lload_n 3, 1) := by decide +kernel
theorem dX2_neighbour_54 : decode cX2_neighbour 54 = .ok (.lconst 1, 1) := by decide +kernel
theorem dX2_neighbour_55 : decode cX2_neighbour 55 = .ok (.lsub, 1) := by decide +kernel
theorem dX2_neighbour_56 : decode cX2_neighbour 56 = .ok (.lstore_n 3, 1) := by decide +kernel
theorem dX2_neighbour_57 : decode cX2_neighbour 57 = .ok (.lload_n 3, 1) := by decide +kernel
theorem dX2_neighbour_58 : decode cX2_neighbour 58 = .ok (.lconst 0, 1) := by decide +kernel
theorem dX2_neighbour_59 : decode cX2_neighbour 59 = .ok (.lcmp, 1) := by decide +kernel
theorem dX2_neighbour_60 : decode cX2_neighbour 60 = .ok (.ifCond .ge 8, 3) := by decide +kernel
theorem dX2_neighbour_63 : decode cX2_neighbour 63 = .ok (.lload_n 3, 1) := by decide +kernel
theorem dX2_neighbour_64 : decode cX2_neighbour 64 = .ok (.lneg, 1) := by decide +kernel
theorem dX2_neighbour_65 : decode cX2_neighbour 65 = .ok (.goto 4, 3) := by decide +kernel
theorem dX2_neighbour_68 : decode cX2_neighbour 68 = .ok (.lload_n 3, 1) := by decide +kernel
theorem dX2_neighbour_69 : decode cX2_neighbour 69 = .ok (.lstore 7, 2) := by decide +kernel
theorem dX2_neighbour_71 : decode cX2_neighbour 71 = .ok (.lload 7, 2) := by decide +kernel
theorem dX2_neighbour_73 : decode cX2_neighbour 73 = .ok (.lload 5, 2) := by decide +kernel
theorem dX2_neighbour_75 : decode cX2_neighbour 75 = .ok (.lcmp, 1) := by decide +kernel
theorem dX2_neighbour_76 : decode cX2_neighbour 76 = .ok (.ifCond .le 5, 3) := by decide +kernel
theorem dX2_neighbour_79 : decode cX2_neighbour 79 = .ok (.iconst (-1), 1) := by decide +kernel
theorem dX2_neighbour_80 : decode cX2_neighbour 80 = .ok (.ireturn, 1) := by decide +kernel
theorem dX2_neighbour_81 : decode cX2_neighbour 81 = .ok (.aload_n 0, 1) := by decide +kernel
theorem dX2_neighbour_82 : decode cX2_neighbour 82 = .ok (.lload_n 3, 1) := by decide +kernel
theorem dX2_neighbour_83 : decode cX2_neighbour 83 = .ok (.lconst 0, 1) := by decide +kernel
theorem dX2_neighbour_84 : decode cX2_neighbour 84 = .ok (.lcmp, 1) := by decide +kernel
theorem dX2_neighbour_85 : decode cX2_neighbour 85 = .ok (.ifCond .ge 7, 3) := by decide +kernel
theorem dX2_neighbour_88 : decode cX2_neighbour 88 = .ok (.iconst 1, 1) := by decide +kernel
theorem dX2_neighbour_89 : decode cX2_neighbour 89 = .ok (.goto 4, 3) := by decide +kernel
theorem dX2_neighbour_92 : decode cX2_neighbour 92 = .ok (.iconst 0, 1) := by decide +kernel
theorem dX2_neighbour_93 : decode cX2_neighbour 93 = .ok (.putfield 39, 3) := by decide +kernel
theorem dX2_neighbour_96 : decode cX2_neighbour 96 = .ok (.aload_n 0, 1) := by decide +kernel
theorem dX2_neighbour_97 : decode cX2_neighbour 97 = .ok (.lload 7, 2) := by decide +kernel
theorem dX2_neighbour_99 : decode cX2_neighbour 99 = .ok (.ldc2_w 66, 3) := by decide +kernel
theorem dX2_neighbour_102 : decode cX2_neighbour 102 = .ok (.lcmp, 1) := by decide +kernel
theorem dX2_neighbour_103 : decode cX2_neighbour 103 = .ok (.ifCond .ge 9, 3) := by decide +kernel
theorem dX2_neighbour_106 : decode cX2_neighbour 106 = .ok (.sipush (-1074), 3) := by decide +kernel
theorem dX2_neighbour_109 : decode cX2_neighbour 109 = .ok (.goto 15, 3) := by decide +kernel
theorem dX2_neighbour_112 : decode cX2_neighbour 112 = .ok (.lload 7, 2) := by decide +kernel
theorem dX2_neighbour_114 : decode cX2_neighbour 114 = .ok (.bipush 52, 2) := by decide +kernel
theorem dX2_neighbour_116 : decode cX2_neighbour 116 = .ok (.lshr, 1) := by decide +kernel
theorem dX2_neighbour_117 : decode cX2_neighbour 117 = .ok (.l2i, 1) := by decide +kernel
theorem dX2_neighbour_118 : decode cX2_neighbour 118 = .ok (.iconst 1, 1) := by decide +kernel
theorem dX2_neighbour_119 : decode cX2_neighbour 119 = .ok (.isub, 1) := by decide +kernel
theorem dX2_neighbour_120 : decode cX2_neighbour 120 = .ok (.sipush 1074, 3) := by decide +kernel
theorem dX2_neighbour_123 : decode cX2_neighbour 123 = .ok (.isub, 1) := by decide +kernel
theorem dX2_neighbour_124 : decode cX2_neighbour 124 = .ok (.putfield 51, 3) := by decide +kernel
theorem dX2_neighbour_127 : decode cX2_neighbour 127 = .ok (.aload_n 0, 1) := by decide +kernel
theorem dX2_neighbour_128 : decode cX2_neighbour 128 = .ok (.lload 7, 2) := by decide +kernel
theorem dX2_neighbour_130 : decode cX2_neighbour 130 = .ok (.aload_n 0, 1) := by decide +kernel
theorem dX2_neighbour_131 : decode cX2_neighbour 131 = .ok (.getfield 51, 3) := by decide +kernel
theorem dX2_neighbour_134 : decode cX2_neighbour 134 = .ok (.sipush 1074, 3) := by decide +kernel
theorem dX2_neighbour_137 : decode cX2_neighbour 137 = .ok (.iadd, 1) := by decide +kernel
theorem dX2_neighbour_138 : decode cX2_neighbour 138 = .ok (.i2l, 1) := by decide +kernel
theorem dX2_neighbour_139 : decode cX2_neighbour 139 = .ok (.bipush 52, 2) := by decide +kernel
theorem dX2_neighbour_141 : decode cX2_neighbour 141 = .ok (.lshl, 1) := by decide +kernel
theorem dX2_neighbour_142 : decode cX2_neighbour 142 = .ok (.lsub, 1) := by decide +kernel
theorem dX2_neighbour_143 : decode cX2_neighbour 143 = .ok (.putfield 47, 3) := by decide +kernel
theorem dX2_neighbour_146 : decode cX2_neighbour 146 = .ok (.iconst 0, 1) := by decide +kernel
theorem dX2_neighbour_147 : decode cX2_neighbour 147 = .ok (.ireturn, 1) := by decide +kernel
theorem dX2_changed_0 : decode cX2_changed 0 = .ok (.iload_n 1, 1) := by decide +kernel
theorem dX2_changed_1 : decode cX2_changed 1 = .ok (.tableswitch 148 0 8 #[51, 83, 95, 148, 148, 148, 148, 134, 141], 51) := by decide +kernel
theorem dX2_changed_52 : decode cX2_changed 52 = .ok (.aload_n 0, 1) := by decide +kernel
theorem dX2_changed_53 : decode cX2_changed 53 = .ok (.iload_n 2, 1) := by decide +kernel
theorem dX2_changed_54 : decode cX2_changed 54 = .ok (.invokevirtual 127, 3) := by decide +kernel
theorem dX2_changed_57 : decode cX2_changed 57 = .ok (.aload_n 0, 1) := by decide +kernel
theorem dX2_changed_58 : decode cX2_changed 58 = .ok (.aload_n 0, 1) := by decide +kernel
theorem dX2_changed_59 : decode cX2_changed 59 = .ok (.getfield 39, 3) := by decide +kernel
theorem dX2_changed_62 : decode cX2_changed 62 = .ok (.ifCond .ne 16, 3) := by decide +kernel
theorem dX2_changed_65 : decode cX2_changed 65 = .ok (.aload_n 0, 1) := by decide +kernel
theorem dX2_changed_66 : decode cX2_changed 66 = .ok (.getfield 47, 3) := by decide +kernel
theorem dX2_changed_69 : decode cX2_changed 69 = .ok (.lconst 0, 1) := by decide +kernel
theorem dX2_changed_70 : decode cX2_changed 70 = .ok (.lcmp, 1) := by decide +kernel
theorem dX2_changed_71 : decode cX2_changed 71 = .ok (.ifCond .le 7, 3) := by decide +kernel
theorem dX2_changed_74 : decode cX2_changed 74 = .ok (.iconst 1, 1) := by decide +kernel
theorem dX2_changed_75 : decode cX2_changed 75 = .ok (.goto 4, 3) := by decide +kernel
theorem dX2_changed_78 : decode cX2_changed 78 = .ok (.iconst 0, 1) := by decide +kernel
theorem dX2_changed_79 : decode cX2_changed 79 = .ok (.putfield 39, 3) := by decide +kernel
theorem dX2_changed_82 : decode cX2_changed 82 = .ok (.iconst 0, 1) := by decide +kernel
theorem dX2_changed_83 : decode cX2_changed 83 = .ok (.ireturn, 1) := by decide +kernel
theorem dX2_changed_84 : decode cX2_changed 84 = .ok (.aload_n 0, 1) := by decide +kernel
theorem dX2_changed_85 : decode cX2_changed 85 = .ok (.iload_n 2, 1) := by decide +kernel
theorem dX2_changed_86 : decode cX2_changed 86 = .ok (.invokevirtual 127, 3) := by decide +kernel
theorem dX2_changed_89 : decode cX2_changed 89 = .ok (.aload_n 0, 1) := by decide +kernel
theorem dX2_changed_90 : decode cX2_changed 90 = .ok (.iconst 0, 1) := by decide +kernel
theorem dX2_changed_91 : decode cX2_changed 91 = .ok (.putfield 39, 3) := by decide +kernel
theorem dX2_changed_94 : decode cX2_changed 94 = .ok (.iconst 0, 1) := by decide +kernel
theorem dX2_changed_95 : decode cX2_changed 95 = .ok (.ireturn, 1) := by decide +kernel
theorem dX2_changed_96 : decode cX2_changed 96 = .ok (.aload_n 0, 1) := by decide +kernel
theorem dX2_changed_97 : decode cX2_changed 97 = .ok (.getfield 7, 3) := by decide +kernel
theorem dX2_changed_100 : decode cX2_changed 100 = .ok (.iload_n 2, 1) := by decide +kernel
theorem dX2_changed_101 : decode cX2_changed 101 = .ok (.baload, 1) := by decide +kernel
theorem dX2_changed_102 : decode cX2_changed 102 = .ok (.ifCond .eq 8, 3) := by decide +kernel
theorem dX2_changed_105 : decode cX2_changed 105 = .ok (.bipush (-3), 2) := by decide +kernel
theorem dX2_changed_107 : decode cX2_changed 107 = .ok (.goto 27, 3) := by decide +kernel
theorem dX2_changed_110 : decode cX2_changed 110 = .ok (.aload_n 0, 1) := by decide +kernel
theorem dX2_changed_111 : decode cX2_changed 111 = .ok (.getfield 13, 3) := by decide +kernel
theorem dX2_changed_114 : decode cX2_changed 114 = .ok (.iload_n 2, 1) := by decide +kernel
theorem dX2_changed_115 : decode cX2_changed 115 = .ok (.laload, 1) := by decide +kernel
theorem dX2_changed_116 : decode cX2_changed 116 = .ok (.lconst 0, 1) := by decide +kernel
theorem dX2_changed_117 : decode cX2_changed 117 = .ok (.lcmp, 1) := by decide +kernel
theorem dX2_changed_118 : decode cX2_changed 118 = .ok (.ifCond .ne 11, 3) := by decide +kernel
theorem dX2_changed_121 : decode cX2_changed 121 = .ok (.aload_n 0, 1) := by decide +kernel
theorem dX2_changed_122 : decode cX2_changed 122 = .ok (.iload_n 2, 1) := by decide +kernel
theorem dX2_changed_123 : decode cX2_changed 123 = .ok (.invokevirtual 153, 3) := by decide +kernel
theorem dX2_changed_126 : decode cX2_changed 126 = .ok (.goto 8, 3) := by decide +kernel
theorem dX2_changed_129 : decode cX2_changed 129 = .ok (.aload_n 0, 1) := by decide +kernel
theorem dX2_changed_130 : decode cX2_changed 130 = .ok (.iload_n 2, 1) := by decide +kernel
theorem dX2_changed_131 : decode cX2_changed 131 = .ok (.invokevirtual 171, 3) := by decide +kernel
theorem dX2_changed_134 : decode cX2_changed 134 = .ok (.ireturn, 1) := by decide +kernel
theorem dX2_changed_135 : decode cX2_changed 135 = .ok (.aload_n 0, 1) := by decide +kernel
theorem dX2_changed_136 : decode cX2_changed 136 = .ok (.iload_n 2, 1) := by decide +kernel
theorem dX2_changed_137 : decode cX2_changed 137 = .ok (.iconst 1, 1) := by decide +kernel
theorem dX2_changed_138 : decode cX2_changed 138 = .ok (.invokevirtual 174, 3) := by decide +kernel
theorem dX2_changed_141 : decode cX2_changed 141 = .ok (.ireturn, 1) := by decide +kernel
theorem dX2_changed_142 : decode cX2_changed 142 = .ok (.aload_n 0, 1) := by decide +kernel
theorem dX2_changed_143 : decode cX2_changed 143 = .ok (.iload_n 2, 1) := by decide +kernel
theorem dX2_changed_144 : decode cX2_changed 144 = .ok (.iconst 0, 1) := by decide +kernel
theorem dX2_changed_145 : decode cX2_changed 145 = .ok (.invokevirtual 174, 3) := by decide +kernel
theorem dX2_changed_148 : decode cX2_changed 148 = .ok (.ireturn, 1) := by decide +kernel
theorem dX2_changed_149 : decode cX2_changed 149 = .ok (.aload_n 0, 1) := by decide +kernel
theorem dX2_changed_150 : decode cX2_changed 150 = .ok (.iload_n 2, 1) := by decide +kernel
theorem dX2_changed_151 : decode cX2_changed 151 = .ok (.iload_n 1, 1) := by decide +kernel
theorem dX2_changed_152 : decode cX2_changed 152 = .ok (.iconst 3, 1) := by decide +kernel
theorem dX2_changed_153 : decode cX2_changed 153 = .ok (.isub, 1) := by decide +kernel
theorem dX2_changed_154 : decode cX2_changed 154 = .ok (.invokevirtual 178, 3) := by decide +kernel
theorem dX2_changed_157 : decode cX2_changed 157 = .ok (.ireturn, 1) := by decide +kernel
theorem dX2_change_0 : decode cX2_change 0 = .ok (.aload_n 0, 1) := by decide +kernel
theorem dX2_change_1 : decode cX2_change 1 = .ok (.iload_n 1, 1) := by decide +kernel
theorem dX2_change_2 : decode cX2_change 2 = .ok (.invokestatic 70, 3) := by decide +kernel
theorem dX2_change_5 : decode cX2_change 5 = .ok (.ifCond .eq 24, 3) := by decide +kernel
theorem dX2_change_8 : decode cX2_change 8 = .ok (.iload_n 3, 1) := by decide +kernel
theorem dX2_change_9 : decode cX2_change 9 = .ok (.invokestatic 70, 3) := by decide +kernel
theorem dX2_change_12 : decode cX2_change 12 = .ok (.ifCond .eq 17, 3) := by decide +kernel
theorem dX2_change_15 : decode cX2_change 15 = .ok (.iload_n 2, 1) := by decide +kernel
theorem dX2_change_16 : decode cX2_change 16 = .ok (.iconst 0, 1) := by decide +kernel
theorem dX2_change_17 : decode cX2_change 17 = .ok (.bipush 8, 2) := by decide +kernel
theorem dX2_change_19 : decode cX2_change 19 = .ok (.invokestatic 75, 3) := by decide +kernel
theorem dX2_change_22 : decode cX2_change 22 = .ok (.ifCond .eq 7, 3) := by decide +kernel
theorem dX2_change_25 : decode cX2_change 25 = .ok (.iconst 0, 1) := by decide +kernel
theorem dX2_change_26 : decode cX2_change 26 = .ok (.goto 4, 3) := by decide +kernel
theorem dX2_change_29 : decode cX2_change 29 = .ok (.iconst 1, 1) := by decide +kernel
theorem dX2_change_30 : decode cX2_change 30 = .ok (.putfield 31, 3) := by decide +kernel
theorem dX2_change_33 : decode cX2_change 33 = .ok (.aload_n 0, 1) := by decide +kernel
theorem dX2_change_34 : decode cX2_change 34 = .ok (.getfield 31, 3) := by decide +kernel
theorem dX2_change_37 : decode cX2_change 37 = .ok (.ifCond .le 7, 3) := by decide +kernel
theorem dX2_change_40 : decode cX2_change 40 = .ok (.iconst 0, 1) := by decide +kernel
theorem dX2_change_41 : decode cX2_change 41 = .ok (.goto 14, 3) := by decide +kernel
theorem dX2_change_44 : decode cX2_change 44 = .ok (.aload_n 0, 1) := by decide +kernel
theorem dX2_change_45 : decode cX2_change 45 = .ok (.iload_n 1, 1) := by decide +kernel
theorem dX2_change_46 : decode cX2_change 46 = .ok (.aload_n 0, 1) := by decide +kernel
theorem dX2_change_47 : decode cX2_change 47 = .ok (.iload_n 2, 1) := by decide +kernel
theorem dX2_change_48 : decode cX2_change 48 = .ok (.iload_n 3, 1) := by decide +kernel
theorem dX2_change_49 : decode cX2_change 49 = .ok (.invokevirtual 181, 3) := by decide +kernel
theorem dX2_change_52 : decode cX2_change 52 = .ok (.invokevirtual 87, 3) := by decide +kernel
theorem dX2_change_55 : decode cX2_change 55 = .ok (.ireturn, 1) := by decide +kernel
theorem dX2_multiply_0 : decode cX2_multiply 0 = .ok (.aload_n 0, 1) := by decide +kernel
theorem dX2_multiply_1 : decode cX2_multiply 1 = .ok (.getfield 39, 3) := by decide +kernel
theorem dX2_multiply_4 : decode cX2_multiply 4 = .ok (.iload_n 1, 1) := by decide +kernel
theorem dX2_multiply_5 : decode cX2_multiply 5 = .ok (.if_icmp .eq 7, 3) := by decide +kernel
theorem dX2_multiply_8 : decode cX2_multiply 8 = .ok (.iconst 1, 1) := by decide +kernel
theorem dX2_multiply_9 : decode cX2_multiply 9 = .ok (.goto 4, 3) := by decide +kernel
theorem dX2_multiply_12 : decode cX2_multiply 12 = .ok (.iconst 0, 1) := by decide +kernel
theorem dX2_multiply_13 : decode cX2_multiply 13 = .ok (.istore 5, 2) := by decide +kernel
theorem dX2_multiply_15 : decode cX2_multiply 15 = .ok (.aload_n 0, 1) := by decide +kernel
theorem dX2_multiply_16 : decode cX2_multiply 16 = .ok (.getfield 24, 3) := by decide +kernel
theorem dX2_multiply_19 : decode cX2_multiply 19 = .ok (.aload_n 0, 1) := by decide +kernel
theorem dX2_multiply_20 : decode cX2_multiply 20 = .ok (.getfield 47, 3) := by decide +kernel
theorem dX2_multiply_23 : decode cX2_multiply 23 = .ok (.lload_n 2, 1) := by decide +kernel
theorem dX2_multiply_24 : decode cX2_multiply 24 = .ok (.invokevirtual 119, 3) := by decide +kernel
theorem dX2_multiply_27 : decode cX2_multiply 27 = .ok (.aload_n 0, 1) := by decide +kernel
theorem dX2_multiply_28 : decode cX2_multiply 28 = .ok (.iload 5, 2) := by decide +kernel
theorem dX2_multiply_30 : decode cX2_multiply 30 = .ok (.aload_n 0, 1) := by decide +kernel
theorem dX2_multiply_31 : decode cX2_multiply 31 = .ok (.getfield 51, 3) := by decide +kernel
theorem dX2_multiply_34 : decode cX2_multiply 34 = .ok (.iload 4, 2) := by decide +kernel
theorem dX2_multiply_36 : decode cX2_multiply 36 = .ok (.iadd, 1) := by decide +kernel
theorem dX2_multiply_37 : decode cX2_multiply 37 = .ok (.iconst 0, 1) := by decide +kernel
theorem dX2_multiply_38 : decode cX2_multiply 38 = .ok (.invokevirtual 83, 3) := by decide +kernel
theorem dX2_multiply_41 : decode cX2_multiply 41 = .ok (.ireturn, 1) := by decide +kernel
theorem dX2_raised_0 : decode cX2_raised 0 = .ok (.iload_n 2, 1) := by decide +kernel
theorem dX2_raised_1 : decode cX2_raised 1 = .ok (.ifCond .ge 8, 3) := by decide +kernel
theorem dX2_raised_4 : decode cX2_raised 4 = .ok (.iload_n 2, 1) := by decide +kernel
theorem dX2_raised_5 : decode cX2_raised 5 = .ok (.ineg, 1) := by decide +kernel
theorem dX2_raised_6 : decode cX2_raised 6 = .ok (.goto 4, 3) := by decide +kernel
theorem dX2_raised_9 : decode cX2_raised 9 = .ok (.iload_n 2, 1) := by decide +kernel
theorem dX2_raised_10 : decode cX2_raised 10 = .ok (.istore_n 3, 1) := by decide +kernel
theorem dX2_raised_11 : decode cX2_raised 11 = .ok (.aload_n 0, 1) := by decide +kernel
theorem dX2_raised_12 : decode cX2_raised 12 = .ok (.iload_n 1, 1) := by decide +kernel
theorem dX2_raised_13 : decode cX2_raised 13 = .ok (.invokevirtual 127, 3) := by decide +kernel
theorem dX2_raised_16 : decode cX2_raised 16 = .ok (.iload_n 2, 1) := by decide +kernel
theorem dX2_raised_17 : decode cX2_raised 17 = .ok (.ifCond .ne 21, 3) := by decide +kernel
theorem dX2_raised_20 : decode cX2_raised 20 = .ok (.aload_n 0, 1) := by decide +kernel
theorem dX2_raised_21 : decode cX2_raised 21 = .ok (.iconst 0, 1) := by decide +kernel
theorem dX2_raised_22 : decode cX2_raised 22 = .ok (.putfield 39, 3) := by decide +kernel
theorem dX2_raised_25 : decode cX2_raised 25 = .ok (.aload_n 0, 1) := by decide +kernel
theorem dX2_raised_26 : decode cX2_raised 26 = .ok (.ldc2_w 68, 3) := by decide +kernel
theorem dX2_raised_29 : decode cX2_raised 29 = .ok (.putfield 47, 3) := by decide +kernel
theorem dX2_raised_32 : decode cX2_raised 32 = .ok (.aload_n 0, 1) := by decide +kernel
theorem dX2_raised_33 : decode cX2_raised 33 = .ok (.bipush (-52), 2) := by decide +kernel
theorem dX2_raised_35 : decode cX2_raised 35 = .ok (.putfield 51, 3) := by decide +kernel
theorem dX2_raised_38 : decode cX2_raised 38 = .ok (.iconst 1, 1) := by decide +kernel
theorem dX2_raised_39 : decode cX2_raised 39 = .ok (.istore 4, 2) := by decide +kernel
theorem dX2_raised_41 : decode cX2_raised 41 = .ok (.iload 4, 2) := by decide +kernel
theorem dX2_raised_43 : decode cX2_raised 43 = .ok (.iload_n 3, 1) := by decide +kernel
theorem dX2_raised_44 : decode cX2_raised 44 = .ok (.iconst 2, 1) := by decide +kernel
theorem dX2_raised_45 : decode cX2_raised 45 = .ok (.idiv, 1) := by decide +kernel
theorem dX2_raised_46 : decode cX2_raised 46 = .ok (.if_icmp .gt 12, 3) := by decide +kernel
theorem dX2_raised_49 : decode cX2_raised 49 = .ok (.iconst 2, 1) := by decide +kernel
theorem dX2_raised_50 : decode cX2_raised 50 = .ok (.iload 4, 2) := by decide +kernel
theorem dX2_raised_52 : decode cX2_raised 52 = .ok (.imul, 1) := by decide +kernel
theorem dX2_raised_53 : decode cX2_raised 53 = .ok (.istore 4, 2) := by decide +kernel
theorem dX2_raised_55 : decode cX2_raised 55 = .ok (.goto (-14), 3) := by decide +kernel
theorem dX2_raised_58 : decode cX2_raised 58 = .ok (.iload 4, 2) := by decide +kernel
theorem dX2_raised_60 : decode cX2_raised 60 = .ok (.iconst 2, 1) := by decide +kernel
theorem dX2_raised_61 : decode cX2_raised 61 = .ok (.idiv, 1) := by decide +kernel
theorem dX2_raised_62 : decode cX2_raised 62 = .ok (.istore 5, 2) := by decide +kernel
theorem dX2_raised_64 : decode cX2_raised 64 = .ok (.iload 5, 2) := by decide +kernel
theorem dX2_raised_66 : decode cX2_raised 66 = .ok (.ifCond .le 69, 3) := by decide +kernel
theorem dX2_raised_69 : decode cX2_raised 69 = .ok (.aload_n 0, 1) := by decide +kernel
theorem dX2_raised_70 : decode cX2_raised 70 = .ok (.aload_n 0, 1) := by decide +kernel
theorem dX2_raised_71 : decode cX2_raised 71 = .ok (.getfield 39, 3) := by decide +kernel
theorem dX2_raised_74 : decode cX2_raised 74 = .ok (.aload_n 0, 1) := by decide +kernel
theorem dX2_raised_75 : decode cX2_raised 75 = .ok (.getfield 47, 3) := by decide +kernel
theorem dX2_raised_78 : decode cX2_raised 78 = .ok (.aload_n 0, 1) := by decide +kernel
theorem dX2_raised_79 : decode cX2_raised 79 = .ok (.getfield 51, 3) := by decide +kernel
theorem dX2_raised_82 : decode cX2_raised 82 = .ok (.invokevirtual 184, 3) := by decide +kernel
theorem dX2_raised_85 : decode cX2_raised 85 = .ok (.iconst (-1), 1) := by decide +kernel
theorem dX2_raised_86 : decode cX2_raised 86 = .ok (.if_icmp .ne 5, 3) := by decide +kernel
theorem dX2_raised_89 : decode cX2_raised 89 = .ok (.iconst (-1), 1) := by decide +kernel
theorem dX2_raised_90 : decode cX2_raised 90 = .ok (.ireturn, 1) := by decide +kernel
theorem dX2_raised_91 : decode cX2_raised 91 = .ok (.iload_n 3, 1) := by decide +kernel
theorem dX2_raised_92 : decode cX2_raised 92 = .ok (.iload 5, 2) := by decide +kernel
theorem dX2_raised_94 : decode cX2_raised 94 = .ok (.iand, 1) := by decide +kernel
theorem dX2_raised_95 : decode cX2_raised 95 = .ok (.ifCond .eq 31, 3) := by decide +kernel
theorem dX2_raised_98 : decode cX2_raised 98 = .ok (.aload_n 0, 1) := by decide +kernel
theorem dX2_raised_99 : decode cX2_raised 99 = .ok (.aload_n 0, 1) := by decide +kernel
end
section
theorem dX2_raised_100 : decode cX2_raised 100 = .ok (.getfield 7, 3) := by decide +kernel
theorem dX2_raised_103 : decode cX2_raised 103 = .ok (.iload_n 1, 1) := by decide +kernel
theorem dX2_raised_104 : decode cX2_raised 104 = .ok (.baload, 1) := by decide +kernel
theorem dX2_raised_105 : decode cX2_raised 105 = .ok (.aload_n 0, 1) := by decide +kernel
theorem dX2_raised_106 : decode cX2_raised 106 = .ok (.getfield 13, 3) := by decide +kernel
theorem dX2_raised_109 : decode cX2_raised 109 = .ok (.iload_n 1, 1) := by decide +kernel
theorem dX2_raised_110 : decode cX2_raised 110 = .ok (.laload, 1) := by decide +kernel
theorem dX2_raised_111 : decode cX2_raised 111 = .ok (.aload_n 0, 1) := by decide +kernel
theorem dX2_raised_112 : decode cX2_raised 112 = .ok (.getfield 17, 3) := by decide +kernel
theorem dX2_raised_115 : decode cX2_raised 115 = .ok (.iload_n 1, 1) := by decide +kernel
theorem dX2_raised_116 : decode cX2_raised 116 = .ok (.iaload, 1) := by decide +kernel
theorem dX2_raised_117 : decode cX2_raised 117 = .ok (.invokevirtual 184, 3) := by decide +kernel
theorem dX2_raised_120 : decode cX2_raised 120 = .ok (.iconst (-1), 1) := by decide +kernel
theorem dX2_raised_121 : decode cX2_raised 121 = .ok (.if_icmp .ne 5, 3) := by decide +kernel
theorem dX2_raised_124 : decode cX2_raised 124 = .ok (.iconst (-1), 1) := by decide +kernel
theorem dX2_raised_125 : decode cX2_raised 125 = .ok (.ireturn, 1) := by decide +kernel
theorem dX2_raised_126 : decode cX2_raised 126 = .ok (.iload 5, 2) := by decide +kernel
theorem dX2_raised_128 : decode cX2_raised 128 = .ok (.iconst 2, 1) := by decide +kernel
theorem dX2_raised_129 : decode cX2_raised 129 = .ok (.idiv, 1) := by decide +kernel
theorem dX2_raised_130 : decode cX2_raised 130 = .ok (.istore 5, 2) := by decide +kernel
theorem dX2_raised_132 : decode cX2_raised 132 = .ok (.goto (-68), 3) := by decide +kernel
theorem dX2_raised_135 : decode cX2_raised 135 = .ok (.iload_n 2, 1) := by decide +kernel
theorem dX2_raised_136 : decode cX2_raised 136 = .ok (.ifCond .lt 5, 3) := by decide +kernel
theorem dX2_raised_139 : decode cX2_raised 139 = .ok (.iconst 0, 1) := by decide +kernel
theorem dX2_raised_140 : decode cX2_raised 140 = .ok (.ireturn, 1) := by decide +kernel
theorem dX2_raised_141 : decode cX2_raised 141 = .ok (.aload_n 0, 1) := by decide +kernel
theorem dX2_raised_142 : decode cX2_raised 142 = .ok (.getfield 47, 3) := by decide +kernel
theorem dX2_raised_145 : decode cX2_raised 145 = .ok (.lconst 0, 1) := by decide +kernel
theorem dX2_raised_146 : decode cX2_raised 146 = .ok (.lcmp, 1) := by decide +kernel
theorem dX2_raised_147 : decode cX2_raised 147 = .ok (.ifCond .ne 8, 3) := by decide +kernel
theorem dX2_raised_150 : decode cX2_raised 150 = .ok (.bipush (-2), 2) := by decide +kernel
theorem dX2_raised_152 : decode cX2_raised 152 = .ok (.goto 24, 3) := by decide +kernel
theorem dX2_raised_155 : decode cX2_raised 155 = .ok (.aload_n 0, 1) := by decide +kernel
theorem dX2_raised_156 : decode cX2_raised 156 = .ok (.aload_n 0, 1) := by decide +kernel
theorem dX2_raised_157 : decode cX2_raised 157 = .ok (.getfield 39, 3) := by decide +kernel
theorem dX2_raised_160 : decode cX2_raised 160 = .ok (.ldc2_w 68, 3) := by decide +kernel
theorem dX2_raised_163 : decode cX2_raised 163 = .ok (.bipush (-52), 2) := by decide +kernel
theorem dX2_raised_165 : decode cX2_raised 165 = .ok (.aload_n 0, 1) := by decide +kernel
theorem dX2_raised_166 : decode cX2_raised 166 = .ok (.getfield 47, 3) := by decide +kernel
theorem dX2_raised_169 : decode cX2_raised 169 = .ok (.aload_n 0, 1) := by decide +kernel
theorem dX2_raised_170 : decode cX2_raised 170 = .ok (.getfield 51, 3) := by decide +kernel
theorem dX2_raised_173 : decode cX2_raised 173 = .ok (.invokevirtual 143, 3) := by decide +kernel
theorem dX2_raised_176 : decode cX2_raised 176 = .ok (.ireturn, 1) := by decide +kernel
theorem dX2_power_0 : decode cX2_power 0 = .ok (.aload_n 0, 1) := by decide +kernel
theorem dX2_power_1 : decode cX2_power 1 = .ok (.iload_n 1, 1) := by decide +kernel
theorem dX2_power_2 : decode cX2_power 2 = .ok (.invokestatic 70, 3) := by decide +kernel
theorem dX2_power_5 : decode cX2_power 5 = .ok (.ifCond .eq 27, 3) := by decide +kernel
theorem dX2_power_8 : decode cX2_power 8 = .ok (.iload_n 2, 1) := by decide +kernel
theorem dX2_power_9 : decode cX2_power 9 = .ok (.invokestatic 70, 3) := by decide +kernel
theorem dX2_power_12 : decode cX2_power 12 = .ok (.ifCond .eq 20, 3) := by decide +kernel
theorem dX2_power_15 : decode cX2_power 15 = .ok (.iload_n 3, 1) := by decide +kernel
theorem dX2_power_16 : decode cX2_power 16 = .ok (.sipush (-1024), 3) := by decide +kernel
theorem dX2_power_19 : decode cX2_power 19 = .ok (.sipush 1024, 3) := by decide +kernel
theorem dX2_power_22 : decode cX2_power 22 = .ok (.invokestatic 75, 3) := by decide +kernel
theorem dX2_power_25 : decode cX2_power 25 = .ok (.ifCond .eq 7, 3) := by decide +kernel
theorem dX2_power_28 : decode cX2_power 28 = .ok (.iconst 0, 1) := by decide +kernel
theorem dX2_power_29 : decode cX2_power 29 = .ok (.goto 4, 3) := by decide +kernel
theorem dX2_power_32 : decode cX2_power 32 = .ok (.iconst 1, 1) := by decide +kernel
theorem dX2_power_33 : decode cX2_power 33 = .ok (.putfield 31, 3) := by decide +kernel
theorem dX2_power_36 : decode cX2_power 36 = .ok (.aload_n 0, 1) := by decide +kernel
theorem dX2_power_37 : decode cX2_power 37 = .ok (.getfield 31, 3) := by decide +kernel
theorem dX2_power_40 : decode cX2_power 40 = .ok (.ifCond .le 7, 3) := by decide +kernel
theorem dX2_power_43 : decode cX2_power 43 = .ok (.iconst 0, 1) := by decide +kernel
theorem dX2_power_44 : decode cX2_power 44 = .ok (.goto 14, 3) := by decide +kernel
theorem dX2_power_47 : decode cX2_power 47 = .ok (.aload_n 0, 1) := by decide +kernel
theorem dX2_power_48 : decode cX2_power 48 = .ok (.iload_n 1, 1) := by decide +kernel
theorem dX2_power_49 : decode cX2_power 49 = .ok (.aload_n 0, 1) := by decide +kernel
theorem dX2_power_50 : decode cX2_power 50 = .ok (.iload_n 2, 1) := by decide +kernel
theorem dX2_power_51 : decode cX2_power 51 = .ok (.iload_n 3, 1) := by decide +kernel
theorem dX2_power_52 : decode cX2_power 52 = .ok (.invokevirtual 188, 3) := by decide +kernel
theorem dX2_power_55 : decode cX2_power 55 = .ok (.invokevirtual 87, 3) := by decide +kernel
theorem dX2_power_58 : decode cX2_power 58 = .ok (.ireturn, 1) := by decide +kernel
theorem dX2_order_0 : decode cX2_order 0 = .ok (.aload_n 0, 1) := by decide +kernel
theorem dX2_order_1 : decode cX2_order 1 = .ok (.iload_n 1, 1) := by decide +kernel
theorem dX2_order_2 : decode cX2_order 2 = .ok (.invokestatic 70, 3) := by decide +kernel
theorem dX2_order_5 : decode cX2_order 5 = .ok (.ifCond .eq 14, 3) := by decide +kernel
theorem dX2_order_8 : decode cX2_order 8 = .ok (.iload_n 2, 1) := by decide +kernel
theorem dX2_order_9 : decode cX2_order 9 = .ok (.invokestatic 70, 3) := by decide +kernel
theorem dX2_order_12 : decode cX2_order 12 = .ok (.ifCond .eq 7, 3) := by decide +kernel
theorem dX2_order_15 : decode cX2_order 15 = .ok (.iconst 0, 1) := by decide +kernel
theorem dX2_order_16 : decode cX2_order 16 = .ok (.goto 4, 3) := by decide +kernel
theorem dX2_order_19 : decode cX2_order 19 = .ok (.iconst 1, 1) := by decide +kernel
theorem dX2_order_20 : decode cX2_order 20 = .ok (.putfield 31, 3) := by decide +kernel
theorem dX2_order_23 : decode cX2_order 23 = .ok (.aload_n 0, 1) := by decide +kernel
theorem dX2_order_24 : decode cX2_order 24 = .ok (.getfield 31, 3) := by decide +kernel
theorem dX2_order_27 : decode cX2_order 27 = .ok (.ifCond .le 7, 3) := by decide +kernel
theorem dX2_order_30 : decode cX2_order 30 = .ok (.iconst 0, 1) := by decide +kernel
theorem dX2_order_31 : decode cX2_order 31 = .ok (.goto 9, 3) := by decide +kernel
theorem dX2_order_34 : decode cX2_order 34 = .ok (.aload_n 0, 1) := by decide +kernel
theorem dX2_order_35 : decode cX2_order 35 = .ok (.iload_n 1, 1) := by decide +kernel
theorem dX2_order_36 : decode cX2_order 36 = .ok (.iload_n 2, 1) := by decide +kernel
theorem dX2_order_37 : decode cX2_order 37 = .ok (.invokevirtual 150, 3) := by decide +kernel
theorem dX2_order_40 : decode cX2_order 40 = .ok (.ireturn, 1) := by decide +kernel
theorem dX2_digits_0 : decode cX2_digits 0 = .ok (.aload_n 0, 1) := by decide +kernel
theorem dX2_digits_1 : decode cX2_digits 1 = .ok (.iload_n 1, 1) := by decide +kernel
theorem dX2_digits_2 : decode cX2_digits 2 = .ok (.invokestatic 70, 3) := by decide +kernel
theorem dX2_digits_5 : decode cX2_digits 5 = .ok (.ifCond .eq 7, 3) := by decide +kernel
theorem dX2_digits_8 : decode cX2_digits 8 = .ok (.iconst 0, 1) := by decide +kernel
theorem dX2_digits_9 : decode cX2_digits 9 = .ok (.goto 4, 3) := by decide +kernel
theorem dX2_digits_12 : decode cX2_digits 12 = .ok (.iconst 1, 1) := by decide +kernel
theorem dX2_digits_13 : decode cX2_digits 13 = .ok (.putfield 31, 3) := by decide +kernel
theorem dX2_digits_16 : decode cX2_digits 16 = .ok (.aload_n 0, 1) := by decide +kernel
theorem dX2_digits_17 : decode cX2_digits 17 = .ok (.getfield 31, 3) := by decide +kernel
theorem dX2_digits_20 : decode cX2_digits 20 = .ok (.ifCond .le 7, 3) := by decide +kernel
theorem dX2_digits_23 : decode cX2_digits 23 = .ok (.lconst 0, 1) := by decide +kernel
theorem dX2_digits_24 : decode cX2_digits 24 = .ok (.goto 28, 3) := by decide +kernel
theorem dX2_digits_27 : decode cX2_digits 27 = .ok (.aload_n 0, 1) := by decide +kernel
theorem dX2_digits_28 : decode cX2_digits 28 = .ok (.getfield 7, 3) := by decide +kernel
theorem dX2_digits_31 : decode cX2_digits 31 = .ok (.iload_n 1, 1) := by decide +kernel
theorem dX2_digits_32 : decode cX2_digits 32 = .ok (.baload, 1) := by decide +kernel
theorem dX2_digits_33 : decode cX2_digits 33 = .ok (.ifCond .eq 13, 3) := by decide +kernel
theorem dX2_digits_36 : decode cX2_digits 36 = .ok (.aload_n 0, 1) := by decide +kernel
theorem dX2_digits_37 : decode cX2_digits 37 = .ok (.getfield 13, 3) := by decide +kernel
theorem dX2_digits_40 : decode cX2_digits 40 = .ok (.iload_n 1, 1) := by decide +kernel
theorem dX2_digits_41 : decode cX2_digits 41 = .ok (.laload, 1) := by decide +kernel
theorem dX2_digits_42 : decode cX2_digits 42 = .ok (.lneg, 1) := by decide +kernel
theorem dX2_digits_43 : decode cX2_digits 43 = .ok (.goto 9, 3) := by decide +kernel
theorem dX2_digits_46 : decode cX2_digits 46 = .ok (.aload_n 0, 1) := by decide +kernel
theorem dX2_digits_47 : decode cX2_digits 47 = .ok (.getfield 13, 3) := by decide +kernel
theorem dX2_digits_50 : decode cX2_digits 50 = .ok (.iload_n 1, 1) := by decide +kernel
theorem dX2_digits_51 : decode cX2_digits 51 = .ok (.laload, 1) := by decide +kernel
theorem dX2_digits_52 : decode cX2_digits 52 = .ok (.lreturn, 1) := by decide +kernel
theorem dX2_exponent_0 : decode cX2_exponent 0 = .ok (.aload_n 0, 1) := by decide +kernel
theorem dX2_exponent_1 : decode cX2_exponent 1 = .ok (.iload_n 1, 1) := by decide +kernel
theorem dX2_exponent_2 : decode cX2_exponent 2 = .ok (.invokestatic 70, 3) := by decide +kernel
theorem dX2_exponent_5 : decode cX2_exponent 5 = .ok (.ifCond .eq 7, 3) := by decide +kernel
theorem dX2_exponent_8 : decode cX2_exponent 8 = .ok (.iconst 0, 1) := by decide +kernel
theorem dX2_exponent_9 : decode cX2_exponent 9 = .ok (.goto 4, 3) := by decide +kernel
theorem dX2_exponent_12 : decode cX2_exponent 12 = .ok (.iconst 1, 1) := by decide +kernel
theorem dX2_exponent_13 : decode cX2_exponent 13 = .ok (.putfield 31, 3) := by decide +kernel
theorem dX2_exponent_16 : decode cX2_exponent 16 = .ok (.aload_n 0, 1) := by decide +kernel
theorem dX2_exponent_17 : decode cX2_exponent 17 = .ok (.getfield 31, 3) := by decide +kernel
theorem dX2_exponent_20 : decode cX2_exponent 20 = .ok (.ifCond .le 7, 3) := by decide +kernel
theorem dX2_exponent_23 : decode cX2_exponent 23 = .ok (.iconst 0, 1) := by decide +kernel
theorem dX2_exponent_24 : decode cX2_exponent 24 = .ok (.goto 9, 3) := by decide +kernel
theorem dX2_exponent_27 : decode cX2_exponent 27 = .ok (.aload_n 0, 1) := by decide +kernel
theorem dX2_exponent_28 : decode cX2_exponent 28 = .ok (.getfield 17, 3) := by decide +kernel
theorem dX2_exponent_31 : decode cX2_exponent 31 = .ok (.iload_n 1, 1) := by decide +kernel
theorem dX2_exponent_32 : decode cX2_exponent 32 = .ok (.iaload, 1) := by decide +kernel
theorem dX2_exponent_33 : decode cX2_exponent 33 = .ok (.ireturn, 1) := by decide +kernel
theorem dX2_value_0 : decode cX2_value 0 = .ok (.aload_n 0, 1) := by decide +kernel
theorem dX2_value_1 : decode cX2_value 1 = .ok (.iload_n 1, 1) := by decide +kernel
theorem dX2_value_2 : decode cX2_value 2 = .ok (.invokestatic 70, 3) := by decide +kernel
theorem dX2_value_5 : decode cX2_value 5 = .ok (.ifCond .eq 7, 3) := by decide +kernel
theorem dX2_value_8 : decode cX2_value 8 = .ok (.iconst 0, 1) := by decide +kernel
theorem dX2_value_9 : decode cX2_value 9 = .ok (.goto 4, 3) := by decide +kernel
theorem dX2_value_12 : decode cX2_value 12 = .ok (.iconst 1, 1) := by decide +kernel
theorem dX2_value_13 : decode cX2_value 13 = .ok (.putfield 31, 3) := by decide +kernel
theorem dX2_value_16 : decode cX2_value 16 = .ok (.aload_n 0, 1) := by decide +kernel
theorem dX2_value_17 : decode cX2_value 17 = .ok (.getfield 31, 3) := by decide +kernel
theorem dX2_value_20 : decode cX2_value 20 = .ok (.ifCond .le 5, 3) := by decide +kernel
theorem dX2_value_23 : decode cX2_value 23 = .ok (.dconst 0, 1) := by decide +kernel
theorem dX2_value_24 : decode cX2_value 24 = .ok (.dreturn, 1) := by decide +kernel
theorem dX2_value_25 : decode cX2_value 25 = .ok (.aload_n 0, 1) := by decide +kernel
theorem dX2_value_26 : decode cX2_value 26 = .ok (.getfield 13, 3) := by decide +kernel
theorem dX2_value_29 : decode cX2_value 29 = .ok (.iload_n 1, 1) := by decide +kernel
theorem dX2_value_30 : decode cX2_value 30 = .ok (.laload, 1) := by decide +kernel
theorem dX2_value_31 : decode cX2_value 31 = .ok (.l2d, 1) := by decide +kernel
theorem dX2_value_32 : decode cX2_value 32 = .ok (.dstore_n 2, 1) := by decide +kernel
theorem dX2_value_33 : decode cX2_value 33 = .ok (.iconst 0, 1) := by decide +kernel
theorem dX2_value_34 : decode cX2_value 34 = .ok (.istore 4, 2) := by decide +kernel
theorem dX2_value_36 : decode cX2_value 36 = .ok (.iload 4, 2) := by decide +kernel
theorem dX2_value_38 : decode cX2_value 38 = .ok (.aload_n 0, 1) := by decide +kernel
theorem dX2_value_39 : decode cX2_value 39 = .ok (.getfield 17, 3) := by decide +kernel
theorem dX2_value_42 : decode cX2_value 42 = .ok (.iload_n 1, 1) := by decide +kernel
theorem dX2_value_43 : decode cX2_value 43 = .ok (.iaload, 1) := by decide +kernel
theorem dX2_value_44 : decode cX2_value 44 = .ok (.if_icmp .ge 15, 3) := by decide +kernel
theorem dX2_value_47 : decode cX2_value 47 = .ok (.dload_n 2, 1) := by decide +kernel
theorem dX2_value_48 : decode cX2_value 48 = .ok (.ldc2_w 191, 3) := by decide +kernel
theorem dX2_value_51 : decode cX2_value 51 = .ok (.dmul, 1) := by decide +kernel
theorem dX2_value_52 : decode cX2_value 52 = .ok (.dstore_n 2, 1) := by decide +kernel
theorem dX2_value_53 : decode cX2_value 53 = .ok (.iinc 4 1, 3) := by decide +kernel
theorem dX2_value_56 : decode cX2_value 56 = .ok (.goto (-20), 3) := by decide +kernel
theorem dX2_value_59 : decode cX2_value 59 = .ok (.iconst 0, 1) := by decide +kernel
theorem dX2_value_60 : decode cX2_value 60 = .ok (.istore 4, 2) := by decide +kernel
theorem dX2_value_62 : decode cX2_value 62 = .ok (.iload 4, 2) := by decide +kernel
theorem dX2_value_64 : decode cX2_value 64 = .ok (.aload_n 0, 1) := by decide +kernel
theorem dX2_value_65 : decode cX2_value 65 = .ok (.getfield 17, 3) := by decide +kernel
theorem dX2_value_68 : decode cX2_value 68 = .ok (.iload_n 1, 1) := by decide +kernel
theorem dX2_value_69 : decode cX2_value 69 = .ok (.iaload, 1) := by decide +kernel
theorem dX2_value_70 : decode cX2_value 70 = .ok (.ineg, 1) := by decide +kernel
theorem dX2_value_71 : decode cX2_value 71 = .ok (.if_icmp .ge 15, 3) := by decide +kernel
theorem dX2_value_74 : decode cX2_value 74 = .ok (.dload_n 2, 1) := by decide +kernel
theorem dX2_value_75 : decode cX2_value 75 = .ok (.ldc2_w 193, 3) := by decide +kernel
theorem dX2_value_78 : decode cX2_value 78 = .ok (.dmul, 1) := by decide +kernel
theorem dX2_value_79 : decode cX2_value 79 = .ok (.dstore_n 2, 1) := by decide +kernel
theorem dX2_value_80 : decode cX2_value 80 = .ok (.iinc 4 1, 3) := by decide +kernel
theorem dX2_value_83 : decode cX2_value 83 = .ok (.goto (-21), 3) := by decide +kernel
theorem dX2_value_86 : decode cX2_value 86 = .ok (.aload_n 0, 1) := by decide +kernel
theorem dX2_value_87 : decode cX2_value 87 = .ok (.getfield 7, 3) := by decide +kernel
theorem dX2_value_90 : decode cX2_value 90 = .ok (.iload_n 1, 1) := by decide +kernel
theorem dX2_value_91 : decode cX2_value 91 = .ok (.baload, 1) := by decide +kernel
theorem dX2_value_92 : decode cX2_value 92 = .ok (.ifCond .eq 8, 3) := by decide +kernel
theorem dX2_value_95 : decode cX2_value 95 = .ok (.dload_n 2, 1) := by decide +kernel
theorem dX2_value_96 : decode cX2_value 96 = .ok (.dneg, 1) := by decide +kernel
theorem dX2_value_97 : decode cX2_value 97 = .ok (.goto 4, 3) := by decide +kernel
theorem dX2_value_100 : decode cX2_value 100 = .ok (.dload_n 2, 1) := by decide +kernel
theorem dX2_value_101 : decode cX2_value 101 = .ok (.dreturn, 1) := by decide +kernel
theorem dX2_whole_0 : decode cX2_whole 0 = .ok (.aload_n 0, 1) := by decide +kernel
theorem dX2_whole_1 : decode cX2_whole 1 = .ok (.iload_n 1, 1) := by decide +kernel
theorem dX2_whole_2 : decode cX2_whole 2 = .ok (.invokestatic 70, 3) := by decide +kernel
theorem dX2_whole_5 : decode cX2_whole 5 = .ok (.ifCond .eq 7, 3) := by decide +kernel
theorem dX2_whole_8 : decode cX2_whole 8 = .ok (.iconst 0, 1) := by decide +kernel
theorem dX2_whole_9 : decode cX2_whole 9 = .ok (.goto 4, 3) := by decide +kernel
theorem dX2_whole_12 : decode cX2_whole 12 = .ok (.iconst 1, 1) := by decide +kernel
theorem dX2_whole_13 : decode cX2_whole 13 = .ok (.putfield 31, 3) := by decide +kernel
theorem dX2_whole_16 : decode cX2_whole 16 = .ok (.aload_n 0, 1) := by decide +kernel
theorem dX2_whole_17 : decode cX2_whole 17 = .ok (.getfield 31, 3) := by decide +kernel
theorem dX2_whole_20 : decode cX2_whole 20 = .ok (.ifCond .le 5, 3) := by decide +kernel
theorem dX2_whole_23 : decode cX2_whole 23 = .ok (.lconst 0, 1) := by decide +kernel
theorem dX2_whole_24 : decode cX2_whole 24 = .ok (.lreturn, 1) := by decide +kernel
theorem dX2_whole_25 : decode cX2_whole 25 = .ok (.aload_n 0, 1) := by decide +kernel
theorem dX2_whole_26 : decode cX2_whole 26 = .ok (.getfield 17, 3) := by decide +kernel
theorem dX2_whole_29 : decode cX2_whole 29 = .ok (.iload_n 1, 1) := by decide +kernel
theorem dX2_whole_30 : decode cX2_whole 30 = .ok (.iaload, 1) := by decide +kernel
theorem dX2_whole_31 : decode cX2_whole 31 = .ok (.bipush 11, 2) := by decide +kernel
theorem dX2_whole_33 : decode cX2_whole 33 = .ok (.if_icmp .gt 7, 3) := by decide +kernel
theorem dX2_whole_36 : decode cX2_whole 36 = .ok (.iconst 1, 1) := by decide +kernel
theorem dX2_whole_37 : decode cX2_whole 37 = .ok (.goto 4, 3) := by decide +kernel
theorem dX2_whole_40 : decode cX2_whole 40 = .ok (.iconst 0, 1) := by decide +kernel
theorem dX2_whole_41 : decode cX2_whole 41 = .ok (.istore_n 2, 1) := by decide +kernel
theorem dX2_whole_42 : decode cX2_whole 42 = .ok (.aload_n 0, 1) := by decide +kernel
theorem dX2_whole_43 : decode cX2_whole 43 = .ok (.getfield 13, 3) := by decide +kernel
theorem dX2_whole_46 : decode cX2_whole 46 = .ok (.iload_n 1, 1) := by decide +kernel
theorem dX2_whole_47 : decode cX2_whole 47 = .ok (.laload, 1) := by decide +kernel
theorem dX2_whole_48 : decode cX2_whole 48 = .ok (.lstore_n 3, 1) := by decide +kernel
theorem dX2_whole_49 : decode cX2_whole 49 = .ok (.aload_n 0, 1) := by decide +kernel
theorem dX2_whole_50 : decode cX2_whole 50 = .ok (.getfield 17, 3) := by decide +kernel
theorem dX2_whole_53 : decode cX2_whole 53 = .ok (.iload_n 1, 1) := by decide +kernel
theorem dX2_whole_54 : decode cX2_whole 54 = .ok (.iaload, 1) := by decide +kernel
theorem dX2_whole_55 : decode cX2_whole 55 = .ok (.istore 5, 2) := by decide +kernel
theorem dX2_whole_57 : decode cX2_whole 57 = .ok (.iload 5, 2) := by decide +kernel
theorem dX2_whole_59 : decode cX2_whole 59 = .ok (.ifCond .ge 41, 3) := by decide +kernel
theorem dX2_whole_62 : decode cX2_whole 62 = .ok (.iload_n 2, 1) := by decide +kernel
theorem dX2_whole_63 : decode cX2_whole 63 = .ok (.ifCond .eq 37, 3) := by decide +kernel
theorem dX2_whole_66 : decode cX2_whole 66 = .ok (.lload_n 3, 1) := by decide +kernel
theorem dX2_whole_67 : decode cX2_whole 67 = .ok (.lconst 0, 1) := by decide +kernel
theorem dX2_whole_68 : decode cX2_whole 68 = .ok (.lcmp, 1) := by decide +kernel
theorem dX2_whole_69 : decode cX2_whole 69 = .ok (.ifCond .le 31, 3) := by decide +kernel
theorem dX2_whole_72 : decode cX2_whole 72 = .ok (.lload_n 3, 1) := by decide +kernel
theorem dX2_whole_73 : decode cX2_whole 73 = .ok (.ldc2_w 61, 3) := by decide +kernel
theorem dX2_whole_76 : decode cX2_whole 76 = .ok (.lrem, 1) := by decide +kernel
theorem dX2_whole_77 : decode cX2_whole 77 = .ok (.lconst 0, 1) := by decide +kernel
theorem dX2_whole_78 : decode cX2_whole 78 = .ok (.lcmp, 1) := by decide +kernel
theorem dX2_whole_79 : decode cX2_whole 79 = .ok (.ifCond .ne 7, 3) := by decide +kernel
theorem dX2_whole_82 : decode cX2_whole 82 = .ok (.iconst 1, 1) := by decide +kernel
theorem dX2_whole_83 : decode cX2_whole 83 = .ok (.goto 4, 3) := by decide +kernel
theorem dX2_whole_86 : decode cX2_whole 86 = .ok (.iconst 0, 1) := by decide +kernel
theorem dX2_whole_87 : decode cX2_whole 87 = .ok (.istore_n 2, 1) := by decide +kernel
theorem dX2_whole_88 : decode cX2_whole 88 = .ok (.lload_n 3, 1) := by decide +kernel
theorem dX2_whole_89 : decode cX2_whole 89 = .ok (.ldc2_w 61, 3) := by decide +kernel
theorem dX2_whole_92 : decode cX2_whole 92 = .ok (.ldiv, 1) := by decide +kernel
theorem dX2_whole_93 : decode cX2_whole 93 = .ok (.lstore_n 3, 1) := by decide +kernel
theorem dX2_whole_94 : decode cX2_whole 94 = .ok (.iinc 5 1, 3) := by decide +kernel
theorem dX2_whole_97 : decode cX2_whole 97 = .ok (.goto (-40), 3) := by decide +kernel
theorem dX2_whole_100 : decode cX2_whole 100 = .ok (.iconst 0, 1) := by decide +kernel
theorem dX2_whole_101 : decode cX2_whole 101 = .ok (.istore 5, 2) := by decide +kernel
theorem dX2_whole_103 : decode cX2_whole 103 = .ok (.iload 5, 2) := by decide +kernel
theorem dX2_whole_105 : decode cX2_whole 105 = .ok (.aload_n 0, 1) := by decide +kernel
theorem dX2_whole_106 : decode cX2_whole 106 = .ok (.getfield 17, 3) := by decide +kernel
theorem dX2_whole_109 : decode cX2_whole 109 = .ok (.iload_n 1, 1) := by decide +kernel
theorem dX2_whole_110 : decode cX2_whole 110 = .ok (.iaload, 1) := by decide +kernel
theorem dX2_whole_111 : decode cX2_whole 111 = .ok (.if_icmp .ge 50, 3) := by decide +kernel
theorem dX2_whole_114 : decode cX2_whole 114 = .ok (.iload_n 2, 1) := by decide +kernel
theorem dX2_whole_115 : decode cX2_whole 115 = .ok (.ifCond .eq 46, 3) := by decide +kernel
theorem dX2_whole_118 : decode cX2_whole 118 = .ok (.lload_n 3, 1) := by decide +kernel
theorem dX2_whole_119 : decode cX2_whole 119 = .ok (.ldc2_w 195, 3) := by decide +kernel
theorem dX2_whole_122 : decode cX2_whole 122 = .ok (.lcmp, 1) := by decide +kernel
theorem dX2_whole_123 : decode cX2_whole 123 = .ok (.ifCond .lt 20, 3) := by decide +kernel
theorem dX2_whole_126 : decode cX2_whole 126 = .ok (.aload_n 0, 1) := by decide +kernel
theorem dX2_whole_127 : decode cX2_whole 127 = .ok (.getfield 7, 3) := by decide +kernel
theorem dX2_whole_130 : decode cX2_whole 130 = .ok (.iload_n 1, 1) := by decide +kernel
theorem dX2_whole_131 : decode cX2_whole 131 = .ok (.baload, 1) := by decide +kernel
theorem dX2_whole_132 : decode cX2_whole 132 = .ok (.ifCond .eq 15, 3) := by decide +kernel
theorem dX2_whole_135 : decode cX2_whole 135 = .ok (.lload_n 3, 1) := by decide +kernel
theorem dX2_whole_136 : decode cX2_whole 136 = .ok (.ldc2_w 195, 3) := by decide +kernel
theorem dX2_whole_139 : decode cX2_whole 139 = .ok (.lcmp, 1) := by decide +kernel
theorem dX2_whole_140 : decode cX2_whole 140 = .ok (.ifCond .ne 7, 3) := by decide +kernel
theorem dX2_whole_143 : decode cX2_whole 143 = .ok (.iconst 1, 1) := by decide +kernel
theorem dX2_whole_144 : decode cX2_whole 144 = .ok (.goto 4, 3) := by decide +kernel
theorem dX2_whole_147 : decode cX2_whole 147 = .ok (.iconst 0, 1) := by decide +kernel
theorem dX2_whole_148 : decode cX2_whole 148 = .ok (.istore_n 2, 1) := by decide +kernel
theorem dX2_whole_149 : decode cX2_whole 149 = .ok (.ldc2_w 61, 3) := by decide +kernel
theorem dX2_whole_152 : decode cX2_whole 152 = .ok (.lload_n 3, 1) := by decide +kernel
theorem dX2_whole_153 : decode cX2_whole 153 = .ok (.lmul, 1) := by decide +kernel
theorem dX2_whole_154 : decode cX2_whole 154 = .ok (.lstore_n 3, 1) := by decide +kernel
theorem dX2_whole_155 : decode cX2_whole 155 = .ok (.iinc 5 1, 3) := by decide +kernel
theorem dX2_whole_158 : decode cX2_whole 158 = .ok (.goto (-55), 3) := by decide +kernel
theorem dX2_whole_161 : decode cX2_whole 161 = .ok (.iload_n 2, 1) := by decide +kernel
theorem dX2_whole_162 : decode cX2_whole 162 = .ok (.ifCond .ne 10, 3) := by decide +kernel
theorem dX2_whole_165 : decode cX2_whole 165 = .ok (.aload_n 0, 1) := by decide +kernel
theorem dX2_whole_166 : decode cX2_whole 166 = .ok (.iconst 2, 1) := by decide +kernel
theorem dX2_whole_167 : decode cX2_whole 167 = .ok (.invokevirtual 197, 3) := by decide +kernel
theorem dX2_whole_170 : decode cX2_whole 170 = .ok (.i2l, 1) := by decide +kernel
theorem dX2_whole_171 : decode cX2_whole 171 = .ok (.lreturn, 1) := by decide +kernel
theorem dX2_whole_172 : decode cX2_whole 172 = .ok (.aload_n 0, 1) := by decide +kernel
theorem dX2_whole_173 : decode cX2_whole 173 = .ok (.getfield 7, 3) := by decide +kernel
theorem dX2_whole_176 : decode cX2_whole 176 = .ok (.iload_n 1, 1) := by decide +kernel
theorem dX2_whole_177 : decode cX2_whole 177 = .ok (.baload, 1) := by decide +kernel
theorem dX2_whole_178 : decode cX2_whole 178 = .ok (.ifCond .eq 8, 3) := by decide +kernel
theorem dX2_whole_181 : decode cX2_whole 181 = .ok (.lload_n 3, 1) := by decide +kernel
theorem dX2_whole_182 : decode cX2_whole 182 = .ok (.lneg, 1) := by decide +kernel
theorem dX2_whole_183 : decode cX2_whole 183 = .ok (.goto 4, 3) := by decide +kernel
theorem dX2_whole_186 : decode cX2_whole 186 = .ok (.lload_n 3, 1) := by decide +kernel
theorem dX2_whole_187 : decode cX2_whole 187 = .ok (.lreturn, 1) := by decide +kernel
theorem dJ6_numberOfLeadingZeros_0f7a4_0 : decode cJ6_numberOfLeadingZeros_0f7a4 0 = .ok (.iload_n 0, 1) := by decide +kernel
theorem dJ6_numberOfLeadingZeros_0f7a4_1 : decode cJ6_numberOfLeadingZeros_0f7a4 1 = .ok (.ifCond .gt 14, 3) := by decide +kernel
theorem dJ6_numberOfLeadingZeros_0f7a4_4 : decode cJ6_numberOfLeadingZeros_0f7a4 4 = .ok (.iload_n 0, 1) := by decide +kernel
theorem dJ6_numberOfLeadingZeros_0f7a4_5 : decode cJ6_numberOfLeadingZeros_0f7a4 5 = .ok (.ifCond .ne 8, 3) := by decide +kernel
theorem dJ6_numberOfLeadingZeros_0f7a4_8 : decode cJ6_numberOfLeadingZeros_0f7a4 8 = .ok (.bipush 32, 2) := by decide +kernel
theorem dJ6_numberOfLeadingZeros_0f7a4_10 : decode cJ6_numberOfLeadingZeros_0f7a4 10 = .ok (.goto 4, 3) := by decide +kernel
theorem dJ6_numberOfLeadingZeros_0f7a4_13 : decode cJ6_numberOfLeadingZeros_0f7a4 13 = .ok (.iconst 0, 1) := by decide +kernel
theorem dJ6_numberOfLeadingZeros_0f7a4_14 : decode cJ6_numberOfLeadingZeros_0f7a4 14 = .ok (.ireturn, 1) := by decide +kernel
theorem dJ6_numberOfLeadingZeros_0f7a4_15 : decode cJ6_numberOfLeadingZeros_0f7a4 15 = .ok (.bipush 31, 2) := by decide +kernel
theorem dJ6_numberOfLeadingZeros_0f7a4_17 : decode cJ6_numberOfLeadingZeros_0f7a4 17 = .ok (.istore_n 1, 1) := by decide +kernel
theorem dJ6_numberOfLeadingZeros_0f7a4_18 : decode cJ6_numberOfLeadingZeros_0f7a4 18 = .ok (.iload_n 0, 1) := by decide +kernel
theorem dJ6_numberOfLeadingZeros_0f7a4_19 : decode cJ6_numberOfLeadingZeros_0f7a4 19 = .ok (.ldc_w 264, 3) := by decide +kernel
theorem dJ6_numberOfLeadingZeros_0f7a4_22 : decode cJ6_numberOfLeadingZeros_0f7a4 22 = .ok (.if_icmp .lt 11, 3) := by decide +kernel
theorem dJ6_numberOfLeadingZeros_0f7a4_25 : decode cJ6_numberOfLeadingZeros_0f7a4 25 = .ok (.iinc 1 (-16), 3) := by decide +kernel
theorem dJ6_numberOfLeadingZeros_0f7a4_28 : decode cJ6_numberOfLeadingZeros_0f7a4 28 = .ok (.iload_n 0, 1) := by decide +kernel
theorem dJ6_numberOfLeadingZeros_0f7a4_29 : decode cJ6_numberOfLeadingZeros_0f7a4 29 = .ok (.bipush 16, 2) := by decide +kernel
theorem dJ6_numberOfLeadingZeros_0f7a4_31 : decode cJ6_numberOfLeadingZeros_0f7a4 31 = .ok (.iushr, 1) := by decide +kernel
theorem dJ6_numberOfLeadingZeros_0f7a4_32 : decode cJ6_numberOfLeadingZeros_0f7a4 32 = .ok (.istore_n 0, 1) := by decide +kernel
theorem dJ6_numberOfLeadingZeros_0f7a4_33 : decode cJ6_numberOfLeadingZeros_0f7a4 33 = .ok (.iload_n 0, 1) := by decide +kernel
theorem dJ6_numberOfLeadingZeros_0f7a4_34 : decode cJ6_numberOfLeadingZeros_0f7a4 34 = .ok (.sipush 256, 3) := by decide +kernel
theorem dJ6_numberOfLeadingZeros_0f7a4_37 : decode cJ6_numberOfLeadingZeros_0f7a4 37 = .ok (.if_icmp .lt 11, 3) := by decide +kernel
theorem dJ6_numberOfLeadingZeros_0f7a4_40 : decode cJ6_numberOfLeadingZeros_0f7a4 40 = .ok (.iinc 1 (-8), 3) := by decide +kernel
theorem dJ6_numberOfLeadingZeros_0f7a4_43 : decode cJ6_numberOfLeadingZeros_0f7a4 43 = .ok (.iload_n 0, 1) := by decide +kernel
theorem dJ6_numberOfLeadingZeros_0f7a4_44 : decode cJ6_numberOfLeadingZeros_0f7a4 44 = .ok (.bipush 8, 2) := by decide +kernel
theorem dJ6_numberOfLeadingZeros_0f7a4_46 : decode cJ6_numberOfLeadingZeros_0f7a4 46 = .ok (.iushr, 1) := by decide +kernel
theorem dJ6_numberOfLeadingZeros_0f7a4_47 : decode cJ6_numberOfLeadingZeros_0f7a4 47 = .ok (.istore_n 0, 1) := by decide +kernel
theorem dJ6_numberOfLeadingZeros_0f7a4_48 : decode cJ6_numberOfLeadingZeros_0f7a4 48 = .ok (.iload_n 0, 1) := by decide +kernel
theorem dJ6_numberOfLeadingZeros_0f7a4_49 : decode cJ6_numberOfLeadingZeros_0f7a4 49 = .ok (.bipush 16, 2) := by decide +kernel
theorem dJ6_numberOfLeadingZeros_0f7a4_51 : decode cJ6_numberOfLeadingZeros_0f7a4 51 = .ok (.if_icmp .lt 10, 3) := by decide +kernel
theorem dJ6_numberOfLeadingZeros_0f7a4_54 : decode cJ6_numberOfLeadingZeros_0f7a4 54 = .ok (.iinc 1 (-4), 3) := by decide +kernel
theorem dJ6_numberOfLeadingZeros_0f7a4_57 : decode cJ6_numberOfLeadingZeros_0f7a4 57 = .ok (.iload_n 0, 1) := by decide +kernel
theorem dJ6_numberOfLeadingZeros_0f7a4_58 : decode cJ6_numberOfLeadingZeros_0f7a4 58 = .ok (.iconst 4, 1) := by decide +kernel
theorem dJ6_numberOfLeadingZeros_0f7a4_59 : decode cJ6_numberOfLeadingZeros_0f7a4 59 = .ok (.iushr, 1) := by decide +kernel
theorem dJ6_numberOfLeadingZeros_0f7a4_60 : decode cJ6_numberOfLeadingZeros_0f7a4 60 = .ok (.istore_n 0, 1) := by decide +kernel
theorem dJ6_numberOfLeadingZeros_0f7a4_61 : decode cJ6_numberOfLeadingZeros_0f7a4 61 = .ok (.iload_n 0, 1) := by decide +kernel
theorem dJ6_numberOfLeadingZeros_0f7a4_62 : decode cJ6_numberOfLeadingZeros_0f7a4 62 = .ok (.iconst 4, 1) := by decide +kernel
theorem dJ6_numberOfLeadingZeros_0f7a4_63 : decode cJ6_numberOfLeadingZeros_0f7a4 63 = .ok (.if_icmp .lt 10, 3) := by decide +kernel
theorem dJ6_numberOfLeadingZeros_0f7a4_66 : decode cJ6_numberOfLeadingZeros_0f7a4 66 = .ok (.iinc 1 (-2), 3) := by decide +kernel
theorem dJ6_numberOfLeadingZeros_0f7a4_69 : decode cJ6_numberOfLeadingZeros_0f7a4 69 = .ok (.iload_n 0, 1) := by decide +kernel
theorem dJ6_numberOfLeadingZeros_0f7a4_70 : decode cJ6_numberOfLeadingZeros_0f7a4 70 = .ok (.iconst 2, 1) := by decide +kernel
theorem dJ6_numberOfLeadingZeros_0f7a4_71 : decode cJ6_numberOfLeadingZeros_0f7a4 71 = .ok (.iushr, 1) := by decide +kernel
theorem dJ6_numberOfLeadingZeros_0f7a4_72 : decode cJ6_numberOfLeadingZeros_0f7a4 72 = .ok (.istore_n 0, 1) := by decide +kernel
theorem dJ6_numberOfLeadingZeros_0f7a4_73 : decode cJ6_numberOfLeadingZeros_0f7a4 73 = .ok (.iload_n 1, 1) := by decide +kernel
theorem dJ6_numberOfLeadingZeros_0f7a4_74 : decode cJ6_numberOfLeadingZeros_0f7a4 74 = .ok (.iload_n 0, 1) := by decide +kernel
theorem dJ6_numberOfLeadingZeros_0f7a4_75 : decode cJ6_numberOfLeadingZeros_0f7a4 75 = .ok (.iconst 1, 1) := by decide +kernel
theorem dJ6_numberOfLeadingZeros_0f7a4_76 : decode cJ6_numberOfLeadingZeros_0f7a4 76 = .ok (.iushr, 1) := by decide +kernel
theorem dJ6_numberOfLeadingZeros_0f7a4_77 : decode cJ6_numberOfLeadingZeros_0f7a4 77 = .ok (.isub, 1) := by decide +kernel
theorem dJ6_numberOfLeadingZeros_0f7a4_78 : decode cJ6_numberOfLeadingZeros_0f7a4 78 = .ok (.ireturn, 1) := by decide +kernel
theorem dJ13_numberOfLeadingZeros_95d88_0 : decode cJ13_numberOfLeadingZeros_95d88 0 = .ok (.lload_n 0, 1) := by decide +kernel
theorem dJ13_numberOfLeadingZeros_95d88_1 : decode cJ13_numberOfLeadingZeros_95d88 1 = .ok (.bipush 32, 2) := by decide +kernel
theorem dJ13_numberOfLeadingZeros_95d88_3 : decode cJ13_numberOfLeadingZeros_95d88 3 = .ok (.lushr, 1) := by decide +kernel
theorem dJ13_numberOfLeadingZeros_95d88_4 : decode cJ13_numberOfLeadingZeros_95d88 4 = .ok (.l2i, 1) := by decide +kernel
theorem dJ13_numberOfLeadingZeros_95d88_5 : decode cJ13_numberOfLeadingZeros_95d88 5 = .ok (.istore_n 2, 1) := by decide +kernel
theorem dJ13_numberOfLeadingZeros_95d88_6 : decode cJ13_numberOfLeadingZeros_95d88 6 = .ok (.iload_n 2, 1) := by decide +kernel
theorem dJ13_numberOfLeadingZeros_95d88_7 : decode cJ13_numberOfLeadingZeros_95d88 7 = .ok (.ifCond .ne 14, 3) := by decide +kernel
theorem dJ13_numberOfLeadingZeros_95d88_10 : decode cJ13_numberOfLeadingZeros_95d88 10 = .ok (.bipush 32, 2) := by decide +kernel
theorem dJ13_numberOfLeadingZeros_95d88_12 : decode cJ13_numberOfLeadingZeros_95d88 12 = .ok (.lload_n 0, 1) := by decide +kernel
theorem dJ13_numberOfLeadingZeros_95d88_13 : decode cJ13_numberOfLeadingZeros_95d88 13 = .ok (.l2i, 1) := by decide +kernel
theorem dJ13_numberOfLeadingZeros_95d88_14 : decode cJ13_numberOfLeadingZeros_95d88 14 = .ok (.invokestatic 308, 3) := by decide +kernel
theorem dJ13_numberOfLeadingZeros_95d88_17 : decode cJ13_numberOfLeadingZeros_95d88 17 = .ok (.iadd, 1) := by decide +kernel
theorem dJ13_numberOfLeadingZeros_95d88_18 : decode cJ13_numberOfLeadingZeros_95d88 18 = .ok (.goto 7, 3) := by decide +kernel
theorem dJ13_numberOfLeadingZeros_95d88_21 : decode cJ13_numberOfLeadingZeros_95d88 21 = .ok (.iload_n 2, 1) := by decide +kernel
theorem dJ13_numberOfLeadingZeros_95d88_22 : decode cJ13_numberOfLeadingZeros_95d88 22 = .ok (.invokestatic 308, 3) := by decide +kernel
theorem dJ13_numberOfLeadingZeros_95d88_25 : decode cJ13_numberOfLeadingZeros_95d88 25 = .ok (.ireturn, 1) := by decide +kernel
theorem dJ9_abs_0f7a4_0 : decode cJ9_abs_0f7a4 0 = .ok (.iload_n 0, 1) := by decide +kernel
theorem dJ9_abs_0f7a4_1 : decode cJ9_abs_0f7a4 1 = .ok (.ifCond .ge 8, 3) := by decide +kernel
theorem dJ9_abs_0f7a4_4 : decode cJ9_abs_0f7a4 4 = .ok (.iload_n 0, 1) := by decide +kernel
theorem dJ9_abs_0f7a4_5 : decode cJ9_abs_0f7a4 5 = .ok (.ineg, 1) := by decide +kernel
theorem dJ9_abs_0f7a4_6 : decode cJ9_abs_0f7a4 6 = .ok (.goto 4, 3) := by decide +kernel
theorem dJ9_abs_0f7a4_9 : decode cJ9_abs_0f7a4 9 = .ok (.iload_n 0, 1) := by decide +kernel
theorem dJ9_abs_0f7a4_10 : decode cJ9_abs_0f7a4 10 = .ok (.ireturn, 1) := by decide +kernel
theorem dJ9_abs_067f4_0 : decode cJ9_abs_067f4 0 = .ok (.lload_n 0, 1) := by decide +kernel
theorem dJ9_abs_067f4_1 : decode cJ9_abs_067f4 1 = .ok (.lconst 0, 1) := by decide +kernel
theorem dJ9_abs_067f4_2 : decode cJ9_abs_067f4 2 = .ok (.lcmp, 1) := by decide +kernel
theorem dJ9_abs_067f4_3 : decode cJ9_abs_067f4 3 = .ok (.ifCond .ge 8, 3) := by decide +kernel
theorem dJ9_abs_067f4_6 : decode cJ9_abs_067f4 6 = .ok (.lload_n 0, 1) := by decide +kernel
theorem dJ9_abs_067f4_7 : decode cJ9_abs_067f4 7 = .ok (.lneg, 1) := by decide +kernel
theorem dJ9_abs_067f4_8 : decode cJ9_abs_067f4 8 = .ok (.goto 4, 3) := by decide +kernel
theorem dJ9_abs_067f4_11 : decode cJ9_abs_067f4 11 = .ok (.lload_n 0, 1) := by decide +kernel
theorem dJ9_abs_067f4_12 : decode cJ9_abs_067f4 12 = .ok (.lreturn, 1) := by decide +kernel
theorem dJ9_max_7cf53_0 : decode cJ9_max_7cf53 0 = .ok (.iload_n 0, 1) := by decide +kernel
theorem dJ9_max_7cf53_1 : decode cJ9_max_7cf53 1 = .ok (.iload_n 1, 1) := by decide +kernel
theorem dJ9_max_7cf53_2 : decode cJ9_max_7cf53 2 = .ok (.if_icmp .lt 7, 3) := by decide +kernel
theorem dJ9_max_7cf53_5 : decode cJ9_max_7cf53 5 = .ok (.iload_n 0, 1) := by decide +kernel
theorem dJ9_max_7cf53_6 : decode cJ9_max_7cf53 6 = .ok (.goto 4, 3) := by decide +kernel
theorem dJ9_max_7cf53_9 : decode cJ9_max_7cf53 9 = .ok (.iload_n 1, 1) := by decide +kernel
theorem dJ9_max_7cf53_10 : decode cJ9_max_7cf53 10 = .ok (.ireturn, 1) := by decide +kernel
theorem dJ9_max_f86c9_0 : decode cJ9_max_f86c9 0 = .ok (.lload_n 0, 1) := by decide +kernel
theorem dJ9_max_f86c9_1 : decode cJ9_max_f86c9 1 = .ok (.lload_n 2, 1) := by decide +kernel
theorem dJ9_max_f86c9_2 : decode cJ9_max_f86c9 2 = .ok (.lcmp, 1) := by decide +kernel
theorem dJ9_max_f86c9_3 : decode cJ9_max_f86c9 3 = .ok (.ifCond .lt 7, 3) := by decide +kernel
theorem dJ9_max_f86c9_6 : decode cJ9_max_f86c9 6 = .ok (.lload_n 0, 1) := by decide +kernel
theorem dJ9_max_f86c9_7 : decode cJ9_max_f86c9 7 = .ok (.goto 4, 3) := by decide +kernel
theorem dJ9_max_f86c9_10 : decode cJ9_max_f86c9 10 = .ok (.lload_n 2, 1) := by decide +kernel
theorem dJ9_max_f86c9_11 : decode cJ9_max_f86c9 11 = .ok (.lreturn, 1) := by decide +kernel
theorem dJ9_min_7cf53_0 : decode cJ9_min_7cf53 0 = .ok (.iload_n 0, 1) := by decide +kernel
theorem dJ9_min_7cf53_1 : decode cJ9_min_7cf53 1 = .ok (.iload_n 1, 1) := by decide +kernel
theorem dJ9_min_7cf53_2 : decode cJ9_min_7cf53 2 = .ok (.if_icmp .gt 7, 3) := by decide +kernel
theorem dJ9_min_7cf53_5 : decode cJ9_min_7cf53 5 = .ok (.iload_n 0, 1) := by decide +kernel
theorem dJ9_min_7cf53_6 : decode cJ9_min_7cf53 6 = .ok (.goto 4, 3) := by decide +kernel
theorem dJ9_min_7cf53_9 : decode cJ9_min_7cf53 9 = .ok (.iload_n 1, 1) := by decide +kernel
theorem dJ9_min_7cf53_10 : decode cJ9_min_7cf53 10 = .ok (.ireturn, 1) := by decide +kernel
theorem dJ9_min_f86c9_0 : decode cJ9_min_f86c9 0 = .ok (.lload_n 0, 1) := by decide +kernel
theorem dJ9_min_f86c9_1 : decode cJ9_min_f86c9 1 = .ok (.lload_n 2, 1) := by decide +kernel
theorem dJ9_min_f86c9_2 : decode cJ9_min_f86c9 2 = .ok (.lcmp, 1) := by decide +kernel
theorem dJ9_min_f86c9_3 : decode cJ9_min_f86c9 3 = .ok (.ifCond .gt 7, 3) := by decide +kernel
theorem dJ9_min_f86c9_6 : decode cJ9_min_f86c9 6 = .ok (.lload_n 0, 1) := by decide +kernel
theorem dJ9_min_f86c9_7 : decode cJ9_min_f86c9 7 = .ok (.goto 4, 3) := by decide +kernel
theorem dJ9_min_f86c9_10 : decode cJ9_min_f86c9 10 = .ok (.lload_n 2, 1) := by decide +kernel
theorem dJ9_min_f86c9_11 : decode cJ9_min_f86c9 11 = .ok (.lreturn, 1) := by decide +kernel
theorem dL_set_0 : decode cL_set 0 = .ok (.aload 5, 2) := by decide +kernel
theorem dL_set_2 : decode cL_set 2 = .ok (.iconst 0, 1) := by decide +kernel
theorem dL_set_3 : decode cL_set 3 = .ok (.aload_n 0, 1) := by decide +kernel
theorem dL_set_4 : decode cL_set 4 = .ok (.iload_n 1, 1) := by decide +kernel
theorem dL_set_5 : decode cL_set 5 = .ok (.lload_n 2, 1) := by decide +kernel
theorem dL_set_6 : decode cL_set 6 = .ok (.iload 4, 2) := by decide +kernel
theorem dL_set_8 : decode cL_set 8 = .ok (.invokevirtual 7, 3) := by decide +kernel
theorem dL_set_11 : decode cL_set 11 = .ok (.i2l, 1) := by decide +kernel
theorem dL_set_12 : decode cL_set 12 = .ok (.lastore, 1) := by decide +kernel
theorem dL_set_13 : decode cL_set 13 = .ok (.goto 7, 3) := by decide +kernel
theorem dL_set_16 : decode cL_set 16 = .ok (.astore 6, 2) := by decide +kernel
theorem dL_set_18 : decode cL_set 18 = .ok (.iconst 1, 1) := by decide +kernel
theorem dL_set_19 : decode cL_set 19 = .ok (.ireturn, 1) := by decide +kernel
theorem dL_set_20 : decode cL_set 20 = .ok (.iconst 0, 1) := by decide +kernel
theorem dL_set_21 : decode cL_set 21 = .ok (.ireturn, 1) := by decide +kernel
theorem dL_combine_0 : decode cL_combine 0 = .ok (.aload 5, 2) := by decide +kernel
theorem dL_combine_2 : decode cL_combine 2 = .ok (.iconst 0, 1) := by decide +kernel
theorem dL_combine_3 : decode cL_combine 3 = .ok (.aload_n 0, 1) := by decide +kernel
theorem dL_combine_4 : decode cL_combine 4 = .ok (.iload_n 1, 1) := by decide +kernel
theorem dL_combine_5 : decode cL_combine 5 = .ok (.iload_n 2, 1) := by decide +kernel
theorem dL_combine_6 : decode cL_combine 6 = .ok (.iload_n 3, 1) := by decide +kernel
theorem dL_combine_7 : decode cL_combine 7 = .ok (.iload 4, 2) := by decide +kernel
theorem dL_combine_9 : decode cL_combine 9 = .ok (.invokevirtual 15, 3) := by decide +kernel
theorem dL_combine_12 : decode cL_combine 12 = .ok (.i2l, 1) := by decide +kernel
theorem dL_combine_13 : decode cL_combine 13 = .ok (.lastore, 1) := by decide +kernel
theorem dL_combine_14 : decode cL_combine 14 = .ok (.goto 7, 3) := by decide +kernel
theorem dL_combine_17 : decode cL_combine 17 = .ok (.astore 6, 2) := by decide +kernel
theorem dL_combine_19 : decode cL_combine 19 = .ok (.iconst 1, 1) := by decide +kernel
theorem dL_combine_20 : decode cL_combine 20 = .ok (.ireturn, 1) := by decide +kernel
theorem dL_combine_21 : decode cL_combine 21 = .ok (.iconst 0, 1) := by decide +kernel
theorem dL_combine_22 : decode cL_combine 22 = .ok (.ireturn, 1) := by decide +kernel
theorem dL_change_0 : decode cL_change 0 = .ok (.aload 4, 2) := by decide +kernel
theorem dL_change_2 : decode cL_change 2 = .ok (.iconst 0, 1) := by decide +kernel
theorem dL_change_3 : decode cL_change 3 = .ok (.aload_n 0, 1) := by decide +kernel
theorem dL_change_4 : decode cL_change 4 = .ok (.iload_n 1, 1) := by decide +kernel
theorem dL_change_5 : decode cL_change 5 = .ok (.iload_n 2, 1) := by decide +kernel
theorem dL_change_6 : decode cL_change 6 = .ok (.iload_n 3, 1) := by decide +kernel
theorem dL_change_7 : decode cL_change 7 = .ok (.invokevirtual 19, 3) := by decide +kernel
theorem dL_change_10 : decode cL_change 10 = .ok (.i2l, 1) := by decide +kernel
theorem dL_change_11 : decode cL_change 11 = .ok (.lastore, 1) := by decide +kernel
theorem dL_change_12 : decode cL_change 12 = .ok (.goto 7, 3) := by decide +kernel
theorem dL_change_15 : decode cL_change 15 = .ok (.astore 5, 2) := by decide +kernel
theorem dL_change_17 : decode cL_change 17 = .ok (.iconst 1, 1) := by decide +kernel
theorem dL_change_18 : decode cL_change 18 = .ok (.ireturn, 1) := by decide +kernel
theorem dL_change_19 : decode cL_change 19 = .ok (.iconst 0, 1) := by decide +kernel
theorem dL_change_20 : decode cL_change 20 = .ok (.ireturn, 1) := by decide +kernel
theorem dL_power_0 : decode cL_power 0 = .ok (.aload 4, 2) := by decide +kernel
theorem dL_power_2 : decode cL_power 2 = .ok (.iconst 0, 1) := by decide +kernel
theorem dL_power_3 : decode cL_power 3 = .ok (.aload_n 0, 1) := by decide +kernel
theorem dL_power_4 : decode cL_power 4 = .ok (.iload_n 1, 1) := by decide +kernel
theorem dL_power_5 : decode cL_power 5 = .ok (.iload_n 2, 1) := by decide +kernel
theorem dL_power_6 : decode cL_power 6 = .ok (.iload_n 3, 1) := by decide +kernel
theorem dL_power_7 : decode cL_power 7 = .ok (.invokevirtual 23, 3) := by decide +kernel
theorem dL_power_10 : decode cL_power 10 = .ok (.i2l, 1) := by decide +kernel
theorem dL_power_11 : decode cL_power 11 = .ok (.lastore, 1) := by decide +kernel
theorem dL_power_12 : decode cL_power 12 = .ok (.goto 7, 3) := by decide +kernel
theorem dL_power_15 : decode cL_power 15 = .ok (.astore 5, 2) := by decide +kernel
theorem dL_power_17 : decode cL_power 17 = .ok (.iconst 1, 1) := by decide +kernel
theorem dL_power_18 : decode cL_power 18 = .ok (.ireturn, 1) := by decide +kernel
theorem dL_power_19 : decode cL_power 19 = .ok (.iconst 0, 1) := by decide +kernel
theorem dL_power_20 : decode cL_power 20 = .ok (.ireturn, 1) := by decide +kernel
theorem dL_order_0 : decode cL_order 0 = .ok (.aload_n 3, 1) := by decide +kernel
theorem dL_order_1 : decode cL_order 1 = .ok (.iconst 0, 1) := by decide +kernel
theorem dL_order_2 : decode cL_order 2 = .ok (.aload_n 0, 1) := by decide +kernel
theorem dL_order_3 : decode cL_order 3 = .ok (.iload_n 1, 1) := by decide +kernel
theorem dL_order_4 : decode cL_order 4 = .ok (.iload_n 2, 1) := by decide +kernel
theorem dL_order_5 : decode cL_order 5 = .ok (.invokevirtual 26, 3) := by decide +kernel
theorem dL_order_8 : decode cL_order 8 = .ok (.i2l, 1) := by decide +kernel
theorem dL_order_9 : decode cL_order 9 = .ok (.lastore, 1) := by decide +kernel
theorem dL_order_10 : decode cL_order 10 = .ok (.goto 7, 3) := by decide +kernel
theorem dL_order_13 : decode cL_order 13 = .ok (.astore 4, 2) := by decide +kernel
theorem dL_order_15 : decode cL_order 15 = .ok (.iconst 1, 1) := by decide +kernel
theorem dL_order_16 : decode cL_order 16 = .ok (.ireturn, 1) := by decide +kernel
theorem dL_order_17 : decode cL_order 17 = .ok (.iconst 0, 1) := by decide +kernel
theorem dL_order_18 : decode cL_order 18 = .ok (.ireturn, 1) := by decide +kernel
theorem dL_digits_0 : decode cL_digits 0 = .ok (.aload_n 2, 1) := by decide +kernel
theorem dL_digits_1 : decode cL_digits 1 = .ok (.iconst 0, 1) := by decide +kernel
theorem dL_digits_2 : decode cL_digits 2 = .ok (.aload_n 0, 1) := by decide +kernel
theorem dL_digits_3 : decode cL_digits 3 = .ok (.iload_n 1, 1) := by decide +kernel
theorem dL_digits_4 : decode cL_digits 4 = .ok (.invokevirtual 30, 3) := by decide +kernel
theorem dL_digits_7 : decode cL_digits 7 = .ok (.lastore, 1) := by decide +kernel
theorem dL_digits_8 : decode cL_digits 8 = .ok (.goto 6, 3) := by decide +kernel
theorem dL_digits_11 : decode cL_digits 11 = .ok (.astore_n 3, 1) := by decide +kernel
theorem dL_digits_12 : decode cL_digits 12 = .ok (.iconst 1, 1) := by decide +kernel
theorem dL_digits_13 : decode cL_digits 13 = .ok (.ireturn, 1) := by decide +kernel
theorem dL_digits_14 : decode cL_digits 14 = .ok (.iconst 0, 1) := by decide +kernel
theorem dL_digits_15 : decode cL_digits 15 = .ok (.ireturn, 1) := by decide +kernel
theorem dL_exponent_0 : decode cL_exponent 0 = .ok (.aload_n 2, 1) := by decide +kernel
theorem dL_exponent_1 : decode cL_exponent 1 = .ok (.iconst 0, 1) := by decide +kernel
theorem dL_exponent_2 : decode cL_exponent 2 = .ok (.aload_n 0, 1) := by decide +kernel
theorem dL_exponent_3 : decode cL_exponent 3 = .ok (.iload_n 1, 1) := by decide +kernel
theorem dL_exponent_4 : decode cL_exponent 4 = .ok (.invokevirtual 34, 3) := by decide +kernel
theorem dL_exponent_7 : decode cL_exponent 7 = .ok (.i2l, 1) := by decide +kernel
theorem dL_exponent_8 : decode cL_exponent 8 = .ok (.lastore, 1) := by decide +kernel
theorem dL_exponent_9 : decode cL_exponent 9 = .ok (.goto 6, 3) := by decide +kernel
theorem dL_exponent_12 : decode cL_exponent 12 = .ok (.astore_n 3, 1) := by decide +kernel
theorem dL_exponent_13 : decode cL_exponent 13 = .ok (.iconst 1, 1) := by decide +kernel
theorem dL_exponent_14 : decode cL_exponent 14 = .ok (.ireturn, 1) := by decide +kernel
theorem dL_exponent_15 : decode cL_exponent 15 = .ok (.iconst 0, 1) := by decide +kernel
theorem dL_exponent_16 : decode cL_exponent 16 = .ok (.ireturn, 1) := by decide +kernel
theorem dL_value_0 : decode cL_value 0 = .ok (.aload_n 2, 1) := by decide +kernel
theorem dL_value_1 : decode cL_value 1 = .ok (.iconst 0, 1) := by decide +kernel
theorem dL_value_2 : decode cL_value 2 = .ok (.aload_n 0, 1) := by decide +kernel
theorem dL_value_3 : decode cL_value 3 = .ok (.iload_n 1, 1) := by decide +kernel
theorem dL_value_4 : decode cL_value 4 = .ok (.invokevirtual 38, 3) := by decide +kernel
theorem dL_value_7 : decode cL_value 7 = .ok (.dastore, 1) := by decide +kernel
theorem dL_value_8 : decode cL_value 8 = .ok (.goto 6, 3) := by decide +kernel
theorem dL_value_11 : decode cL_value 11 = .ok (.astore_n 3, 1) := by decide +kernel
theorem dL_value_12 : decode cL_value 12 = .ok (.iconst 1, 1) := by decide +kernel
theorem dL_value_13 : decode cL_value 13 = .ok (.ireturn, 1) := by decide +kernel
theorem dL_value_14 : decode cL_value 14 = .ok (.iconst 0, 1) := by decide +kernel
theorem dL_value_15 : decode cL_value 15 = .ok (.ireturn, 1) := by decide +kernel
theorem dL_whole_0 : decode cL_whole 0 = .ok (.aload_n 2, 1) := by decide +kernel
theorem dL_whole_1 : decode cL_whole 1 = .ok (.iconst 0, 1) := by decide +kernel
theorem dL_whole_2 : decode cL_whole 2 = .ok (.aload_n 0, 1) := by decide +kernel
theorem dL_whole_3 : decode cL_whole 3 = .ok (.iload_n 1, 1) := by decide +kernel
theorem dL_whole_4 : decode cL_whole 4 = .ok (.invokevirtual 42, 3) := by decide +kernel
theorem dL_whole_7 : decode cL_whole 7 = .ok (.lastore, 1) := by decide +kernel
theorem dL_whole_8 : decode cL_whole 8 = .ok (.goto 9, 3) := by decide +kernel
theorem dL_whole_11 : decode cL_whole 11 = .ok (.astore_n 3, 1) := by decide +kernel
theorem dL_whole_12 : decode cL_whole 12 = .ok (.iconst 1, 1) := by decide +kernel
theorem dL_whole_13 : decode cL_whole 13 = .ok (.ireturn, 1) := by decide +kernel
theorem dL_whole_14 : decode cL_whole 14 = .ok (.astore_n 3, 1) := by decide +kernel
theorem dL_whole_15 : decode cL_whole 15 = .ok (.iconst 2, 1) := by decide +kernel
theorem dL_whole_16 : decode cL_whole 16 = .ok (.ireturn, 1) := by decide +kernel
theorem dL_whole_17 : decode cL_whole 17 = .ok (.iconst 0, 1) := by decide +kernel
theorem dL_whole_18 : decode cL_whole 18 = .ok (.ireturn, 1) := by decide +kernel
theorem dL_law_0 : decode cL_law 0 = .ok (.new 8, 3) := by decide +kernel
theorem dL_law_3 : decode cL_law 3 = .ok (.dup, 1) := by decide +kernel
theorem dL_law_4 : decode cL_law 4 = .ok (.invokespecial 47, 3) := by decide +kernel
theorem dL_law_7 : decode cL_law 7 = .ok (.astore_n 1, 1) := by decide +kernel
theorem dL_law_8 : decode cL_law 8 = .ok (.new 48, 3) := by decide +kernel
theorem dL_law_11 : decode cL_law 11 = .ok (.dup, 1) := by decide +kernel
theorem dL_law_12 : decode cL_law 12 = .ok (.invokespecial 50, 3) := by decide +kernel
theorem dL_law_15 : decode cL_law 15 = .ok (.astore_n 2, 1) := by decide +kernel
theorem dL_law_16 : decode cL_law 16 = .ok (.iconst 1, 1) := by decide +kernel
theorem dL_law_17 : decode cL_law 17 = .ok (.newarray .long, 2) := by decide +kernel
theorem dL_law_19 : decode cL_law 19 = .ok (.astore_n 3, 1) := by decide +kernel
theorem dL_law_20 : decode cL_law 20 = .ok (.iconst 1, 1) := by decide +kernel
theorem dL_law_21 : decode cL_law 21 = .ok (.newarray .double, 2) := by decide +kernel
theorem dL_law_23 : decode cL_law 23 = .ok (.astore 4, 2) := by decide +kernel
theorem dL_law_25 : decode cL_law 25 = .ok (.iconst 0, 1) := by decide +kernel
theorem dL_law_26 : decode cL_law 26 = .ok (.istore 5, 2) := by decide +kernel
theorem dL_law_28 : decode cL_law 28 = .ok (.iload 5, 2) := by decide +kernel
theorem dL_law_30 : decode cL_law 30 = .ok (.aload_n 0, 1) := by decide +kernel
theorem dL_law_31 : decode cL_law 31 = .ok (.arraylength, 1) := by decide +kernel
theorem dL_law_32 : decode cL_law 32 = .ok (.iconst 5, 1) := by decide +kernel
theorem dL_law_33 : decode cL_law 33 = .ok (.isub, 1) := by decide +kernel
theorem dL_law_34 : decode cL_law 34 = .ok (.if_icmp .gt 743, 3) := by decide +kernel
theorem dL_law_37 : decode cL_law 37 = .ok (.aload_n 0, 1) := by decide +kernel
theorem dL_law_38 : decode cL_law 38 = .ok (.iload 5, 2) := by decide +kernel
theorem dL_law_40 : decode cL_law 40 = .ok (.iaload, 1) := by decide +kernel
theorem dL_law_41 : decode cL_law 41 = .ok (.bipush 15, 2) := by decide +kernel
theorem dL_law_43 : decode cL_law 43 = .ok (.iand, 1) := by decide +kernel
theorem dL_law_44 : decode cL_law 44 = .ok (.tableswitch 727 0 8 #[52, 164, 256, 336, 416, 484, 539, 595, 672], 52) := by decide +kernel
theorem dL_law_96 : decode cL_law 96 = .ok (.aload_n 1, 1) := by decide +kernel
theorem dL_law_97 : decode cL_law 97 = .ok (.aload_n 0, 1) := by decide +kernel
theorem dL_law_98 : decode cL_law 98 = .ok (.iload 5, 2) := by decide +kernel
theorem dL_law_100 : decode cL_law 100 = .ok (.iconst 1, 1) := by decide +kernel
theorem dL_law_101 : decode cL_law 101 = .ok (.iadd, 1) := by decide +kernel
theorem dL_law_102 : decode cL_law 102 = .ok (.iaload, 1) := by decide +kernel
theorem dL_law_103 : decode cL_law 103 = .ok (.aload_n 0, 1) := by decide +kernel
theorem dL_law_104 : decode cL_law 104 = .ok (.iload 5, 2) := by decide +kernel
theorem dL_law_106 : decode cL_law 106 = .ok (.iconst 2, 1) := by decide +kernel
theorem dL_law_107 : decode cL_law 107 = .ok (.iadd, 1) := by decide +kernel
theorem dL_law_108 : decode cL_law 108 = .ok (.iaload, 1) := by decide +kernel
theorem dL_law_109 : decode cL_law 109 = .ok (.i2l, 1) := by decide +kernel
theorem dL_law_110 : decode cL_law 110 = .ok (.bipush 32, 2) := by decide +kernel
theorem dL_law_112 : decode cL_law 112 = .ok (.lshl, 1) := by decide +kernel
theorem dL_law_113 : decode cL_law 113 = .ok (.aload_n 0, 1) := by decide +kernel
theorem dL_law_114 : decode cL_law 114 = .ok (.iload 5, 2) := by decide +kernel
theorem dL_law_116 : decode cL_law 116 = .ok (.iconst 3, 1) := by decide +kernel
theorem dL_law_117 : decode cL_law 117 = .ok (.iadd, 1) := by decide +kernel
theorem dL_law_118 : decode cL_law 118 = .ok (.iaload, 1) := by decide +kernel
theorem dL_law_119 : decode cL_law 119 = .ok (.i2l, 1) := by decide +kernel
theorem dL_law_120 : decode cL_law 120 = .ok (.ldc2_w 51, 3) := by decide +kernel
theorem dL_law_123 : decode cL_law 123 = .ok (.land, 1) := by decide +kernel
theorem dL_law_124 : decode cL_law 124 = .ok (.lor, 1) := by decide +kernel
theorem dL_law_125 : decode cL_law 125 = .ok (.aload_n 0, 1) := by decide +kernel
theorem dL_law_126 : decode cL_law 126 = .ok (.iload 5, 2) := by decide +kernel
theorem dL_law_128 : decode cL_law 128 = .ok (.iconst 4, 1) := by decide +kernel
theorem dL_law_129 : decode cL_law 129 = .ok (.iadd, 1) := by decide +kernel
theorem dL_law_130 : decode cL_law 130 = .ok (.iaload, 1) := by decide +kernel
theorem dL_law_131 : decode cL_law 131 = .ok (.aload_n 3, 1) := by decide +kernel
theorem dL_law_132 : decode cL_law 132 = .ok (.invokestatic 53, 3) := by decide +kernel
theorem dL_law_135 : decode cL_law 135 = .ok (.istore 6, 2) := by decide +kernel
theorem dL_law_137 : decode cL_law 137 = .ok (.aload_n 2, 1) := by decide +kernel
theorem dL_law_138 : decode cL_law 138 = .ok (.aload_n 0, 1) := by decide +kernel
theorem dL_law_139 : decode cL_law 139 = .ok (.iload 5, 2) := by decide +kernel
theorem dL_law_141 : decode cL_law 141 = .ok (.iconst 1, 1) := by decide +kernel
theorem dL_law_142 : decode cL_law 142 = .ok (.iadd, 1) := by decide +kernel
theorem dL_law_143 : decode cL_law 143 = .ok (.iaload, 1) := by decide +kernel
theorem dL_law_144 : decode cL_law 144 = .ok (.aload_n 0, 1) := by decide +kernel
theorem dL_law_145 : decode cL_law 145 = .ok (.iload 5, 2) := by decide +kernel
theorem dL_law_147 : decode cL_law 147 = .ok (.iconst 2, 1) := by decide +kernel
theorem dL_law_148 : decode cL_law 148 = .ok (.iadd, 1) := by decide +kernel
theorem dL_law_149 : decode cL_law 149 = .ok (.iaload, 1) := by decide +kernel
theorem dL_law_150 : decode cL_law 150 = .ok (.i2l, 1) := by decide +kernel
theorem dL_law_151 : decode cL_law 151 = .ok (.bipush 32, 2) := by decide +kernel
theorem dL_law_153 : decode cL_law 153 = .ok (.lshl, 1) := by decide +kernel
theorem dL_law_154 : decode cL_law 154 = .ok (.aload_n 0, 1) := by decide +kernel
theorem dL_law_155 : decode cL_law 155 = .ok (.iload 5, 2) := by decide +kernel
theorem dL_law_157 : decode cL_law 157 = .ok (.iconst 3, 1) := by decide +kernel
theorem dL_law_158 : decode cL_law 158 = .ok (.iadd, 1) := by decide +kernel
theorem dL_law_159 : decode cL_law 159 = .ok (.iaload, 1) := by decide +kernel
theorem dL_law_160 : decode cL_law 160 = .ok (.i2l, 1) := by decide +kernel
theorem dL_law_161 : decode cL_law 161 = .ok (.ldc2_w 51, 3) := by decide +kernel
theorem dL_law_164 : decode cL_law 164 = .ok (.land, 1) := by decide +kernel
theorem dL_law_165 : decode cL_law 165 = .ok (.lor, 1) := by decide +kernel
theorem dL_law_166 : decode cL_law 166 = .ok (.aload_n 0, 1) := by decide +kernel
theorem dL_law_167 : decode cL_law 167 = .ok (.iload 5, 2) := by decide +kernel
theorem dL_law_169 : decode cL_law 169 = .ok (.iconst 4, 1) := by decide +kernel
theorem dL_law_170 : decode cL_law 170 = .ok (.iadd, 1) := by decide +kernel
theorem dL_law_171 : decode cL_law 171 = .ok (.iaload, 1) := by decide +kernel
theorem dL_law_172 : decode cL_law 172 = .ok (.invokevirtual 58, 3) := by decide +kernel
theorem dL_law_175 : decode cL_law 175 = .ok (.istore 7, 2) := by decide +kernel
theorem dL_law_177 : decode cL_law 177 = .ok (.aload_n 2, 1) := by decide +kernel
theorem dL_law_178 : decode cL_law 178 = .ok (.invokevirtual 59, 3) := by decide +kernel
theorem dL_law_181 : decode cL_law 181 = .ok (.iload 6, 2) := by decide +kernel
theorem dL_law_183 : decode cL_law 183 = .ok (.if_icmp .eq 5, 3) := by decide +kernel
theorem dL_law_186 : decode cL_law 186 = .ok (.iconst 0, 1) := by decide +kernel
theorem dL_law_187 : decode cL_law 187 = .ok (.ireturn, 1) := by decide +kernel
theorem dL_law_188 : decode cL_law 188 = .ok (.iload 6, 2) := by decide +kernel
theorem dL_law_190 : decode cL_law 190 = .ok (.ifCond .ne 15, 3) := by decide +kernel
theorem dL_law_193 : decode cL_law 193 = .ok (.aload_n 3, 1) := by decide +kernel
theorem dL_law_194 : decode cL_law 194 = .ok (.iconst 0, 1) := by decide +kernel
theorem dL_law_195 : decode cL_law 195 = .ok (.laload, 1) := by decide +kernel
theorem dL_law_196 : decode cL_law 196 = .ok (.iload 7, 2) := by decide +kernel
theorem dL_law_198 : decode cL_law 198 = .ok (.i2l, 1) := by decide +kernel
theorem dL_law_199 : decode cL_law 199 = .ok (.lcmp, 1) := by decide +kernel
theorem dL_law_200 : decode cL_law 200 = .ok (.ifCond .eq 5, 3) := by decide +kernel
theorem dL_law_203 : decode cL_law 203 = .ok (.iconst 0, 1) := by decide +kernel
theorem dL_law_204 : decode cL_law 204 = .ok (.ireturn, 1) := by decide +kernel
theorem dL_law_205 : decode cL_law 205 = .ok (.goto 566, 3) := by decide +kernel
theorem dL_law_208 : decode cL_law 208 = .ok (.aload_n 1, 1) := by decide +kernel
theorem dL_law_209 : decode cL_law 209 = .ok (.aload_n 0, 1) := by decide +kernel
theorem dL_law_210 : decode cL_law 210 = .ok (.iload 5, 2) := by decide +kernel
theorem dL_law_212 : decode cL_law 212 = .ok (.iconst 1, 1) := by decide +kernel
theorem dL_law_213 : decode cL_law 213 = .ok (.iadd, 1) := by decide +kernel
theorem dL_law_214 : decode cL_law 214 = .ok (.iaload, 1) := by decide +kernel
theorem dL_law_215 : decode cL_law 215 = .ok (.aload_n 0, 1) := by decide +kernel
theorem dL_law_216 : decode cL_law 216 = .ok (.iload 5, 2) := by decide +kernel
theorem dL_law_218 : decode cL_law 218 = .ok (.iconst 2, 1) := by decide +kernel
theorem dL_law_219 : decode cL_law 219 = .ok (.iadd, 1) := by decide +kernel
theorem dL_law_220 : decode cL_law 220 = .ok (.iaload, 1) := by decide +kernel
theorem dL_law_221 : decode cL_law 221 = .ok (.aload_n 0, 1) := by decide +kernel
theorem dL_law_222 : decode cL_law 222 = .ok (.iload 5, 2) := by decide +kernel
theorem dL_law_224 : decode cL_law 224 = .ok (.iconst 3, 1) := by decide +kernel
theorem dL_law_225 : decode cL_law 225 = .ok (.iadd, 1) := by decide +kernel
theorem dL_law_226 : decode cL_law 226 = .ok (.iaload, 1) := by decide +kernel
theorem dL_law_227 : decode cL_law 227 = .ok (.aload_n 0, 1) := by decide +kernel
theorem dL_law_228 : decode cL_law 228 = .ok (.iload 5, 2) := by decide +kernel
theorem dL_law_230 : decode cL_law 230 = .ok (.iconst 4, 1) := by decide +kernel
theorem dL_law_231 : decode cL_law 231 = .ok (.iadd, 1) := by decide +kernel
theorem dL_law_232 : decode cL_law 232 = .ok (.iaload, 1) := by decide +kernel
theorem dL_law_233 : decode cL_law 233 = .ok (.aload_n 3, 1) := by decide +kernel
theorem dL_law_234 : decode cL_law 234 = .ok (.invokestatic 63, 3) := by decide +kernel
theorem dL_law_237 : decode cL_law 237 = .ok (.istore 6, 2) := by decide +kernel
theorem dL_law_239 : decode cL_law 239 = .ok (.aload_n 2, 1) := by decide +kernel
theorem dL_law_240 : decode cL_law 240 = .ok (.aload_n 0, 1) := by decide +kernel
theorem dL_law_241 : decode cL_law 241 = .ok (.iload 5, 2) := by decide +kernel
theorem dL_law_243 : decode cL_law 243 = .ok (.iconst 1, 1) := by decide +kernel
theorem dL_law_244 : decode cL_law 244 = .ok (.iadd, 1) := by decide +kernel
theorem dL_law_245 : decode cL_law 245 = .ok (.iaload, 1) := by decide +kernel
theorem dL_law_246 : decode cL_law 246 = .ok (.aload_n 0, 1) := by decide +kernel
theorem dL_law_247 : decode cL_law 247 = .ok (.iload 5, 2) := by decide +kernel
theorem dL_law_249 : decode cL_law 249 = .ok (.iconst 2, 1) := by decide +kernel
theorem dL_law_250 : decode cL_law 250 = .ok (.iadd, 1) := by decide +kernel
theorem dL_law_251 : decode cL_law 251 = .ok (.iaload, 1) := by decide +kernel
theorem dL_law_252 : decode cL_law 252 = .ok (.aload_n 0, 1) := by decide +kernel
theorem dL_law_253 : decode cL_law 253 = .ok (.iload 5, 2) := by decide +kernel
theorem dL_law_255 : decode cL_law 255 = .ok (.iconst 3, 1) := by decide +kernel
theorem dL_law_256 : decode cL_law 256 = .ok (.iadd, 1) := by decide +kernel
theorem dL_law_257 : decode cL_law 257 = .ok (.iaload, 1) := by decide +kernel
theorem dL_law_258 : decode cL_law 258 = .ok (.aload_n 0, 1) := by decide +kernel
theorem dL_law_259 : decode cL_law 259 = .ok (.iload 5, 2) := by decide +kernel
theorem dL_law_261 : decode cL_law 261 = .ok (.iconst 4, 1) := by decide +kernel
theorem dL_law_262 : decode cL_law 262 = .ok (.iadd, 1) := by decide +kernel
theorem dL_law_263 : decode cL_law 263 = .ok (.iaload, 1) := by decide +kernel
theorem dL_law_264 : decode cL_law 264 = .ok (.invokevirtual 66, 3) := by decide +kernel
theorem dL_law_267 : decode cL_law 267 = .ok (.istore 7, 2) := by decide +kernel
theorem dL_law_269 : decode cL_law 269 = .ok (.aload_n 2, 1) := by decide +kernel
theorem dL_law_270 : decode cL_law 270 = .ok (.invokevirtual 59, 3) := by decide +kernel
theorem dL_law_273 : decode cL_law 273 = .ok (.iload 6, 2) := by decide +kernel
theorem dL_law_275 : decode cL_law 275 = .ok (.if_icmp .eq 5, 3) := by decide +kernel
theorem dL_law_278 : decode cL_law 278 = .ok (.iconst 0, 1) := by decide +kernel
theorem dL_law_279 : decode cL_law 279 = .ok (.ireturn, 1) := by decide +kernel
theorem dL_law_280 : decode cL_law 280 = .ok (.iload 6, 2) := by decide +kernel
theorem dL_law_282 : decode cL_law 282 = .ok (.ifCond .ne 15, 3) := by decide +kernel
theorem dL_law_285 : decode cL_law 285 = .ok (.aload_n 3, 1) := by decide +kernel
theorem dL_law_286 : decode cL_law 286 = .ok (.iconst 0, 1) := by decide +kernel
theorem dL_law_287 : decode cL_law 287 = .ok (.laload, 1) := by decide +kernel
theorem dL_law_288 : decode cL_law 288 = .ok (.iload 7, 2) := by decide +kernel
theorem dL_law_290 : decode cL_law 290 = .ok (.i2l, 1) := by decide +kernel
theorem dL_law_291 : decode cL_law 291 = .ok (.lcmp, 1) := by decide +kernel
theorem dL_law_292 : decode cL_law 292 = .ok (.ifCond .eq 5, 3) := by decide +kernel
theorem dL_law_295 : decode cL_law 295 = .ok (.iconst 0, 1) := by decide +kernel
theorem dL_law_296 : decode cL_law 296 = .ok (.ireturn, 1) := by decide +kernel
theorem dL_law_297 : decode cL_law 297 = .ok (.goto 474, 3) := by decide +kernel
theorem dL_law_300 : decode cL_law 300 = .ok (.aload_n 1, 1) := by decide +kernel
theorem dL_law_301 : decode cL_law 301 = .ok (.aload_n 0, 1) := by decide +kernel
theorem dL_law_302 : decode cL_law 302 = .ok (.iload 5, 2) := by decide +kernel
theorem dL_law_304 : decode cL_law 304 = .ok (.iconst 1, 1) := by decide +kernel
theorem dL_law_305 : decode cL_law 305 = .ok (.iadd, 1) := by decide +kernel
theorem dL_law_306 : decode cL_law 306 = .ok (.iaload, 1) := by decide +kernel
theorem dL_law_307 : decode cL_law 307 = .ok (.aload_n 0, 1) := by decide +kernel
theorem dL_law_308 : decode cL_law 308 = .ok (.iload 5, 2) := by decide +kernel
theorem dL_law_310 : decode cL_law 310 = .ok (.iconst 2, 1) := by decide +kernel
theorem dL_law_311 : decode cL_law 311 = .ok (.iadd, 1) := by decide +kernel
theorem dL_law_312 : decode cL_law 312 = .ok (.iaload, 1) := by decide +kernel
theorem dL_law_313 : decode cL_law 313 = .ok (.aload_n 0, 1) := by decide +kernel
theorem dL_law_314 : decode cL_law 314 = .ok (.iload 5, 2) := by decide +kernel
theorem dL_law_316 : decode cL_law 316 = .ok (.iconst 3, 1) := by decide +kernel
theorem dL_law_317 : decode cL_law 317 = .ok (.iadd, 1) := by decide +kernel
theorem dL_law_318 : decode cL_law 318 = .ok (.iaload, 1) := by decide +kernel
theorem dL_law_319 : decode cL_law 319 = .ok (.aload_n 3, 1) := by decide +kernel
theorem dL_law_320 : decode cL_law 320 = .ok (.invokestatic 67, 3) := by decide +kernel
theorem dL_law_323 : decode cL_law 323 = .ok (.istore 6, 2) := by decide +kernel
theorem dL_law_325 : decode cL_law 325 = .ok (.aload_n 2, 1) := by decide +kernel
theorem dL_law_326 : decode cL_law 326 = .ok (.aload_n 0, 1) := by decide +kernel
theorem dL_law_327 : decode cL_law 327 = .ok (.iload 5, 2) := by decide +kernel
theorem dL_law_329 : decode cL_law 329 = .ok (.iconst 1, 1) := by decide +kernel
theorem dL_law_330 : decode cL_law 330 = .ok (.iadd, 1) := by decide +kernel
theorem dL_law_331 : decode cL_law 331 = .ok (.iaload, 1) := by decide +kernel
theorem dL_law_332 : decode cL_law 332 = .ok (.aload_n 0, 1) := by decide +kernel
theorem dL_law_333 : decode cL_law 333 = .ok (.iload 5, 2) := by decide +kernel
theorem dL_law_335 : decode cL_law 335 = .ok (.iconst 2, 1) := by decide +kernel
theorem dL_law_336 : decode cL_law 336 = .ok (.iadd, 1) := by decide +kernel
theorem dL_law_337 : decode cL_law 337 = .ok (.iaload, 1) := by decide +kernel
theorem dL_law_338 : decode cL_law 338 = .ok (.aload_n 0, 1) := by decide +kernel
theorem dL_law_339 : decode cL_law 339 = .ok (.iload 5, 2) := by decide +kernel
theorem dL_law_341 : decode cL_law 341 = .ok (.iconst 3, 1) := by decide +kernel
theorem dL_law_342 : decode cL_law 342 = .ok (.iadd, 1) := by decide +kernel
theorem dL_law_343 : decode cL_law 343 = .ok (.iaload, 1) := by decide +kernel
theorem dL_law_344 : decode cL_law 344 = .ok (.invokevirtual 70, 3) := by decide +kernel
theorem dL_law_347 : decode cL_law 347 = .ok (.istore 7, 2) := by decide +kernel
theorem dL_law_349 : decode cL_law 349 = .ok (.aload_n 2, 1) := by decide +kernel
theorem dL_law_350 : decode cL_law 350 = .ok (.invokevirtual 59, 3) := by decide +kernel
theorem dL_law_353 : decode cL_law 353 = .ok (.iload 6, 2) := by decide +kernel
theorem dL_law_355 : decode cL_law 355 = .ok (.if_icmp .eq 5, 3) := by decide +kernel
theorem dL_law_358 : decode cL_law 358 = .ok (.iconst 0, 1) := by decide +kernel
theorem dL_law_359 : decode cL_law 359 = .ok (.ireturn, 1) := by decide +kernel
theorem dL_law_360 : decode cL_law 360 = .ok (.iload 6, 2) := by decide +kernel
theorem dL_law_362 : decode cL_law 362 = .ok (.ifCond .ne 15, 3) := by decide +kernel
theorem dL_law_365 : decode cL_law 365 = .ok (.aload_n 3, 1) := by decide +kernel
theorem dL_law_366 : decode cL_law 366 = .ok (.iconst 0, 1) := by decide +kernel
theorem dL_law_367 : decode cL_law 367 = .ok (.laload, 1) := by decide +kernel
theorem dL_law_368 : decode cL_law 368 = .ok (.iload 7, 2) := by decide +kernel
theorem dL_law_370 : decode cL_law 370 = .ok (.i2l, 1) := by decide +kernel
theorem dL_law_371 : decode cL_law 371 = .ok (.lcmp, 1) := by decide +kernel
theorem dL_law_372 : decode cL_law 372 = .ok (.ifCond .eq 5, 3) := by decide +kernel
theorem dL_law_375 : decode cL_law 375 = .ok (.iconst 0, 1) := by decide +kernel
theorem dL_law_376 : decode cL_law 376 = .ok (.ireturn, 1) := by decide +kernel
theorem dL_law_377 : decode cL_law 377 = .ok (.goto 394, 3) := by decide +kernel
theorem dL_law_380 : decode cL_law 380 = .ok (.aload_n 1, 1) := by decide +kernel
theorem dL_law_381 : decode cL_law 381 = .ok (.aload_n 0, 1) := by decide +kernel
theorem dL_law_382 : decode cL_law 382 = .ok (.iload 5, 2) := by decide +kernel
theorem dL_law_384 : decode cL_law 384 = .ok (.iconst 1, 1) := by decide +kernel
theorem dL_law_385 : decode cL_law 385 = .ok (.iadd, 1) := by decide +kernel
theorem dL_law_386 : decode cL_law 386 = .ok (.iaload, 1) := by decide +kernel
theorem dL_law_387 : decode cL_law 387 = .ok (.aload_n 0, 1) := by decide +kernel
theorem dL_law_388 : decode cL_law 388 = .ok (.iload 5, 2) := by decide +kernel
theorem dL_law_390 : decode cL_law 390 = .ok (.iconst 2, 1) := by decide +kernel
theorem dL_law_391 : decode cL_law 391 = .ok (.iadd, 1) := by decide +kernel
theorem dL_law_392 : decode cL_law 392 = .ok (.iaload, 1) := by decide +kernel
theorem dL_law_393 : decode cL_law 393 = .ok (.aload_n 0, 1) := by decide +kernel
theorem dL_law_394 : decode cL_law 394 = .ok (.iload 5, 2) := by decide +kernel
theorem dL_law_396 : decode cL_law 396 = .ok (.iconst 3, 1) := by decide +kernel
theorem dL_law_397 : decode cL_law 397 = .ok (.iadd, 1) := by decide +kernel
theorem dL_law_398 : decode cL_law 398 = .ok (.iaload, 1) := by decide +kernel
theorem dL_law_399 : decode cL_law 399 = .ok (.aload_n 3, 1) := by decide +kernel
theorem dL_law_400 : decode cL_law 400 = .ok (.invokestatic 71, 3) := by decide +kernel
theorem dL_law_403 : decode cL_law 403 = .ok (.istore 6, 2) := by decide +kernel
theorem dL_law_405 : decode cL_law 405 = .ok (.aload_n 2, 1) := by decide +kernel
theorem dL_law_406 : decode cL_law 406 = .ok (.aload_n 0, 1) := by decide +kernel
theorem dL_law_407 : decode cL_law 407 = .ok (.iload 5, 2) := by decide +kernel
theorem dL_law_409 : decode cL_law 409 = .ok (.iconst 1, 1) := by decide +kernel
theorem dL_law_410 : decode cL_law 410 = .ok (.iadd, 1) := by decide +kernel
theorem dL_law_411 : decode cL_law 411 = .ok (.iaload, 1) := by decide +kernel
theorem dL_law_412 : decode cL_law 412 = .ok (.aload_n 0, 1) := by decide +kernel
theorem dL_law_413 : decode cL_law 413 = .ok (.iload 5, 2) := by decide +kernel
theorem dL_law_415 : decode cL_law 415 = .ok (.iconst 2, 1) := by decide +kernel
theorem dL_law_416 : decode cL_law 416 = .ok (.iadd, 1) := by decide +kernel
theorem dL_law_417 : decode cL_law 417 = .ok (.iaload, 1) := by decide +kernel
theorem dL_law_418 : decode cL_law 418 = .ok (.aload_n 0, 1) := by decide +kernel
theorem dL_law_419 : decode cL_law 419 = .ok (.iload 5, 2) := by decide +kernel
theorem dL_law_421 : decode cL_law 421 = .ok (.iconst 3, 1) := by decide +kernel
theorem dL_law_422 : decode cL_law 422 = .ok (.iadd, 1) := by decide +kernel
theorem dL_law_423 : decode cL_law 423 = .ok (.iaload, 1) := by decide +kernel
theorem dL_law_424 : decode cL_law 424 = .ok (.invokevirtual 73, 3) := by decide +kernel
theorem dL_law_427 : decode cL_law 427 = .ok (.istore 7, 2) := by decide +kernel
theorem dL_law_429 : decode cL_law 429 = .ok (.aload_n 2, 1) := by decide +kernel
theorem dL_law_430 : decode cL_law 430 = .ok (.invokevirtual 59, 3) := by decide +kernel
theorem dL_law_433 : decode cL_law 433 = .ok (.iload 6, 2) := by decide +kernel
theorem dL_law_435 : decode cL_law 435 = .ok (.if_icmp .eq 5, 3) := by decide +kernel
theorem dL_law_438 : decode cL_law 438 = .ok (.iconst 0, 1) := by decide +kernel
theorem dL_law_439 : decode cL_law 439 = .ok (.ireturn, 1) := by decide +kernel
theorem dL_law_440 : decode cL_law 440 = .ok (.iload 6, 2) := by decide +kernel
theorem dL_law_442 : decode cL_law 442 = .ok (.ifCond .ne 15, 3) := by decide +kernel
theorem dL_law_445 : decode cL_law 445 = .ok (.aload_n 3, 1) := by decide +kernel
theorem dL_law_446 : decode cL_law 446 = .ok (.iconst 0, 1) := by decide +kernel
theorem dL_law_447 : decode cL_law 447 = .ok (.laload, 1) := by decide +kernel
theorem dL_law_448 : decode cL_law 448 = .ok (.iload 7, 2) := by decide +kernel
theorem dL_law_450 : decode cL_law 450 = .ok (.i2l, 1) := by decide +kernel
theorem dL_law_451 : decode cL_law 451 = .ok (.lcmp, 1) := by decide +kernel
theorem dL_law_452 : decode cL_law 452 = .ok (.ifCond .eq 5, 3) := by decide +kernel
theorem dL_law_455 : decode cL_law 455 = .ok (.iconst 0, 1) := by decide +kernel
theorem dL_law_456 : decode cL_law 456 = .ok (.ireturn, 1) := by decide +kernel
theorem dL_law_457 : decode cL_law 457 = .ok (.goto 314, 3) := by decide +kernel
theorem dL_law_460 : decode cL_law 460 = .ok (.aload_n 1, 1) := by decide +kernel
theorem dL_law_461 : decode cL_law 461 = .ok (.aload_n 0, 1) := by decide +kernel
theorem dL_law_462 : decode cL_law 462 = .ok (.iload 5, 2) := by decide +kernel
theorem dL_law_464 : decode cL_law 464 = .ok (.iconst 1, 1) := by decide +kernel
theorem dL_law_465 : decode cL_law 465 = .ok (.iadd, 1) := by decide +kernel
theorem dL_law_466 : decode cL_law 466 = .ok (.iaload, 1) := by decide +kernel
theorem dL_law_467 : decode cL_law 467 = .ok (.aload_n 0, 1) := by decide +kernel
theorem dL_law_468 : decode cL_law 468 = .ok (.iload 5, 2) := by decide +kernel
theorem dL_law_470 : decode cL_law 470 = .ok (.iconst 2, 1) := by decide +kernel
theorem dL_law_471 : decode cL_law 471 = .ok (.iadd, 1) := by decide +kernel
theorem dL_law_472 : decode cL_law 472 = .ok (.iaload, 1) := by decide +kernel
theorem dL_law_473 : decode cL_law 473 = .ok (.aload_n 3, 1) := by decide +kernel
theorem dL_law_474 : decode cL_law 474 = .ok (.invokestatic 74, 3) := by decide +kernel
theorem dL_law_477 : decode cL_law 477 = .ok (.istore 6, 2) := by decide +kernel
theorem dL_law_479 : decode cL_law 479 = .ok (.aload_n 2, 1) := by decide +kernel
theorem dL_law_480 : decode cL_law 480 = .ok (.aload_n 0, 1) := by decide +kernel
theorem dL_law_481 : decode cL_law 481 = .ok (.iload 5, 2) := by decide +kernel
theorem dL_law_483 : decode cL_law 483 = .ok (.iconst 1, 1) := by decide +kernel
theorem dL_law_484 : decode cL_law 484 = .ok (.iadd, 1) := by decide +kernel
theorem dL_law_485 : decode cL_law 485 = .ok (.iaload, 1) := by decide +kernel
theorem dL_law_486 : decode cL_law 486 = .ok (.aload_n 0, 1) := by decide +kernel
theorem dL_law_487 : decode cL_law 487 = .ok (.iload 5, 2) := by decide +kernel
theorem dL_law_489 : decode cL_law 489 = .ok (.iconst 2, 1) := by decide +kernel
theorem dL_law_490 : decode cL_law 490 = .ok (.iadd, 1) := by decide +kernel
theorem dL_law_491 : decode cL_law 491 = .ok (.iaload, 1) := by decide +kernel
theorem dL_law_492 : decode cL_law 492 = .ok (.invokevirtual 77, 3) := by decide +kernel
theorem dL_law_495 : decode cL_law 495 = .ok (.istore 7, 2) := by decide +kernel
theorem dL_law_497 : decode cL_law 497 = .ok (.aload_n 2, 1) := by decide +kernel
theorem dL_law_498 : decode cL_law 498 = .ok (.invokevirtual 59, 3) := by decide +kernel
theorem dL_law_501 : decode cL_law 501 = .ok (.iload 6, 2) := by decide +kernel
theorem dL_law_503 : decode cL_law 503 = .ok (.if_icmp .eq 5, 3) := by decide +kernel
theorem dL_law_506 : decode cL_law 506 = .ok (.iconst 0, 1) := by decide +kernel
theorem dL_law_507 : decode cL_law 507 = .ok (.ireturn, 1) := by decide +kernel
theorem dL_law_508 : decode cL_law 508 = .ok (.iload 6, 2) := by decide +kernel
theorem dL_law_510 : decode cL_law 510 = .ok (.ifCond .ne 15, 3) := by decide +kernel
theorem dL_law_513 : decode cL_law 513 = .ok (.aload_n 3, 1) := by decide +kernel
theorem dL_law_514 : decode cL_law 514 = .ok (.iconst 0, 1) := by decide +kernel
theorem dL_law_515 : decode cL_law 515 = .ok (.laload, 1) := by decide +kernel
theorem dL_law_516 : decode cL_law 516 = .ok (.iload 7, 2) := by decide +kernel
theorem dL_law_518 : decode cL_law 518 = .ok (.i2l, 1) := by decide +kernel
theorem dL_law_519 : decode cL_law 519 = .ok (.lcmp, 1) := by decide +kernel
theorem dL_law_520 : decode cL_law 520 = .ok (.ifCond .eq 5, 3) := by decide +kernel
theorem dL_law_523 : decode cL_law 523 = .ok (.iconst 0, 1) := by decide +kernel
theorem dL_law_524 : decode cL_law 524 = .ok (.ireturn, 1) := by decide +kernel
theorem dL_law_525 : decode cL_law 525 = .ok (.goto 246, 3) := by decide +kernel
theorem dL_law_528 : decode cL_law 528 = .ok (.aload_n 1, 1) := by decide +kernel
theorem dL_law_529 : decode cL_law 529 = .ok (.aload_n 0, 1) := by decide +kernel
theorem dL_law_530 : decode cL_law 530 = .ok (.iload 5, 2) := by decide +kernel
theorem dL_law_532 : decode cL_law 532 = .ok (.iconst 1, 1) := by decide +kernel
theorem dL_law_533 : decode cL_law 533 = .ok (.iadd, 1) := by decide +kernel
theorem dL_law_534 : decode cL_law 534 = .ok (.iaload, 1) := by decide +kernel
theorem dL_law_535 : decode cL_law 535 = .ok (.aload_n 3, 1) := by decide +kernel
theorem dL_law_536 : decode cL_law 536 = .ok (.invokestatic 78, 3) := by decide +kernel
theorem dL_law_539 : decode cL_law 539 = .ok (.istore 6, 2) := by decide +kernel
theorem dL_law_541 : decode cL_law 541 = .ok (.aload_n 2, 1) := by decide +kernel
theorem dL_law_542 : decode cL_law 542 = .ok (.aload_n 0, 1) := by decide +kernel
theorem dL_law_543 : decode cL_law 543 = .ok (.iload 5, 2) := by decide +kernel
theorem dL_law_545 : decode cL_law 545 = .ok (.iconst 1, 1) := by decide +kernel
theorem dL_law_546 : decode cL_law 546 = .ok (.iadd, 1) := by decide +kernel
theorem dL_law_547 : decode cL_law 547 = .ok (.iaload, 1) := by decide +kernel
theorem dL_law_548 : decode cL_law 548 = .ok (.invokevirtual 81, 3) := by decide +kernel
theorem dL_law_551 : decode cL_law 551 = .ok (.lstore 7, 2) := by decide +kernel
theorem dL_law_553 : decode cL_law 553 = .ok (.aload_n 2, 1) := by decide +kernel
theorem dL_law_554 : decode cL_law 554 = .ok (.invokevirtual 59, 3) := by decide +kernel
theorem dL_law_557 : decode cL_law 557 = .ok (.iload 6, 2) := by decide +kernel
theorem dL_law_559 : decode cL_law 559 = .ok (.if_icmp .eq 5, 3) := by decide +kernel
theorem dL_law_562 : decode cL_law 562 = .ok (.iconst 0, 1) := by decide +kernel
theorem dL_law_563 : decode cL_law 563 = .ok (.ireturn, 1) := by decide +kernel
theorem dL_law_564 : decode cL_law 564 = .ok (.iload 6, 2) := by decide +kernel
theorem dL_law_566 : decode cL_law 566 = .ok (.ifCond .ne 14, 3) := by decide +kernel
theorem dL_law_569 : decode cL_law 569 = .ok (.aload_n 3, 1) := by decide +kernel
theorem dL_law_570 : decode cL_law 570 = .ok (.iconst 0, 1) := by decide +kernel
theorem dL_law_571 : decode cL_law 571 = .ok (.laload, 1) := by decide +kernel
theorem dL_law_572 : decode cL_law 572 = .ok (.lload 7, 2) := by decide +kernel
theorem dL_law_574 : decode cL_law 574 = .ok (.lcmp, 1) := by decide +kernel
theorem dL_law_575 : decode cL_law 575 = .ok (.ifCond .eq 5, 3) := by decide +kernel
theorem dL_law_578 : decode cL_law 578 = .ok (.iconst 0, 1) := by decide +kernel
theorem dL_law_579 : decode cL_law 579 = .ok (.ireturn, 1) := by decide +kernel
theorem dL_law_580 : decode cL_law 580 = .ok (.goto 191, 3) := by decide +kernel
theorem dL_law_583 : decode cL_law 583 = .ok (.aload_n 1, 1) := by decide +kernel
theorem dL_law_584 : decode cL_law 584 = .ok (.aload_n 0, 1) := by decide +kernel
theorem dL_law_585 : decode cL_law 585 = .ok (.iload 5, 2) := by decide +kernel
theorem dL_law_587 : decode cL_law 587 = .ok (.iconst 1, 1) := by decide +kernel
theorem dL_law_588 : decode cL_law 588 = .ok (.iadd, 1) := by decide +kernel
theorem dL_law_589 : decode cL_law 589 = .ok (.iaload, 1) := by decide +kernel
theorem dL_law_590 : decode cL_law 590 = .ok (.aload_n 3, 1) := by decide +kernel
theorem dL_law_591 : decode cL_law 591 = .ok (.invokestatic 82, 3) := by decide +kernel
theorem dL_law_594 : decode cL_law 594 = .ok (.istore 6, 2) := by decide +kernel
theorem dL_law_596 : decode cL_law 596 = .ok (.aload_n 2, 1) := by decide +kernel
theorem dL_law_597 : decode cL_law 597 = .ok (.aload_n 0, 1) := by decide +kernel
theorem dL_law_598 : decode cL_law 598 = .ok (.iload 5, 2) := by decide +kernel
theorem dL_law_600 : decode cL_law 600 = .ok (.iconst 1, 1) := by decide +kernel
theorem dL_law_601 : decode cL_law 601 = .ok (.iadd, 1) := by decide +kernel
theorem dL_law_602 : decode cL_law 602 = .ok (.iaload, 1) := by decide +kernel
theorem dL_law_603 : decode cL_law 603 = .ok (.invokevirtual 84, 3) := by decide +kernel
theorem dL_law_606 : decode cL_law 606 = .ok (.istore 7, 2) := by decide +kernel
theorem dL_law_608 : decode cL_law 608 = .ok (.aload_n 2, 1) := by decide +kernel
theorem dL_law_609 : decode cL_law 609 = .ok (.invokevirtual 59, 3) := by decide +kernel
theorem dL_law_612 : decode cL_law 612 = .ok (.iload 6, 2) := by decide +kernel
theorem dL_law_614 : decode cL_law 614 = .ok (.if_icmp .eq 5, 3) := by decide +kernel
theorem dL_law_617 : decode cL_law 617 = .ok (.iconst 0, 1) := by decide +kernel
theorem dL_law_618 : decode cL_law 618 = .ok (.ireturn, 1) := by decide +kernel
theorem dL_law_619 : decode cL_law 619 = .ok (.iload 6, 2) := by decide +kernel
theorem dL_law_621 : decode cL_law 621 = .ok (.ifCond .ne 15, 3) := by decide +kernel
theorem dL_law_624 : decode cL_law 624 = .ok (.aload_n 3, 1) := by decide +kernel
theorem dL_law_625 : decode cL_law 625 = .ok (.iconst 0, 1) := by decide +kernel
theorem dL_law_626 : decode cL_law 626 = .ok (.laload, 1) := by decide +kernel
theorem dL_law_627 : decode cL_law 627 = .ok (.iload 7, 2) := by decide +kernel
theorem dL_law_629 : decode cL_law 629 = .ok (.i2l, 1) := by decide +kernel
theorem dL_law_630 : decode cL_law 630 = .ok (.lcmp, 1) := by decide +kernel
theorem dL_law_631 : decode cL_law 631 = .ok (.ifCond .eq 5, 3) := by decide +kernel
theorem dL_law_634 : decode cL_law 634 = .ok (.iconst 0, 1) := by decide +kernel
theorem dL_law_635 : decode cL_law 635 = .ok (.ireturn, 1) := by decide +kernel
theorem dL_law_636 : decode cL_law 636 = .ok (.goto 135, 3) := by decide +kernel
theorem dL_law_639 : decode cL_law 639 = .ok (.aload_n 1, 1) := by decide +kernel
theorem dL_law_640 : decode cL_law 640 = .ok (.aload_n 0, 1) := by decide +kernel
theorem dL_law_641 : decode cL_law 641 = .ok (.iload 5, 2) := by decide +kernel
theorem dL_law_643 : decode cL_law 643 = .ok (.iconst 1, 1) := by decide +kernel
theorem dL_law_644 : decode cL_law 644 = .ok (.iadd, 1) := by decide +kernel
theorem dL_law_645 : decode cL_law 645 = .ok (.iaload, 1) := by decide +kernel
theorem dL_law_646 : decode cL_law 646 = .ok (.aload 4, 2) := by decide +kernel
theorem dL_law_648 : decode cL_law 648 = .ok (.invokestatic 85, 3) := by decide +kernel
theorem dL_law_651 : decode cL_law 651 = .ok (.istore 6, 2) := by decide +kernel
theorem dL_law_653 : decode cL_law 653 = .ok (.aload_n 2, 1) := by decide +kernel
theorem dL_law_654 : decode cL_law 654 = .ok (.aload_n 0, 1) := by decide +kernel
theorem dL_law_655 : decode cL_law 655 = .ok (.iload 5, 2) := by decide +kernel
theorem dL_law_657 : decode cL_law 657 = .ok (.iconst 1, 1) := by decide +kernel
theorem dL_law_658 : decode cL_law 658 = .ok (.iadd, 1) := by decide +kernel
theorem dL_law_659 : decode cL_law 659 = .ok (.iaload, 1) := by decide +kernel
theorem dL_law_660 : decode cL_law 660 = .ok (.invokevirtual 88, 3) := by decide +kernel
theorem dL_law_663 : decode cL_law 663 = .ok (.dstore 7, 2) := by decide +kernel
theorem dL_law_665 : decode cL_law 665 = .ok (.aload_n 2, 1) := by decide +kernel
theorem dL_law_666 : decode cL_law 666 = .ok (.invokevirtual 59, 3) := by decide +kernel
theorem dL_law_669 : decode cL_law 669 = .ok (.iload 6, 2) := by decide +kernel
theorem dL_law_671 : decode cL_law 671 = .ok (.if_icmp .eq 5, 3) := by decide +kernel
theorem dL_law_674 : decode cL_law 674 = .ok (.iconst 0, 1) := by decide +kernel
theorem dL_law_675 : decode cL_law 675 = .ok (.ireturn, 1) := by decide +kernel
theorem dL_law_676 : decode cL_law 676 = .ok (.iload 6, 2) := by decide +kernel
theorem dL_law_678 : decode cL_law 678 = .ok (.ifCond .ne 35, 3) := by decide +kernel
theorem dL_law_681 : decode cL_law 681 = .ok (.aload 4, 2) := by decide +kernel
theorem dL_law_683 : decode cL_law 683 = .ok (.iconst 0, 1) := by decide +kernel
theorem dL_law_684 : decode cL_law 684 = .ok (.daload, 1) := by decide +kernel
theorem dL_law_685 : decode cL_law 685 = .ok (.dload 7, 2) := by decide +kernel
theorem dL_law_687 : decode cL_law 687 = .ok (.dcmp .l, 1) := by decide +kernel
theorem dL_law_688 : decode cL_law 688 = .ok (.ifCond .eq 25, 3) := by decide +kernel
theorem dL_law_691 : decode cL_law 691 = .ok (.aload 4, 2) := by decide +kernel
theorem dL_law_693 : decode cL_law 693 = .ok (.iconst 0, 1) := by decide +kernel
theorem dL_law_694 : decode cL_law 694 = .ok (.daload, 1) := by decide +kernel
theorem dL_law_695 : decode cL_law 695 = .ok (.aload 4, 2) := by decide +kernel
theorem dL_law_697 : decode cL_law 697 = .ok (.iconst 0, 1) := by decide +kernel
theorem dL_law_698 : decode cL_law 698 = .ok (.daload, 1) := by decide +kernel
theorem dL_law_699 : decode cL_law 699 = .ok (.dcmp .l, 1) := by decide +kernel
theorem dL_law_700 : decode cL_law 700 = .ok (.ifCond .eq 11, 3) := by decide +kernel
theorem dL_law_703 : decode cL_law 703 = .ok (.dload 7, 2) := by decide +kernel
theorem dL_law_705 : decode cL_law 705 = .ok (.dload 7, 2) := by decide +kernel
theorem dL_law_707 : decode cL_law 707 = .ok (.dcmp .l, 1) := by decide +kernel
theorem dL_law_708 : decode cL_law 708 = .ok (.ifCond .ne 5, 3) := by decide +kernel
theorem dL_law_711 : decode cL_law 711 = .ok (.iconst 0, 1) := by decide +kernel
theorem dL_law_712 : decode cL_law 712 = .ok (.ireturn, 1) := by decide +kernel
theorem dL_law_713 : decode cL_law 713 = .ok (.goto 58, 3) := by decide +kernel
theorem dL_law_716 : decode cL_law 716 = .ok (.aload_n 1, 1) := by decide +kernel
theorem dL_law_717 : decode cL_law 717 = .ok (.aload_n 0, 1) := by decide +kernel
theorem dL_law_718 : decode cL_law 718 = .ok (.iload 5, 2) := by decide +kernel
theorem dL_law_720 : decode cL_law 720 = .ok (.iconst 1, 1) := by decide +kernel
theorem dL_law_721 : decode cL_law 721 = .ok (.iadd, 1) := by decide +kernel
theorem dL_law_722 : decode cL_law 722 = .ok (.iaload, 1) := by decide +kernel
theorem dL_law_723 : decode cL_law 723 = .ok (.aload_n 3, 1) := by decide +kernel
theorem dL_law_724 : decode cL_law 724 = .ok (.invokestatic 89, 3) := by decide +kernel
theorem dL_law_727 : decode cL_law 727 = .ok (.istore 6, 2) := by decide +kernel
theorem dL_law_729 : decode cL_law 729 = .ok (.aload_n 2, 1) := by decide +kernel
theorem dL_law_730 : decode cL_law 730 = .ok (.aload_n 0, 1) := by decide +kernel
theorem dL_law_731 : decode cL_law 731 = .ok (.iload 5, 2) := by decide +kernel
theorem dL_law_733 : decode cL_law 733 = .ok (.iconst 1, 1) := by decide +kernel
theorem dL_law_734 : decode cL_law 734 = .ok (.iadd, 1) := by decide +kernel
theorem dL_law_735 : decode cL_law 735 = .ok (.iaload, 1) := by decide +kernel
theorem dL_law_736 : decode cL_law 736 = .ok (.invokevirtual 91, 3) := by decide +kernel
theorem dL_law_739 : decode cL_law 739 = .ok (.lstore 7, 2) := by decide +kernel
theorem dL_law_741 : decode cL_law 741 = .ok (.aload_n 2, 1) := by decide +kernel
theorem dL_law_742 : decode cL_law 742 = .ok (.invokevirtual 59, 3) := by decide +kernel
theorem dL_law_745 : decode cL_law 745 = .ok (.iload 6, 2) := by decide +kernel
theorem dL_law_747 : decode cL_law 747 = .ok (.if_icmp .eq 5, 3) := by decide +kernel
theorem dL_law_750 : decode cL_law 750 = .ok (.iconst 0, 1) := by decide +kernel
theorem dL_law_751 : decode cL_law 751 = .ok (.ireturn, 1) := by decide +kernel
theorem dL_law_752 : decode cL_law 752 = .ok (.iload 6, 2) := by decide +kernel
theorem dL_law_754 : decode cL_law 754 = .ok (.ifCond .ne 14, 3) := by decide +kernel
theorem dL_law_757 : decode cL_law 757 = .ok (.aload_n 3, 1) := by decide +kernel
theorem dL_law_758 : decode cL_law 758 = .ok (.iconst 0, 1) := by decide +kernel
theorem dL_law_759 : decode cL_law 759 = .ok (.laload, 1) := by decide +kernel
theorem dL_law_760 : decode cL_law 760 = .ok (.lload 7, 2) := by decide +kernel
theorem dL_law_762 : decode cL_law 762 = .ok (.lcmp, 1) := by decide +kernel
theorem dL_law_763 : decode cL_law 763 = .ok (.ifCond .eq 5, 3) := by decide +kernel
theorem dL_law_766 : decode cL_law 766 = .ok (.iconst 0, 1) := by decide +kernel
theorem dL_law_767 : decode cL_law 767 = .ok (.ireturn, 1) := by decide +kernel
theorem dL_law_768 : decode cL_law 768 = .ok (.goto 3, 3) := by decide +kernel
theorem dL_law_771 : decode cL_law 771 = .ok (.iinc 5 5, 3) := by decide +kernel
theorem dL_law_774 : decode cL_law 774 = .ok (.goto (-746), 3) := by decide +kernel
theorem dL_law_777 : decode cL_law 777 = .ok (.iconst 1, 1) := by decide +kernel
theorem dL_law_778 : decode cL_law 778 = .ok (.ireturn, 1) := by decide +kernel
end
section
/-- the tables' words that every road keeps: one list for all methods -/
def gtbl : List Cond := lw_tbl.filter goodWord
theorem gt_mem {w : Cond} (h : w ∈ lw_tbl) (g : goodWord w = true) : w ∈ gtbl := List.mem_filter.mpr ⟨h, g⟩
theorem gt_good : GoodIn gtbl gtbl := fun w h => ⟨h, good_of_word (List.mem_filter.mp h).2⟩
theorem gt_in {w : Cond} (h : w ∈ gtbl) : w ∈ lw_tbl := (List.mem_filter.mp h).1
theorem gt_t {w : Cond} {k : Nat} (h : tables_1[k]? = some w) (g : goodWord w = true) : w ∈ gtbl := gt_mem (List.mem_append_right _ (List.mem_of_getElem? h)) g
theorem tw_0 : (Jvm.Cond.initialized "RealDeskLaw") ∈ gtbl := gt_t (k := 0) rfl rfl
theorem tw_1 : (Jvm.Cond.initialized "RealDesk") ∈ gtbl := gt_t (k := 1) rfl rfl
theorem tw_2 : (Jvm.Cond.initialized "RealDeskModel") ∈ gtbl := gt_t (k := 2) rfl rfl
theorem tw_3 : (Jvm.Cond.initialized "RealDeskModel$Big") ∈ gtbl := gt_t (k := 3) rfl rfl
theorem tw_4 : (Jvm.Cond.initialized "java/lang/Throwable") ∈ gtbl := gt_t (k := 4) rfl rfl
theorem tw_5 : (Jvm.Cond.initialized "java/lang/Exception") ∈ gtbl := gt_t (k := 5) rfl rfl
theorem tw_6 : (Jvm.Cond.initialized "java/lang/RuntimeException") ∈ gtbl := gt_t (k := 6) rfl rfl
theorem tw_7 : (Jvm.Cond.initialized "java/lang/IllegalArgumentException") ∈ gtbl := gt_t (k := 7) rfl rfl
theorem tw_8 : (Jvm.Cond.initialized "java/lang/Math") ∈ gtbl := gt_t (k := 8) rfl rfl
theorem tw_9 : (Jvm.Cond.initialized "java/lang/Long") ∈ gtbl := gt_t (k := 9) rfl rfl
theorem tw_10 : (Jvm.Cond.initialized "java/lang/Integer") ∈ gtbl := gt_t (k := 10) rfl rfl
theorem tw_11 : (Jvm.Cond.initialized "java/lang/IllegalStateException") ∈ gtbl := gt_t (k := 11) rfl rfl
theorem tw_12 : (Jvm.Cond.classLink "RealDeskLaw" (8 : Nat) "RealDesk") ∈ gtbl := gt_t (k := 12) rfl rfl
theorem tw_13 : (Jvm.Cond.instantiable "RealDesk" (1 : Nat)) ∈ gtbl := gt_t (k := 13) rfl rfl
theorem tw_14 : (Jvm.Cond.methodLink "RealDeskLaw" (47 : Nat) ({ cls := "RealDesk", name := "<init>", desc := "()V" } : Jvm.MethodName)) ∈ gtbl := gt_t (k := 14) rfl rfl
theorem tw_15 : (Jvm.Cond.instanceMethod ({ cls := "RealDesk", name := "<init>", desc := "()V" } : Jvm.MethodName)) ∈ gtbl := gt_t (k := 15) rfl rfl
theorem tw_16 : (Jvm.Cond.code ({ cls := "RealDesk", name := "<init>", desc := "()V" } : Jvm.MethodName) prog_1_method_1_code (1 : Nat) (Option.none : Option Jvm.ClassFile.FieldType)) ∈ gtbl := gt_t (k := 16) rfl rfl
theorem tw_17 : (Jvm.Cond.methodLink "RealDesk" (1 : Nat) ({ cls := "java/lang/Object", name := "<init>", desc := "()V" } : Jvm.MethodName)) ∈ gtbl := gt_t (k := 17) rfl rfl
theorem tw_18 : (Jvm.Cond.instanceMethod ({ cls := "java/lang/Object", name := "<init>", desc := "()V" } : Jvm.MethodName)) ∈ gtbl := gt_t (k := 18) rfl rfl
theorem tw_19 : (Jvm.Cond.code ({ cls := "java/lang/Object", name := "<init>", desc := "()V" } : Jvm.MethodName) object_method_1_code (1 : Nat) (Option.none : Option Jvm.ClassFile.FieldType)) ∈ gtbl := gt_t (k := 19) rfl rfl
theorem tw_20 : (Jvm.Cond.fieldLink "RealDesk" (9 : Nat) "RealDesk" "ranks" "[J") ∈ gtbl := gt_t (k := 20) rfl rfl
theorem tw_21 : (Jvm.Cond.laysFinal "RealDesk" "RealDesk" "ranks" "[J") ∈ gtbl := gt_t (k := 21) rfl rfl
theorem tw_22 : (Jvm.Cond.soleField "RealDesk" "ranks") ∈ gtbl := gt_t (k := 22) rfl rfl
theorem tw_23 : (Jvm.Cond.superclass "RealDesk" "java/lang/Object") ∈ gtbl := gt_t (k := 23) rfl rfl
theorem tw_24 : (Jvm.Cond.arrayClass Jvm.ClassFile.FieldType.long) ∈ gtbl := gt_t (k := 24) rfl rfl
theorem tw_25 : (Jvm.Cond.methodLink "RealDeskLaw" (53 : Nat) ({ cls := "RealDeskLaw", name := "set", desc := "(LRealDesk;IJI[J)I" } : Jvm.MethodName)) ∈ gtbl := gt_t (k := 25) rfl rfl
theorem tw_26 : (Jvm.Cond.static ({ cls := "RealDeskLaw", name := "set", desc := "(LRealDesk;IJI[J)I" } : Jvm.MethodName)) ∈ gtbl := gt_t (k := 26) rfl rfl
theorem tw_27 : (Jvm.Cond.codeWith ({ cls := "RealDeskLaw", name := "set", desc := "(LRealDesk;IJI[J)I" } : Jvm.MethodName) method_3_code (7 : Nat) (Option.some Jvm.ClassFile.FieldType.int) [((0 : Nat), (13 : Nat), (16 : Nat), (13 : Nat))]) ∈ gtbl := gt_t (k := 27) rfl rfl
theorem tw_28 : (Jvm.Cond.classLink "RealDeskLaw" (13 : Nat) "java/lang/IllegalArgumentException") ∈ gtbl := gt_t (k := 28) rfl rfl
theorem tw_29 : (Jvm.Cond.methodLink "RealDeskLaw" (7 : Nat) ({ cls := "RealDesk", name := "set", desc := "(IJI)I" } : Jvm.MethodName)) ∈ gtbl := gt_t (k := 29) rfl rfl
theorem tw_30 : (Jvm.Cond.instanceMethod ({ cls := "RealDesk", name := "set", desc := "(IJI)I" } : Jvm.MethodName)) ∈ gtbl := gt_t (k := 30) rfl rfl
theorem tw_31 : (Jvm.Cond.selects "RealDesk" ({ cls := "RealDesk", name := "set", desc := "(IJI)I" } : Jvm.MethodName) ({ cls := "RealDesk", name := "set", desc := "(IJI)I" } : Jvm.MethodName)) ∈ gtbl := gt_t (k := 31) rfl rfl
theorem tw_32 : (Jvm.Cond.code ({ cls := "RealDesk", name := "set", desc := "(IJI)I" } : Jvm.MethodName) prog_1_method_2_code (5 : Nat) (Option.some Jvm.ClassFile.FieldType.int)) ∈ gtbl := gt_t (k := 32) rfl rfl
theorem tw_33 : (Jvm.Cond.methodLink "RealDesk" (13 : Nat) ({ cls := "RealDesk", name := "requireRegister", desc := "(I)V" } : Jvm.MethodName)) ∈ gtbl := gt_t (k := 33) rfl rfl
theorem tw_34 : (Jvm.Cond.static ({ cls := "RealDesk", name := "requireRegister", desc := "(I)V" } : Jvm.MethodName)) ∈ gtbl := gt_t (k := 34) rfl rfl
theorem tw_35 : (Jvm.Cond.code ({ cls := "RealDesk", name := "requireRegister", desc := "(I)V" } : Jvm.MethodName) prog_1_method_11_code (1 : Nat) (Option.none : Option Jvm.ClassFile.FieldType)) ∈ gtbl := gt_t (k := 35) rfl rfl
theorem tw_36 : (Jvm.Cond.classLink "RealDesk" (21 : Nat) "java/lang/IllegalArgumentException") ∈ gtbl := gt_t (k := 36) rfl rfl
theorem tw_37 : (Jvm.Cond.instantiable "java/lang/IllegalArgumentException" (6 : Nat)) ∈ gtbl := gt_t (k := 37) rfl rfl
theorem tw_45 : (Jvm.Cond.selects "java/lang/IllegalArgumentException" ({ cls := "java/lang/Throwable", name := "fillInStackTrace", desc := "(I)Ljava/lang/Throwable;" } : Jvm.MethodName) ({ cls := "java/lang/Throwable", name := "fillInStackTrace", desc := "(I)Ljava/lang/Throwable;" } : Jvm.MethodName)) ∈ gtbl := gt_t (k := 45) rfl rfl
theorem tw_46 : (Jvm.Cond.selects "java/lang/IllegalArgumentException" ({ cls := "java/lang/Throwable", name := "fillInStackTrace", desc := "()Ljava/lang/Throwable;" } : Jvm.MethodName) ({ cls := "java/lang/Throwable", name := "fillInStackTrace", desc := "()Ljava/lang/Throwable;" } : Jvm.MethodName)) ∈ gtbl := gt_t (k := 46) rfl rfl
theorem tw_47 : (Jvm.Cond.lays "java/lang/IllegalArgumentException" "java/lang/Throwable" "cause" "Ljava/lang/Throwable;") ∈ gtbl := gt_t (k := 47) rfl rfl
theorem tw_48 : (Jvm.Cond.lays "java/lang/Throwable" "java/lang/Throwable" "cause" "Ljava/lang/Throwable;") ∈ gtbl := gt_t (k := 48) rfl rfl
theorem tw_49 : (Jvm.Cond.lays "java/lang/IllegalArgumentException" "java/lang/Throwable" "stackTrace" "[Ljava/lang/StackTraceElement;") ∈ gtbl := gt_t (k := 49) rfl rfl
theorem tw_50 : (Jvm.Cond.lays "java/lang/Throwable" "java/lang/Throwable" "stackTrace" "[Ljava/lang/StackTraceElement;") ∈ gtbl := gt_t (k := 50) rfl rfl
theorem tw_51 : (Jvm.Cond.lays "java/lang/IllegalArgumentException" "java/lang/Throwable" "suppressedExceptions" "Ljava/util/List;") ∈ gtbl := gt_t (k := 51) rfl rfl
theorem tw_52 : (Jvm.Cond.lays "java/lang/Throwable" "java/lang/Throwable" "suppressedExceptions" "Ljava/util/List;") ∈ gtbl := gt_t (k := 52) rfl rfl
theorem tw_53 : (Jvm.Cond.lays "java/lang/IllegalArgumentException" "java/lang/Throwable" "detailMessage" "Ljava/lang/String;") ∈ gtbl := gt_t (k := 53) rfl rfl
theorem tw_54 : (Jvm.Cond.lays "java/lang/Throwable" "java/lang/Throwable" "detailMessage" "Ljava/lang/String;") ∈ gtbl := gt_t (k := 54) rfl rfl
theorem tw_55 : (Jvm.Cond.lays "java/lang/IllegalArgumentException" "java/lang/Throwable" "backtrace" "Ljava/lang/Object;") ∈ gtbl := gt_t (k := 55) rfl rfl
theorem tw_56 : (Jvm.Cond.lays "java/lang/Throwable" "java/lang/Throwable" "backtrace" "Ljava/lang/Object;") ∈ gtbl := gt_t (k := 56) rfl rfl
theorem tw_57 : (Jvm.Cond.fieldLink "java/lang/Throwable" (198 : Nat) "java/lang/Throwable" "backtrace" "Ljava/lang/Object;") ∈ gtbl := gt_t (k := 57) rfl rfl
theorem tw_58 : (Jvm.Cond.superclass "java/lang/Throwable" "java/lang/Object") ∈ gtbl := gt_t (k := 58) rfl rfl
theorem tw_59 : (Jvm.Cond.instanceMethod ({ cls := "java/lang/Throwable", name := "<init>", desc := "()V" } : Jvm.MethodName)) ∈ gtbl := gt_t (k := 59) rfl rfl
theorem tw_60 : (Jvm.Cond.code ({ cls := "java/lang/Throwable", name := "<init>", desc := "()V" } : Jvm.MethodName) prog_13_method_1_code (1 : Nat) (Option.none : Option Jvm.ClassFile.FieldType)) ∈ gtbl := gt_t (k := 60) rfl rfl
theorem tw_61 : (Jvm.Cond.methodLink "java/lang/Throwable" (1 : Nat) ({ cls := "java/lang/Object", name := "<init>", desc := "()V" } : Jvm.MethodName)) ∈ gtbl := gt_t (k := 61) rfl rfl
theorem tw_62 : (Jvm.Cond.fieldLink "java/lang/Throwable" (13 : Nat) "java/lang/Throwable" "UNASSIGNED_STACK" "[Ljava/lang/StackTraceElement;") ∈ gtbl := gt_t (k := 62) rfl rfl
theorem tw_64 : (Jvm.Cond.fieldLink "java/lang/Throwable" (20 : Nat) "java/lang/Throwable" "SUPPRESSED_SENTINEL" "Ljava/util/List;") ∈ gtbl := gt_t (k := 64) rfl rfl
theorem tw_66 : (Jvm.Cond.methodLink "java/lang/Throwable" (27 : Nat) ({ cls := "java/lang/Throwable", name := "fillInStackTrace", desc := "()Ljava/lang/Throwable;" } : Jvm.MethodName)) ∈ gtbl := gt_t (k := 66) rfl rfl
theorem tw_67 : (Jvm.Cond.instanceMethod ({ cls := "java/lang/Throwable", name := "fillInStackTrace", desc := "()Ljava/lang/Throwable;" } : Jvm.MethodName)) ∈ gtbl := gt_t (k := 67) rfl rfl
theorem tw_69 : (Jvm.Cond.selects "java/lang/IllegalStateException" ({ cls := "java/lang/Throwable", name := "fillInStackTrace", desc := "()Ljava/lang/Throwable;" } : Jvm.MethodName) ({ cls := "java/lang/Throwable", name := "fillInStackTrace", desc := "()Ljava/lang/Throwable;" } : Jvm.MethodName)) ∈ gtbl := gt_t (k := 69) rfl rfl
theorem tw_71 : (Jvm.Cond.methodLink "java/lang/Throwable" (202 : Nat) ({ cls := "java/lang/Throwable", name := "fillInStackTrace", desc := "(I)Ljava/lang/Throwable;" } : Jvm.MethodName)) ∈ gtbl := gt_t (k := 71) rfl rfl
theorem tw_73 : (Jvm.Cond.instanceMethod ({ cls := "java/lang/Throwable", name := "fillInStackTrace", desc := "(I)Ljava/lang/Throwable;" } : Jvm.MethodName)) ∈ gtbl := gt_t (k := 73) rfl rfl
theorem tw_74 : (Jvm.Cond.instantiable "java/lang/Throwable" (6 : Nat)) ∈ gtbl := gt_t (k := 74) rfl rfl
theorem tw_77 : (Jvm.Cond.methodLink "RealDesk" (25 : Nat) ({ cls := "java/lang/IllegalArgumentException", name := "<init>", desc := "(Ljava/lang/String;)V" } : Jvm.MethodName)) ∈ gtbl := gt_t (k := 77) rfl rfl
theorem tw_78 : (Jvm.Cond.instanceMethod ({ cls := "java/lang/IllegalArgumentException", name := "<init>", desc := "(Ljava/lang/String;)V" } : Jvm.MethodName)) ∈ gtbl := gt_t (k := 78) rfl rfl
theorem tw_79 : (Jvm.Cond.code ({ cls := "java/lang/IllegalArgumentException", name := "<init>", desc := "(Ljava/lang/String;)V" } : Jvm.MethodName) prog_6_method_2_code (2 : Nat) (Option.none : Option Jvm.ClassFile.FieldType)) ∈ gtbl := gt_t (k := 79) rfl rfl
theorem tw_80 : (Jvm.Cond.methodLink "java/lang/IllegalArgumentException" (7 : Nat) ({ cls := "java/lang/RuntimeException", name := "<init>", desc := "(Ljava/lang/String;)V" } : Jvm.MethodName)) ∈ gtbl := gt_t (k := 80) rfl rfl
theorem tw_81 : (Jvm.Cond.instanceMethod ({ cls := "java/lang/RuntimeException", name := "<init>", desc := "(Ljava/lang/String;)V" } : Jvm.MethodName)) ∈ gtbl := gt_t (k := 81) rfl rfl
theorem tw_82 : (Jvm.Cond.code ({ cls := "java/lang/RuntimeException", name := "<init>", desc := "(Ljava/lang/String;)V" } : Jvm.MethodName) prog_11_method_2_code (2 : Nat) (Option.none : Option Jvm.ClassFile.FieldType)) ∈ gtbl := gt_t (k := 82) rfl rfl
theorem tw_83 : (Jvm.Cond.methodLink "java/lang/RuntimeException" (7 : Nat) ({ cls := "java/lang/Exception", name := "<init>", desc := "(Ljava/lang/String;)V" } : Jvm.MethodName)) ∈ gtbl := gt_t (k := 83) rfl rfl
theorem tw_84 : (Jvm.Cond.instanceMethod ({ cls := "java/lang/Exception", name := "<init>", desc := "(Ljava/lang/String;)V" } : Jvm.MethodName)) ∈ gtbl := gt_t (k := 84) rfl rfl
theorem tw_85 : (Jvm.Cond.code ({ cls := "java/lang/Exception", name := "<init>", desc := "(Ljava/lang/String;)V" } : Jvm.MethodName) prog_5_method_2_code (2 : Nat) (Option.none : Option Jvm.ClassFile.FieldType)) ∈ gtbl := gt_t (k := 85) rfl rfl
theorem tw_86 : (Jvm.Cond.methodLink "java/lang/Exception" (7 : Nat) ({ cls := "java/lang/Throwable", name := "<init>", desc := "(Ljava/lang/String;)V" } : Jvm.MethodName)) ∈ gtbl := gt_t (k := 86) rfl rfl
theorem tw_87 : (Jvm.Cond.instanceMethod ({ cls := "java/lang/Throwable", name := "<init>", desc := "(Ljava/lang/String;)V" } : Jvm.MethodName)) ∈ gtbl := gt_t (k := 87) rfl rfl
theorem tw_88 : (Jvm.Cond.code ({ cls := "java/lang/Throwable", name := "<init>", desc := "(Ljava/lang/String;)V" } : Jvm.MethodName) prog_13_method_2_code (2 : Nat) (Option.none : Option Jvm.ClassFile.FieldType)) ∈ gtbl := gt_t (k := 88) rfl rfl
theorem tw_89 : (Jvm.Cond.fieldLink "java/lang/Throwable" (198 : Nat) "java/lang/Throwable" "backtrace" "Ljava/lang/Object;") ∈ gtbl := gt_t (k := 89) rfl rfl
theorem tw_90 : (Jvm.Cond.fieldLink "java/lang/Throwable" (31 : Nat) "java/lang/Throwable" "detailMessage" "Ljava/lang/String;") ∈ gtbl := gt_t (k := 90) rfl rfl
theorem tw_91 : (Jvm.Cond.fieldLink "java/lang/Throwable" (7 : Nat) "java/lang/Throwable" "cause" "Ljava/lang/Throwable;") ∈ gtbl := gt_t (k := 91) rfl rfl
theorem tw_92 : (Jvm.Cond.fieldLink "java/lang/Throwable" (17 : Nat) "java/lang/Throwable" "stackTrace" "[Ljava/lang/StackTraceElement;") ∈ gtbl := gt_t (k := 92) rfl rfl
theorem tw_93 : (Jvm.Cond.fieldLink "java/lang/Throwable" (24 : Nat) "java/lang/Throwable" "suppressedExceptions" "Ljava/util/List;") ∈ gtbl := gt_t (k := 93) rfl rfl
theorem tw_94 : (Jvm.Cond.soleField "java/lang/Throwable" "backtrace") ∈ gtbl := gt_t (k := 94) rfl rfl
theorem tw_95 : (Jvm.Cond.soleField "java/lang/Throwable" "detailMessage") ∈ gtbl := gt_t (k := 95) rfl rfl
theorem tw_96 : (Jvm.Cond.soleField "java/lang/Throwable" "cause") ∈ gtbl := gt_t (k := 96) rfl rfl
theorem tw_97 : (Jvm.Cond.soleField "java/lang/Throwable" "stackTrace") ∈ gtbl := gt_t (k := 97) rfl rfl
theorem tw_98 : (Jvm.Cond.lays "java/lang/IllegalArgumentException" "java/lang/Throwable" "depth" "I") ∈ gtbl := gt_t (k := 98) rfl rfl
theorem tw_99 : (Jvm.Cond.soleField "java/lang/Throwable" "depth") ∈ gtbl := gt_t (k := 99) rfl rfl
theorem tw_100 : (Jvm.Cond.soleField "java/lang/Throwable" "suppressedExceptions") ∈ gtbl := gt_t (k := 100) rfl rfl
theorem tw_101 : (Jvm.Cond.superclass "java/lang/IllegalArgumentException" "java/lang/RuntimeException") ∈ gtbl := gt_t (k := 101) rfl rfl
theorem tw_102 : (Jvm.Cond.arrayClass Jvm.ClassFile.FieldType.byte) ∈ gtbl := gt_t (k := 102) rfl rfl
theorem tw_103 : (Jvm.Cond.constantLong "RealDesk" (17 : Nat) (9007199254740992 : Int64)) ∈ gtbl := gt_t (k := 103) rfl rfl
theorem tw_104 : (Jvm.Cond.constantLong "RealDesk" (19 : Nat) (-9007199254740992 : Int64)) ∈ gtbl := gt_t (k := 104) rfl rfl
theorem tw_107 : (Jvm.Cond.methodLink "RealDesk" (30 : Nat) ({ cls := "java/lang/Math", name := "abs", desc := "(J)J" } : Jvm.MethodName)) ∈ gtbl := gt_t (k := 107) rfl rfl
theorem tw_108 : (Jvm.Cond.static ({ cls := "java/lang/Math", name := "abs", desc := "(J)J" } : Jvm.MethodName)) ∈ gtbl := gt_t (k := 108) rfl rfl
theorem tw_109 : (Jvm.Cond.code ({ cls := "java/lang/Math", name := "abs", desc := "(J)J" } : Jvm.MethodName) prog_10_method_61_code (2 : Nat) (Option.some Jvm.ClassFile.FieldType.long)) ∈ gtbl := gt_t (k := 109) rfl rfl
theorem tw_110 : (Jvm.Cond.methodLink "RealDesk" (36 : Nat) ({ cls := "RealDesk", name := "nearest", desc := "(JI)J" } : Jvm.MethodName)) ∈ gtbl := gt_t (k := 110) rfl rfl
theorem tw_111 : (Jvm.Cond.static ({ cls := "RealDesk", name := "nearest", desc := "(JI)J" } : Jvm.MethodName)) ∈ gtbl := gt_t (k := 111) rfl rfl
theorem tw_112 : (Jvm.Cond.code ({ cls := "RealDesk", name := "nearest", desc := "(JI)J" } : Jvm.MethodName) prog_1_method_26_code (8 : Nat) (Option.some Jvm.ClassFile.FieldType.long)) ∈ gtbl := gt_t (k := 112) rfl rfl
theorem tw_113 : (Jvm.Cond.methodLink "RealDesk" (146 : Nat) ({ cls := "java/lang/Long", name := "numberOfLeadingZeros", desc := "(J)I" } : Jvm.MethodName)) ∈ gtbl := gt_t (k := 113) rfl rfl
theorem tw_114 : (Jvm.Cond.static ({ cls := "java/lang/Long", name := "numberOfLeadingZeros", desc := "(J)I" } : Jvm.MethodName)) ∈ gtbl := gt_t (k := 114) rfl rfl
theorem tw_115 : (Jvm.Cond.code ({ cls := "java/lang/Long", name := "numberOfLeadingZeros", desc := "(J)I" } : Jvm.MethodName) prog_9_method_48_code (3 : Nat) (Option.some Jvm.ClassFile.FieldType.int)) ∈ gtbl := gt_t (k := 115) rfl rfl
theorem tw_116 : (Jvm.Cond.methodLink "java/lang/Long" (308 : Nat) ({ cls := "java/lang/Integer", name := "numberOfLeadingZeros", desc := "(I)I" } : Jvm.MethodName)) ∈ gtbl := gt_t (k := 116) rfl rfl
theorem tw_117 : (Jvm.Cond.static ({ cls := "java/lang/Integer", name := "numberOfLeadingZeros", desc := "(I)I" } : Jvm.MethodName)) ∈ gtbl := gt_t (k := 117) rfl rfl
theorem tw_118 : (Jvm.Cond.code ({ cls := "java/lang/Integer", name := "numberOfLeadingZeros", desc := "(I)I" } : Jvm.MethodName) prog_8_method_47_code (2 : Nat) (Option.some Jvm.ClassFile.FieldType.int)) ∈ gtbl := gt_t (k := 118) rfl rfl
theorem tw_119 : (Jvm.Cond.constant "java/lang/Integer" (264 : Nat) (65536 : Int32)) ∈ gtbl := gt_t (k := 119) rfl rfl
theorem tw_120 : (Jvm.Cond.methodLink "RealDesk" (151 : Nat) ({ cls := "java/lang/Math", name := "max", desc := "(II)I" } : Jvm.MethodName)) ∈ gtbl := gt_t (k := 120) rfl rfl
theorem tw_121 : (Jvm.Cond.static ({ cls := "java/lang/Math", name := "max", desc := "(II)I" } : Jvm.MethodName)) ∈ gtbl := gt_t (k := 121) rfl rfl
theorem tw_122 : (Jvm.Cond.code ({ cls := "java/lang/Math", name := "max", desc := "(II)I" } : Jvm.MethodName) prog_10_method_65_code (2 : Nat) (Option.some Jvm.ClassFile.FieldType.int)) ∈ gtbl := gt_t (k := 122) rfl rfl
theorem tw_123 : (Jvm.Cond.constantLong "RealDesk" (140 : Nat) (9218868437227405312 : Int64)) ∈ gtbl := gt_t (k := 123) rfl rfl
theorem tw_124 : (Jvm.Cond.methodLink "RealDesk" (156 : Nat) ({ cls := "RealDesk", name := "nearestWhole", desc := "(JI)J" } : Jvm.MethodName)) ∈ gtbl := gt_t (k := 124) rfl rfl
theorem tw_125 : (Jvm.Cond.static ({ cls := "RealDesk", name := "nearestWhole", desc := "(JI)J" } : Jvm.MethodName)) ∈ gtbl := gt_t (k := 125) rfl rfl
theorem tw_126 : (Jvm.Cond.code ({ cls := "RealDesk", name := "nearestWhole", desc := "(JI)J" } : Jvm.MethodName) prog_1_method_25_code (10 : Nat) (Option.some Jvm.ClassFile.FieldType.long)) ∈ gtbl := gt_t (k := 126) rfl rfl
theorem tw_127 : (Jvm.Cond.methodLink "RealDesk" (100 : Nat) ({ cls := "RealDesk", name := "lowPlaces", desc := "(JI)J" } : Jvm.MethodName)) ∈ gtbl := gt_t (k := 127) rfl rfl
theorem tw_128 : (Jvm.Cond.static ({ cls := "RealDesk", name := "lowPlaces", desc := "(JI)J" } : Jvm.MethodName)) ∈ gtbl := gt_t (k := 128) rfl rfl
theorem tw_129 : (Jvm.Cond.code ({ cls := "RealDesk", name := "lowPlaces", desc := "(JI)J" } : Jvm.MethodName) prog_1_method_23_code (3 : Nat) (Option.some Jvm.ClassFile.FieldType.long)) ∈ gtbl := gt_t (k := 129) rfl rfl
theorem tw_130 : (Jvm.Cond.methodLink "RealDesk" (40 : Nat) ({ cls := "RealDesk", name := "withSignOf", desc := "(JJ)J" } : Jvm.MethodName)) ∈ gtbl := gt_t (k := 130) rfl rfl
theorem tw_131 : (Jvm.Cond.static ({ cls := "RealDesk", name := "withSignOf", desc := "(JJ)J" } : Jvm.MethodName)) ∈ gtbl := gt_t (k := 131) rfl rfl
theorem tw_132 : (Jvm.Cond.code ({ cls := "RealDesk", name := "withSignOf", desc := "(JJ)J" } : Jvm.MethodName) prog_1_method_17_code (4 : Nat) (Option.some Jvm.ClassFile.FieldType.long)) ∈ gtbl := gt_t (k := 132) rfl rfl
theorem tw_133 : (Jvm.Cond.methodLink "RealDesk" (44 : Nat) ({ cls := "RealDesk", name := "keep", desc := "(IJ)I" } : Jvm.MethodName)) ∈ gtbl := gt_t (k := 133) rfl rfl
theorem tw_135 : (Jvm.Cond.instanceMethod ({ cls := "RealDesk", name := "keep", desc := "(IJ)I" } : Jvm.MethodName)) ∈ gtbl := gt_t (k := 135) rfl rfl
theorem tw_136 : (Jvm.Cond.code ({ cls := "RealDesk", name := "keep", desc := "(IJ)I" } : Jvm.MethodName) prog_1_method_13_code (4 : Nat) (Option.some Jvm.ClassFile.FieldType.int)) ∈ gtbl := gt_t (k := 136) rfl rfl
theorem tw_137 : (Jvm.Cond.methodLink "RealDesk" (67 : Nat) ({ cls := "RealDesk", name := "isOver", desc := "(J)Z" } : Jvm.MethodName)) ∈ gtbl := gt_t (k := 137) rfl rfl
theorem tw_138 : (Jvm.Cond.static ({ cls := "RealDesk", name := "isOver", desc := "(J)Z" } : Jvm.MethodName)) ∈ gtbl := gt_t (k := 138) rfl rfl
theorem tw_139 : (Jvm.Cond.code ({ cls := "RealDesk", name := "isOver", desc := "(J)Z" } : Jvm.MethodName) prog_1_method_16_code (2 : Nat) (Option.some Jvm.ClassFile.FieldType.boolean)) ∈ gtbl := gt_t (k := 139) rfl rfl
theorem tw_140 : (Jvm.Cond.constantLong "RealDesk" (142 : Nat) (-9218868437227405312 : Int64)) ∈ gtbl := gt_t (k := 140) rfl rfl
theorem tw_141 : (Jvm.Cond.methodLink "RealDeskLaw" (63 : Nat) ({ cls := "RealDeskLaw", name := "combine", desc := "(LRealDesk;IIII[J)I" } : Jvm.MethodName)) ∈ gtbl := gt_t (k := 141) rfl rfl
theorem tw_142 : (Jvm.Cond.static ({ cls := "RealDeskLaw", name := "combine", desc := "(LRealDesk;IIII[J)I" } : Jvm.MethodName)) ∈ gtbl := gt_t (k := 142) rfl rfl
theorem tw_143 : (Jvm.Cond.codeWith ({ cls := "RealDeskLaw", name := "combine", desc := "(LRealDesk;IIII[J)I" } : Jvm.MethodName) method_4_code (7 : Nat) (Option.some Jvm.ClassFile.FieldType.int) [((0 : Nat), (14 : Nat), (17 : Nat), (13 : Nat))]) ∈ gtbl := gt_t (k := 143) rfl rfl
theorem tw_144 : (Jvm.Cond.methodLink "RealDeskLaw" (15 : Nat) ({ cls := "RealDesk", name := "combine", desc := "(IIII)I" } : Jvm.MethodName)) ∈ gtbl := gt_t (k := 144) rfl rfl
theorem tw_145 : (Jvm.Cond.instanceMethod ({ cls := "RealDesk", name := "combine", desc := "(IIII)I" } : Jvm.MethodName)) ∈ gtbl := gt_t (k := 145) rfl rfl
theorem tw_146 : (Jvm.Cond.selects "RealDesk" ({ cls := "RealDesk", name := "combine", desc := "(IIII)I" } : Jvm.MethodName) ({ cls := "RealDesk", name := "combine", desc := "(IIII)I" } : Jvm.MethodName)) ∈ gtbl := gt_t (k := 146) rfl rfl
theorem tw_147 : (Jvm.Cond.code ({ cls := "RealDesk", name := "combine", desc := "(IIII)I" } : Jvm.MethodName) prog_1_method_3_code (5 : Nat) (Option.some Jvm.ClassFile.FieldType.int)) ∈ gtbl := gt_t (k := 147) rfl rfl
theorem tw_148 : (Jvm.Cond.methodLink "RealDesk" (48 : Nat) ({ cls := "RealDesk", name := "requireKind", desc := "(I)V" } : Jvm.MethodName)) ∈ gtbl := gt_t (k := 148) rfl rfl
theorem tw_149 : (Jvm.Cond.static ({ cls := "RealDesk", name := "requireKind", desc := "(I)V" } : Jvm.MethodName)) ∈ gtbl := gt_t (k := 149) rfl rfl
theorem tw_150 : (Jvm.Cond.code ({ cls := "RealDesk", name := "requireKind", desc := "(I)V" } : Jvm.MethodName) prog_1_method_12_code (1 : Nat) (Option.none : Option Jvm.ClassFile.FieldType)) ∈ gtbl := gt_t (k := 150) rfl rfl
theorem tw_152 : (Jvm.Cond.methodLink "RealDesk" (51 : Nat) ({ cls := "RealDesk", name := "combineRanks", desc := "(IIJJ)I" } : Jvm.MethodName)) ∈ gtbl := gt_t (k := 152) rfl rfl
theorem tw_154 : (Jvm.Cond.instanceMethod ({ cls := "RealDesk", name := "combineRanks", desc := "(IIJJ)I" } : Jvm.MethodName)) ∈ gtbl := gt_t (k := 154) rfl rfl
theorem tw_155 : (Jvm.Cond.code ({ cls := "RealDesk", name := "combineRanks", desc := "(IIJJ)I" } : Jvm.MethodName) prog_1_method_14_code (7 : Nat) (Option.some Jvm.ClassFile.FieldType.int)) ∈ gtbl := gt_t (k := 155) rfl rfl
theorem tw_156 : (Jvm.Cond.methodLink "RealDesk" (109 : Nat) ({ cls := "RealDesk", name := "sum", desc := "(JJ)J" } : Jvm.MethodName)) ∈ gtbl := gt_t (k := 156) rfl rfl
theorem tw_157 : (Jvm.Cond.static ({ cls := "RealDesk", name := "sum", desc := "(JJ)J" } : Jvm.MethodName)) ∈ gtbl := gt_t (k := 157) rfl rfl
theorem tw_158 : (Jvm.Cond.code ({ cls := "RealDesk", name := "sum", desc := "(JJ)J" } : Jvm.MethodName) prog_1_method_29_code (17 : Nat) (Option.some Jvm.ClassFile.FieldType.long)) ∈ gtbl := gt_t (k := 158) rfl rfl
theorem tw_159 : (Jvm.Cond.methodLink "RealDesk" (159 : Nat) ({ cls := "RealDesk", name := "greatInSize", desc := "(JJ)J" } : Jvm.MethodName)) ∈ gtbl := gt_t (k := 159) rfl rfl
theorem tw_160 : (Jvm.Cond.static ({ cls := "RealDesk", name := "greatInSize", desc := "(JJ)J" } : Jvm.MethodName)) ∈ gtbl := gt_t (k := 160) rfl rfl
theorem tw_161 : (Jvm.Cond.code ({ cls := "RealDesk", name := "greatInSize", desc := "(JJ)J" } : Jvm.MethodName) prog_1_method_27_code (4 : Nat) (Option.some Jvm.ClassFile.FieldType.long)) ∈ gtbl := gt_t (k := 161) rfl rfl
theorem tw_162 : (Jvm.Cond.methodLink "RealDesk" (162 : Nat) ({ cls := "RealDesk", name := "smallInSize", desc := "(JJ)J" } : Jvm.MethodName)) ∈ gtbl := gt_t (k := 162) rfl rfl
theorem tw_163 : (Jvm.Cond.static ({ cls := "RealDesk", name := "smallInSize", desc := "(JJ)J" } : Jvm.MethodName)) ∈ gtbl := gt_t (k := 163) rfl rfl
theorem tw_164 : (Jvm.Cond.code ({ cls := "RealDesk", name := "smallInSize", desc := "(JJ)J" } : Jvm.MethodName) prog_1_method_28_code (4 : Nat) (Option.some Jvm.ClassFile.FieldType.long)) ∈ gtbl := gt_t (k := 164) rfl rfl
theorem tw_165 : (Jvm.Cond.methodLink "RealDesk" (79 : Nat) ({ cls := "RealDesk", name := "eOf", desc := "(J)I" } : Jvm.MethodName)) ∈ gtbl := gt_t (k := 165) rfl rfl
theorem tw_166 : (Jvm.Cond.static ({ cls := "RealDesk", name := "eOf", desc := "(J)I" } : Jvm.MethodName)) ∈ gtbl := gt_t (k := 166) rfl rfl
theorem tw_167 : (Jvm.Cond.code ({ cls := "RealDesk", name := "eOf", desc := "(J)I" } : Jvm.MethodName) prog_1_method_19_code (4 : Nat) (Option.some Jvm.ClassFile.FieldType.int)) ∈ gtbl := gt_t (k := 167) rfl rfl
theorem tw_168 : (Jvm.Cond.methodLink "RealDesk" (96 : Nat) ({ cls := "java/lang/Math", name := "min", desc := "(II)I" } : Jvm.MethodName)) ∈ gtbl := gt_t (k := 168) rfl rfl
theorem tw_169 : (Jvm.Cond.static ({ cls := "java/lang/Math", name := "min", desc := "(II)I" } : Jvm.MethodName)) ∈ gtbl := gt_t (k := 169) rfl rfl
theorem tw_170 : (Jvm.Cond.code ({ cls := "java/lang/Math", name := "min", desc := "(II)I" } : Jvm.MethodName) prog_10_method_69_code (2 : Nat) (Option.some Jvm.ClassFile.FieldType.int)) ∈ gtbl := gt_t (k := 170) rfl rfl
theorem tw_171 : (Jvm.Cond.methodLink "RealDesk" (76 : Nat) ({ cls := "RealDesk", name := "mOf", desc := "(J)J" } : Jvm.MethodName)) ∈ gtbl := gt_t (k := 171) rfl rfl
theorem tw_172 : (Jvm.Cond.static ({ cls := "RealDesk", name := "mOf", desc := "(J)J" } : Jvm.MethodName)) ∈ gtbl := gt_t (k := 172) rfl rfl
theorem tw_173 : (Jvm.Cond.code ({ cls := "RealDesk", name := "mOf", desc := "(J)J" } : Jvm.MethodName) prog_1_method_18_code (4 : Nat) (Option.some Jvm.ClassFile.FieldType.long)) ∈ gtbl := gt_t (k := 173) rfl rfl
theorem tw_174 : (Jvm.Cond.constantLong "RealDesk" (144 : Nat) (4503599627370496 : Int64)) ∈ gtbl := gt_t (k := 174) rfl rfl
theorem tw_175 : (Jvm.Cond.methodLink "RealDesk" (165 : Nat) ({ cls := "RealDesk", name := "lower", desc := "(JI)J" } : Jvm.MethodName)) ∈ gtbl := gt_t (k := 175) rfl rfl
theorem tw_176 : (Jvm.Cond.static ({ cls := "RealDesk", name := "lower", desc := "(JI)J" } : Jvm.MethodName)) ∈ gtbl := gt_t (k := 176) rfl rfl
theorem tw_177 : (Jvm.Cond.code ({ cls := "RealDesk", name := "lower", desc := "(JI)J" } : Jvm.MethodName) prog_1_method_24_code (5 : Nat) (Option.some Jvm.ClassFile.FieldType.long)) ∈ gtbl := gt_t (k := 177) rfl rfl
theorem tw_178 : (Jvm.Cond.methodLink "RealDesk" (112 : Nat) ({ cls := "RealDesk", name := "product", desc := "(JJ)J" } : Jvm.MethodName)) ∈ gtbl := gt_t (k := 178) rfl rfl
theorem tw_179 : (Jvm.Cond.static ({ cls := "RealDesk", name := "product", desc := "(JJ)J" } : Jvm.MethodName)) ∈ gtbl := gt_t (k := 179) rfl rfl
theorem tw_180 : (Jvm.Cond.code ({ cls := "RealDesk", name := "product", desc := "(JJ)J" } : Jvm.MethodName) prog_1_method_31_code (5 : Nat) (Option.some Jvm.ClassFile.FieldType.long)) ∈ gtbl := gt_t (k := 180) rfl rfl
theorem tw_181 : (Jvm.Cond.methodLink "RealDesk" (168 : Nat) ({ cls := "RealDesk", name := "liftedE", desc := "(J)I" } : Jvm.MethodName)) ∈ gtbl := gt_t (k := 181) rfl rfl
theorem tw_182 : (Jvm.Cond.static ({ cls := "RealDesk", name := "liftedE", desc := "(J)I" } : Jvm.MethodName)) ∈ gtbl := gt_t (k := 182) rfl rfl
theorem tw_183 : (Jvm.Cond.code ({ cls := "RealDesk", name := "liftedE", desc := "(J)I" } : Jvm.MethodName) prog_1_method_22_code (2 : Nat) (Option.some Jvm.ClassFile.FieldType.int)) ∈ gtbl := gt_t (k := 183) rfl rfl
theorem tw_184 : (Jvm.Cond.methodLink "RealDesk" (153 : Nat) ({ cls := "RealDesk", name := "lift", desc := "(J)I" } : Jvm.MethodName)) ∈ gtbl := gt_t (k := 184) rfl rfl
theorem tw_185 : (Jvm.Cond.static ({ cls := "RealDesk", name := "lift", desc := "(J)I" } : Jvm.MethodName)) ∈ gtbl := gt_t (k := 185) rfl rfl
theorem tw_186 : (Jvm.Cond.code ({ cls := "RealDesk", name := "lift", desc := "(J)I" } : Jvm.MethodName) prog_1_method_20_code (2 : Nat) (Option.some Jvm.ClassFile.FieldType.int)) ∈ gtbl := gt_t (k := 186) rfl rfl
theorem tw_187 : (Jvm.Cond.methodLink "RealDesk" (171 : Nat) ({ cls := "RealDesk", name := "liftedM", desc := "(J)J" } : Jvm.MethodName)) ∈ gtbl := gt_t (k := 187) rfl rfl
theorem tw_188 : (Jvm.Cond.static ({ cls := "RealDesk", name := "liftedM", desc := "(J)J" } : Jvm.MethodName)) ∈ gtbl := gt_t (k := 188) rfl rfl
theorem tw_189 : (Jvm.Cond.code ({ cls := "RealDesk", name := "liftedM", desc := "(J)J" } : Jvm.MethodName) prog_1_method_21_code (2 : Nat) (Option.some Jvm.ClassFile.FieldType.long)) ∈ gtbl := gt_t (k := 189) rfl rfl
theorem tw_190 : (Jvm.Cond.methodLink "RealDesk" (174 : Nat) ({ cls := "RealDesk", name := "topOfProduct", desc := "(JJ)J" } : Jvm.MethodName)) ∈ gtbl := gt_t (k := 190) rfl rfl
theorem tw_191 : (Jvm.Cond.static ({ cls := "RealDesk", name := "topOfProduct", desc := "(JJ)J" } : Jvm.MethodName)) ∈ gtbl := gt_t (k := 191) rfl rfl
theorem tw_192 : (Jvm.Cond.code ({ cls := "RealDesk", name := "topOfProduct", desc := "(JJ)J" } : Jvm.MethodName) prog_1_method_32_code (20 : Nat) (Option.some Jvm.ClassFile.FieldType.long)) ∈ gtbl := gt_t (k := 192) rfl rfl
theorem tw_193 : (Jvm.Cond.methodLink "RealDesk" (73 : Nat) ({ cls := "RealDesk", name := "quotient", desc := "(JJ)J" } : Jvm.MethodName)) ∈ gtbl := gt_t (k := 193) rfl rfl
theorem tw_194 : (Jvm.Cond.static ({ cls := "RealDesk", name := "quotient", desc := "(JJ)J" } : Jvm.MethodName)) ∈ gtbl := gt_t (k := 194) rfl rfl
theorem tw_195 : (Jvm.Cond.code ({ cls := "RealDesk", name := "quotient", desc := "(JJ)J" } : Jvm.MethodName) prog_1_method_35_code (13 : Nat) (Option.some Jvm.ClassFile.FieldType.long)) ∈ gtbl := gt_t (k := 195) rfl rfl
theorem tw_196 : (Jvm.Cond.methodLink "RealDesk" (115 : Nat) ({ cls := "RealDesk", name := "rest", desc := "(JJ)J" } : Jvm.MethodName)) ∈ gtbl := gt_t (k := 196) rfl rfl
theorem tw_197 : (Jvm.Cond.static ({ cls := "RealDesk", name := "rest", desc := "(JJ)J" } : Jvm.MethodName)) ∈ gtbl := gt_t (k := 197) rfl rfl
theorem tw_198 : (Jvm.Cond.code ({ cls := "RealDesk", name := "rest", desc := "(JJ)J" } : Jvm.MethodName) prog_1_method_36_code (9 : Nat) (Option.some Jvm.ClassFile.FieldType.long)) ∈ gtbl := gt_t (k := 198) rfl rfl
theorem tw_199 : (Jvm.Cond.methodLink "RealDesk" (118 : Nat) ({ cls := "java/lang/Math", name := "min", desc := "(JJ)J" } : Jvm.MethodName)) ∈ gtbl := gt_t (k := 199) rfl rfl
theorem tw_200 : (Jvm.Cond.static ({ cls := "java/lang/Math", name := "min", desc := "(JJ)J" } : Jvm.MethodName)) ∈ gtbl := gt_t (k := 200) rfl rfl
theorem tw_201 : (Jvm.Cond.code ({ cls := "java/lang/Math", name := "min", desc := "(JJ)J" } : Jvm.MethodName) prog_10_method_70_code (4 : Nat) (Option.some Jvm.ClassFile.FieldType.long)) ∈ gtbl := gt_t (k := 201) rfl rfl
theorem tw_202 : (Jvm.Cond.methodLink "RealDesk" (120 : Nat) ({ cls := "java/lang/Math", name := "max", desc := "(JJ)J" } : Jvm.MethodName)) ∈ gtbl := gt_t (k := 202) rfl rfl
theorem tw_203 : (Jvm.Cond.static ({ cls := "java/lang/Math", name := "max", desc := "(JJ)J" } : Jvm.MethodName)) ∈ gtbl := gt_t (k := 203) rfl rfl
theorem tw_204 : (Jvm.Cond.code ({ cls := "java/lang/Math", name := "max", desc := "(JJ)J" } : Jvm.MethodName) prog_10_method_66_code (4 : Nat) (Option.some Jvm.ClassFile.FieldType.long)) ∈ gtbl := gt_t (k := 204) rfl rfl
theorem tw_205 : (Jvm.Cond.methodLink "RealDesk" (123 : Nat) ({ cls := "RealDesk", name := "sumError", desc := "(JJ)J" } : Jvm.MethodName)) ∈ gtbl := gt_t (k := 205) rfl rfl
theorem tw_206 : (Jvm.Cond.static ({ cls := "RealDesk", name := "sumError", desc := "(JJ)J" } : Jvm.MethodName)) ∈ gtbl := gt_t (k := 206) rfl rfl
theorem tw_207 : (Jvm.Cond.code ({ cls := "RealDesk", name := "sumError", desc := "(JJ)J" } : Jvm.MethodName) prog_1_method_30_code (10 : Nat) (Option.some Jvm.ClassFile.FieldType.long)) ∈ gtbl := gt_t (k := 207) rfl rfl
theorem tw_208 : (Jvm.Cond.methodLink "RealDesk" (126 : Nat) ({ cls := "RealDesk", name := "isSmallProduct", desc := "(JJ)Z" } : Jvm.MethodName)) ∈ gtbl := gt_t (k := 208) rfl rfl
theorem tw_209 : (Jvm.Cond.static ({ cls := "RealDesk", name := "isSmallProduct", desc := "(JJ)Z" } : Jvm.MethodName)) ∈ gtbl := gt_t (k := 209) rfl rfl
theorem tw_210 : (Jvm.Cond.code ({ cls := "RealDesk", name := "isSmallProduct", desc := "(JJ)Z" } : Jvm.MethodName) prog_1_method_33_code (7 : Nat) (Option.some Jvm.ClassFile.FieldType.boolean)) ∈ gtbl := gt_t (k := 210) rfl rfl
theorem tw_211 : (Jvm.Cond.methodLink "RealDesk" (130 : Nat) ({ cls := "RealDesk", name := "productError", desc := "(JJ)J" } : Jvm.MethodName)) ∈ gtbl := gt_t (k := 211) rfl rfl
theorem tw_212 : (Jvm.Cond.static ({ cls := "RealDesk", name := "productError", desc := "(JJ)J" } : Jvm.MethodName)) ∈ gtbl := gt_t (k := 212) rfl rfl
theorem tw_213 : (Jvm.Cond.code ({ cls := "RealDesk", name := "productError", desc := "(JJ)J" } : Jvm.MethodName) prog_1_method_34_code (11 : Nat) (Option.some Jvm.ClassFile.FieldType.long)) ∈ gtbl := gt_t (k := 213) rfl rfl
theorem tw_214 : (Jvm.Cond.methodLink "RealDeskLaw" (67 : Nat) ({ cls := "RealDeskLaw", name := "change", desc := "(LRealDesk;III[J)I" } : Jvm.MethodName)) ∈ gtbl := gt_t (k := 214) rfl rfl
theorem tw_215 : (Jvm.Cond.static ({ cls := "RealDeskLaw", name := "change", desc := "(LRealDesk;III[J)I" } : Jvm.MethodName)) ∈ gtbl := gt_t (k := 215) rfl rfl
theorem tw_216 : (Jvm.Cond.codeWith ({ cls := "RealDeskLaw", name := "change", desc := "(LRealDesk;III[J)I" } : Jvm.MethodName) method_5_code (6 : Nat) (Option.some Jvm.ClassFile.FieldType.int) [((0 : Nat), (12 : Nat), (15 : Nat), (13 : Nat))]) ∈ gtbl := gt_t (k := 216) rfl rfl
theorem tw_217 : (Jvm.Cond.methodLink "RealDeskLaw" (19 : Nat) ({ cls := "RealDesk", name := "change", desc := "(III)I" } : Jvm.MethodName)) ∈ gtbl := gt_t (k := 217) rfl rfl
theorem tw_218 : (Jvm.Cond.instanceMethod ({ cls := "RealDesk", name := "change", desc := "(III)I" } : Jvm.MethodName)) ∈ gtbl := gt_t (k := 218) rfl rfl
theorem tw_219 : (Jvm.Cond.selects "RealDesk" ({ cls := "RealDesk", name := "change", desc := "(III)I" } : Jvm.MethodName) ({ cls := "RealDesk", name := "change", desc := "(III)I" } : Jvm.MethodName)) ∈ gtbl := gt_t (k := 219) rfl rfl
theorem tw_220 : (Jvm.Cond.code ({ cls := "RealDesk", name := "change", desc := "(III)I" } : Jvm.MethodName) prog_1_method_4_code (4 : Nat) (Option.some Jvm.ClassFile.FieldType.int)) ∈ gtbl := gt_t (k := 220) rfl rfl
theorem tw_221 : (Jvm.Cond.methodLink "RealDesk" (55 : Nat) ({ cls := "RealDesk", name := "changeRank", desc := "(IIJ)I" } : Jvm.MethodName)) ∈ gtbl := gt_t (k := 221) rfl rfl
theorem tw_223 : (Jvm.Cond.instanceMethod ({ cls := "RealDesk", name := "changeRank", desc := "(IIJ)I" } : Jvm.MethodName)) ∈ gtbl := gt_t (k := 223) rfl rfl
theorem tw_224 : (Jvm.Cond.code ({ cls := "RealDesk", name := "changeRank", desc := "(IIJ)I" } : Jvm.MethodName) prog_1_method_15_code (5 : Nat) (Option.some Jvm.ClassFile.FieldType.int)) ∈ gtbl := gt_t (k := 224) rfl rfl
theorem tw_225 : (Jvm.Cond.methodLink "RealDesk" (133 : Nat) ({ cls := "RealDesk", name := "root", desc := "(J)J" } : Jvm.MethodName)) ∈ gtbl := gt_t (k := 225) rfl rfl
theorem tw_226 : (Jvm.Cond.static ({ cls := "RealDesk", name := "root", desc := "(J)J" } : Jvm.MethodName)) ∈ gtbl := gt_t (k := 226) rfl rfl
theorem tw_227 : (Jvm.Cond.code ({ cls := "RealDesk", name := "root", desc := "(J)J" } : Jvm.MethodName) prog_1_method_37_code (15 : Nat) (Option.some Jvm.ClassFile.FieldType.long)) ∈ gtbl := gt_t (k := 227) rfl rfl
theorem tw_228 : (Jvm.Cond.methodLink "RealDesk" (136 : Nat) ({ cls := "RealDesk", name := "wholeNear", desc := "(IJ)J" } : Jvm.MethodName)) ∈ gtbl := gt_t (k := 228) rfl rfl
theorem tw_229 : (Jvm.Cond.static ({ cls := "RealDesk", name := "wholeNear", desc := "(IJ)J" } : Jvm.MethodName)) ∈ gtbl := gt_t (k := 229) rfl rfl
theorem tw_230 : (Jvm.Cond.code ({ cls := "RealDesk", name := "wholeNear", desc := "(IJ)J" } : Jvm.MethodName) prog_1_method_38_code (13 : Nat) (Option.some Jvm.ClassFile.FieldType.long)) ∈ gtbl := gt_t (k := 230) rfl rfl
theorem tw_231 : (Jvm.Cond.methodLink "RealDeskLaw" (71 : Nat) ({ cls := "RealDeskLaw", name := "power", desc := "(LRealDesk;III[J)I" } : Jvm.MethodName)) ∈ gtbl := gt_t (k := 231) rfl rfl
theorem tw_232 : (Jvm.Cond.static ({ cls := "RealDeskLaw", name := "power", desc := "(LRealDesk;III[J)I" } : Jvm.MethodName)) ∈ gtbl := gt_t (k := 232) rfl rfl
theorem tw_233 : (Jvm.Cond.codeWith ({ cls := "RealDeskLaw", name := "power", desc := "(LRealDesk;III[J)I" } : Jvm.MethodName) method_6_code (6 : Nat) (Option.some Jvm.ClassFile.FieldType.int) [((0 : Nat), (12 : Nat), (15 : Nat), (13 : Nat))]) ∈ gtbl := gt_t (k := 233) rfl rfl
theorem tw_234 : (Jvm.Cond.methodLink "RealDeskLaw" (23 : Nat) ({ cls := "RealDesk", name := "power", desc := "(III)I" } : Jvm.MethodName)) ∈ gtbl := gt_t (k := 234) rfl rfl
theorem tw_235 : (Jvm.Cond.instanceMethod ({ cls := "RealDesk", name := "power", desc := "(III)I" } : Jvm.MethodName)) ∈ gtbl := gt_t (k := 235) rfl rfl
theorem tw_236 : (Jvm.Cond.selects "RealDesk" ({ cls := "RealDesk", name := "power", desc := "(III)I" } : Jvm.MethodName) ({ cls := "RealDesk", name := "power", desc := "(III)I" } : Jvm.MethodName)) ∈ gtbl := gt_t (k := 236) rfl rfl
theorem tw_237 : (Jvm.Cond.code ({ cls := "RealDesk", name := "power", desc := "(III)I" } : Jvm.MethodName) prog_1_method_5_code (6 : Nat) (Option.some Jvm.ClassFile.FieldType.int)) ∈ gtbl := gt_t (k := 237) rfl rfl
theorem tw_239 : (Jvm.Cond.methodLink "RealDesk" (61 : Nat) ({ cls := "java/lang/Math", name := "abs", desc := "(I)I" } : Jvm.MethodName)) ∈ gtbl := gt_t (k := 239) rfl rfl
theorem tw_240 : (Jvm.Cond.static ({ cls := "java/lang/Math", name := "abs", desc := "(I)I" } : Jvm.MethodName)) ∈ gtbl := gt_t (k := 240) rfl rfl
theorem tw_241 : (Jvm.Cond.code ({ cls := "java/lang/Math", name := "abs", desc := "(I)I" } : Jvm.MethodName) prog_10_method_59_code (1 : Nat) (Option.some Jvm.ClassFile.FieldType.int)) ∈ gtbl := gt_t (k := 241) rfl rfl
theorem tw_242 : (Jvm.Cond.methodLink "RealDesk" (64 : Nat) ({ cls := "RealDesk", name := "raise", desc := "(JI)J" } : Jvm.MethodName)) ∈ gtbl := gt_t (k := 242) rfl rfl
theorem tw_243 : (Jvm.Cond.static ({ cls := "RealDesk", name := "raise", desc := "(JI)J" } : Jvm.MethodName)) ∈ gtbl := gt_t (k := 243) rfl rfl
theorem tw_244 : (Jvm.Cond.code ({ cls := "RealDesk", name := "raise", desc := "(JI)J" } : Jvm.MethodName) prog_1_method_39_code (7 : Nat) (Option.some Jvm.ClassFile.FieldType.long)) ∈ gtbl := gt_t (k := 244) rfl rfl
theorem tw_245 : (Jvm.Cond.constantLong "RealDesk" (71 : Nat) (4607182418800017408 : Int64)) ∈ gtbl := gt_t (k := 245) rfl rfl
theorem tw_246 : (Jvm.Cond.methodLink "RealDesk" (177 : Nat) ({ cls := "java/lang/Integer", name := "numberOfLeadingZeros", desc := "(I)I" } : Jvm.MethodName)) ∈ gtbl := gt_t (k := 246) rfl rfl
theorem tw_247 : (Jvm.Cond.methodLink "RealDeskLaw" (74 : Nat) ({ cls := "RealDeskLaw", name := "order", desc := "(LRealDesk;II[J)I" } : Jvm.MethodName)) ∈ gtbl := gt_t (k := 247) rfl rfl
theorem tw_248 : (Jvm.Cond.static ({ cls := "RealDeskLaw", name := "order", desc := "(LRealDesk;II[J)I" } : Jvm.MethodName)) ∈ gtbl := gt_t (k := 248) rfl rfl
theorem tw_249 : (Jvm.Cond.codeWith ({ cls := "RealDeskLaw", name := "order", desc := "(LRealDesk;II[J)I" } : Jvm.MethodName) method_7_code (5 : Nat) (Option.some Jvm.ClassFile.FieldType.int) [((0 : Nat), (10 : Nat), (13 : Nat), (13 : Nat))]) ∈ gtbl := gt_t (k := 249) rfl rfl
theorem tw_250 : (Jvm.Cond.methodLink "RealDeskLaw" (26 : Nat) ({ cls := "RealDesk", name := "order", desc := "(II)I" } : Jvm.MethodName)) ∈ gtbl := gt_t (k := 250) rfl rfl
theorem tw_251 : (Jvm.Cond.instanceMethod ({ cls := "RealDesk", name := "order", desc := "(II)I" } : Jvm.MethodName)) ∈ gtbl := gt_t (k := 251) rfl rfl
theorem tw_252 : (Jvm.Cond.selects "RealDesk" ({ cls := "RealDesk", name := "order", desc := "(II)I" } : Jvm.MethodName) ({ cls := "RealDesk", name := "order", desc := "(II)I" } : Jvm.MethodName)) ∈ gtbl := gt_t (k := 252) rfl rfl
theorem tw_253 : (Jvm.Cond.code ({ cls := "RealDesk", name := "order", desc := "(II)I" } : Jvm.MethodName) prog_1_method_6_code (3 : Nat) (Option.some Jvm.ClassFile.FieldType.int)) ∈ gtbl := gt_t (k := 253) rfl rfl
theorem tw_254 : (Jvm.Cond.methodLink "RealDeskLaw" (78 : Nat) ({ cls := "RealDeskLaw", name := "digits", desc := "(LRealDesk;I[J)I" } : Jvm.MethodName)) ∈ gtbl := gt_t (k := 254) rfl rfl
theorem tw_255 : (Jvm.Cond.static ({ cls := "RealDeskLaw", name := "digits", desc := "(LRealDesk;I[J)I" } : Jvm.MethodName)) ∈ gtbl := gt_t (k := 255) rfl rfl
theorem tw_256 : (Jvm.Cond.codeWith ({ cls := "RealDeskLaw", name := "digits", desc := "(LRealDesk;I[J)I" } : Jvm.MethodName) method_8_code (4 : Nat) (Option.some Jvm.ClassFile.FieldType.int) [((0 : Nat), (8 : Nat), (11 : Nat), (13 : Nat))]) ∈ gtbl := gt_t (k := 256) rfl rfl
theorem tw_257 : (Jvm.Cond.methodLink "RealDeskLaw" (30 : Nat) ({ cls := "RealDesk", name := "digits", desc := "(I)J" } : Jvm.MethodName)) ∈ gtbl := gt_t (k := 257) rfl rfl
theorem tw_258 : (Jvm.Cond.instanceMethod ({ cls := "RealDesk", name := "digits", desc := "(I)J" } : Jvm.MethodName)) ∈ gtbl := gt_t (k := 258) rfl rfl
theorem tw_259 : (Jvm.Cond.selects "RealDesk" ({ cls := "RealDesk", name := "digits", desc := "(I)J" } : Jvm.MethodName) ({ cls := "RealDesk", name := "digits", desc := "(I)J" } : Jvm.MethodName)) ∈ gtbl := gt_t (k := 259) rfl rfl
theorem tw_260 : (Jvm.Cond.code ({ cls := "RealDesk", name := "digits", desc := "(I)J" } : Jvm.MethodName) prog_1_method_7_code (2 : Nat) (Option.some Jvm.ClassFile.FieldType.long)) ∈ gtbl := gt_t (k := 260) rfl rfl
theorem tw_261 : (Jvm.Cond.methodLink "RealDeskLaw" (82 : Nat) ({ cls := "RealDeskLaw", name := "exponent", desc := "(LRealDesk;I[J)I" } : Jvm.MethodName)) ∈ gtbl := gt_t (k := 261) rfl rfl
theorem tw_262 : (Jvm.Cond.static ({ cls := "RealDeskLaw", name := "exponent", desc := "(LRealDesk;I[J)I" } : Jvm.MethodName)) ∈ gtbl := gt_t (k := 262) rfl rfl
theorem tw_263 : (Jvm.Cond.codeWith ({ cls := "RealDeskLaw", name := "exponent", desc := "(LRealDesk;I[J)I" } : Jvm.MethodName) method_9_code (4 : Nat) (Option.some Jvm.ClassFile.FieldType.int) [((0 : Nat), (9 : Nat), (12 : Nat), (13 : Nat))]) ∈ gtbl := gt_t (k := 263) rfl rfl
theorem tw_264 : (Jvm.Cond.methodLink "RealDeskLaw" (34 : Nat) ({ cls := "RealDesk", name := "exponent", desc := "(I)I" } : Jvm.MethodName)) ∈ gtbl := gt_t (k := 264) rfl rfl
theorem tw_265 : (Jvm.Cond.instanceMethod ({ cls := "RealDesk", name := "exponent", desc := "(I)I" } : Jvm.MethodName)) ∈ gtbl := gt_t (k := 265) rfl rfl
theorem tw_266 : (Jvm.Cond.selects "RealDesk" ({ cls := "RealDesk", name := "exponent", desc := "(I)I" } : Jvm.MethodName) ({ cls := "RealDesk", name := "exponent", desc := "(I)I" } : Jvm.MethodName)) ∈ gtbl := gt_t (k := 266) rfl rfl
theorem tw_267 : (Jvm.Cond.code ({ cls := "RealDesk", name := "exponent", desc := "(I)I" } : Jvm.MethodName) prog_1_method_8_code (2 : Nat) (Option.some Jvm.ClassFile.FieldType.int)) ∈ gtbl := gt_t (k := 267) rfl rfl
theorem tw_268 : (Jvm.Cond.methodLink "RealDeskLaw" (85 : Nat) ({ cls := "RealDeskLaw", name := "value", desc := "(LRealDesk;I[D)I" } : Jvm.MethodName)) ∈ gtbl := gt_t (k := 268) rfl rfl
theorem tw_269 : (Jvm.Cond.static ({ cls := "RealDeskLaw", name := "value", desc := "(LRealDesk;I[D)I" } : Jvm.MethodName)) ∈ gtbl := gt_t (k := 269) rfl rfl
theorem tw_270 : (Jvm.Cond.codeWith ({ cls := "RealDeskLaw", name := "value", desc := "(LRealDesk;I[D)I" } : Jvm.MethodName) method_10_code (4 : Nat) (Option.some Jvm.ClassFile.FieldType.int) [((0 : Nat), (8 : Nat), (11 : Nat), (13 : Nat))]) ∈ gtbl := gt_t (k := 270) rfl rfl
theorem tw_271 : (Jvm.Cond.methodLink "RealDeskLaw" (38 : Nat) ({ cls := "RealDesk", name := "value", desc := "(I)D" } : Jvm.MethodName)) ∈ gtbl := gt_t (k := 271) rfl rfl
theorem tw_272 : (Jvm.Cond.instanceMethod ({ cls := "RealDesk", name := "value", desc := "(I)D" } : Jvm.MethodName)) ∈ gtbl := gt_t (k := 272) rfl rfl
theorem tw_273 : (Jvm.Cond.selects "RealDesk" ({ cls := "RealDesk", name := "value", desc := "(I)D" } : Jvm.MethodName) ({ cls := "RealDesk", name := "value", desc := "(I)D" } : Jvm.MethodName)) ∈ gtbl := gt_t (k := 273) rfl rfl
theorem tw_274 : (Jvm.Cond.code ({ cls := "RealDesk", name := "value", desc := "(I)D" } : Jvm.MethodName) prog_1_method_9_code (4 : Nat) (Option.some Jvm.ClassFile.FieldType.double)) ∈ gtbl := gt_t (k := 274) rfl rfl
theorem tw_275 : (Jvm.Cond.methodLink "RealDesk" (83 : Nat) ({ cls := "RealDesk", name := "powerOfTwo", desc := "(I)D" } : Jvm.MethodName)) ∈ gtbl := gt_t (k := 275) rfl rfl
theorem tw_276 : (Jvm.Cond.static ({ cls := "RealDesk", name := "powerOfTwo", desc := "(I)D" } : Jvm.MethodName)) ∈ gtbl := gt_t (k := 276) rfl rfl
theorem tw_277 : (Jvm.Cond.code ({ cls := "RealDesk", name := "powerOfTwo", desc := "(I)D" } : Jvm.MethodName) prog_1_method_40_code (6 : Nat) (Option.some Jvm.ClassFile.FieldType.double)) ∈ gtbl := gt_t (k := 277) rfl rfl
theorem tw_278 : (Jvm.Cond.constantDouble "RealDesk" (181 : Nat) (4602678819172646912 : UInt64)) ∈ gtbl := gt_t (k := 278) rfl rfl
theorem tw_279 : (Jvm.Cond.constantDouble "RealDesk" (183 : Nat) (4611686018427387904 : UInt64)) ∈ gtbl := gt_t (k := 279) rfl rfl
theorem tw_280 : (Jvm.Cond.methodLink "RealDeskLaw" (89 : Nat) ({ cls := "RealDeskLaw", name := "whole", desc := "(LRealDesk;I[J)I" } : Jvm.MethodName)) ∈ gtbl := gt_t (k := 280) rfl rfl
theorem tw_281 : (Jvm.Cond.static ({ cls := "RealDeskLaw", name := "whole", desc := "(LRealDesk;I[J)I" } : Jvm.MethodName)) ∈ gtbl := gt_t (k := 281) rfl rfl
theorem tw_282 : (Jvm.Cond.codeWith ({ cls := "RealDeskLaw", name := "whole", desc := "(LRealDesk;I[J)I" } : Jvm.MethodName) method_11_code (4 : Nat) (Option.some Jvm.ClassFile.FieldType.int) [((0 : Nat), (8 : Nat), (11 : Nat), (13 : Nat)), ((0 : Nat), (8 : Nat), (14 : Nat), (45 : Nat))]) ∈ gtbl := gt_t (k := 282) rfl rfl
theorem tw_283 : (Jvm.Cond.classLink "RealDeskLaw" (45 : Nat) "java/lang/IllegalStateException") ∈ gtbl := gt_t (k := 283) rfl rfl
theorem tw_284 : (Jvm.Cond.methodLink "RealDeskLaw" (42 : Nat) ({ cls := "RealDesk", name := "whole", desc := "(I)J" } : Jvm.MethodName)) ∈ gtbl := gt_t (k := 284) rfl rfl
theorem tw_285 : (Jvm.Cond.instanceMethod ({ cls := "RealDesk", name := "whole", desc := "(I)J" } : Jvm.MethodName)) ∈ gtbl := gt_t (k := 285) rfl rfl
theorem tw_286 : (Jvm.Cond.selects "RealDesk" ({ cls := "RealDesk", name := "whole", desc := "(I)J" } : Jvm.MethodName) ({ cls := "RealDesk", name := "whole", desc := "(I)J" } : Jvm.MethodName)) ∈ gtbl := gt_t (k := 286) rfl rfl
theorem tw_287 : (Jvm.Cond.code ({ cls := "RealDesk", name := "whole", desc := "(I)J" } : Jvm.MethodName) prog_1_method_10_code (8 : Nat) (Option.some Jvm.ClassFile.FieldType.long)) ∈ gtbl := gt_t (k := 287) rfl rfl
theorem tw_288 : (Jvm.Cond.constantLong "RealDesk" (87 : Nat) (4890909195324358656 : Int64)) ∈ gtbl := gt_t (k := 288) rfl rfl
theorem tw_289 : (Jvm.Cond.constantLong "RealDesk" (89 : Nat) (-4890909195324358656 : Int64)) ∈ gtbl := gt_t (k := 289) rfl rfl
theorem tw_290 : (Jvm.Cond.classLink "RealDesk" (91 : Nat) "java/lang/IllegalStateException") ∈ gtbl := gt_t (k := 290) rfl rfl
theorem tw_291 : (Jvm.Cond.instantiable "java/lang/IllegalStateException" (6 : Nat)) ∈ gtbl := gt_t (k := 291) rfl rfl
theorem tw_293 : (Jvm.Cond.selects "java/lang/IllegalStateException" ({ cls := "java/lang/Throwable", name := "fillInStackTrace", desc := "(I)Ljava/lang/Throwable;" } : Jvm.MethodName) ({ cls := "java/lang/Throwable", name := "fillInStackTrace", desc := "(I)Ljava/lang/Throwable;" } : Jvm.MethodName)) ∈ gtbl := gt_t (k := 293) rfl rfl
theorem tw_294 : (Jvm.Cond.lays "java/lang/IllegalStateException" "java/lang/Throwable" "cause" "Ljava/lang/Throwable;") ∈ gtbl := gt_t (k := 294) rfl rfl
theorem tw_295 : (Jvm.Cond.lays "java/lang/IllegalStateException" "java/lang/Throwable" "stackTrace" "[Ljava/lang/StackTraceElement;") ∈ gtbl := gt_t (k := 295) rfl rfl
theorem tw_296 : (Jvm.Cond.lays "java/lang/IllegalStateException" "java/lang/Throwable" "suppressedExceptions" "Ljava/util/List;") ∈ gtbl := gt_t (k := 296) rfl rfl
theorem tw_297 : (Jvm.Cond.lays "java/lang/IllegalStateException" "java/lang/Throwable" "detailMessage" "Ljava/lang/String;") ∈ gtbl := gt_t (k := 297) rfl rfl
theorem tw_298 : (Jvm.Cond.lays "java/lang/IllegalStateException" "java/lang/Throwable" "backtrace" "Ljava/lang/Object;") ∈ gtbl := gt_t (k := 298) rfl rfl
theorem tw_300 : (Jvm.Cond.methodLink "RealDesk" (95 : Nat) ({ cls := "java/lang/IllegalStateException", name := "<init>", desc := "(Ljava/lang/String;)V" } : Jvm.MethodName)) ∈ gtbl := gt_t (k := 300) rfl rfl
theorem tw_301 : (Jvm.Cond.instanceMethod ({ cls := "java/lang/IllegalStateException", name := "<init>", desc := "(Ljava/lang/String;)V" } : Jvm.MethodName)) ∈ gtbl := gt_t (k := 301) rfl rfl
theorem tw_302 : (Jvm.Cond.code ({ cls := "java/lang/IllegalStateException", name := "<init>", desc := "(Ljava/lang/String;)V" } : Jvm.MethodName) prog_7_method_2_code (2 : Nat) (Option.none : Option Jvm.ClassFile.FieldType)) ∈ gtbl := gt_t (k := 302) rfl rfl
theorem tw_303 : (Jvm.Cond.methodLink "java/lang/IllegalStateException" (7 : Nat) ({ cls := "java/lang/RuntimeException", name := "<init>", desc := "(Ljava/lang/String;)V" } : Jvm.MethodName)) ∈ gtbl := gt_t (k := 303) rfl rfl
theorem tw_304 : (Jvm.Cond.lays "java/lang/IllegalStateException" "java/lang/Throwable" "depth" "I") ∈ gtbl := gt_t (k := 304) rfl rfl
theorem tw_305 : (Jvm.Cond.superclass "java/lang/IllegalStateException" "java/lang/RuntimeException") ∈ gtbl := gt_t (k := 305) rfl rfl
theorem tw_307 : (Jvm.Cond.classLink "RealDeskLaw" (48 : Nat) "RealDeskModel") ∈ gtbl := gt_t (k := 307) rfl rfl
theorem tw_308 : (Jvm.Cond.instantiable "RealDeskModel" (9 : Nat)) ∈ gtbl := gt_t (k := 308) rfl rfl
theorem tw_309 : (Jvm.Cond.methodLink "RealDeskLaw" (50 : Nat) ({ cls := "RealDeskModel", name := "<init>", desc := "()V" } : Jvm.MethodName)) ∈ gtbl := gt_t (k := 309) rfl rfl
theorem tw_310 : (Jvm.Cond.instanceMethod ({ cls := "RealDeskModel", name := "<init>", desc := "()V" } : Jvm.MethodName)) ∈ gtbl := gt_t (k := 310) rfl rfl
theorem tw_311 : (Jvm.Cond.code ({ cls := "RealDeskModel", name := "<init>", desc := "()V" } : Jvm.MethodName) prog_3_method_1_code (2 : Nat) (Option.none : Option Jvm.ClassFile.FieldType)) ∈ gtbl := gt_t (k := 311) rfl rfl
theorem tw_312 : (Jvm.Cond.methodLink "RealDeskModel" (1 : Nat) ({ cls := "java/lang/Object", name := "<init>", desc := "()V" } : Jvm.MethodName)) ∈ gtbl := gt_t (k := 312) rfl rfl
theorem tw_313 : (Jvm.Cond.classLink "RealDeskModel" (21 : Nat) "RealDeskModel$Big") ∈ gtbl := gt_t (k := 313) rfl rfl
theorem tw_314 : (Jvm.Cond.instantiable "RealDeskModel$Big" (1 : Nat)) ∈ gtbl := gt_t (k := 314) rfl rfl
theorem tw_316 : (Jvm.Cond.instanceMethod ({ cls := "RealDeskModel$Big", name := "<init>", desc := "()V" } : Jvm.MethodName)) ∈ gtbl := gt_t (k := 316) rfl rfl
theorem tw_317 : (Jvm.Cond.code ({ cls := "RealDeskModel$Big", name := "<init>", desc := "()V" } : Jvm.MethodName) prog_4_method_1_code (1 : Nat) (Option.none : Option Jvm.ClassFile.FieldType)) ∈ gtbl := gt_t (k := 317) rfl rfl
theorem tw_318 : (Jvm.Cond.methodLink "RealDeskModel$Big" (1 : Nat) ({ cls := "java/lang/Object", name := "<init>", desc := "()V" } : Jvm.MethodName)) ∈ gtbl := gt_t (k := 318) rfl rfl
theorem tw_319 : (Jvm.Cond.fieldLink "RealDeskModel$Big" (7 : Nat) "RealDeskModel$Big" "parts" "[I") ∈ gtbl := gt_t (k := 319) rfl rfl
theorem tw_321 : (Jvm.Cond.laysFinal "RealDeskModel$Big" "RealDeskModel$Big" "parts" "[I") ∈ gtbl := gt_t (k := 321) rfl rfl
theorem tw_322 : (Jvm.Cond.soleField "RealDeskModel$Big" "parts") ∈ gtbl := gt_t (k := 322) rfl rfl
theorem tw_323 : (Jvm.Cond.superclass "RealDeskModel$Big" "java/lang/Object") ∈ gtbl := gt_t (k := 323) rfl rfl
theorem tw_324 : (Jvm.Cond.arrayClass Jvm.ClassFile.FieldType.boolean) ∈ gtbl := gt_t (k := 324) rfl rfl
theorem tw_325 : (Jvm.Cond.arrayClass Jvm.ClassFile.FieldType.int) ∈ gtbl := gt_t (k := 325) rfl rfl
theorem tw_326 : (Jvm.Cond.fieldLink "RealDeskModel" (31 : Nat) "RealDeskModel" "thrown" "I") ∈ gtbl := gt_t (k := 326) rfl rfl
theorem tw_327 : (Jvm.Cond.fieldLink "RealDeskModel" (7 : Nat) "RealDeskModel" "minus" "[Z") ∈ gtbl := gt_t (k := 327) rfl rfl
theorem tw_328 : (Jvm.Cond.fieldLink "RealDeskModel" (13 : Nat) "RealDeskModel" "digits" "[J") ∈ gtbl := gt_t (k := 328) rfl rfl
theorem tw_329 : (Jvm.Cond.fieldLink "RealDeskModel" (17 : Nat) "RealDeskModel" "powers" "[I") ∈ gtbl := gt_t (k := 329) rfl rfl
theorem tw_330 : (Jvm.Cond.fieldLink "RealDeskModel" (39 : Nat) "RealDeskModel" "below" "Z") ∈ gtbl := gt_t (k := 330) rfl rfl
theorem tw_331 : (Jvm.Cond.fieldLink "RealDeskModel" (47 : Nat) "RealDeskModel" "m" "J") ∈ gtbl := gt_t (k := 331) rfl rfl
theorem tw_332 : (Jvm.Cond.fieldLink "RealDeskModel" (51 : Nat) "RealDeskModel" "e" "I") ∈ gtbl := gt_t (k := 332) rfl rfl
theorem tw_333 : (Jvm.Cond.fieldLink "RealDeskModel" (24 : Nat) "RealDeskModel" "a" "LRealDeskModel$Big;") ∈ gtbl := gt_t (k := 333) rfl rfl
theorem tw_334 : (Jvm.Cond.fieldLink "RealDeskModel" (28 : Nat) "RealDeskModel" "b" "LRealDeskModel$Big;") ∈ gtbl := gt_t (k := 334) rfl rfl
theorem tw_335 : (Jvm.Cond.lays "RealDeskModel" "RealDeskModel" "thrown" "I") ∈ gtbl := gt_t (k := 335) rfl rfl
theorem tw_336 : (Jvm.Cond.soleField "RealDeskModel" "thrown") ∈ gtbl := gt_t (k := 336) rfl rfl
theorem tw_337 : (Jvm.Cond.laysFinal "RealDeskModel" "RealDeskModel" "minus" "[Z") ∈ gtbl := gt_t (k := 337) rfl rfl
theorem tw_338 : (Jvm.Cond.soleField "RealDeskModel" "minus") ∈ gtbl := gt_t (k := 338) rfl rfl
theorem tw_339 : (Jvm.Cond.laysFinal "RealDeskModel" "RealDeskModel" "digits" "[J") ∈ gtbl := gt_t (k := 339) rfl rfl
theorem tw_340 : (Jvm.Cond.soleField "RealDeskModel" "digits") ∈ gtbl := gt_t (k := 340) rfl rfl
theorem tw_341 : (Jvm.Cond.laysFinal "RealDeskModel" "RealDeskModel" "powers" "[I") ∈ gtbl := gt_t (k := 341) rfl rfl
theorem tw_342 : (Jvm.Cond.soleField "RealDeskModel" "powers") ∈ gtbl := gt_t (k := 342) rfl rfl
theorem tw_343 : (Jvm.Cond.lays "RealDeskModel" "RealDeskModel" "below" "Z") ∈ gtbl := gt_t (k := 343) rfl rfl
theorem tw_344 : (Jvm.Cond.soleField "RealDeskModel" "below") ∈ gtbl := gt_t (k := 344) rfl rfl
theorem tw_345 : (Jvm.Cond.lays "RealDeskModel" "RealDeskModel" "m" "J") ∈ gtbl := gt_t (k := 345) rfl rfl
theorem tw_346 : (Jvm.Cond.soleField "RealDeskModel" "m") ∈ gtbl := gt_t (k := 346) rfl rfl
theorem tw_347 : (Jvm.Cond.lays "RealDeskModel" "RealDeskModel" "e" "I") ∈ gtbl := gt_t (k := 347) rfl rfl
theorem tw_348 : (Jvm.Cond.soleField "RealDeskModel" "e") ∈ gtbl := gt_t (k := 348) rfl rfl
theorem tw_349 : (Jvm.Cond.laysFinal "RealDeskModel" "RealDeskModel" "a" "LRealDeskModel$Big;") ∈ gtbl := gt_t (k := 349) rfl rfl
theorem tw_350 : (Jvm.Cond.soleField "RealDeskModel" "a") ∈ gtbl := gt_t (k := 350) rfl rfl
theorem tw_351 : (Jvm.Cond.laysFinal "RealDeskModel" "RealDeskModel" "b" "LRealDeskModel$Big;") ∈ gtbl := gt_t (k := 351) rfl rfl
theorem tw_352 : (Jvm.Cond.soleField "RealDeskModel" "b") ∈ gtbl := gt_t (k := 352) rfl rfl
theorem tw_353 : (Jvm.Cond.superclass "RealDeskModel" "java/lang/Object") ∈ gtbl := gt_t (k := 353) rfl rfl
theorem tw_354 : (Jvm.Cond.methodLink "RealDeskLaw" (59 : Nat) ({ cls := "RealDeskModel", name := "thrown", desc := "()I" } : Jvm.MethodName)) ∈ gtbl := gt_t (k := 354) rfl rfl
theorem tw_355 : (Jvm.Cond.instanceMethod ({ cls := "RealDeskModel", name := "thrown", desc := "()I" } : Jvm.MethodName)) ∈ gtbl := gt_t (k := 355) rfl rfl
theorem tw_356 : (Jvm.Cond.selects "RealDeskModel" ({ cls := "RealDeskModel", name := "thrown", desc := "()I" } : Jvm.MethodName) ({ cls := "RealDeskModel", name := "thrown", desc := "()I" } : Jvm.MethodName)) ∈ gtbl := gt_t (k := 356) rfl rfl
theorem tw_357 : (Jvm.Cond.code ({ cls := "RealDeskModel", name := "thrown", desc := "()I" } : Jvm.MethodName) prog_3_method_2_code (1 : Nat) (Option.some Jvm.ClassFile.FieldType.int)) ∈ gtbl := gt_t (k := 357) rfl rfl
theorem tw_358 : (Jvm.Cond.methodLink "RealDeskLaw" (58 : Nat) ({ cls := "RealDeskModel", name := "set", desc := "(IJI)I" } : Jvm.MethodName)) ∈ gtbl := gt_t (k := 358) rfl rfl
theorem tw_359 : (Jvm.Cond.instanceMethod ({ cls := "RealDeskModel", name := "set", desc := "(IJI)I" } : Jvm.MethodName)) ∈ gtbl := gt_t (k := 359) rfl rfl
theorem tw_360 : (Jvm.Cond.selects "RealDeskModel" ({ cls := "RealDeskModel", name := "set", desc := "(IJI)I" } : Jvm.MethodName) ({ cls := "RealDeskModel", name := "set", desc := "(IJI)I" } : Jvm.MethodName)) ∈ gtbl := gt_t (k := 360) rfl rfl
theorem tw_361 : (Jvm.Cond.code ({ cls := "RealDeskModel", name := "set", desc := "(IJI)I" } : Jvm.MethodName) prog_3_method_10_code (6 : Nat) (Option.some Jvm.ClassFile.FieldType.int)) ∈ gtbl := gt_t (k := 361) rfl rfl
theorem tw_362 : (Jvm.Cond.methodLink "RealDeskModel" (70 : Nat) ({ cls := "RealDeskModel", name := "isRegister", desc := "(I)Z" } : Jvm.MethodName)) ∈ gtbl := gt_t (k := 362) rfl rfl
theorem tw_363 : (Jvm.Cond.static ({ cls := "RealDeskModel", name := "isRegister", desc := "(I)Z" } : Jvm.MethodName)) ∈ gtbl := gt_t (k := 363) rfl rfl
theorem tw_364 : (Jvm.Cond.code ({ cls := "RealDeskModel", name := "isRegister", desc := "(I)Z" } : Jvm.MethodName) prog_3_method_4_code (1 : Nat) (Option.some Jvm.ClassFile.FieldType.boolean)) ∈ gtbl := gt_t (k := 364) rfl rfl
theorem tw_365 : (Jvm.Cond.constantLong "RealDeskModel" (73 : Nat) (-9007199254740992 : Int64)) ∈ gtbl := gt_t (k := 365) rfl rfl
theorem tw_366 : (Jvm.Cond.constantLong "RealDeskModel" (66 : Nat) (9007199254740992 : Int64)) ∈ gtbl := gt_t (k := 366) rfl rfl
theorem tw_367 : (Jvm.Cond.methodLink "RealDeskModel" (75 : Nat) ({ cls := "RealDeskModel", name := "within", desc := "(III)Z" } : Jvm.MethodName)) ∈ gtbl := gt_t (k := 367) rfl rfl
theorem tw_368 : (Jvm.Cond.static ({ cls := "RealDeskModel", name := "within", desc := "(III)Z" } : Jvm.MethodName)) ∈ gtbl := gt_t (k := 368) rfl rfl
theorem tw_369 : (Jvm.Cond.code ({ cls := "RealDeskModel", name := "within", desc := "(III)Z" } : Jvm.MethodName) prog_3_method_5_code (3 : Nat) (Option.some Jvm.ClassFile.FieldType.boolean)) ∈ gtbl := gt_t (k := 369) rfl rfl
theorem tw_370 : (Jvm.Cond.methodLink "RealDeskModel" (79 : Nat) ({ cls := "RealDeskModel$Big", name := "set", desc := "(J)V" } : Jvm.MethodName)) ∈ gtbl := gt_t (k := 370) rfl rfl
theorem tw_371 : (Jvm.Cond.instanceMethod ({ cls := "RealDeskModel$Big", name := "set", desc := "(J)V" } : Jvm.MethodName)) ∈ gtbl := gt_t (k := 371) rfl rfl
theorem tw_372 : (Jvm.Cond.selects "RealDeskModel$Big" ({ cls := "RealDeskModel$Big", name := "set", desc := "(J)V" } : Jvm.MethodName) ({ cls := "RealDeskModel$Big", name := "set", desc := "(J)V" } : Jvm.MethodName)) ∈ gtbl := gt_t (k := 372) rfl rfl
theorem tw_373 : (Jvm.Cond.code ({ cls := "RealDeskModel$Big", name := "set", desc := "(J)V" } : Jvm.MethodName) prog_4_method_2_code (4 : Nat) (Option.none : Option Jvm.ClassFile.FieldType)) ∈ gtbl := gt_t (k := 373) rfl rfl
theorem tw_374 : (Jvm.Cond.constantLong "RealDeskModel$Big" (13 : Nat) (16777215 : Int64)) ∈ gtbl := gt_t (k := 374) rfl rfl
theorem tw_375 : (Jvm.Cond.methodLink "RealDeskModel" (83 : Nat) ({ cls := "RealDeskModel", name := "nearest", desc := "(ZIZ)I" } : Jvm.MethodName)) ∈ gtbl := gt_t (k := 375) rfl rfl
theorem tw_377 : (Jvm.Cond.instanceMethod ({ cls := "RealDeskModel", name := "nearest", desc := "(ZIZ)I" } : Jvm.MethodName)) ∈ gtbl := gt_t (k := 377) rfl rfl
theorem tw_378 : (Jvm.Cond.code ({ cls := "RealDeskModel", name := "nearest", desc := "(ZIZ)I" } : Jvm.MethodName) prog_3_method_6_code (7 : Nat) (Option.some Jvm.ClassFile.FieldType.int)) ∈ gtbl := gt_t (k := 378) rfl rfl
theorem tw_379 : (Jvm.Cond.methodLink "RealDeskModel" (35 : Nat) ({ cls := "RealDeskModel$Big", name := "length", desc := "()I" } : Jvm.MethodName)) ∈ gtbl := gt_t (k := 379) rfl rfl
theorem tw_380 : (Jvm.Cond.instanceMethod ({ cls := "RealDeskModel$Big", name := "length", desc := "()I" } : Jvm.MethodName)) ∈ gtbl := gt_t (k := 380) rfl rfl
theorem tw_381 : (Jvm.Cond.selects "RealDeskModel$Big" ({ cls := "RealDeskModel$Big", name := "length", desc := "()I" } : Jvm.MethodName) ({ cls := "RealDeskModel$Big", name := "length", desc := "()I" } : Jvm.MethodName)) ∈ gtbl := gt_t (k := 381) rfl rfl
theorem tw_382 : (Jvm.Cond.code ({ cls := "RealDeskModel$Big", name := "length", desc := "()I" } : Jvm.MethodName) prog_4_method_5_code (2 : Nat) (Option.some Jvm.ClassFile.FieldType.int)) ∈ gtbl := gt_t (k := 382) rfl rfl
theorem tw_383 : (Jvm.Cond.methodLink "RealDeskModel$Big" (15 : Nat) ({ cls := "RealDeskModel$Big", name := "bit", desc := "(I)Z" } : Jvm.MethodName)) ∈ gtbl := gt_t (k := 383) rfl rfl
theorem tw_384 : (Jvm.Cond.instanceMethod ({ cls := "RealDeskModel$Big", name := "bit", desc := "(I)Z" } : Jvm.MethodName)) ∈ gtbl := gt_t (k := 384) rfl rfl
theorem tw_385 : (Jvm.Cond.selects "RealDeskModel$Big" ({ cls := "RealDeskModel$Big", name := "bit", desc := "(I)Z" } : Jvm.MethodName) ({ cls := "RealDeskModel$Big", name := "bit", desc := "(I)Z" } : Jvm.MethodName)) ∈ gtbl := gt_t (k := 385) rfl rfl
theorem tw_386 : (Jvm.Cond.code ({ cls := "RealDeskModel$Big", name := "bit", desc := "(I)Z" } : Jvm.MethodName) prog_4_method_4_code (2 : Nat) (Option.some Jvm.ClassFile.FieldType.boolean)) ∈ gtbl := gt_t (k := 386) rfl rfl
theorem tw_387 : (Jvm.Cond.methodLink "RealDeskModel" (43 : Nat) ({ cls := "RealDeskModel$Big", name := "places", desc := "(I)J" } : Jvm.MethodName)) ∈ gtbl := gt_t (k := 387) rfl rfl
theorem tw_388 : (Jvm.Cond.instanceMethod ({ cls := "RealDeskModel$Big", name := "places", desc := "(I)J" } : Jvm.MethodName)) ∈ gtbl := gt_t (k := 388) rfl rfl
theorem tw_389 : (Jvm.Cond.selects "RealDeskModel$Big" ({ cls := "RealDeskModel$Big", name := "places", desc := "(I)J" } : Jvm.MethodName) ({ cls := "RealDeskModel$Big", name := "places", desc := "(I)J" } : Jvm.MethodName)) ∈ gtbl := gt_t (k := 389) rfl rfl
theorem tw_390 : (Jvm.Cond.code ({ cls := "RealDeskModel$Big", name := "places", desc := "(I)J" } : Jvm.MethodName) prog_4_method_13_code (5 : Nat) (Option.some Jvm.ClassFile.FieldType.long)) ∈ gtbl := gt_t (k := 390) rfl rfl
theorem tw_391 : (Jvm.Cond.constantLong "RealDeskModel$Big" (31 : Nat) (2 : Int64)) ∈ gtbl := gt_t (k := 391) rfl rfl
theorem tw_392 : (Jvm.Cond.methodLink "RealDeskModel" (54 : Nat) ({ cls := "RealDeskModel$Big", name := "hasBelow", desc := "(I)Z" } : Jvm.MethodName)) ∈ gtbl := gt_t (k := 392) rfl rfl
theorem tw_393 : (Jvm.Cond.instanceMethod ({ cls := "RealDeskModel$Big", name := "hasBelow", desc := "(I)Z" } : Jvm.MethodName)) ∈ gtbl := gt_t (k := 393) rfl rfl
theorem tw_394 : (Jvm.Cond.selects "RealDeskModel$Big" ({ cls := "RealDeskModel$Big", name := "hasBelow", desc := "(I)Z" } : Jvm.MethodName) ({ cls := "RealDeskModel$Big", name := "hasBelow", desc := "(I)Z" } : Jvm.MethodName)) ∈ gtbl := gt_t (k := 394) rfl rfl
theorem tw_395 : (Jvm.Cond.code ({ cls := "RealDeskModel$Big", name := "hasBelow", desc := "(I)Z" } : Jvm.MethodName) prog_4_method_14_code (4 : Nat) (Option.some Jvm.ClassFile.FieldType.boolean)) ∈ gtbl := gt_t (k := 395) rfl rfl
theorem tw_396 : (Jvm.Cond.methodLink "RealDeskModel" (58 : Nat) ({ cls := "RealDeskModel$Big", name := "bit", desc := "(I)Z" } : Jvm.MethodName)) ∈ gtbl := gt_t (k := 396) rfl rfl
theorem tw_397 : (Jvm.Cond.constantLong "RealDeskModel" (61 : Nat) (2 : Int64)) ∈ gtbl := gt_t (k := 397) rfl rfl
theorem tw_398 : (Jvm.Cond.methodLink "RealDeskModel" (63 : Nat) ({ cls := "RealDeskModel", name := "settle", desc := "()I" } : Jvm.MethodName)) ∈ gtbl := gt_t (k := 398) rfl rfl
theorem tw_400 : (Jvm.Cond.instanceMethod ({ cls := "RealDeskModel", name := "settle", desc := "()I" } : Jvm.MethodName)) ∈ gtbl := gt_t (k := 400) rfl rfl
set_option maxRecDepth 20000 in
theorem tw_401 : (Jvm.Cond.code ({ cls := "RealDeskModel", name := "settle", desc := "()I" } : Jvm.MethodName) prog_3_method_7_code (1 : Nat) (Option.some Jvm.ClassFile.FieldType.int)) ∈ gtbl := gt_t (k := 401) rfl rfl
set_option maxRecDepth 20000 in
theorem tw_402 : (Jvm.Cond.constantLong "RealDeskModel" (68 : Nat) (4503599627370496 : Int64)) ∈ gtbl := gt_t (k := 402) rfl rfl
set_option maxRecDepth 20000 in
theorem tw_403 : (Jvm.Cond.methodLink "RealDeskModel" (87 : Nat) ({ cls := "RealDeskModel", name := "keep", desc := "(II)I" } : Jvm.MethodName)) ∈ gtbl := gt_t (k := 403) rfl rfl
set_option maxRecDepth 20000 in
theorem tw_405 : (Jvm.Cond.instanceMethod ({ cls := "RealDeskModel", name := "keep", desc := "(II)I" } : Jvm.MethodName)) ∈ gtbl := gt_t (k := 405) rfl rfl
set_option maxRecDepth 20000 in
theorem tw_406 : (Jvm.Cond.code ({ cls := "RealDeskModel", name := "keep", desc := "(II)I" } : Jvm.MethodName) prog_3_method_9_code (3 : Nat) (Option.some Jvm.ClassFile.FieldType.int)) ∈ gtbl := gt_t (k := 406) rfl rfl
set_option maxRecDepth 20000 in
theorem tw_407 : (Jvm.Cond.methodLink "RealDeskLaw" (66 : Nat) ({ cls := "RealDeskModel", name := "combine", desc := "(IIII)I" } : Jvm.MethodName)) ∈ gtbl := gt_t (k := 407) rfl rfl
set_option maxRecDepth 20000 in
theorem tw_408 : (Jvm.Cond.instanceMethod ({ cls := "RealDeskModel", name := "combine", desc := "(IIII)I" } : Jvm.MethodName)) ∈ gtbl := gt_t (k := 408) rfl rfl
set_option maxRecDepth 20000 in
theorem tw_409 : (Jvm.Cond.selects "RealDeskModel" ({ cls := "RealDeskModel", name := "combine", desc := "(IIII)I" } : Jvm.MethodName) ({ cls := "RealDeskModel", name := "combine", desc := "(IIII)I" } : Jvm.MethodName)) ∈ gtbl := gt_t (k := 409) rfl rfl
set_option maxRecDepth 20000 in
theorem tw_410 : (Jvm.Cond.code ({ cls := "RealDeskModel", name := "combine", desc := "(IIII)I" } : Jvm.MethodName) prog_3_method_25_code (5 : Nat) (Option.some Jvm.ClassFile.FieldType.int)) ∈ gtbl := gt_t (k := 410) rfl rfl
set_option maxRecDepth 20000 in
theorem tw_411 : (Jvm.Cond.methodLink "RealDeskModel" (163 : Nat) ({ cls := "RealDeskModel", name := "combined", desc := "(III)I" } : Jvm.MethodName)) ∈ gtbl := gt_t (k := 411) rfl rfl
set_option maxRecDepth 20000 in
theorem tw_413 : (Jvm.Cond.instanceMethod ({ cls := "RealDeskModel", name := "combined", desc := "(III)I" } : Jvm.MethodName)) ∈ gtbl := gt_t (k := 413) rfl rfl
set_option maxRecDepth 20000 in
theorem tw_414 : (Jvm.Cond.code ({ cls := "RealDeskModel", name := "combined", desc := "(III)I" } : Jvm.MethodName) prog_3_method_24_code (4 : Nat) (Option.some Jvm.ClassFile.FieldType.int)) ∈ gtbl := gt_t (k := 414) rfl rfl
set_option maxRecDepth 20000 in
theorem tw_415 : (Jvm.Cond.methodLink "RealDeskModel" (139 : Nat) ({ cls := "RealDeskModel", name := "sum", desc := "(IIZ)I" } : Jvm.MethodName)) ∈ gtbl := gt_t (k := 415) rfl rfl
set_option maxRecDepth 20000 in
theorem tw_417 : (Jvm.Cond.instanceMethod ({ cls := "RealDeskModel", name := "sum", desc := "(IIZ)I" } : Jvm.MethodName)) ∈ gtbl := gt_t (k := 417) rfl rfl
set_option maxRecDepth 20000 in
theorem tw_418 : (Jvm.Cond.code ({ cls := "RealDeskModel", name := "sum", desc := "(IIZ)I" } : Jvm.MethodName) prog_3_method_15_code (5 : Nat) (Option.some Jvm.ClassFile.FieldType.int)) ∈ gtbl := gt_t (k := 418) rfl rfl
set_option maxRecDepth 20000 in
theorem tw_419 : (Jvm.Cond.methodLink "RealDeskModel" (115 : Nat) ({ cls := "RealDeskModel", name := "exactSum", desc := "(IIZ)Z" } : Jvm.MethodName)) ∈ gtbl := gt_t (k := 419) rfl rfl
set_option maxRecDepth 20000 in
theorem tw_421 : (Jvm.Cond.instanceMethod ({ cls := "RealDeskModel", name := "exactSum", desc := "(IIZ)Z" } : Jvm.MethodName)) ∈ gtbl := gt_t (k := 421) rfl rfl
set_option maxRecDepth 20000 in
theorem tw_422 : (Jvm.Cond.code ({ cls := "RealDeskModel", name := "exactSum", desc := "(IIZ)Z" } : Jvm.MethodName) prog_3_method_13_code (6 : Nat) (Option.some Jvm.ClassFile.FieldType.boolean)) ∈ gtbl := gt_t (k := 422) rfl rfl
set_option maxRecDepth 20000 in
theorem tw_423 : (Jvm.Cond.methodLink "RealDeskModel" (94 : Nat) ({ cls := "RealDeskModel$Big", name := "up", desc := "(I)V" } : Jvm.MethodName)) ∈ gtbl := gt_t (k := 423) rfl rfl
set_option maxRecDepth 20000 in
theorem tw_424 : (Jvm.Cond.instanceMethod ({ cls := "RealDeskModel$Big", name := "up", desc := "(I)V" } : Jvm.MethodName)) ∈ gtbl := gt_t (k := 424) rfl rfl
set_option maxRecDepth 20000 in
theorem tw_425 : (Jvm.Cond.selects "RealDeskModel$Big" ({ cls := "RealDeskModel$Big", name := "up", desc := "(I)V" } : Jvm.MethodName) ({ cls := "RealDeskModel$Big", name := "up", desc := "(I)V" } : Jvm.MethodName)) ∈ gtbl := gt_t (k := 425) rfl rfl
set_option maxRecDepth 20000 in
theorem tw_426 : (Jvm.Cond.code ({ cls := "RealDeskModel$Big", name := "up", desc := "(I)V" } : Jvm.MethodName) prog_4_method_7_code (6 : Nat) (Option.none : Option Jvm.ClassFile.FieldType)) ∈ gtbl := gt_t (k := 426) rfl rfl
set_option maxRecDepth 20000 in
theorem tw_427 : (Jvm.Cond.constant "RealDeskModel$Big" (19 : Nat) (16777215 : Int32)) ∈ gtbl := gt_t (k := 427) rfl rfl
set_option maxRecDepth 20000 in
theorem tw_428 : (Jvm.Cond.methodLink "RealDeskModel" (98 : Nat) ({ cls := "RealDeskModel$Big", name := "add", desc := "(LRealDeskModel$Big;)V" } : Jvm.MethodName)) ∈ gtbl := gt_t (k := 428) rfl rfl
set_option maxRecDepth 20000 in
theorem tw_429 : (Jvm.Cond.instanceMethod ({ cls := "RealDeskModel$Big", name := "add", desc := "(LRealDeskModel$Big;)V" } : Jvm.MethodName)) ∈ gtbl := gt_t (k := 429) rfl rfl
set_option maxRecDepth 20000 in
theorem tw_430 : (Jvm.Cond.selects "RealDeskModel$Big" ({ cls := "RealDeskModel$Big", name := "add", desc := "(LRealDeskModel$Big;)V" } : Jvm.MethodName) ({ cls := "RealDeskModel$Big", name := "add", desc := "(LRealDeskModel$Big;)V" } : Jvm.MethodName)) ∈ gtbl := gt_t (k := 430) rfl rfl
set_option maxRecDepth 20000 in
theorem tw_431 : (Jvm.Cond.code ({ cls := "RealDeskModel$Big", name := "add", desc := "(LRealDeskModel$Big;)V" } : Jvm.MethodName) prog_4_method_8_code (5 : Nat) (Option.none : Option Jvm.ClassFile.FieldType)) ∈ gtbl := gt_t (k := 431) rfl rfl
set_option maxRecDepth 20000 in
theorem tw_432 : (Jvm.Cond.methodLink "RealDeskModel" (102 : Nat) ({ cls := "RealDeskModel$Big", name := "compare", desc := "(LRealDeskModel$Big;)I" } : Jvm.MethodName)) ∈ gtbl := gt_t (k := 432) rfl rfl
set_option maxRecDepth 20000 in
theorem tw_433 : (Jvm.Cond.instanceMethod ({ cls := "RealDeskModel$Big", name := "compare", desc := "(LRealDeskModel$Big;)I" } : Jvm.MethodName)) ∈ gtbl := gt_t (k := 433) rfl rfl
set_option maxRecDepth 20000 in
theorem tw_434 : (Jvm.Cond.selects "RealDeskModel$Big" ({ cls := "RealDeskModel$Big", name := "compare", desc := "(LRealDeskModel$Big;)I" } : Jvm.MethodName) ({ cls := "RealDeskModel$Big", name := "compare", desc := "(LRealDeskModel$Big;)I" } : Jvm.MethodName)) ∈ gtbl := gt_t (k := 434) rfl rfl
set_option maxRecDepth 20000 in
theorem tw_435 : (Jvm.Cond.code ({ cls := "RealDeskModel$Big", name := "compare", desc := "(LRealDeskModel$Big;)I" } : Jvm.MethodName) prog_4_method_10_code (3 : Nat) (Option.some Jvm.ClassFile.FieldType.int)) ∈ gtbl := gt_t (k := 435) rfl rfl
set_option maxRecDepth 20000 in
theorem tw_436 : (Jvm.Cond.methodLink "RealDeskModel" (106 : Nat) ({ cls := "RealDeskModel$Big", name := "less", desc := "(LRealDeskModel$Big;)V" } : Jvm.MethodName)) ∈ gtbl := gt_t (k := 436) rfl rfl
set_option maxRecDepth 20000 in
theorem tw_437 : (Jvm.Cond.instanceMethod ({ cls := "RealDeskModel$Big", name := "less", desc := "(LRealDeskModel$Big;)V" } : Jvm.MethodName)) ∈ gtbl := gt_t (k := 437) rfl rfl
set_option maxRecDepth 20000 in
theorem tw_438 : (Jvm.Cond.selects "RealDeskModel$Big" ({ cls := "RealDeskModel$Big", name := "less", desc := "(LRealDeskModel$Big;)V" } : Jvm.MethodName) ({ cls := "RealDeskModel$Big", name := "less", desc := "(LRealDeskModel$Big;)V" } : Jvm.MethodName)) ∈ gtbl := gt_t (k := 438) rfl rfl
set_option maxRecDepth 20000 in
theorem tw_439 : (Jvm.Cond.code ({ cls := "RealDeskModel$Big", name := "less", desc := "(LRealDeskModel$Big;)V" } : Jvm.MethodName) prog_4_method_9_code (5 : Nat) (Option.none : Option Jvm.ClassFile.FieldType)) ∈ gtbl := gt_t (k := 439) rfl rfl
set_option maxRecDepth 20000 in
theorem tw_440 : (Jvm.Cond.methodLink "RealDeskModel" (109 : Nat) ({ cls := "RealDeskModel", name := "swap", desc := "()V" } : Jvm.MethodName)) ∈ gtbl := gt_t (k := 440) rfl rfl
set_option maxRecDepth 20000 in
theorem tw_442 : (Jvm.Cond.instanceMethod ({ cls := "RealDeskModel", name := "swap", desc := "()V" } : Jvm.MethodName)) ∈ gtbl := gt_t (k := 442) rfl rfl
set_option maxRecDepth 20000 in
theorem tw_443 : (Jvm.Cond.code ({ cls := "RealDeskModel", name := "swap", desc := "()V" } : Jvm.MethodName) prog_3_method_14_code (3 : Nat) (Option.none : Option Jvm.ClassFile.FieldType)) ∈ gtbl := gt_t (k := 443) rfl rfl
set_option maxRecDepth 20000 in
theorem tw_444 : (Jvm.Cond.methodLink "RealDeskModel" (137 : Nat) ({ cls := "RealDeskModel", name := "product", desc := "(II)I" } : Jvm.MethodName)) ∈ gtbl := gt_t (k := 444) rfl rfl
set_option maxRecDepth 20000 in
theorem tw_446 : (Jvm.Cond.instanceMethod ({ cls := "RealDeskModel", name := "product", desc := "(II)I" } : Jvm.MethodName)) ∈ gtbl := gt_t (k := 446) rfl rfl
set_option maxRecDepth 20000 in
theorem tw_447 : (Jvm.Cond.code ({ cls := "RealDeskModel", name := "product", desc := "(II)I" } : Jvm.MethodName) prog_3_method_16_code (3 : Nat) (Option.some Jvm.ClassFile.FieldType.int)) ∈ gtbl := gt_t (k := 447) rfl rfl
set_option maxRecDepth 20000 in
theorem tw_448 : (Jvm.Cond.methodLink "RealDeskModel" (119 : Nat) ({ cls := "RealDeskModel$Big", name := "product", desc := "(JJ)V" } : Jvm.MethodName)) ∈ gtbl := gt_t (k := 448) rfl rfl
set_option maxRecDepth 20000 in
theorem tw_449 : (Jvm.Cond.instanceMethod ({ cls := "RealDeskModel$Big", name := "product", desc := "(JJ)V" } : Jvm.MethodName)) ∈ gtbl := gt_t (k := 449) rfl rfl
set_option maxRecDepth 20000 in
theorem tw_450 : (Jvm.Cond.selects "RealDeskModel$Big" ({ cls := "RealDeskModel$Big", name := "product", desc := "(JJ)V" } : Jvm.MethodName) ({ cls := "RealDeskModel$Big", name := "product", desc := "(JJ)V" } : Jvm.MethodName)) ∈ gtbl := gt_t (k := 450) rfl rfl
set_option maxRecDepth 20000 in
theorem tw_451 : (Jvm.Cond.code ({ cls := "RealDeskModel$Big", name := "product", desc := "(JJ)V" } : Jvm.MethodName) prog_4_method_11_code (6 : Nat) (Option.none : Option Jvm.ClassFile.FieldType)) ∈ gtbl := gt_t (k := 451) rfl rfl
set_option maxRecDepth 20000 in
theorem tw_452 : (Jvm.Cond.methodLink "RealDeskModel$Big" (20 : Nat) ({ cls := "RealDeskModel$Big", name := "set", desc := "(J)V" } : Jvm.MethodName)) ∈ gtbl := gt_t (k := 452) rfl rfl
set_option maxRecDepth 20000 in
theorem tw_453 : (Jvm.Cond.methodLink "RealDeskModel$Big" (24 : Nat) ({ cls := "RealDeskModel$Big", name := "twice", desc := "(Z)V" } : Jvm.MethodName)) ∈ gtbl := gt_t (k := 453) rfl rfl
set_option maxRecDepth 20000 in
theorem tw_454 : (Jvm.Cond.instanceMethod ({ cls := "RealDeskModel$Big", name := "twice", desc := "(Z)V" } : Jvm.MethodName)) ∈ gtbl := gt_t (k := 454) rfl rfl
set_option maxRecDepth 20000 in
theorem tw_455 : (Jvm.Cond.selects "RealDeskModel$Big" ({ cls := "RealDeskModel$Big", name := "twice", desc := "(Z)V" } : Jvm.MethodName) ({ cls := "RealDeskModel$Big", name := "twice", desc := "(Z)V" } : Jvm.MethodName)) ∈ gtbl := gt_t (k := 455) rfl rfl
set_option maxRecDepth 20000 in
theorem tw_456 : (Jvm.Cond.code ({ cls := "RealDeskModel$Big", name := "twice", desc := "(Z)V" } : Jvm.MethodName) prog_4_method_6_code (5 : Nat) (Option.none : Option Jvm.ClassFile.FieldType)) ∈ gtbl := gt_t (k := 456) rfl rfl
set_option maxRecDepth 20000 in
theorem tw_457 : (Jvm.Cond.methodLink "RealDeskModel$Big" (28 : Nat) ({ cls := "RealDeskModel$Big", name := "addLong", desc := "(J)V" } : Jvm.MethodName)) ∈ gtbl := gt_t (k := 457) rfl rfl
set_option maxRecDepth 20000 in
theorem tw_458 : (Jvm.Cond.instanceMethod ({ cls := "RealDeskModel$Big", name := "addLong", desc := "(J)V" } : Jvm.MethodName)) ∈ gtbl := gt_t (k := 458) rfl rfl
set_option maxRecDepth 20000 in
theorem tw_459 : (Jvm.Cond.selects "RealDeskModel$Big" ({ cls := "RealDeskModel$Big", name := "addLong", desc := "(J)V" } : Jvm.MethodName) ({ cls := "RealDeskModel$Big", name := "addLong", desc := "(J)V" } : Jvm.MethodName)) ∈ gtbl := gt_t (k := 459) rfl rfl
set_option maxRecDepth 20000 in
theorem tw_460 : (Jvm.Cond.code ({ cls := "RealDeskModel$Big", name := "addLong", desc := "(J)V" } : Jvm.MethodName) prog_4_method_12_code (6 : Nat) (Option.none : Option Jvm.ClassFile.FieldType)) ∈ gtbl := gt_t (k := 460) rfl rfl
set_option maxRecDepth 20000 in
theorem tw_461 : (Jvm.Cond.methodLink "RealDeskModel" (143 : Nat) ({ cls := "RealDeskModel", name := "quotient", desc := "(ZJIJI)I" } : Jvm.MethodName)) ∈ gtbl := gt_t (k := 461) rfl rfl
set_option maxRecDepth 20000 in
theorem tw_463 : (Jvm.Cond.instanceMethod ({ cls := "RealDeskModel", name := "quotient", desc := "(ZJIJI)I" } : Jvm.MethodName)) ∈ gtbl := gt_t (k := 463) rfl rfl
set_option maxRecDepth 20000 in
theorem tw_464 : (Jvm.Cond.code ({ cls := "RealDeskModel", name := "quotient", desc := "(ZJIJI)I" } : Jvm.MethodName) prog_3_method_17_code (11 : Nat) (Option.some Jvm.ClassFile.FieldType.int)) ∈ gtbl := gt_t (k := 464) rfl rfl
set_option maxRecDepth 20000 in
theorem tw_465 : (Jvm.Cond.methodLink "RealDeskModel" (123 : Nat) ({ cls := "RealDeskModel$Big", name := "twice", desc := "(Z)V" } : Jvm.MethodName)) ∈ gtbl := gt_t (k := 465) rfl rfl
set_option maxRecDepth 20000 in
theorem tw_466 : (Jvm.Cond.methodLink "RealDeskModel" (147 : Nat) ({ cls := "RealDeskModel", name := "rest", desc := "(II)I" } : Jvm.MethodName)) ∈ gtbl := gt_t (k := 466) rfl rfl
set_option maxRecDepth 20000 in
theorem tw_468 : (Jvm.Cond.instanceMethod ({ cls := "RealDeskModel", name := "rest", desc := "(II)I" } : Jvm.MethodName)) ∈ gtbl := gt_t (k := 468) rfl rfl
set_option maxRecDepth 20000 in
theorem tw_469 : (Jvm.Cond.code ({ cls := "RealDeskModel", name := "rest", desc := "(II)I" } : Jvm.MethodName) prog_3_method_18_code (7 : Nat) (Option.some Jvm.ClassFile.FieldType.int)) ∈ gtbl := gt_t (k := 469) rfl rfl
set_option maxRecDepth 20000 in
theorem tw_470 : (Jvm.Cond.methodLink "RealDeskModel" (127 : Nat) ({ cls := "RealDeskModel", name := "take", desc := "(I)V" } : Jvm.MethodName)) ∈ gtbl := gt_t (k := 470) rfl rfl
set_option maxRecDepth 20000 in
theorem tw_472 : (Jvm.Cond.instanceMethod ({ cls := "RealDeskModel", name := "take", desc := "(I)V" } : Jvm.MethodName)) ∈ gtbl := gt_t (k := 472) rfl rfl
set_option maxRecDepth 20000 in
theorem tw_473 : (Jvm.Cond.code ({ cls := "RealDeskModel", name := "take", desc := "(I)V" } : Jvm.MethodName) prog_3_method_8_code (2 : Nat) (Option.none : Option Jvm.ClassFile.FieldType)) ∈ gtbl := gt_t (k := 473) rfl rfl
set_option maxRecDepth 20000 in
theorem tw_474 : (Jvm.Cond.methodLink "RealDeskModel" (150 : Nat) ({ cls := "RealDeskModel", name := "compareNumbers", desc := "(II)I" } : Jvm.MethodName)) ∈ gtbl := gt_t (k := 474) rfl rfl
set_option maxRecDepth 20000 in
theorem tw_476 : (Jvm.Cond.instanceMethod ({ cls := "RealDeskModel", name := "compareNumbers", desc := "(II)I" } : Jvm.MethodName)) ∈ gtbl := gt_t (k := 476) rfl rfl
set_option maxRecDepth 20000 in
theorem tw_477 : (Jvm.Cond.code ({ cls := "RealDeskModel", name := "compareNumbers", desc := "(II)I" } : Jvm.MethodName) prog_3_method_12_code (4 : Nat) (Option.some Jvm.ClassFile.FieldType.int)) ∈ gtbl := gt_t (k := 477) rfl rfl
set_option maxRecDepth 20000 in
theorem tw_478 : (Jvm.Cond.methodLink "RealDeskModel" (91 : Nat) ({ cls := "RealDeskModel", name := "sizes", desc := "(II)I" } : Jvm.MethodName)) ∈ gtbl := gt_t (k := 478) rfl rfl
set_option maxRecDepth 20000 in
theorem tw_480 : (Jvm.Cond.instanceMethod ({ cls := "RealDeskModel", name := "sizes", desc := "(II)I" } : Jvm.MethodName)) ∈ gtbl := gt_t (k := 480) rfl rfl
set_option maxRecDepth 20000 in
theorem tw_481 : (Jvm.Cond.code ({ cls := "RealDeskModel", name := "sizes", desc := "(II)I" } : Jvm.MethodName) prog_3_method_11_code (3 : Nat) (Option.some Jvm.ClassFile.FieldType.int)) ∈ gtbl := gt_t (k := 481) rfl rfl
set_option maxRecDepth 20000 in
theorem tw_482 : (Jvm.Cond.methodLink "RealDeskModel" (153 : Nat) ({ cls := "RealDeskModel", name := "pick", desc := "(I)I" } : Jvm.MethodName)) ∈ gtbl := gt_t (k := 482) rfl rfl
set_option maxRecDepth 20000 in
theorem tw_484 : (Jvm.Cond.instanceMethod ({ cls := "RealDeskModel", name := "pick", desc := "(I)I" } : Jvm.MethodName)) ∈ gtbl := gt_t (k := 484) rfl rfl
set_option maxRecDepth 20000 in
theorem tw_485 : (Jvm.Cond.code ({ cls := "RealDeskModel", name := "pick", desc := "(I)I" } : Jvm.MethodName) prog_3_method_23_code (2 : Nat) (Option.some Jvm.ClassFile.FieldType.int)) ∈ gtbl := gt_t (k := 485) rfl rfl
set_option maxRecDepth 20000 in
theorem tw_486 : (Jvm.Cond.methodLink "RealDeskModel" (157 : Nat) ({ cls := "RealDeskModel", name := "sumError", desc := "(II)I" } : Jvm.MethodName)) ∈ gtbl := gt_t (k := 486) rfl rfl
set_option maxRecDepth 20000 in
theorem tw_488 : (Jvm.Cond.instanceMethod ({ cls := "RealDeskModel", name := "sumError", desc := "(II)I" } : Jvm.MethodName)) ∈ gtbl := gt_t (k := 488) rfl rfl
set_option maxRecDepth 20000 in
theorem tw_489 : (Jvm.Cond.code ({ cls := "RealDeskModel", name := "sumError", desc := "(II)I" } : Jvm.MethodName) prog_3_method_20_code (5 : Nat) (Option.some Jvm.ClassFile.FieldType.int)) ∈ gtbl := gt_t (k := 489) rfl rfl
set_option maxRecDepth 20000 in
theorem tw_490 : (Jvm.Cond.methodLink "RealDeskModel" (130 : Nat) ({ cls := "RealDeskModel", name := "lower", desc := "(I)V" } : Jvm.MethodName)) ∈ gtbl := gt_t (k := 490) rfl rfl
set_option maxRecDepth 20000 in
theorem tw_492 : (Jvm.Cond.instanceMethod ({ cls := "RealDeskModel", name := "lower", desc := "(I)V" } : Jvm.MethodName)) ∈ gtbl := gt_t (k := 492) rfl rfl
set_option maxRecDepth 20000 in
theorem tw_493 : (Jvm.Cond.code ({ cls := "RealDeskModel", name := "lower", desc := "(I)V" } : Jvm.MethodName) prog_3_method_21_code (2 : Nat) (Option.none : Option Jvm.ClassFile.FieldType)) ∈ gtbl := gt_t (k := 493) rfl rfl
set_option maxRecDepth 20000 in
theorem tw_494 : (Jvm.Cond.methodLink "RealDeskModel" (133 : Nat) ({ cls := "RealDeskModel", name := "errorOf", desc := "(ZI)I" } : Jvm.MethodName)) ∈ gtbl := gt_t (k := 494) rfl rfl
set_option maxRecDepth 20000 in
theorem tw_496 : (Jvm.Cond.instanceMethod ({ cls := "RealDeskModel", name := "errorOf", desc := "(ZI)I" } : Jvm.MethodName)) ∈ gtbl := gt_t (k := 496) rfl rfl
set_option maxRecDepth 20000 in
theorem tw_497 : (Jvm.Cond.code ({ cls := "RealDeskModel", name := "errorOf", desc := "(ZI)I" } : Jvm.MethodName) prog_3_method_19_code (4 : Nat) (Option.some Jvm.ClassFile.FieldType.int)) ∈ gtbl := gt_t (k := 497) rfl rfl
set_option maxRecDepth 20000 in
theorem tw_498 : (Jvm.Cond.methodLink "RealDeskModel" (160 : Nat) ({ cls := "RealDeskModel", name := "productError", desc := "(II)I" } : Jvm.MethodName)) ∈ gtbl := gt_t (k := 498) rfl rfl
set_option maxRecDepth 20000 in
theorem tw_500 : (Jvm.Cond.instanceMethod ({ cls := "RealDeskModel", name := "productError", desc := "(II)I" } : Jvm.MethodName)) ∈ gtbl := gt_t (k := 500) rfl rfl
set_option maxRecDepth 20000 in
theorem tw_501 : (Jvm.Cond.code ({ cls := "RealDeskModel", name := "productError", desc := "(II)I" } : Jvm.MethodName) prog_3_method_22_code (4 : Nat) (Option.some Jvm.ClassFile.FieldType.int)) ∈ gtbl := gt_t (k := 501) rfl rfl
set_option maxRecDepth 20000 in
theorem tw_502 : (Jvm.Cond.methodLink "RealDeskLaw" (70 : Nat) ({ cls := "RealDeskModel", name := "change", desc := "(III)I" } : Jvm.MethodName)) ∈ gtbl := gt_t (k := 502) rfl rfl
set_option maxRecDepth 20000 in
theorem tw_503 : (Jvm.Cond.instanceMethod ({ cls := "RealDeskModel", name := "change", desc := "(III)I" } : Jvm.MethodName)) ∈ gtbl := gt_t (k := 503) rfl rfl
set_option maxRecDepth 20000 in
theorem tw_504 : (Jvm.Cond.selects "RealDeskModel" ({ cls := "RealDeskModel", name := "change", desc := "(III)I" } : Jvm.MethodName) ({ cls := "RealDeskModel", name := "change", desc := "(III)I" } : Jvm.MethodName)) ∈ gtbl := gt_t (k := 504) rfl rfl
set_option maxRecDepth 20000 in
theorem tw_505 : (Jvm.Cond.code ({ cls := "RealDeskModel", name := "change", desc := "(III)I" } : Jvm.MethodName) prog_3_method_30_code (4 : Nat) (Option.some Jvm.ClassFile.FieldType.int)) ∈ gtbl := gt_t (k := 505) rfl rfl
set_option maxRecDepth 20000 in
theorem tw_506 : (Jvm.Cond.methodLink "RealDeskModel" (181 : Nat) ({ cls := "RealDeskModel", name := "changed", desc := "(II)I" } : Jvm.MethodName)) ∈ gtbl := gt_t (k := 506) rfl rfl
set_option maxRecDepth 20000 in
theorem tw_508 : (Jvm.Cond.instanceMethod ({ cls := "RealDeskModel", name := "changed", desc := "(II)I" } : Jvm.MethodName)) ∈ gtbl := gt_t (k := 508) rfl rfl
set_option maxRecDepth 20000 in
theorem tw_509 : (Jvm.Cond.code ({ cls := "RealDeskModel", name := "changed", desc := "(II)I" } : Jvm.MethodName) prog_3_method_29_code (3 : Nat) (Option.some Jvm.ClassFile.FieldType.int)) ∈ gtbl := gt_t (k := 509) rfl rfl
set_option maxRecDepth 20000 in
theorem tw_510 : (Jvm.Cond.methodLink "RealDeskModel" (171 : Nat) ({ cls := "RealDeskModel", name := "root", desc := "(I)I" } : Jvm.MethodName)) ∈ gtbl := gt_t (k := 510) rfl rfl
set_option maxRecDepth 20000 in
theorem tw_512 : (Jvm.Cond.instanceMethod ({ cls := "RealDeskModel", name := "root", desc := "(I)I" } : Jvm.MethodName)) ∈ gtbl := gt_t (k := 512) rfl rfl
set_option maxRecDepth 20000 in
theorem tw_513 : (Jvm.Cond.code ({ cls := "RealDeskModel", name := "root", desc := "(I)I" } : Jvm.MethodName) prog_3_method_26_code (11 : Nat) (Option.some Jvm.ClassFile.FieldType.int)) ∈ gtbl := gt_t (k := 513) rfl rfl
set_option maxRecDepth 20000 in
theorem tw_514 : (Jvm.Cond.constantLong "RealDeskModel" (167 : Nat) (1152921504606846976 : Int64)) ∈ gtbl := gt_t (k := 514) rfl rfl
set_option maxRecDepth 20000 in
theorem tw_515 : (Jvm.Cond.methodLink "RealDeskModel" (174 : Nat) ({ cls := "RealDeskModel", name := "neighbour", desc := "(IZ)I" } : Jvm.MethodName)) ∈ gtbl := gt_t (k := 515) rfl rfl
set_option maxRecDepth 20000 in
theorem tw_517 : (Jvm.Cond.instanceMethod ({ cls := "RealDeskModel", name := "neighbour", desc := "(IZ)I" } : Jvm.MethodName)) ∈ gtbl := gt_t (k := 517) rfl rfl
set_option maxRecDepth 20000 in
theorem tw_518 : (Jvm.Cond.code ({ cls := "RealDeskModel", name := "neighbour", desc := "(IZ)I" } : Jvm.MethodName) prog_3_method_28_code (9 : Nat) (Option.some Jvm.ClassFile.FieldType.int)) ∈ gtbl := gt_t (k := 518) rfl rfl
set_option maxRecDepth 20000 in
theorem tw_519 : (Jvm.Cond.constantLong "RealDeskModel" (169 : Nat) (9218868437227405311 : Int64)) ∈ gtbl := gt_t (k := 519) rfl rfl
set_option maxRecDepth 20000 in
theorem tw_520 : (Jvm.Cond.methodLink "RealDeskModel" (178 : Nat) ({ cls := "RealDeskModel", name := "wholeOf", desc := "(II)I" } : Jvm.MethodName)) ∈ gtbl := gt_t (k := 520) rfl rfl
set_option maxRecDepth 20000 in
theorem tw_522 : (Jvm.Cond.instanceMethod ({ cls := "RealDeskModel", name := "wholeOf", desc := "(II)I" } : Jvm.MethodName)) ∈ gtbl := gt_t (k := 522) rfl rfl
set_option maxRecDepth 20000 in
theorem tw_523 : (Jvm.Cond.code ({ cls := "RealDeskModel", name := "wholeOf", desc := "(II)I" } : Jvm.MethodName) prog_3_method_27_code (10 : Nat) (Option.some Jvm.ClassFile.FieldType.int)) ∈ gtbl := gt_t (k := 523) rfl rfl
set_option maxRecDepth 20000 in
theorem tw_524 : (Jvm.Cond.methodLink "RealDeskLaw" (73 : Nat) ({ cls := "RealDeskModel", name := "power", desc := "(III)I" } : Jvm.MethodName)) ∈ gtbl := gt_t (k := 524) rfl rfl
set_option maxRecDepth 20000 in
theorem tw_525 : (Jvm.Cond.instanceMethod ({ cls := "RealDeskModel", name := "power", desc := "(III)I" } : Jvm.MethodName)) ∈ gtbl := gt_t (k := 525) rfl rfl
set_option maxRecDepth 20000 in
theorem tw_526 : (Jvm.Cond.selects "RealDeskModel" ({ cls := "RealDeskModel", name := "power", desc := "(III)I" } : Jvm.MethodName) ({ cls := "RealDeskModel", name := "power", desc := "(III)I" } : Jvm.MethodName)) ∈ gtbl := gt_t (k := 526) rfl rfl
set_option maxRecDepth 20000 in
theorem tw_527 : (Jvm.Cond.code ({ cls := "RealDeskModel", name := "power", desc := "(III)I" } : Jvm.MethodName) prog_3_method_33_code (4 : Nat) (Option.some Jvm.ClassFile.FieldType.int)) ∈ gtbl := gt_t (k := 527) rfl rfl
set_option maxRecDepth 20000 in
theorem tw_528 : (Jvm.Cond.methodLink "RealDeskModel" (188 : Nat) ({ cls := "RealDeskModel", name := "raised", desc := "(II)I" } : Jvm.MethodName)) ∈ gtbl := gt_t (k := 528) rfl rfl
set_option maxRecDepth 20000 in
theorem tw_530 : (Jvm.Cond.instanceMethod ({ cls := "RealDeskModel", name := "raised", desc := "(II)I" } : Jvm.MethodName)) ∈ gtbl := gt_t (k := 530) rfl rfl
set_option maxRecDepth 20000 in
theorem tw_531 : (Jvm.Cond.code ({ cls := "RealDeskModel", name := "raised", desc := "(II)I" } : Jvm.MethodName) prog_3_method_32_code (6 : Nat) (Option.some Jvm.ClassFile.FieldType.int)) ∈ gtbl := gt_t (k := 531) rfl rfl
set_option maxRecDepth 20000 in
theorem tw_532 : (Jvm.Cond.methodLink "RealDeskModel" (184 : Nat) ({ cls := "RealDeskModel", name := "multiply", desc := "(ZJI)I" } : Jvm.MethodName)) ∈ gtbl := gt_t (k := 532) rfl rfl
set_option maxRecDepth 20000 in
theorem tw_534 : (Jvm.Cond.instanceMethod ({ cls := "RealDeskModel", name := "multiply", desc := "(ZJI)I" } : Jvm.MethodName)) ∈ gtbl := gt_t (k := 534) rfl rfl
set_option maxRecDepth 20000 in
theorem tw_535 : (Jvm.Cond.code ({ cls := "RealDeskModel", name := "multiply", desc := "(ZJI)I" } : Jvm.MethodName) prog_3_method_31_code (6 : Nat) (Option.some Jvm.ClassFile.FieldType.int)) ∈ gtbl := gt_t (k := 535) rfl rfl
set_option maxRecDepth 20000 in
theorem tw_536 : (Jvm.Cond.methodLink "RealDeskLaw" (77 : Nat) ({ cls := "RealDeskModel", name := "order", desc := "(II)I" } : Jvm.MethodName)) ∈ gtbl := gt_t (k := 536) rfl rfl
set_option maxRecDepth 20000 in
theorem tw_537 : (Jvm.Cond.instanceMethod ({ cls := "RealDeskModel", name := "order", desc := "(II)I" } : Jvm.MethodName)) ∈ gtbl := gt_t (k := 537) rfl rfl
set_option maxRecDepth 20000 in
theorem tw_538 : (Jvm.Cond.selects "RealDeskModel" ({ cls := "RealDeskModel", name := "order", desc := "(II)I" } : Jvm.MethodName) ({ cls := "RealDeskModel", name := "order", desc := "(II)I" } : Jvm.MethodName)) ∈ gtbl := gt_t (k := 538) rfl rfl
set_option maxRecDepth 20000 in
theorem tw_539 : (Jvm.Cond.code ({ cls := "RealDeskModel", name := "order", desc := "(II)I" } : Jvm.MethodName) prog_3_method_34_code (3 : Nat) (Option.some Jvm.ClassFile.FieldType.int)) ∈ gtbl := gt_t (k := 539) rfl rfl
set_option maxRecDepth 20000 in
theorem tw_540 : (Jvm.Cond.methodLink "RealDeskLaw" (81 : Nat) ({ cls := "RealDeskModel", name := "digits", desc := "(I)J" } : Jvm.MethodName)) ∈ gtbl := gt_t (k := 540) rfl rfl
set_option maxRecDepth 20000 in
theorem tw_541 : (Jvm.Cond.instanceMethod ({ cls := "RealDeskModel", name := "digits", desc := "(I)J" } : Jvm.MethodName)) ∈ gtbl := gt_t (k := 541) rfl rfl
set_option maxRecDepth 20000 in
theorem tw_542 : (Jvm.Cond.selects "RealDeskModel" ({ cls := "RealDeskModel", name := "digits", desc := "(I)J" } : Jvm.MethodName) ({ cls := "RealDeskModel", name := "digits", desc := "(I)J" } : Jvm.MethodName)) ∈ gtbl := gt_t (k := 542) rfl rfl
set_option maxRecDepth 20000 in
theorem tw_543 : (Jvm.Cond.code ({ cls := "RealDeskModel", name := "digits", desc := "(I)J" } : Jvm.MethodName) prog_3_method_35_code (2 : Nat) (Option.some Jvm.ClassFile.FieldType.long)) ∈ gtbl := gt_t (k := 543) rfl rfl
set_option maxRecDepth 20000 in
theorem tw_544 : (Jvm.Cond.methodLink "RealDeskLaw" (84 : Nat) ({ cls := "RealDeskModel", name := "exponent", desc := "(I)I" } : Jvm.MethodName)) ∈ gtbl := gt_t (k := 544) rfl rfl
set_option maxRecDepth 20000 in
theorem tw_545 : (Jvm.Cond.instanceMethod ({ cls := "RealDeskModel", name := "exponent", desc := "(I)I" } : Jvm.MethodName)) ∈ gtbl := gt_t (k := 545) rfl rfl
set_option maxRecDepth 20000 in
theorem tw_546 : (Jvm.Cond.selects "RealDeskModel" ({ cls := "RealDeskModel", name := "exponent", desc := "(I)I" } : Jvm.MethodName) ({ cls := "RealDeskModel", name := "exponent", desc := "(I)I" } : Jvm.MethodName)) ∈ gtbl := gt_t (k := 546) rfl rfl
set_option maxRecDepth 20000 in
theorem tw_547 : (Jvm.Cond.code ({ cls := "RealDeskModel", name := "exponent", desc := "(I)I" } : Jvm.MethodName) prog_3_method_36_code (2 : Nat) (Option.some Jvm.ClassFile.FieldType.int)) ∈ gtbl := gt_t (k := 547) rfl rfl
set_option maxRecDepth 20000 in
theorem tw_548 : (Jvm.Cond.methodLink "RealDeskLaw" (88 : Nat) ({ cls := "RealDeskModel", name := "value", desc := "(I)D" } : Jvm.MethodName)) ∈ gtbl := gt_t (k := 548) rfl rfl
set_option maxRecDepth 20000 in
theorem tw_549 : (Jvm.Cond.instanceMethod ({ cls := "RealDeskModel", name := "value", desc := "(I)D" } : Jvm.MethodName)) ∈ gtbl := gt_t (k := 549) rfl rfl
set_option maxRecDepth 20000 in
theorem tw_550 : (Jvm.Cond.selects "RealDeskModel" ({ cls := "RealDeskModel", name := "value", desc := "(I)D" } : Jvm.MethodName) ({ cls := "RealDeskModel", name := "value", desc := "(I)D" } : Jvm.MethodName)) ∈ gtbl := gt_t (k := 550) rfl rfl
set_option maxRecDepth 20000 in
theorem tw_551 : (Jvm.Cond.code ({ cls := "RealDeskModel", name := "value", desc := "(I)D" } : Jvm.MethodName) prog_3_method_37_code (5 : Nat) (Option.some Jvm.ClassFile.FieldType.double)) ∈ gtbl := gt_t (k := 551) rfl rfl
set_option maxRecDepth 20000 in
theorem tw_552 : (Jvm.Cond.constantDouble "RealDeskModel" (191 : Nat) (4611686018427387904 : UInt64)) ∈ gtbl := gt_t (k := 552) rfl rfl
set_option maxRecDepth 20000 in
theorem tw_553 : (Jvm.Cond.constantDouble "RealDeskModel" (193 : Nat) (4602678819172646912 : UInt64)) ∈ gtbl := gt_t (k := 553) rfl rfl
set_option maxRecDepth 20000 in
theorem tw_554 : (Jvm.Cond.methodLink "RealDeskLaw" (91 : Nat) ({ cls := "RealDeskModel", name := "whole", desc := "(I)J" } : Jvm.MethodName)) ∈ gtbl := gt_t (k := 554) rfl rfl
set_option maxRecDepth 20000 in
theorem tw_555 : (Jvm.Cond.instanceMethod ({ cls := "RealDeskModel", name := "whole", desc := "(I)J" } : Jvm.MethodName)) ∈ gtbl := gt_t (k := 555) rfl rfl
set_option maxRecDepth 20000 in
theorem tw_556 : (Jvm.Cond.selects "RealDeskModel" ({ cls := "RealDeskModel", name := "whole", desc := "(I)J" } : Jvm.MethodName) ({ cls := "RealDeskModel", name := "whole", desc := "(I)J" } : Jvm.MethodName)) ∈ gtbl := gt_t (k := 556) rfl rfl
set_option maxRecDepth 20000 in
theorem tw_557 : (Jvm.Cond.code ({ cls := "RealDeskModel", name := "whole", desc := "(I)J" } : Jvm.MethodName) prog_3_method_38_code (6 : Nat) (Option.some Jvm.ClassFile.FieldType.long)) ∈ gtbl := gt_t (k := 557) rfl rfl
set_option maxRecDepth 20000 in
theorem tw_558 : (Jvm.Cond.constantLong "RealDeskModel" (195 : Nat) (4611686018427387904 : Int64)) ∈ gtbl := gt_t (k := 558) rfl rfl
set_option maxRecDepth 20000 in
theorem tw_559 : (Jvm.Cond.methodLink "RealDeskModel" (197 : Nat) ({ cls := "RealDeskModel", name := "refuse", desc := "(I)I" } : Jvm.MethodName)) ∈ gtbl := gt_t (k := 559) rfl rfl
set_option maxRecDepth 20000 in
theorem tw_561 : (Jvm.Cond.instanceMethod ({ cls := "RealDeskModel", name := "refuse", desc := "(I)I" } : Jvm.MethodName)) ∈ gtbl := gt_t (k := 561) rfl rfl
set_option maxRecDepth 20000 in
theorem tw_562 : (Jvm.Cond.code ({ cls := "RealDeskModel", name := "refuse", desc := "(I)I" } : Jvm.MethodName) prog_3_method_3_code (2 : Nat) (Option.some Jvm.ClassFile.FieldType.int)) ∈ gtbl := gt_t (k := 562) rfl rfl
set_option maxRecDepth 20000 in
theorem tw_563 : (Jvm.Cond.constantLong "RealDeskLaw" (51 : Nat) (4294967295 : Int64)) ∈ gtbl := gt_t (k := 563) rfl rfl
set_option maxRecDepth 20000 in
theorem tw_564 : (Jvm.Cond.arrayClass Jvm.ClassFile.FieldType.double) ∈ gtbl := gt_t (k := 564) rfl rfl
theorem ts_0 : (Cond.selects "java/lang/Throwable" ({ cls := "java/lang/Throwable", name := "fillInStackTrace", desc := "(I)Ljava/lang/Throwable;" } : Jvm.MethodName) ({ cls := "java/lang/Throwable", name := "fillInStackTrace", desc := "(I)Ljava/lang/Throwable;" } : Jvm.MethodName)) ∈ gtbl := gt_mem (List.mem_append_left _ (List.mem_of_getElem? (i := 0) rfl)) rfl
theorem ts_1 : (Cond.selects "RealDesk" ({ cls := "RealDesk", name := "keep", desc := "(IJ)I" } : Jvm.MethodName) ({ cls := "RealDesk", name := "keep", desc := "(IJ)I" } : Jvm.MethodName)) ∈ gtbl := gt_mem (List.mem_append_left _ (List.mem_of_getElem? (i := 1) rfl)) rfl
theorem ts_2 : (Cond.selects "RealDesk" ({ cls := "RealDesk", name := "combineRanks", desc := "(IIJJ)I" } : Jvm.MethodName) ({ cls := "RealDesk", name := "combineRanks", desc := "(IIJJ)I" } : Jvm.MethodName)) ∈ gtbl := gt_mem (List.mem_append_left _ (List.mem_of_getElem? (i := 2) rfl)) rfl
theorem ts_3 : (Cond.selects "RealDesk" ({ cls := "RealDesk", name := "changeRank", desc := "(IIJ)I" } : Jvm.MethodName) ({ cls := "RealDesk", name := "changeRank", desc := "(IIJ)I" } : Jvm.MethodName)) ∈ gtbl := gt_mem (List.mem_append_left _ (List.mem_of_getElem? (i := 3) rfl)) rfl
theorem ts_4 : (Cond.selects "RealDeskModel" ({ cls := "RealDeskModel", name := "nearest", desc := "(ZIZ)I" } : Jvm.MethodName) ({ cls := "RealDeskModel", name := "nearest", desc := "(ZIZ)I" } : Jvm.MethodName)) ∈ gtbl := gt_mem (List.mem_append_left _ (List.mem_of_getElem? (i := 4) rfl)) rfl
theorem ts_5 : (Cond.selects "RealDeskModel" ({ cls := "RealDeskModel", name := "settle", desc := "()I" } : Jvm.MethodName) ({ cls := "RealDeskModel", name := "settle", desc := "()I" } : Jvm.MethodName)) ∈ gtbl := gt_mem (List.mem_append_left _ (List.mem_of_getElem? (i := 5) rfl)) rfl
theorem ts_6 : (Cond.selects "RealDeskModel" ({ cls := "RealDeskModel", name := "keep", desc := "(II)I" } : Jvm.MethodName) ({ cls := "RealDeskModel", name := "keep", desc := "(II)I" } : Jvm.MethodName)) ∈ gtbl := gt_mem (List.mem_append_left _ (List.mem_of_getElem? (i := 6) rfl)) rfl
theorem ts_7 : (Cond.selects "RealDeskModel" ({ cls := "RealDeskModel", name := "combined", desc := "(III)I" } : Jvm.MethodName) ({ cls := "RealDeskModel", name := "combined", desc := "(III)I" } : Jvm.MethodName)) ∈ gtbl := gt_mem (List.mem_append_left _ (List.mem_of_getElem? (i := 7) rfl)) rfl
theorem ts_8 : (Cond.selects "RealDeskModel" ({ cls := "RealDeskModel", name := "sum", desc := "(IIZ)I" } : Jvm.MethodName) ({ cls := "RealDeskModel", name := "sum", desc := "(IIZ)I" } : Jvm.MethodName)) ∈ gtbl := gt_mem (List.mem_append_left _ (List.mem_of_getElem? (i := 8) rfl)) rfl
theorem ts_9 : (Cond.selects "RealDeskModel" ({ cls := "RealDeskModel", name := "exactSum", desc := "(IIZ)Z" } : Jvm.MethodName) ({ cls := "RealDeskModel", name := "exactSum", desc := "(IIZ)Z" } : Jvm.MethodName)) ∈ gtbl := gt_mem (List.mem_append_left _ (List.mem_of_getElem? (i := 9) rfl)) rfl
theorem ts_10 : (Cond.selects "RealDeskModel" ({ cls := "RealDeskModel", name := "swap", desc := "()V" } : Jvm.MethodName) ({ cls := "RealDeskModel", name := "swap", desc := "()V" } : Jvm.MethodName)) ∈ gtbl := gt_mem (List.mem_append_left _ (List.mem_of_getElem? (i := 10) rfl)) rfl
theorem ts_11 : (Cond.selects "RealDeskModel" ({ cls := "RealDeskModel", name := "product", desc := "(II)I" } : Jvm.MethodName) ({ cls := "RealDeskModel", name := "product", desc := "(II)I" } : Jvm.MethodName)) ∈ gtbl := gt_mem (List.mem_append_left _ (List.mem_of_getElem? (i := 11) rfl)) rfl
theorem ts_12 : (Cond.selects "RealDeskModel" ({ cls := "RealDeskModel", name := "quotient", desc := "(ZJIJI)I" } : Jvm.MethodName) ({ cls := "RealDeskModel", name := "quotient", desc := "(ZJIJI)I" } : Jvm.MethodName)) ∈ gtbl := gt_mem (List.mem_append_left _ (List.mem_of_getElem? (i := 12) rfl)) rfl
theorem ts_13 : (Cond.selects "RealDeskModel" ({ cls := "RealDeskModel", name := "rest", desc := "(II)I" } : Jvm.MethodName) ({ cls := "RealDeskModel", name := "rest", desc := "(II)I" } : Jvm.MethodName)) ∈ gtbl := gt_mem (List.mem_append_left _ (List.mem_of_getElem? (i := 13) rfl)) rfl
theorem ts_14 : (Cond.selects "RealDeskModel" ({ cls := "RealDeskModel", name := "take", desc := "(I)V" } : Jvm.MethodName) ({ cls := "RealDeskModel", name := "take", desc := "(I)V" } : Jvm.MethodName)) ∈ gtbl := gt_mem (List.mem_append_left _ (List.mem_of_getElem? (i := 14) rfl)) rfl
theorem ts_15 : (Cond.selects "RealDeskModel" ({ cls := "RealDeskModel", name := "compareNumbers", desc := "(II)I" } : Jvm.MethodName) ({ cls := "RealDeskModel", name := "compareNumbers", desc := "(II)I" } : Jvm.MethodName)) ∈ gtbl := gt_mem (List.mem_append_left _ (List.mem_of_getElem? (i := 15) rfl)) rfl
theorem ts_16 : (Cond.selects "RealDeskModel" ({ cls := "RealDeskModel", name := "sizes", desc := "(II)I" } : Jvm.MethodName) ({ cls := "RealDeskModel", name := "sizes", desc := "(II)I" } : Jvm.MethodName)) ∈ gtbl := gt_mem (List.mem_append_left _ (List.mem_of_getElem? (i := 16) rfl)) rfl
theorem ts_17 : (Cond.selects "RealDeskModel" ({ cls := "RealDeskModel", name := "pick", desc := "(I)I" } : Jvm.MethodName) ({ cls := "RealDeskModel", name := "pick", desc := "(I)I" } : Jvm.MethodName)) ∈ gtbl := gt_mem (List.mem_append_left _ (List.mem_of_getElem? (i := 17) rfl)) rfl
theorem ts_18 : (Cond.selects "RealDeskModel" ({ cls := "RealDeskModel", name := "sumError", desc := "(II)I" } : Jvm.MethodName) ({ cls := "RealDeskModel", name := "sumError", desc := "(II)I" } : Jvm.MethodName)) ∈ gtbl := gt_mem (List.mem_append_left _ (List.mem_of_getElem? (i := 18) rfl)) rfl
theorem ts_19 : (Cond.selects "RealDeskModel" ({ cls := "RealDeskModel", name := "lower", desc := "(I)V" } : Jvm.MethodName) ({ cls := "RealDeskModel", name := "lower", desc := "(I)V" } : Jvm.MethodName)) ∈ gtbl := gt_mem (List.mem_append_left _ (List.mem_of_getElem? (i := 19) rfl)) rfl
theorem ts_20 : (Cond.selects "RealDeskModel" ({ cls := "RealDeskModel", name := "errorOf", desc := "(ZI)I" } : Jvm.MethodName) ({ cls := "RealDeskModel", name := "errorOf", desc := "(ZI)I" } : Jvm.MethodName)) ∈ gtbl := gt_mem (List.mem_append_left _ (List.mem_of_getElem? (i := 20) rfl)) rfl
theorem ts_21 : (Cond.selects "RealDeskModel" ({ cls := "RealDeskModel", name := "productError", desc := "(II)I" } : Jvm.MethodName) ({ cls := "RealDeskModel", name := "productError", desc := "(II)I" } : Jvm.MethodName)) ∈ gtbl := gt_mem (List.mem_append_left _ (List.mem_of_getElem? (i := 21) rfl)) rfl
theorem ts_22 : (Cond.selects "RealDeskModel" ({ cls := "RealDeskModel", name := "changed", desc := "(II)I" } : Jvm.MethodName) ({ cls := "RealDeskModel", name := "changed", desc := "(II)I" } : Jvm.MethodName)) ∈ gtbl := gt_mem (List.mem_append_left _ (List.mem_of_getElem? (i := 22) rfl)) rfl
theorem ts_23 : (Cond.selects "RealDeskModel" ({ cls := "RealDeskModel", name := "root", desc := "(I)I" } : Jvm.MethodName) ({ cls := "RealDeskModel", name := "root", desc := "(I)I" } : Jvm.MethodName)) ∈ gtbl := gt_mem (List.mem_append_left _ (List.mem_of_getElem? (i := 23) rfl)) rfl
theorem ts_24 : (Cond.selects "RealDeskModel" ({ cls := "RealDeskModel", name := "neighbour", desc := "(IZ)I" } : Jvm.MethodName) ({ cls := "RealDeskModel", name := "neighbour", desc := "(IZ)I" } : Jvm.MethodName)) ∈ gtbl := gt_mem (List.mem_append_left _ (List.mem_of_getElem? (i := 24) rfl)) rfl
theorem ts_25 : (Cond.selects "RealDeskModel" ({ cls := "RealDeskModel", name := "wholeOf", desc := "(II)I" } : Jvm.MethodName) ({ cls := "RealDeskModel", name := "wholeOf", desc := "(II)I" } : Jvm.MethodName)) ∈ gtbl := gt_mem (List.mem_append_left _ (List.mem_of_getElem? (i := 25) rfl)) rfl
theorem ts_26 : (Cond.selects "RealDeskModel" ({ cls := "RealDeskModel", name := "raised", desc := "(II)I" } : Jvm.MethodName) ({ cls := "RealDeskModel", name := "raised", desc := "(II)I" } : Jvm.MethodName)) ∈ gtbl := gt_mem (List.mem_append_left _ (List.mem_of_getElem? (i := 26) rfl)) rfl
theorem ts_27 : (Cond.selects "RealDeskModel" ({ cls := "RealDeskModel", name := "multiply", desc := "(ZJI)I" } : Jvm.MethodName) ({ cls := "RealDeskModel", name := "multiply", desc := "(ZJI)I" } : Jvm.MethodName)) ∈ gtbl := gt_mem (List.mem_append_left _ (List.mem_of_getElem? (i := 27) rfl)) rfl
theorem ts_28 : (Cond.selects "RealDeskModel" ({ cls := "RealDeskModel", name := "refuse", desc := "(I)I" } : Jvm.MethodName) ({ cls := "RealDeskModel", name := "refuse", desc := "(I)I" } : Jvm.MethodName)) ∈ gtbl := gt_mem (List.mem_append_left _ (List.mem_of_getElem? (i := 28) rfl)) rfl
end
section
/-! my own frame of the decompiled methods: every method's words are its code and gtbl; a pure method's contract is 'it answers v, the heap stays' -/
abbrev WS (y : MethodName) (cc : ByteArray) (n : Nat) (ret : Option FieldType) : List Cond := Cond.code y cc n ret :: gtbl
def CX (p : Program) (s : State) (m : MethodId) (args : Array Value) (meth : Method) (c : Code) (own : String) (cc : ByteArray) (nL : Nat) (ret : Option FieldType) : Prop :=
  p.tables.exec = Jvm.exec ∧ c.code = cc ∧ c.maxLocals = nL ∧ s.vm.findClass own = some m.cls ∧ (∀ w ∈ gtbl, w.before args s = true) ∧ meth.sig.returnType = ret ∧ meth.locks = false
def PM (l : Launch) (y : MethodName) (cc : ByteArray) (n : Nat) (ret : Option FieldType) (rm : Room) (As : List Value) (v : Value) : Prop :=
  Met l y (WS y cc n ret) rm (va_Pc As (fun _ => True)) (k2_QcV v) 0 0 (fun _ => False)
def SC (y : MethodName) (bytes : ByteArray) (maxL : Nat) (ret : Option FieldType) (n : Nat) : Prop :=
  Cond.static y ∈ gtbl ∧ Cond.initialized y.cls ∈ gtbl ∧ Cond.code y bytes maxL ret ∈ gtbl ∧ (y.cls ≠ "java/lang/invoke/MethodHandle" ∧ y.cls ≠ "java/lang/invoke/VarHandle" ∧ (parseMethodDescriptor y.desc).map (fun d => d.parameters.length) = some n)
def VC (C : String) (y : MethodName) (bytes : ByteArray) (maxL : Nat) (ret : Option FieldType) (n : Nat) : Prop :=
  Cond.instanceMethod y ∈ gtbl ∧ Cond.selects C y y ∈ gtbl ∧ Cond.initialized C ∈ gtbl ∧ Cond.code y bytes maxL ret ∈ gtbl ∧ (y.cls = C ∧ y.cls ≠ "java/lang/invoke/MethodHandle" ∧ y.cls ≠ "java/lang/invoke/VarHandle" ∧ (parseMethodDescriptor y.desc).map (fun d => d.parameters.length) = some n)
def rmz (f n : Nat) : Room := { frames := f, cells := 0, slots := 0, locals := n }
/-- the shifts of longs -/
def sl (x : Int64) (y : Int32) : Int64 := x <<< (y.toInt64 &&& 63)
def sr (x : Int64) (y : Int32) : Int64 := x >>> (y.toInt64 &&& 63)
def su (x : Int64) (y : Int32) : Int64 := (x.toUInt64 >>> (y.toInt64.toUInt64 &&& Int64.toUInt64 63)).toInt64
def iu (x y : Int32) : Int32 := (x.toUInt32 >>> (y.toUInt32 &&& Int32.toUInt32 31)).toInt32
theorem of_ite {α : Type} {c : Prop} [Decidable c] {t : Option α} {r : α} (h : (if c then t else none) = some r) : c ∧ t = some r := by
  by_cases hc : c
  · rw [if_pos hc] at h; exact ⟨hc, h⟩
  · rw [if_neg hc] at h; cases h
theorem of_ite2 {α : Type} {c : Prop} [Decidable c] {t : Option α} {r : α} (h : (if c then none else t) = some r) : ¬ c ∧ t = some r := by
  by_cases hc : c
  · rw [if_pos hc] at h; cases h
  · rw [if_neg hc] at h; exact ⟨hc, h⟩
theorem of_bind {α β : Type} {o : Option α} {f : α → Option β} {r : β} (h : o.bind f = some r) : ∃ a, o = some a ∧ f a = some r := by
  cases o with
  | none => cases h
  | some a => exact ⟨a, rfl, h⟩
theorem gi_S {own : String} {idx : Nat} {y : MethodName} {bytes : ByteArray} {maxL n : Nat} {ret : Option FieldType} (hS : SC y bytes maxL ret n) (hl : Cond.methodLink own idx y ∈ gtbl) : GoodIn gtbl (va_wsS own idx y (WS y bytes maxL ret)) := by
  intro w hw
  refine gt_good w ?_
  simp only [va_wsS, List.cons_append, List.nil_append, List.mem_cons] at hw
  rcases hw with rfl | rfl | rfl | rfl | h
  · exact hl
  · exact hS.1
  · exact hS.2.1
  · exact hS.2.2.1
  · exact h
theorem gi_V {own C : String} {idx : Nat} {y : MethodName} {bytes : ByteArray} {maxL n : Nat} {ret : Option FieldType} (hS : VC C y bytes maxL ret n) (hl : Cond.methodLink own idx y ∈ gtbl) : GoodIn gtbl (wsV own idx C y (WS y bytes maxL ret)) := by
  intro w hw
  refine gt_good w ?_
  simp only [wsV, List.cons_append, List.nil_append, List.mem_cons] at hw
  rcases hw with rfl | rfl | rfl | rfl | rfl | h
  · exact hl
  · exact hS.1
  · exact hS.2.1
  · exact hS.2.2.1
  · exact hS.2.2.2.1
  · exact h
section MX
variable {l : Launch} {y : MethodName} {cc : ByteArray} {n : Nat} {ret : Option FieldType} {own : String} {rm : Room}
theorem met_of {As : List Value} {B : State → Prop} {Qc : Array Value → State → Outcome → State → Prop} {mc ms : Nat} {free : Addr → Prop} (hy : plainName y.cls = true) (hown : y.cls = own) (hlen : (lg_sl As).length ≤ n)
    (body : ∀ (p : Program) (e : Env) (s : State) (m : MethodId) (below : List Frame) (meth : Method) (c : Code) (ls : Array Slot), CX p s m As.toArray meth c own cc n ret → meth.name = y.name → B s → lv_has ls n (lv_args 0 As) →
      W p l e rm s m As.toArray below meth c s.heap [] 0 0 (MQ below Qc As.toArray s mc ms free) (F0 m 0 ls [])) : Met l y (WS y cc n ret) rm (va_Pc As B) Qc mc ms free := by
  refine Met.ofW (cc := cc) (maxL := n) (ret := ret) hy rfl ?_
  intro p e s m args below meth c s₁ B0 hml hv
  obtain ⟨rfl, hB⟩ := hv
  rw [lg_entry_eq]
  exact body p e s m below meth c _ ⟨B0.exec, B0.bytes, hml, by rw [← hown]; exact findClass_of_methodNamed B0.named, fun w h => atoms_spec (ws := WS y cc n ret) B0.pre w (List.mem_cons_of_mem _ h), B0.returns, B0.notSynchronized⟩
    (name_of_methodNamed B0.named B0.method).1 hB (lv_entry As hlen)
theorem pm_of {As : List Value} {v : Value} (hy : plainName y.cls = true) (hown : y.cls = own) (hlen : (lg_sl As).length ≤ n)
    (body : ∀ (p : Program) (e : Env) (s : State) (m : MethodId) (below : List Frame) (meth : Method) (c : Code) (ls : Array Slot), CX p s m As.toArray meth c own cc n ret → lv_has ls n (lv_args 0 As) →
      W p l e rm s m As.toArray below meth c s.heap [] 0 0 (MQ below (k2_QcV v) As.toArray s 0 0 (fun _ => False)) (F0 m 0 ls [])) : PM l y cc n ret rm As v :=
  met_of hy hown hlen (fun p e s m below meth c ls C _ _ hl => body p e s m below meth c ls C hl)
end MX
section RX
variable {p : Program} {l : Launch} {e : Env} {R : Room} {s : State} {m : MethodId} {args : Array Value} {below : List Frame} {meth : Method} {c : Code} {H : Heap} {locs : List Loc} {cells slots : Nat} {Q : State → Prop}
variable {own : String} {cc : ByteArray} {nL : Nat} {ret0 : Option FieldType} {pc : Nat} {ls : Array Slot} {rest : List Value}
/-- a call of a pure static method -/
theorem pcall (C : CX p s m args meth c own cc nL ret0) {y : MethodName} {bytes : ByteArray} {maxL n idx : Nat} {ret : Option FieldType} {rm : Room} {As : List Value} {r : Value} {st0 : List Value} (hM : PM l y bytes maxL ret rm As r) (hS : SC y bytes maxL ret n) (hl : Cond.methodLink own idx y ∈ gtbl)
    (hR : (rm.frames + 1 ≤ R.frames ∧ 8 + (maxL + 11) + rm.locals ≤ R.locals) ∧ rm.cells = 0 ∧ rm.slots = 0) (hn : As.length = n) (hsz : ls.size = nL) (hst : st0 = As.reverse ++ rest) (hW : (rest.map fun v => v.category).sum ≤ 8) (hc : cells ≤ R.cells ∧ slots ≤ R.slots) (hd : decode cc pc = .ok (.invokestatic idx, 3))
    (k : W p l e R s m args below meth c H locs cells slots Q (F0 m (pc + 3) ls (r :: rest))) : W p l e R s m args below meth c H locs cells slots Q (F0 m pc ls st0) := by
  obtain ⟨hx, hb, hml, hown, hg, -, -⟩ := C
  exact W.callV (W.runS (Ts := gtbl) (cc := cc) (nL := nL) ⟨hx, hb, hml, hown, hg⟩ hM (va_cwS n hg (gi_S hS hl) rfl hR.2.1 hR.2.2 hS.2.2.2 hR.1) ⟨fun _ _ _ _ q => q, fun _ _ _ => ⟨rfl, trivial⟩⟩ rfl hn hsz hst (lv_room hW) hd hc) k
/-- a value over two roads that meet: v is the tree of both -/
theorem rg_i {pj : Nat} {v : Int32} {g : JFrame} (br : (∀ v' : Int32, v = v' → W p l e R s m args below meth c H locs cells slots Q (F0 m pj ls (.int v' :: rest))) → W p l e R s m args below meth c H locs cells slots Q g) (k : W p l e R s m args below meth c H locs cells slots Q (F0 m pj ls (.int v :: rest))) : W p l e R s m args below meth c H locs cells slots Q g := br (fun v' h => h ▸ k)
theorem rg_l {pj : Nat} {v : Int64} {g : JFrame} (br : (∀ v' : Int64, v = v' → W p l e R s m args below meth c H locs cells slots Q (F0 m pj ls (.long v' :: rest))) → W p l e R s m args below meth c H locs cells slots Q g) (k : W p l e R s m args below meth c H locs cells slots Q (F0 m pj ls (.long v :: rest))) : W p l e R s m args below meth c H locs cells slots Q g := br (fun v' h => h ▸ k)
theorem rg_d {pj : Nat} {v : UInt64} {g : JFrame} (br : (∀ v' : UInt64, v = v' → W p l e R s m args below meth c H locs cells slots Q (F0 m pj ls (.double v' :: rest))) → W p l e R s m args below meth c H locs cells slots Q g) (k : W p l e R s m args below meth c H locs cells slots Q (F0 m pj ls (.double v :: rest))) : W p l e R s m args below meth c H locs cells slots Q g := br (fun v' h => h ▸ k)
/-- lcmp and the branch behind it -/
theorem lc_eq (hx : p.tables.exec = Jvm.exec) (hb : c.code = cc) {x y : Int64} {off : Int} {tgt : Nat} (d1 : decode cc pc = .ok (.lcmp, 1)) (d2 : decode cc (pc + 1) = .ok (.ifCond .eq off, 3)) (ht : ((pc + 1 : Nat) : Int) + off = (tgt : Int)) (kt : x = y → W p l e R s m args below meth c H locs cells slots Q (F0 m tgt ls rest)) (kf : ¬ x = y → W p l e R s m args below meth c H locs cells slots Q (F0 m (pc + 4) ls rest)) : W p l e R s m args below meth c H locs cells slots Q (F0 m pc ls (.long y :: .long x :: rest)) :=
  W.lcmp hx hb d1 (lv_if_eq hx hb d2 ht (fun h => kt ((lg_cmp_eq x y).mp h)) (fun h => kf (fun q => h ((lg_cmp_eq x y).mpr q))))
theorem lc_ne (hx : p.tables.exec = Jvm.exec) (hb : c.code = cc) {x y : Int64} {off : Int} {tgt : Nat} (d1 : decode cc pc = .ok (.lcmp, 1)) (d2 : decode cc (pc + 1) = .ok (.ifCond .ne off, 3)) (ht : ((pc + 1 : Nat) : Int) + off = (tgt : Int)) (kt : ¬ x = y → W p l e R s m args below meth c H locs cells slots Q (F0 m tgt ls rest)) (kf : x = y → W p l e R s m args below meth c H locs cells slots Q (F0 m (pc + 4) ls rest)) : W p l e R s m args below meth c H locs cells slots Q (F0 m pc ls (.long y :: .long x :: rest)) :=
  W.lcmp hx hb d1 (lv_if_ne hx hb d2 ht (fun h => kt (fun q => h ((lg_cmp_eq x y).mpr q))) (fun h => kf ((lg_cmp_eq x y).mp h)))
theorem lc_lt (hx : p.tables.exec = Jvm.exec) (hb : c.code = cc) {x y : Int64} {off : Int} {tgt : Nat} (d1 : decode cc pc = .ok (.lcmp, 1)) (d2 : decode cc (pc + 1) = .ok (.ifCond .lt off, 3)) (ht : ((pc + 1 : Nat) : Int) + off = (tgt : Int)) (kt : x < y → W p l e R s m args below meth c H locs cells slots Q (F0 m tgt ls rest)) (kf : ¬ x < y → W p l e R s m args below meth c H locs cells slots Q (F0 m (pc + 4) ls rest)) : W p l e R s m args below meth c H locs cells slots Q (F0 m pc ls (.long y :: .long x :: rest)) :=
  W.lcmp hx hb d1 (lv_if_lt hx hb d2 ht (fun h => kt ((lg_cmp_lt x y).mp h)) (fun h => kf (fun q => h ((lg_cmp_lt x y).mpr q))))
theorem lc_ge (hx : p.tables.exec = Jvm.exec) (hb : c.code = cc) {x y : Int64} {off : Int} {tgt : Nat} (d1 : decode cc pc = .ok (.lcmp, 1)) (d2 : decode cc (pc + 1) = .ok (.ifCond .ge off, 3)) (ht : ((pc + 1 : Nat) : Int) + off = (tgt : Int)) (kt : y ≤ x → W p l e R s m args below meth c H locs cells slots Q (F0 m tgt ls rest)) (kf : ¬ y ≤ x → W p l e R s m args below meth c H locs cells slots Q (F0 m (pc + 4) ls rest)) : W p l e R s m args below meth c H locs cells slots Q (F0 m pc ls (.long y :: .long x :: rest)) :=
  W.lcmp hx hb d1 (lv_if_ge hx hb d2 ht (fun h => kt ((lg_cmp_ge x y).mp h)) (fun h => kf (fun q => h ((lg_cmp_ge x y).mpr q))))
theorem lc_gt (hx : p.tables.exec = Jvm.exec) (hb : c.code = cc) {x y : Int64} {off : Int} {tgt : Nat} (d1 : decode cc pc = .ok (.lcmp, 1)) (d2 : decode cc (pc + 1) = .ok (.ifCond .gt off, 3)) (ht : ((pc + 1 : Nat) : Int) + off = (tgt : Int)) (kt : y < x → W p l e R s m args below meth c H locs cells slots Q (F0 m tgt ls rest)) (kf : ¬ y < x → W p l e R s m args below meth c H locs cells slots Q (F0 m (pc + 4) ls rest)) : W p l e R s m args below meth c H locs cells slots Q (F0 m pc ls (.long y :: .long x :: rest)) :=
  W.lcmp hx hb d1 (lv_if_gt hx hb d2 ht (fun h => kt ((lg_cmp_gt x y).mp h)) (fun h => kf (fun q => h ((lg_cmp_gt x y).mpr q))))
theorem lc_le (hx : p.tables.exec = Jvm.exec) (hb : c.code = cc) {x y : Int64} {off : Int} {tgt : Nat} (d1 : decode cc pc = .ok (.lcmp, 1)) (d2 : decode cc (pc + 1) = .ok (.ifCond .le off, 3)) (ht : ((pc + 1 : Nat) : Int) + off = (tgt : Int)) (kt : x ≤ y → W p l e R s m args below meth c H locs cells slots Q (F0 m tgt ls rest)) (kf : ¬ x ≤ y → W p l e R s m args below meth c H locs cells slots Q (F0 m (pc + 4) ls rest)) : W p l e R s m args below meth c H locs cells slots Q (F0 m pc ls (.long y :: .long x :: rest)) :=
  W.lcmp hx hb d1 (lv_if_le hx hb d2 ht (fun h => kt ((lg_cmp_le x y).mp h)) (fun h => kf (fun q => h ((lg_cmp_le x y).mpr q))))
end RX
/-! the four members of Math, by the kit's rows -/
def jmax (x y : Int32) : Int32 := if x < y then y else x
def jmin (x y : Int32) : Int32 := if y < x then y else x
def jabs (x : Int32) : Int32 := if 0 ≤ x then x else 0 - x
def jabsl (x : Int64) : Int64 := if 0 < x then x else -x
def jmaxl (x y : Int64) : Int64 := if y < x then x else y
def jminl (x y : Int64) : Int64 := if y < x then y else x
section RM
variable {p : Program} {l : Launch} {e : Env} {R : Room} {s : State} {m : MethodId} {args : Array Value} {below : List Frame} {meth : Method} {c : Code} {H : Heap} {locs : List Loc} {cells slots : Nat} {Q : State → Prop}
variable {own : String} {cc : ByteArray} {nL : Nat} {ret0 : Option FieldType} {pc idx : Nat} {ls : Array Slot} {rest : List Value}
theorem q_max (C : CX p s m args meth c own cc nL ret0) (hl : Cond.methodLink own idx Lib.Math.max.name ∈ gtbl) (hR : 1 ≤ R.frames) (hL : (rest.map fun v => v.category).sum + 13 ≤ R.locals) (hc : cells ≤ R.cells ∧ slots ≤ R.slots) (hsz : ls.size = nL) {x y : Int32} (hd : decode cc pc = .ok (.invokestatic idx, 3))
    (k : W p l e R s m args below meth c H locs cells slots Q (F0 m (pc + 3) ls (.int (jmax x y) :: rest))) : W p l e R s m args below meth c H locs cells slots Q (F0 m pc ls (.int y :: .int x :: rest)) := by
  obtain ⟨hx, hb, hml, hown, hg, -, -⟩ := C
  exact va_mmax hx hb (hml.trans hsz.symm) hown (hg _ hl) (hg _ tw_121) (hg _ tw_8) (hg _ tw_122) hR hL hc.1 hc.2 hd k
theorem q_min (C : CX p s m args meth c own cc nL ret0) (hl : Cond.methodLink own idx Lib.Math.min.name ∈ gtbl) (hR : 1 ≤ R.frames) (hL : (rest.map fun v => v.category).sum + 13 ≤ R.locals) (hc : cells ≤ R.cells ∧ slots ≤ R.slots) (hsz : ls.size = nL) {x y : Int32} (hd : decode cc pc = .ok (.invokestatic idx, 3))
    (k : W p l e R s m args below meth c H locs cells slots Q (F0 m (pc + 3) ls (.int (jmin x y) :: rest))) : W p l e R s m args below meth c H locs cells slots Q (F0 m pc ls (.int y :: .int x :: rest)) := by
  obtain ⟨hx, hb, hml, hown, hg, -, -⟩ := C
  exact va_mmin hx hb (hml.trans hsz.symm) hown (hg _ hl) (hg _ tw_169) (hg _ tw_8) (hg _ tw_170) hR hL hc.1 hc.2 hd k
theorem q_abs (C : CX p s m args meth c own cc nL ret0) (hl : Cond.methodLink own idx Lib.Math.abs.name ∈ gtbl) (hR : 1 ≤ R.frames) (hL : (rest.map fun v => v.category).sum + 13 ≤ R.locals) (hc : cells ≤ R.cells ∧ slots ≤ R.slots) (hsz : ls.size = nL) {x : Int32} (hd : decode cc pc = .ok (.invokestatic idx, 3))
    (k : W p l e R s m args below meth c H locs cells slots Q (F0 m (pc + 3) ls (.int (jabs x) :: rest))) : W p l e R s m args below meth c H locs cells slots Q (F0 m pc ls (.int x :: rest)) := by
  obtain ⟨hx, hb, hml, hown, hg, -, -⟩ := C
  exact va_mabs hx hb (hml.trans hsz.symm) hown (hg _ hl) (hg _ tw_240) (hg _ tw_8) (hg _ tw_241) hR hL hc.1 hc.2 hd k
theorem q_absl (C : CX p s m args meth c own cc nL ret0) (hl : Cond.methodLink own idx Lib.MathLoose.abs_long.x ∈ gtbl) (hR : 1 ≤ R.frames) (hL : (rest.map fun v => v.category).sum + 13 ≤ R.locals) (hc : cells ≤ R.cells ∧ slots ≤ R.slots) (hsz : ls.size = nL) {x : Int64} (hd : decode cc pc = .ok (.invokestatic idx, 3))
    (k : W p l e R s m args below meth c H locs cells slots Q (F0 m (pc + 3) ls (.long (jabsl x) :: rest))) : W p l e R s m args below meth c H locs cells slots Q (F0 m pc ls (.long x :: rest)) := by
  obtain ⟨hx, hb, hml, hown, hg, -, -⟩ := C
  exact va_mabs_long hx hb (hml.trans hsz.symm) hown (hg _ hl) (hg _ tw_108) (hg _ tw_8) (hg _ tw_109) hR hL hc.1 hc.2 hd k
theorem q_maxl (C : CX p s m args meth c own cc nL ret0) (hl : Cond.methodLink own idx Lib.MathLoose.max_long.x ∈ gtbl) (hR : 1 ≤ R.frames) (hL : (rest.map fun v => v.category).sum + 15 ≤ R.locals) (hc : cells ≤ R.cells ∧ slots ≤ R.slots) (hsz : ls.size = nL) {x y : Int64} (hd : decode cc pc = .ok (.invokestatic idx, 3))
    (k : W p l e R s m args below meth c H locs cells slots Q (F0 m (pc + 3) ls (.long (jmaxl x y) :: rest))) : W p l e R s m args below meth c H locs cells slots Q (F0 m pc ls (.long y :: .long x :: rest)) := by
  obtain ⟨hx, hb, hml, hown, hg, -, -⟩ := C
  exact va_mmax_long hx hb (hml.trans hsz.symm) hown (hg _ hl) (hg _ tw_203) (hg _ tw_8) (hg _ tw_204) hR hL hc.1 hc.2 hd k
theorem q_minl (C : CX p s m args meth c own cc nL ret0) (hl : Cond.methodLink own idx Lib.MathLoose.min_long.x ∈ gtbl) (hR : 1 ≤ R.frames) (hL : (rest.map fun v => v.category).sum + 15 ≤ R.locals) (hc : cells ≤ R.cells ∧ slots ≤ R.slots) (hsz : ls.size = nL) {x y : Int64} (hd : decode cc pc = .ok (.invokestatic idx, 3))
    (k : W p l e R s m args below meth c H locs cells slots Q (F0 m (pc + 3) ls (.long (jminl x y) :: rest))) : W p l e R s m args below meth c H locs cells slots Q (F0 m pc ls (.long y :: .long x :: rest)) := by
  obtain ⟨hx, hb, hml, hown, hg, -, -⟩ := C
  exact va_mmin_long hx hb (hml.trans hsz.symm) hown (hg _ hl) (hg _ tw_200) (hg _ tw_8) (hg _ tw_201) hR hL hc.1 hc.2 hd k
end RM
end
section
def FU : Nat := 5000
/-! java/lang/Integer.numberOfLeadingZeros(I)I -/
def jJ6_numberOfLeadingZeros_0f7a4_B73 (x0 : Int32) (x1 : Int32) : Int32 := x1 - (iu x0 1)
set_option maxHeartbeats 4000000 in
set_option maxRecDepth 100000 in
theorem wJ6_numberOfLeadingZeros_0f7a4_B73 {p : Program} {l : Launch} {e : Env} {s : State} {m : MethodId} {args : Array Value} {below : List Frame} {meth : Method} {c : Code} (C : CX p s m args meth c RJ6 cJ6_numberOfLeadingZeros_0f7a4 2 (some .int)) (x0 : Int32) (x1 : Int32) (ls : Array Slot) (v : Int32) (hl : lv_has ls 2 [(0, .int x0), (1, .int x1)]) (h : jJ6_numberOfLeadingZeros_0f7a4_B73 x0 x1 = v) : W p l e (rmz 0 0) s m args below meth c s.heap [] 0 0 (MQ below (k2_QcV (.int v)) args s 0 0 (fun _ => False)) (F0 m 73 ls []) := by
  obtain ⟨hx, hb, hml, hown, hg, hr, hlocks⟩ := id C
  unfold jJ6_numberOfLeadingZeros_0f7a4_B73 at h
  refine lv_iload_n hx hb dJ6_numberOfLeadingZeros_0f7a4_73 rfl (lv_at hl 1 rfl) ?_
  refine lv_iload_n hx hb dJ6_numberOfLeadingZeros_0f7a4_74 rfl (lv_at hl 0 rfl) ?_
  refine lv_iconst (v := 1) hx hb dJ6_numberOfLeadingZeros_0f7a4_75 (by decide) ?_
  refine lv_iushr (v := iu x0 1) hx hb dJ6_numberOfLeadingZeros_0f7a4_76 rfl ?_
  refine lv_isub hx hb dJ6_numberOfLeadingZeros_0f7a4_77 ?_
  exact W.iret hx hb hr (fun t ht _ => ⟨by rw [← h], ht⟩) (fun q h9 => nomatch h9) dJ6_numberOfLeadingZeros_0f7a4_78
def jJ6_numberOfLeadingZeros_0f7a4_B61 (x0 : Int32) (x1 : Int32) : Int32 := (if x0 < 4 then jJ6_numberOfLeadingZeros_0f7a4_B73 x0 x1 else jJ6_numberOfLeadingZeros_0f7a4_B73 (iu x0 2) (x1 + (-2)))
set_option maxHeartbeats 4000000 in
set_option maxRecDepth 100000 in
theorem wJ6_numberOfLeadingZeros_0f7a4_B61 {p : Program} {l : Launch} {e : Env} {s : State} {m : MethodId} {args : Array Value} {below : List Frame} {meth : Method} {c : Code} (C : CX p s m args meth c RJ6 cJ6_numberOfLeadingZeros_0f7a4 2 (some .int)) (x0 : Int32) (x1 : Int32) (ls : Array Slot) (v : Int32) (hl : lv_has ls 2 [(0, .int x0), (1, .int x1)]) (h : jJ6_numberOfLeadingZeros_0f7a4_B61 x0 x1 = v) : W p l e (rmz 0 0) s m args below meth c s.heap [] 0 0 (MQ below (k2_QcV (.int v)) args s 0 0 (fun _ => False)) (F0 m 61 ls []) := by
  obtain ⟨hx, hb, hml, hown, hg, hr, hlocks⟩ := id C
  unfold jJ6_numberOfLeadingZeros_0f7a4_B61 at h
  refine lv_iload_n hx hb dJ6_numberOfLeadingZeros_0f7a4_61 rfl (lv_at hl 0 rfl) ?_
  refine lv_iconst (v := 4) hx hb dJ6_numberOfLeadingZeros_0f7a4_62 (by decide) ?_
  refine lv_icmp_lt (tgt := 73) hx hb dJ6_numberOfLeadingZeros_0f7a4_63 (by decide) (fun c_1 => ?_) (fun c_1 => ?_)
  · rw [if_pos c_1] at h
    exact wJ6_numberOfLeadingZeros_0f7a4_B73 C _ _ _ _ (lv_sub hl [0, 1] rfl) h
  · rw [if_neg c_1] at h
    refine lv_iinc (v := x1 + (-2)) (lv' := [(1, .int (x1 + (-2))), (0, .int x0)]) hx hb dJ6_numberOfLeadingZeros_0f7a4_66 hl (k := 1) rfl rfl (by decide) rfl (fun ls hl => ?_)
    refine lv_iload_n hx hb dJ6_numberOfLeadingZeros_0f7a4_69 rfl (lv_at hl 1 rfl) ?_
    refine lv_iconst (v := 2) hx hb dJ6_numberOfLeadingZeros_0f7a4_70 (by decide) ?_
    refine lv_iushr (v := iu x0 2) hx hb dJ6_numberOfLeadingZeros_0f7a4_71 rfl ?_
    refine lv_istore_n (lv' := [(0, .int (iu x0 2)), (1, .int (x1 + (-2)))]) hx hb dJ6_numberOfLeadingZeros_0f7a4_72 rfl hl (by decide) rfl (fun ls hl => ?_)
    exact wJ6_numberOfLeadingZeros_0f7a4_B73 C _ _ _ _ (lv_sub hl [0, 1] rfl) h
def jJ6_numberOfLeadingZeros_0f7a4_B48 (x0 : Int32) (x1 : Int32) : Int32 := (if x0 < 16 then jJ6_numberOfLeadingZeros_0f7a4_B61 x0 x1 else jJ6_numberOfLeadingZeros_0f7a4_B61 (iu x0 4) (x1 + (-4)))
set_option maxHeartbeats 4000000 in
set_option maxRecDepth 100000 in
theorem wJ6_numberOfLeadingZeros_0f7a4_B48 {p : Program} {l : Launch} {e : Env} {s : State} {m : MethodId} {args : Array Value} {below : List Frame} {meth : Method} {c : Code} (C : CX p s m args meth c RJ6 cJ6_numberOfLeadingZeros_0f7a4 2 (some .int)) (x0 : Int32) (x1 : Int32) (ls : Array Slot) (v : Int32) (hl : lv_has ls 2 [(0, .int x0), (1, .int x1)]) (h : jJ6_numberOfLeadingZeros_0f7a4_B48 x0 x1 = v) : W p l e (rmz 0 0) s m args below meth c s.heap [] 0 0 (MQ below (k2_QcV (.int v)) args s 0 0 (fun _ => False)) (F0 m 48 ls []) := by
  obtain ⟨hx, hb, hml, hown, hg, hr, hlocks⟩ := id C
  unfold jJ6_numberOfLeadingZeros_0f7a4_B48 at h
  refine lv_iload_n hx hb dJ6_numberOfLeadingZeros_0f7a4_48 rfl (lv_at hl 0 rfl) ?_
  refine lv_bipush (v := 16) hx hb dJ6_numberOfLeadingZeros_0f7a4_49 (by decide) ?_
  refine lv_icmp_lt (tgt := 61) hx hb dJ6_numberOfLeadingZeros_0f7a4_51 (by decide) (fun c_1 => ?_) (fun c_1 => ?_)
  · rw [if_pos c_1] at h
    exact wJ6_numberOfLeadingZeros_0f7a4_B61 C _ _ _ _ (lv_sub hl [0, 1] rfl) h
  · rw [if_neg c_1] at h
    refine lv_iinc (v := x1 + (-4)) (lv' := [(1, .int (x1 + (-4))), (0, .int x0)]) hx hb dJ6_numberOfLeadingZeros_0f7a4_54 hl (k := 1) rfl rfl (by decide) rfl (fun ls hl => ?_)
    refine lv_iload_n hx hb dJ6_numberOfLeadingZeros_0f7a4_57 rfl (lv_at hl 1 rfl) ?_
    refine lv_iconst (v := 4) hx hb dJ6_numberOfLeadingZeros_0f7a4_58 (by decide) ?_
    refine lv_iushr (v := iu x0 4) hx hb dJ6_numberOfLeadingZeros_0f7a4_59 rfl ?_
    refine lv_istore_n (lv' := [(0, .int (iu x0 4)), (1, .int (x1 + (-4)))]) hx hb dJ6_numberOfLeadingZeros_0f7a4_60 rfl hl (by decide) rfl (fun ls hl => ?_)
    exact wJ6_numberOfLeadingZeros_0f7a4_B61 C _ _ _ _ (lv_sub hl [0, 1] rfl) h
def jJ6_numberOfLeadingZeros_0f7a4_B33 (x0 : Int32) (x1 : Int32) : Int32 := (if x0 < 256 then jJ6_numberOfLeadingZeros_0f7a4_B48 x0 x1 else jJ6_numberOfLeadingZeros_0f7a4_B48 (iu x0 8) (x1 + (-8)))
set_option maxHeartbeats 4000000 in
set_option maxRecDepth 100000 in
theorem wJ6_numberOfLeadingZeros_0f7a4_B33 {p : Program} {l : Launch} {e : Env} {s : State} {m : MethodId} {args : Array Value} {below : List Frame} {meth : Method} {c : Code} (C : CX p s m args meth c RJ6 cJ6_numberOfLeadingZeros_0f7a4 2 (some .int)) (x0 : Int32) (x1 : Int32) (ls : Array Slot) (v : Int32) (hl : lv_has ls 2 [(0, .int x0), (1, .int x1)]) (h : jJ6_numberOfLeadingZeros_0f7a4_B33 x0 x1 = v) : W p l e (rmz 0 0) s m args below meth c s.heap [] 0 0 (MQ below (k2_QcV (.int v)) args s 0 0 (fun _ => False)) (F0 m 33 ls []) := by
  obtain ⟨hx, hb, hml, hown, hg, hr, hlocks⟩ := id C
  unfold jJ6_numberOfLeadingZeros_0f7a4_B33 at h
  refine lv_iload_n hx hb dJ6_numberOfLeadingZeros_0f7a4_33 rfl (lv_at hl 0 rfl) ?_
  refine lv_sipush (v := 256) hx hb dJ6_numberOfLeadingZeros_0f7a4_34 (by decide) ?_
  refine lv_icmp_lt (tgt := 48) hx hb dJ6_numberOfLeadingZeros_0f7a4_37 (by decide) (fun c_1 => ?_) (fun c_1 => ?_)
  · rw [if_pos c_1] at h
    exact wJ6_numberOfLeadingZeros_0f7a4_B48 C _ _ _ _ (lv_sub hl [0, 1] rfl) h
  · rw [if_neg c_1] at h
    refine lv_iinc (v := x1 + (-8)) (lv' := [(1, .int (x1 + (-8))), (0, .int x0)]) hx hb dJ6_numberOfLeadingZeros_0f7a4_40 hl (k := 1) rfl rfl (by decide) rfl (fun ls hl => ?_)
    refine lv_iload_n hx hb dJ6_numberOfLeadingZeros_0f7a4_43 rfl (lv_at hl 1 rfl) ?_
    refine lv_bipush (v := 8) hx hb dJ6_numberOfLeadingZeros_0f7a4_44 (by decide) ?_
    refine lv_iushr (v := iu x0 8) hx hb dJ6_numberOfLeadingZeros_0f7a4_46 rfl ?_
    refine lv_istore_n (lv' := [(0, .int (iu x0 8)), (1, .int (x1 + (-8)))]) hx hb dJ6_numberOfLeadingZeros_0f7a4_47 rfl hl (by decide) rfl (fun ls hl => ?_)
    exact wJ6_numberOfLeadingZeros_0f7a4_B48 C _ _ _ _ (lv_sub hl [0, 1] rfl) h
def jJ6_numberOfLeadingZeros_0f7a4 (x0 : Int32) : Int32 := (if 0 < x0 then (if x0 < 65536 then jJ6_numberOfLeadingZeros_0f7a4_B33 x0 31 else jJ6_numberOfLeadingZeros_0f7a4_B33 (iu x0 16) (31 + (-16))) else (if x0 = 0 then 32 else 0 : Int32))
set_option maxHeartbeats 4000000 in
set_option maxRecDepth 100000 in
theorem wJ6_numberOfLeadingZeros_0f7a4_0 {p : Program} {l : Launch} {e : Env} {s : State} {m : MethodId} {args : Array Value} {below : List Frame} {meth : Method} {c : Code} (C : CX p s m args meth c RJ6 cJ6_numberOfLeadingZeros_0f7a4 2 (some .int)) (x0 : Int32) (ls : Array Slot) (v : Int32) (hl : lv_has ls 2 [(0, .int x0)]) (h : jJ6_numberOfLeadingZeros_0f7a4 x0 = v) : W p l e (rmz 0 0) s m args below meth c s.heap [] 0 0 (MQ below (k2_QcV (.int v)) args s 0 0 (fun _ => False)) (F0 m 0 ls []) := by
  obtain ⟨hx, hb, hml, hown, hg, hr, hlocks⟩ := id C
  unfold jJ6_numberOfLeadingZeros_0f7a4 at h
  refine lv_iload_n hx hb dJ6_numberOfLeadingZeros_0f7a4_0 rfl (lv_at hl 0 rfl) ?_
  refine lv_if_gt (tgt := 15) hx hb dJ6_numberOfLeadingZeros_0f7a4_1 (by decide) (fun c_1 => ?_) (fun c_1 => ?_)
  · rw [if_pos c_1] at h
    refine lv_bipush (v := 31) hx hb dJ6_numberOfLeadingZeros_0f7a4_15 (by decide) ?_
    refine lv_istore_n (lv' := [(1, .int 31), (0, .int x0)]) hx hb dJ6_numberOfLeadingZeros_0f7a4_17 rfl hl (by decide) rfl (fun ls hl => ?_)
    refine lv_iload_n hx hb dJ6_numberOfLeadingZeros_0f7a4_18 rfl (lv_at hl 1 rfl) ?_
    refine lv_ldcw hx hb hown (hg _ tw_119) dJ6_numberOfLeadingZeros_0f7a4_19 ?_
    refine lv_icmp_lt (tgt := 33) hx hb dJ6_numberOfLeadingZeros_0f7a4_22 (by decide) (fun c_2 => ?_) (fun c_2 => ?_)
    · rw [if_pos c_2] at h
      exact wJ6_numberOfLeadingZeros_0f7a4_B33 C _ _ _ _ (lv_sub hl [1, 0] rfl) h
    · rw [if_neg c_2] at h
      refine lv_iinc (v := 31 + (-16)) (lv' := [(1, .int (31 + (-16))), (0, .int x0)]) hx hb dJ6_numberOfLeadingZeros_0f7a4_25 hl (k := 0) rfl rfl (by decide) rfl (fun ls hl => ?_)
      refine lv_iload_n hx hb dJ6_numberOfLeadingZeros_0f7a4_28 rfl (lv_at hl 1 rfl) ?_
      refine lv_bipush (v := 16) hx hb dJ6_numberOfLeadingZeros_0f7a4_29 (by decide) ?_
      refine lv_iushr (v := iu x0 16) hx hb dJ6_numberOfLeadingZeros_0f7a4_31 rfl ?_
      refine lv_istore_n (lv' := [(0, .int (iu x0 16)), (1, .int (31 + (-16)))]) hx hb dJ6_numberOfLeadingZeros_0f7a4_32 rfl hl (by decide) rfl (fun ls hl => ?_)
      exact wJ6_numberOfLeadingZeros_0f7a4_B33 C _ _ _ _ (lv_sub hl [0, 1] rfl) h
  · rw [if_neg c_1] at h
    refine lv_iload_n hx hb dJ6_numberOfLeadingZeros_0f7a4_4 rfl (lv_at hl 0 rfl) ?_
    refine rg_i (pj := 14) (v := (if x0 = 0 then 32 else 0 : Int32)) (ls := ls) (rest := []) (fun kJ => ?_) ?_
    · refine lv_if_ne (tgt := 13) hx hb dJ6_numberOfLeadingZeros_0f7a4_5 (by decide) (fun c_3 => ?_) (fun c_3 => ?_)
      · refine lv_iconst (v := 0) hx hb dJ6_numberOfLeadingZeros_0f7a4_13 (by decide) ?_
        exact kJ _ (by rw [if_neg c_3])
      · refine lv_bipush (v := 32) hx hb dJ6_numberOfLeadingZeros_0f7a4_8 (by decide) ?_
        refine lv_goto (tgt := 14) hx hb dJ6_numberOfLeadingZeros_0f7a4_10 (by decide) ?_
        exact kJ _ (by rw [if_pos c_3])
    exact W.iret hx hb hr (fun t ht _ => ⟨by rw [← h], ht⟩) (fun q h9 => nomatch h9) dJ6_numberOfLeadingZeros_0f7a4_14
theorem sc_J6_numberOfLeadingZeros_0f7a4 : SC yJ6_numberOfLeadingZeros_0f7a4 cJ6_numberOfLeadingZeros_0f7a4 2 (some .int) 1 := ⟨tw_117, tw_10, tw_118, by decide +kernel⟩
theorem cJ6_numberOfLeadingZeros_0f7a4_met (l : Launch) (x0 : Int32) (v : Int32) (h : jJ6_numberOfLeadingZeros_0f7a4 x0 = v) : PM l yJ6_numberOfLeadingZeros_0f7a4 cJ6_numberOfLeadingZeros_0f7a4 2 (some .int) (rmz 0 0) [.int x0] (.int v) :=
  pm_of (own := RJ6) (by decide +kernel) rfl (Nat.le_of_ble_eq_true rfl) (fun p e s m below meth c ls C hl => wJ6_numberOfLeadingZeros_0f7a4_0 C x0 ls v hl h)

/-! java/lang/Long.numberOfLeadingZeros(J)I -/
def jJ13_numberOfLeadingZeros_95d88 (x0 : Int64) : Int32 := (if ((su x0 32).toInt32) = 0 then 32 + (jJ6_numberOfLeadingZeros_0f7a4 x0.toInt32) else jJ6_numberOfLeadingZeros_0f7a4 ((su x0 32).toInt32))
set_option maxHeartbeats 4000000 in
set_option maxRecDepth 100000 in
theorem wJ13_numberOfLeadingZeros_95d88_0 {p : Program} {l : Launch} {e : Env} {s : State} {m : MethodId} {args : Array Value} {below : List Frame} {meth : Method} {c : Code} (C : CX p s m args meth c RJ13 cJ13_numberOfLeadingZeros_95d88 3 (some .int)) (x0 : Int64) (ls : Array Slot) (v : Int32) (hl : lv_has ls 3 [(0, .long x0)]) (h : jJ13_numberOfLeadingZeros_95d88 x0 = v) : W p l e (rmz 1 21) s m args below meth c s.heap [] 0 0 (MQ below (k2_QcV (.int v)) args s 0 0 (fun _ => False)) (F0 m 0 ls []) := by
  obtain ⟨hx, hb, hml, hown, hg, hr, hlocks⟩ := id C
  unfold jJ13_numberOfLeadingZeros_95d88 at h
  refine lv_lload_n hx hb dJ13_numberOfLeadingZeros_95d88_0 rfl (lv_at hl 0 rfl) ?_
  refine lv_bipush (v := 32) hx hb dJ13_numberOfLeadingZeros_95d88_1 (by decide) ?_
  refine lv_lushr (v := su x0 32) hx hb dJ13_numberOfLeadingZeros_95d88_3 rfl ?_
  refine lv_l2i hx hb dJ13_numberOfLeadingZeros_95d88_4 rfl ?_
  refine lv_istore_n (lv' := [(2, .int ((su x0 32).toInt32)), (0, .long x0)]) hx hb dJ13_numberOfLeadingZeros_95d88_5 rfl hl (by decide) rfl (fun ls hl => ?_)
  refine lv_iload_n hx hb dJ13_numberOfLeadingZeros_95d88_6 rfl (lv_at hl 0 rfl) ?_
  refine lv_if_ne (tgt := 21) hx hb dJ13_numberOfLeadingZeros_95d88_7 (by decide) (fun c_1 => ?_) (fun c_1 => ?_)
  · rw [if_neg c_1] at h
    refine lv_iload_n hx hb dJ13_numberOfLeadingZeros_95d88_21 rfl (lv_at hl 0 rfl) ?_
    refine pcall C (cJ6_numberOfLeadingZeros_0f7a4_met l _ _ rfl) sc_J6_numberOfLeadingZeros_0f7a4 tw_116 (by decide) rfl hl.1 (rest := []) rfl (Nat.le_of_ble_eq_true rfl) (by decide) dJ13_numberOfLeadingZeros_95d88_22 ?_
    exact W.iret hx hb hr (fun t ht _ => ⟨by rw [← h], ht⟩) (fun q h9 => nomatch h9) dJ13_numberOfLeadingZeros_95d88_25
  · rw [if_pos c_1] at h
    refine lv_bipush (v := 32) hx hb dJ13_numberOfLeadingZeros_95d88_10 (by decide) ?_
    refine lv_lload_n hx hb dJ13_numberOfLeadingZeros_95d88_12 rfl (lv_at hl 1 rfl) ?_
    refine lv_l2i hx hb dJ13_numberOfLeadingZeros_95d88_13 rfl ?_
    refine pcall C (cJ6_numberOfLeadingZeros_0f7a4_met l _ _ rfl) sc_J6_numberOfLeadingZeros_0f7a4 tw_116 (by decide) rfl hl.1 (rest := [.int 32]) rfl (Nat.le_of_ble_eq_true rfl) (by decide) dJ13_numberOfLeadingZeros_95d88_14 ?_
    refine lv_iadd hx hb dJ13_numberOfLeadingZeros_95d88_17 ?_
    refine lv_goto (tgt := 25) hx hb dJ13_numberOfLeadingZeros_95d88_18 (by decide) ?_
    exact W.iret hx hb hr (fun t ht _ => ⟨by rw [← h], ht⟩) (fun q h9 => nomatch h9) dJ13_numberOfLeadingZeros_95d88_25
theorem sc_J13_numberOfLeadingZeros_95d88 : SC yJ13_numberOfLeadingZeros_95d88 cJ13_numberOfLeadingZeros_95d88 3 (some .int) 1 := ⟨tw_114, tw_9, tw_115, by decide +kernel⟩
theorem cJ13_numberOfLeadingZeros_95d88_met (l : Launch) (x0 : Int64) (v : Int32) (h : jJ13_numberOfLeadingZeros_95d88 x0 = v) : PM l yJ13_numberOfLeadingZeros_95d88 cJ13_numberOfLeadingZeros_95d88 3 (some .int) (rmz 1 21) [.long x0] (.int v) :=
  pm_of (own := RJ13) (by decide +kernel) rfl (Nat.le_of_ble_eq_true rfl) (fun p e s m below meth c ls C hl => wJ13_numberOfLeadingZeros_95d88_0 C x0 ls v hl h)

/-! RealDesk.lowPlaces(JI)J -/
def jX0_lowPlaces (x0 : Int64) (x2 : Int32) : Int64 := x0 &&& ((sl 1 x2) - 1)
set_option maxHeartbeats 4000000 in
set_option maxRecDepth 100000 in
theorem wX0_lowPlaces_0 {p : Program} {l : Launch} {e : Env} {s : State} {m : MethodId} {args : Array Value} {below : List Frame} {meth : Method} {c : Code} (C : CX p s m args meth c RX0 cX0_lowPlaces 3 (some .long)) (x0 : Int64) (x2 : Int32) (ls : Array Slot) (v : Int64) (hl : lv_has ls 3 [(0, .long x0), (2, .int x2)]) (h : jX0_lowPlaces x0 x2 = v) : W p l e (rmz 0 0) s m args below meth c s.heap [] 0 0 (MQ below (k2_QcV (.long v)) args s 0 0 (fun _ => False)) (F0 m 0 ls []) := by
  obtain ⟨hx, hb, hml, hown, hg, hr, hlocks⟩ := id C
  unfold jX0_lowPlaces at h
  refine lv_lload_n hx hb dX0_lowPlaces_0 rfl (lv_at hl 0 rfl) ?_
  refine lv_lconst (v := 1) hx hb dX0_lowPlaces_1 (by decide) ?_
  refine lv_iload_n hx hb dX0_lowPlaces_2 rfl (lv_at hl 1 rfl) ?_
  refine lv_lshl (v := sl 1 x2) hx hb dX0_lowPlaces_3 rfl ?_
  refine lv_lconst (v := 1) hx hb dX0_lowPlaces_4 (by decide) ?_
  refine lv_lsub hx hb dX0_lowPlaces_5 ?_
  refine lv_land hx hb dX0_lowPlaces_6 ?_
  exact W.lret hx hb hr (fun t ht _ => ⟨by rw [← h], ht⟩) (fun q h9 => nomatch h9) dX0_lowPlaces_7
theorem sc_X0_lowPlaces : SC yX0_lowPlaces cX0_lowPlaces 3 (some .long) 2 := ⟨tw_128, tw_1, tw_129, by decide +kernel⟩
theorem cX0_lowPlaces_met (l : Launch) (x0 : Int64) (x2 : Int32) (v : Int64) (h : jX0_lowPlaces x0 x2 = v) : PM l yX0_lowPlaces cX0_lowPlaces 3 (some .long) (rmz 0 0) [.long x0, .int x2] (.long v) :=
  pm_of (own := RX0) (by decide +kernel) rfl (Nat.le_of_ble_eq_true rfl) (fun p e s m below meth c ls C hl => wX0_lowPlaces_0 C x0 x2 ls v hl h)

/-! RealDesk.isOver(J)Z -/
def jX0_isOver (x0 : Int64) : Int32 := (if 9218868437227405312 ≤ x0 then 1 else (if (-9218868437227405312) < x0 then 0 else 1 : Int32) : Int32)
set_option maxHeartbeats 4000000 in
set_option maxRecDepth 100000 in
theorem wX0_isOver_0 {p : Program} {l : Launch} {e : Env} {s : State} {m : MethodId} {args : Array Value} {below : List Frame} {meth : Method} {c : Code} (C : CX p s m args meth c RX0 cX0_isOver 2 (some .boolean)) (x0 : Int64) (ls : Array Slot) (v : Int32) (hl : lv_has ls 2 [(0, .long x0)]) (h : jX0_isOver x0 = v) : W p l e (rmz 0 0) s m args below meth c s.heap [] 0 0 (MQ below (k2_QcV (.int v)) args s 0 0 (fun _ => False)) (F0 m 0 ls []) := by
  obtain ⟨hx, hb, hml, hown, hg, hr, hlocks⟩ := id C
  unfold jX0_isOver at h
  refine lv_lload_n hx hb dX0_isOver_0 rfl (lv_at hl 0 rfl) ?_
  refine lv_ldc2 hx hb hown (hg _ tw_123) dX0_isOver_1 ?_
  refine rg_i (pj := 21) (v := (if 9218868437227405312 ≤ x0 then 1 else (if (-9218868437227405312) < x0 then 0 else 1 : Int32) : Int32)) (ls := ls) (rest := []) (fun kJ => ?_) ?_
  · refine lc_ge (tgt := 16) hx hb dX0_isOver_4 dX0_isOver_5 (by decide) (fun c_1 => ?_) (fun c_1 => ?_)
    · refine lv_iconst (v := 1) hx hb dX0_isOver_16 (by decide) ?_
      refine lv_goto (tgt := 21) hx hb dX0_isOver_17 (by decide) ?_
      exact kJ _ (by rw [if_pos c_1])
    · refine lv_lload_n hx hb dX0_isOver_8 rfl (lv_at hl 0 rfl) ?_
      refine lv_ldc2 hx hb hown (hg _ tw_140) dX0_isOver_9 ?_
      refine lc_gt (tgt := 20) hx hb dX0_isOver_12 dX0_isOver_13 (by decide) (fun c_2 => ?_) (fun c_2 => ?_)
      · refine lv_iconst (v := 0) hx hb dX0_isOver_20 (by decide) ?_
        exact kJ _ (by rw [if_neg c_1, if_pos c_2])
      · refine lv_iconst (v := 1) hx hb dX0_isOver_16 (by decide) ?_
        refine lv_goto (tgt := 21) hx hb dX0_isOver_17 (by decide) ?_
        exact kJ _ (by rw [if_neg c_1, if_neg c_2])
  exact W.zret hx hb hr (by first | rfl | (split <;> rfl) | (split <;> first | rfl | (split <;> rfl))) (fun t ht _ => ⟨by rw [← h], ht⟩) (fun q h9 => nomatch h9) dX0_isOver_21
theorem sc_X0_isOver : SC yX0_isOver cX0_isOver 2 (some .boolean) 1 := ⟨tw_138, tw_1, tw_139, by decide +kernel⟩
theorem cX0_isOver_met (l : Launch) (x0 : Int64) (v : Int32) (h : jX0_isOver x0 = v) : PM l yX0_isOver cX0_isOver 2 (some .boolean) (rmz 0 0) [.long x0] (.int v) :=
  pm_of (own := RX0) (by decide +kernel) rfl (Nat.le_of_ble_eq_true rfl) (fun p e s m below meth c ls C hl => wX0_isOver_0 C x0 ls v hl h)

/-! RealDesk.withSignOf(JJ)J -/
def jX0_withSignOf (x0 : Int64) (x2 : Int64) : Int64 := (if 0 ≤ x2 then x0 else -x0 : Int64)
set_option maxHeartbeats 4000000 in
set_option maxRecDepth 100000 in
theorem wX0_withSignOf_0 {p : Program} {l : Launch} {e : Env} {s : State} {m : MethodId} {args : Array Value} {below : List Frame} {meth : Method} {c : Code} (C : CX p s m args meth c RX0 cX0_withSignOf 4 (some .long)) (x0 : Int64) (x2 : Int64) (ls : Array Slot) (v : Int64) (hl : lv_has ls 4 [(0, .long x0), (2, .long x2)]) (h : jX0_withSignOf x0 x2 = v) : W p l e (rmz 0 0) s m args below meth c s.heap [] 0 0 (MQ below (k2_QcV (.long v)) args s 0 0 (fun _ => False)) (F0 m 0 ls []) := by
  obtain ⟨hx, hb, hml, hown, hg, hr, hlocks⟩ := id C
  unfold jX0_withSignOf at h
  refine lv_lload_n hx hb dX0_withSignOf_0 rfl (lv_at hl 1 rfl) ?_
  refine lv_lconst (v := 0) hx hb dX0_withSignOf_1 (by decide) ?_
  refine rg_l (pj := 12) (v := (if 0 ≤ x2 then x0 else -x0 : Int64)) (ls := ls) (rest := []) (fun kJ => ?_) ?_
  · refine lc_ge (tgt := 11) hx hb dX0_withSignOf_2 dX0_withSignOf_3 (by decide) (fun c_1 => ?_) (fun c_1 => ?_)
    · refine lv_lload_n hx hb dX0_withSignOf_11 rfl (lv_at hl 0 rfl) ?_
      exact kJ _ (by rw [if_pos c_1])
    · refine lv_lload_n hx hb dX0_withSignOf_6 rfl (lv_at hl 0 rfl) ?_
      refine lv_lneg hx hb dX0_withSignOf_7 ?_
      refine lv_goto (tgt := 12) hx hb dX0_withSignOf_8 (by decide) ?_
      exact kJ _ (by rw [if_neg c_1])
  exact W.lret hx hb hr (fun t ht _ => ⟨by rw [← h], ht⟩) (fun q h9 => nomatch h9) dX0_withSignOf_12
theorem sc_X0_withSignOf : SC yX0_withSignOf cX0_withSignOf 4 (some .long) 2 := ⟨tw_131, tw_1, tw_132, by decide +kernel⟩
theorem cX0_withSignOf_met (l : Launch) (x0 : Int64) (x2 : Int64) (v : Int64) (h : jX0_withSignOf x0 x2 = v) : PM l yX0_withSignOf cX0_withSignOf 4 (some .long) (rmz 0 0) [.long x0, .long x2] (.long v) :=
  pm_of (own := RX0) (by decide +kernel) rfl (Nat.le_of_ble_eq_true rfl) (fun p e s m below meth c ls C hl => wX0_withSignOf_0 C x0 x2 ls v hl h)

/-! RealDesk.mOf(J)J -/
def jX0_mOf (x0 : Int64) : Int64 := (if 9007199254740992 ≤ (jabsl x0) then (jX0_lowPlaces (jabsl x0) 52) ||| 4503599627370496 else jabsl x0)
set_option maxHeartbeats 4000000 in
set_option maxRecDepth 100000 in
theorem wX0_mOf_0 {p : Program} {l : Launch} {e : Env} {s : State} {m : MethodId} {args : Array Value} {below : List Frame} {meth : Method} {c : Code} (C : CX p s m args meth c RX0 cX0_mOf 4 (some .long)) (x0 : Int64) (ls : Array Slot) (v : Int64) (hl : lv_has ls 4 [(0, .long x0)]) (h : jX0_mOf x0 = v) : W p l e (rmz 1 22) s m args below meth c s.heap [] 0 0 (MQ below (k2_QcV (.long v)) args s 0 0 (fun _ => False)) (F0 m 0 ls []) := by
  obtain ⟨hx, hb, hml, hown, hg, hr, hlocks⟩ := id C
  unfold jX0_mOf at h
  refine lv_lload_n hx hb dX0_mOf_0 rfl (lv_at hl 0 rfl) ?_
  refine q_absl C tw_107 (by decide) (Nat.le_of_ble_eq_true rfl) (by decide) hl.1 dX0_mOf_1 ?_
  refine lv_lstore_n (lv' := [(2, .long (jabsl x0)), (0, .long x0)]) hx hb dX0_mOf_4 rfl hl (by decide) rfl (fun ls hl => ?_)
  refine lv_lload_n hx hb dX0_mOf_5 rfl (lv_at hl 0 rfl) ?_
  refine lv_ldc2 hx hb hown (hg _ tw_103) dX0_mOf_6 ?_
  refine lc_ge (tgt := 17) hx hb dX0_mOf_9 dX0_mOf_10 (by decide) (fun c_1 => ?_) (fun c_1 => ?_)
  · rw [if_pos c_1] at h
    refine lv_lload_n hx hb dX0_mOf_17 rfl (lv_at hl 0 rfl) ?_
    refine lv_bipush (v := 52) hx hb dX0_mOf_18 (by decide) ?_
    refine pcall C (cX0_lowPlaces_met l _ _ _ rfl) sc_X0_lowPlaces tw_127 (by decide) rfl hl.1 (rest := []) rfl (Nat.le_of_ble_eq_true rfl) (by decide) dX0_mOf_20 ?_
    refine lv_ldc2 hx hb hown (hg _ tw_174) dX0_mOf_23 ?_
    refine lv_lor hx hb dX0_mOf_26 ?_
    exact W.lret hx hb hr (fun t ht _ => ⟨by rw [← h], ht⟩) (fun q h9 => nomatch h9) dX0_mOf_27
  · rw [if_neg c_1] at h
    refine lv_lload_n hx hb dX0_mOf_13 rfl (lv_at hl 0 rfl) ?_
    refine lv_goto (tgt := 27) hx hb dX0_mOf_14 (by decide) ?_
    exact W.lret hx hb hr (fun t ht _ => ⟨by rw [← h], ht⟩) (fun q h9 => nomatch h9) dX0_mOf_27
theorem sc_X0_mOf : SC yX0_mOf cX0_mOf 4 (some .long) 1 := ⟨tw_172, tw_1, tw_173, by decide +kernel⟩
theorem cX0_mOf_met (l : Launch) (x0 : Int64) (v : Int64) (h : jX0_mOf x0 = v) : PM l yX0_mOf cX0_mOf 4 (some .long) (rmz 1 22) [.long x0] (.long v) :=
  pm_of (own := RX0) (by decide +kernel) rfl (Nat.le_of_ble_eq_true rfl) (fun p e s m below meth c ls C hl => wX0_mOf_0 C x0 ls v hl h)

/-! RealDesk.eOf(J)I -/
def jX0_eOf (x0 : Int64) : Int32 := (if 9007199254740992 ≤ (jabsl x0) then (((su (jabsl x0) 52).toInt32) - 1) + (-1074) else (-1074) : Int32)
set_option maxHeartbeats 4000000 in
set_option maxRecDepth 100000 in
theorem wX0_eOf_0 {p : Program} {l : Launch} {e : Env} {s : State} {m : MethodId} {args : Array Value} {below : List Frame} {meth : Method} {c : Code} (C : CX p s m args meth c RX0 cX0_eOf 4 (some .int)) (x0 : Int64) (ls : Array Slot) (v : Int32) (hl : lv_has ls 4 [(0, .long x0)]) (h : jX0_eOf x0 = v) : W p l e (rmz 1 21) s m args below meth c s.heap [] 0 0 (MQ below (k2_QcV (.int v)) args s 0 0 (fun _ => False)) (F0 m 0 ls []) := by
  obtain ⟨hx, hb, hml, hown, hg, hr, hlocks⟩ := id C
  unfold jX0_eOf at h
  refine lv_lload_n hx hb dX0_eOf_0 rfl (lv_at hl 0 rfl) ?_
  refine q_absl C tw_107 (by decide) (Nat.le_of_ble_eq_true rfl) (by decide) hl.1 dX0_eOf_1 ?_
  refine lv_lstore_n (lv' := [(2, .long (jabsl x0)), (0, .long x0)]) hx hb dX0_eOf_4 rfl hl (by decide) rfl (fun ls hl => ?_)
  refine lv_lload_n hx hb dX0_eOf_5 rfl (lv_at hl 0 rfl) ?_
  refine lv_ldc2 hx hb hown (hg _ tw_103) dX0_eOf_6 ?_
  refine rg_i (pj := 30) (v := (if 9007199254740992 ≤ (jabsl x0) then (((su (jabsl x0) 52).toInt32) - 1) + (-1074) else (-1074) : Int32)) (ls := ls) (rest := []) (fun kJ => ?_) ?_
  · refine lc_ge (tgt := 19) hx hb dX0_eOf_9 dX0_eOf_10 (by decide) (fun c_1 => ?_) (fun c_1 => ?_)
    · refine lv_lload_n hx hb dX0_eOf_19 rfl (lv_at hl 0 rfl) ?_
      refine lv_bipush (v := 52) hx hb dX0_eOf_20 (by decide) ?_
      refine lv_lushr (v := su (jabsl x0) 52) hx hb dX0_eOf_22 rfl ?_
      refine lv_l2i hx hb dX0_eOf_23 rfl ?_
      refine lv_iconst (v := 1) hx hb dX0_eOf_24 (by decide) ?_
      refine lv_isub hx hb dX0_eOf_25 ?_
      refine lv_sipush (v := (-1074)) hx hb dX0_eOf_26 (by decide) ?_
      refine lv_iadd hx hb dX0_eOf_29 ?_
      exact kJ _ (by rw [if_pos c_1])
    · refine lv_sipush (v := (-1074)) hx hb dX0_eOf_13 (by decide) ?_
      refine lv_goto (tgt := 30) hx hb dX0_eOf_16 (by decide) ?_
      exact kJ _ (by rw [if_neg c_1])
  exact W.iret hx hb hr (fun t ht _ => ⟨by rw [← h], ht⟩) (fun q h9 => nomatch h9) dX0_eOf_30
theorem sc_X0_eOf : SC yX0_eOf cX0_eOf 4 (some .int) 1 := ⟨tw_166, tw_1, tw_167, by decide +kernel⟩
theorem cX0_eOf_met (l : Launch) (x0 : Int64) (v : Int32) (h : jX0_eOf x0 = v) : PM l yX0_eOf cX0_eOf 4 (some .int) (rmz 1 21) [.long x0] (.int v) :=
  pm_of (own := RX0) (by decide +kernel) rfl (Nat.le_of_ble_eq_true rfl) (fun p e s m below meth c ls C hl => wX0_eOf_0 C x0 ls v hl h)

/-! RealDesk.lift(J)I -/
def jX0_lift (x0 : Int64) : Int32 := jmax 0 ((jJ13_numberOfLeadingZeros_95d88 (jX0_mOf x0)) - 11)
set_option maxHeartbeats 4000000 in
set_option maxRecDepth 100000 in
theorem wX0_lift_0 {p : Program} {l : Launch} {e : Env} {s : State} {m : MethodId} {args : Array Value} {below : List Frame} {meth : Method} {c : Code} (C : CX p s m args meth c RX0 cX0_lift 2 (some .int)) (x0 : Int64) (ls : Array Slot) (v : Int32) (hl : lv_has ls 2 [(0, .long x0)]) (h : jX0_lift x0 = v) : W p l e (rmz 2 45) s m args below meth c s.heap [] 0 0 (MQ below (k2_QcV (.int v)) args s 0 0 (fun _ => False)) (F0 m 0 ls []) := by
  obtain ⟨hx, hb, hml, hown, hg, hr, hlocks⟩ := id C
  unfold jX0_lift at h
  refine lv_iconst (v := 0) hx hb dX0_lift_0 (by decide) ?_
  refine lv_lload_n hx hb dX0_lift_1 rfl (lv_at hl 0 rfl) ?_
  refine pcall C (cX0_mOf_met l _ _ rfl) sc_X0_mOf tw_171 (by decide) rfl hl.1 (rest := [.int 0]) rfl (Nat.le_of_ble_eq_true rfl) (by decide) dX0_lift_2 ?_
  refine pcall C (cJ13_numberOfLeadingZeros_95d88_met l _ _ rfl) sc_J13_numberOfLeadingZeros_95d88 tw_113 (by decide) rfl hl.1 (rest := [.int 0]) rfl (Nat.le_of_ble_eq_true rfl) (by decide) dX0_lift_5 ?_
  refine lv_bipush (v := 11) hx hb dX0_lift_8 (by decide) ?_
  refine lv_isub hx hb dX0_lift_10 ?_
  refine q_max C tw_120 (by decide) (Nat.le_of_ble_eq_true rfl) (by decide) hl.1 dX0_lift_11 ?_
  exact W.iret hx hb hr (fun t ht _ => ⟨by rw [← h], ht⟩) (fun q h9 => nomatch h9) dX0_lift_14
theorem sc_X0_lift : SC yX0_lift cX0_lift 2 (some .int) 1 := ⟨tw_185, tw_1, tw_186, by decide +kernel⟩
theorem cX0_lift_met (l : Launch) (x0 : Int64) (v : Int32) (h : jX0_lift x0 = v) : PM l yX0_lift cX0_lift 2 (some .int) (rmz 2 45) [.long x0] (.int v) :=
  pm_of (own := RX0) (by decide +kernel) rfl (Nat.le_of_ble_eq_true rfl) (fun p e s m below meth c ls C hl => wX0_lift_0 C x0 ls v hl h)

/-! RealDesk.liftedM(J)J -/
def jX0_liftedM (x0 : Int64) : Int64 := sl (jX0_mOf x0) (jX0_lift x0)
set_option maxHeartbeats 4000000 in
set_option maxRecDepth 100000 in
theorem wX0_liftedM_0 {p : Program} {l : Launch} {e : Env} {s : State} {m : MethodId} {args : Array Value} {below : List Frame} {meth : Method} {c : Code} (C : CX p s m args meth c RX0 cX0_liftedM 2 (some .long)) (x0 : Int64) (ls : Array Slot) (v : Int64) (hl : lv_has ls 2 [(0, .long x0)]) (h : jX0_liftedM x0 = v) : W p l e (rmz 3 66) s m args below meth c s.heap [] 0 0 (MQ below (k2_QcV (.long v)) args s 0 0 (fun _ => False)) (F0 m 0 ls []) := by
  obtain ⟨hx, hb, hml, hown, hg, hr, hlocks⟩ := id C
  unfold jX0_liftedM at h
  refine lv_lload_n hx hb dX0_liftedM_0 rfl (lv_at hl 0 rfl) ?_
  refine pcall C (cX0_mOf_met l _ _ rfl) sc_X0_mOf tw_171 (by decide) rfl hl.1 (rest := []) rfl (Nat.le_of_ble_eq_true rfl) (by decide) dX0_liftedM_1 ?_
  refine lv_lload_n hx hb dX0_liftedM_4 rfl (lv_at hl 0 rfl) ?_
  refine pcall C (cX0_lift_met l _ _ rfl) sc_X0_lift tw_184 (by decide) rfl hl.1 (rest := [.long (jX0_mOf x0)]) rfl (Nat.le_of_ble_eq_true rfl) (by decide) dX0_liftedM_5 ?_
  refine lv_lshl (v := sl (jX0_mOf x0) (jX0_lift x0)) hx hb dX0_liftedM_8 rfl ?_
  exact W.lret hx hb hr (fun t ht _ => ⟨by rw [← h], ht⟩) (fun q h9 => nomatch h9) dX0_liftedM_9
theorem sc_X0_liftedM : SC yX0_liftedM cX0_liftedM 2 (some .long) 1 := ⟨tw_188, tw_1, tw_189, by decide +kernel⟩
theorem cX0_liftedM_met (l : Launch) (x0 : Int64) (v : Int64) (h : jX0_liftedM x0 = v) : PM l yX0_liftedM cX0_liftedM 2 (some .long) (rmz 3 66) [.long x0] (.long v) :=
  pm_of (own := RX0) (by decide +kernel) rfl (Nat.le_of_ble_eq_true rfl) (fun p e s m below meth c ls C hl => wX0_liftedM_0 C x0 ls v hl h)

/-! RealDesk.liftedE(J)I -/
def jX0_liftedE (x0 : Int64) : Int32 := (jX0_eOf x0) - (jX0_lift x0)
set_option maxHeartbeats 4000000 in
set_option maxRecDepth 100000 in
theorem wX0_liftedE_0 {p : Program} {l : Launch} {e : Env} {s : State} {m : MethodId} {args : Array Value} {below : List Frame} {meth : Method} {c : Code} (C : CX p s m args meth c RX0 cX0_liftedE 2 (some .int)) (x0 : Int64) (ls : Array Slot) (v : Int32) (hl : lv_has ls 2 [(0, .long x0)]) (h : jX0_liftedE x0 = v) : W p l e (rmz 3 66) s m args below meth c s.heap [] 0 0 (MQ below (k2_QcV (.int v)) args s 0 0 (fun _ => False)) (F0 m 0 ls []) := by
  obtain ⟨hx, hb, hml, hown, hg, hr, hlocks⟩ := id C
  unfold jX0_liftedE at h
  refine lv_lload_n hx hb dX0_liftedE_0 rfl (lv_at hl 0 rfl) ?_
  refine pcall C (cX0_eOf_met l _ _ rfl) sc_X0_eOf tw_165 (by decide) rfl hl.1 (rest := []) rfl (Nat.le_of_ble_eq_true rfl) (by decide) dX0_liftedE_1 ?_
  refine lv_lload_n hx hb dX0_liftedE_4 rfl (lv_at hl 0 rfl) ?_
  refine pcall C (cX0_lift_met l _ _ rfl) sc_X0_lift tw_184 (by decide) rfl hl.1 (rest := [.int (jX0_eOf x0)]) rfl (Nat.le_of_ble_eq_true rfl) (by decide) dX0_liftedE_5 ?_
  refine lv_isub hx hb dX0_liftedE_8 ?_
  exact W.iret hx hb hr (fun t ht _ => ⟨by rw [← h], ht⟩) (fun q h9 => nomatch h9) dX0_liftedE_9
theorem sc_X0_liftedE : SC yX0_liftedE cX0_liftedE 2 (some .int) 1 := ⟨tw_182, tw_1, tw_183, by decide +kernel⟩
theorem cX0_liftedE_met (l : Launch) (x0 : Int64) (v : Int32) (h : jX0_liftedE x0 = v) : PM l yX0_liftedE cX0_liftedE 2 (some .int) (rmz 3 66) [.long x0] (.int v) :=
  pm_of (own := RX0) (by decide +kernel) rfl (Nat.le_of_ble_eq_true rfl) (fun p e s m below meth c ls C hl => wX0_liftedE_0 C x0 ls v hl h)

/-! RealDesk.lower(JI)J -/
def jX0_lower (x0 : Int64) (x2 : Int32) : Int64 := (if x2 < 62 then (su x0 x2) ||| (if (jX0_lowPlaces x0 x2) = 0 then 0 else 1 : Int64) else (if x0 = 0 then 0 else 1 : Int64))
set_option maxHeartbeats 4000000 in
set_option maxRecDepth 100000 in
theorem wX0_lower_0 {p : Program} {l : Launch} {e : Env} {s : State} {m : MethodId} {args : Array Value} {below : List Frame} {meth : Method} {c : Code} (C : CX p s m args meth c RX0 cX0_lower 5 (some .long)) (x0 : Int64) (x2 : Int32) (ls : Array Slot) (v : Int64) (hl : lv_has ls 5 [(0, .long x0), (2, .int x2)]) (h : jX0_lower x0 x2 = v) : W p l e (rmz 1 22) s m args below meth c s.heap [] 0 0 (MQ below (k2_QcV (.long v)) args s 0 0 (fun _ => False)) (F0 m 0 ls []) := by
  obtain ⟨hx, hb, hml, hown, hg, hr, hlocks⟩ := id C
  unfold jX0_lower at h
  refine lv_iload_n hx hb dX0_lower_0 rfl (lv_at hl 1 rfl) ?_
  refine lv_bipush (v := 62) hx hb dX0_lower_1 (by decide) ?_
  refine lv_icmp_lt (tgt := 18) hx hb dX0_lower_3 (by decide) (fun c_1 => ?_) (fun c_1 => ?_)
  · rw [if_pos c_1] at h
    refine lv_lload_n hx hb dX0_lower_18 rfl (lv_at hl 0 rfl) ?_
    refine lv_iload_n hx hb dX0_lower_19 rfl (lv_at hl 1 rfl) ?_
    refine pcall C (cX0_lowPlaces_met l _ _ _ rfl) sc_X0_lowPlaces tw_127 (by decide) rfl hl.1 (rest := []) rfl (Nat.le_of_ble_eq_true rfl) (by decide) dX0_lower_20 ?_
    refine lv_lconst (v := 0) hx hb dX0_lower_23 (by decide) ?_
    refine rg_l (pj := 33) (v := (if (jX0_lowPlaces x0 x2) = 0 then 0 else 1 : Int64)) (ls := ls) (rest := []) (fun kJ => ?_) ?_
    · refine lc_ne (tgt := 32) hx hb dX0_lower_24 dX0_lower_25 (by decide) (fun c_2 => ?_) (fun c_2 => ?_)
      · refine lv_lconst (v := 1) hx hb dX0_lower_32 (by decide) ?_
        exact kJ _ (by rw [if_neg c_2])
      · refine lv_lconst (v := 0) hx hb dX0_lower_28 (by decide) ?_
        refine lv_goto (tgt := 33) hx hb dX0_lower_29 (by decide) ?_
        exact kJ _ (by rw [if_pos c_2])
    refine lv_lstore_n (lv' := [(3, .long (if (jX0_lowPlaces x0 x2) = 0 then 0 else 1 : Int64)), (0, .long x0), (2, .int x2)]) hx hb dX0_lower_33 rfl hl (by decide) rfl (fun ls hl => ?_)
    refine lv_lload_n hx hb dX0_lower_34 rfl (lv_at hl 1 rfl) ?_
    refine lv_iload_n hx hb dX0_lower_35 rfl (lv_at hl 2 rfl) ?_
    refine lv_lushr (v := su x0 x2) hx hb dX0_lower_36 rfl ?_
    refine lv_lload_n hx hb dX0_lower_37 rfl (lv_at hl 0 rfl) ?_
    refine lv_lor hx hb dX0_lower_38 ?_
    exact W.lret hx hb hr (fun t ht _ => ⟨by rw [← h], ht⟩) (fun q h9 => nomatch h9) dX0_lower_39
  · rw [if_neg c_1] at h
    refine lv_lload_n hx hb dX0_lower_6 rfl (lv_at hl 0 rfl) ?_
    refine lv_lconst (v := 0) hx hb dX0_lower_7 (by decide) ?_
    refine rg_l (pj := 17) (v := (if x0 = 0 then 0 else 1 : Int64)) (ls := ls) (rest := []) (fun kJ => ?_) ?_
    · refine lc_ne (tgt := 16) hx hb dX0_lower_8 dX0_lower_9 (by decide) (fun c_3 => ?_) (fun c_3 => ?_)
      · refine lv_lconst (v := 1) hx hb dX0_lower_16 (by decide) ?_
        exact kJ _ (by rw [if_neg c_3])
      · refine lv_lconst (v := 0) hx hb dX0_lower_12 (by decide) ?_
        refine lv_goto (tgt := 17) hx hb dX0_lower_13 (by decide) ?_
        exact kJ _ (by rw [if_pos c_3])
    exact W.lret hx hb hr (fun t ht _ => ⟨by rw [← h], ht⟩) (fun q h9 => nomatch h9) dX0_lower_17
theorem sc_X0_lower : SC yX0_lower cX0_lower 5 (some .long) 2 := ⟨tw_176, tw_1, tw_177, by decide +kernel⟩
theorem cX0_lower_met (l : Launch) (x0 : Int64) (x2 : Int32) (v : Int64) (h : jX0_lower x0 x2 = v) : PM l yX0_lower cX0_lower 5 (some .long) (rmz 1 22) [.long x0, .int x2] (.long v) :=
  pm_of (own := RX0) (by decide +kernel) rfl (Nat.le_of_ble_eq_true rfl) (fun p e s m below meth c ls C hl => wX0_lower_0 C x0 x2 ls v hl h)

/-! RealDesk.nearestWhole(JI)J -/
def jX0_nearestWhole (x0 : Int64) (x2 : Int32) : Int64 := (if (if (sl 1 (x2 - 1)) < (jX0_lowPlaces x0 x2) then 1 else (if (jX0_lowPlaces x0 x2) = (sl 1 (x2 - 1)) then (if ((su x0 x2) &&& 1) = 1 then 1 else 0 : Int32) else 0 : Int32) : Int32) = 0 then su x0 x2 else (su x0 x2) + 1 : Int64)
set_option maxHeartbeats 4000000 in
set_option maxRecDepth 100000 in
theorem wX0_nearestWhole_0 {p : Program} {l : Launch} {e : Env} {s : State} {m : MethodId} {args : Array Value} {below : List Frame} {meth : Method} {c : Code} (C : CX p s m args meth c RX0 cX0_nearestWhole 10 (some .long)) (x0 : Int64) (x2 : Int32) (ls : Array Slot) (v : Int64) (hl : lv_has ls 10 [(0, .long x0), (2, .int x2)]) (h : jX0_nearestWhole x0 x2 = v) : W p l e (rmz 1 22) s m args below meth c s.heap [] 0 0 (MQ below (k2_QcV (.long v)) args s 0 0 (fun _ => False)) (F0 m 0 ls []) := by
  obtain ⟨hx, hb, hml, hown, hg, hr, hlocks⟩ := id C
  unfold jX0_nearestWhole at h
  refine lv_lload_n hx hb dX0_nearestWhole_0 rfl (lv_at hl 0 rfl) ?_
  refine lv_iload_n hx hb dX0_nearestWhole_1 rfl (lv_at hl 1 rfl) ?_
  refine lv_lushr (v := su x0 x2) hx hb dX0_nearestWhole_2 rfl ?_
  refine lv_lstore_n (lv' := [(3, .long (su x0 x2)), (0, .long x0), (2, .int x2)]) hx hb dX0_nearestWhole_3 rfl hl (by decide) rfl (fun ls hl => ?_)
  refine lv_lload_n hx hb dX0_nearestWhole_4 rfl (lv_at hl 1 rfl) ?_
  refine lv_iload_n hx hb dX0_nearestWhole_5 rfl (lv_at hl 2 rfl) ?_
  refine pcall C (cX0_lowPlaces_met l _ _ _ rfl) sc_X0_lowPlaces tw_127 (by decide) rfl hl.1 (rest := []) rfl (Nat.le_of_ble_eq_true rfl) (by decide) dX0_nearestWhole_6 ?_
  refine lv_lstore (lv' := [(5, .long (jX0_lowPlaces x0 x2)), (3, .long (su x0 x2)), (0, .long x0), (2, .int x2)]) hx hb dX0_nearestWhole_9 hl (by decide) rfl (fun ls hl => ?_)
  refine lv_lconst (v := 1) hx hb dX0_nearestWhole_11 (by decide) ?_
  refine lv_iload_n hx hb dX0_nearestWhole_12 rfl (lv_at hl 3 rfl) ?_
  refine lv_iconst (v := 1) hx hb dX0_nearestWhole_13 (by decide) ?_
  refine lv_isub hx hb dX0_nearestWhole_14 ?_
  refine lv_lshl (v := sl 1 (x2 - 1)) hx hb dX0_nearestWhole_15 rfl ?_
  refine lv_lstore (lv' := [(7, .long (sl 1 (x2 - 1))), (5, .long (jX0_lowPlaces x0 x2)), (3, .long (su x0 x2)), (0, .long x0), (2, .int x2)]) hx hb dX0_nearestWhole_16 hl (by decide) rfl (fun ls hl => ?_)
  refine lv_lload hx hb dX0_nearestWhole_18 (lv_at hl 1 rfl) ?_
  refine lv_lload hx hb dX0_nearestWhole_20 (lv_at hl 0 rfl) ?_
  refine rg_i (pj := 47) (v := (if (sl 1 (x2 - 1)) < (jX0_lowPlaces x0 x2) then 1 else (if (jX0_lowPlaces x0 x2) = (sl 1 (x2 - 1)) then (if ((su x0 x2) &&& 1) = 1 then 1 else 0 : Int32) else 0 : Int32) : Int32)) (ls := ls) (rest := []) (fun kJ => ?_) ?_
  · refine lc_gt (tgt := 42) hx hb dX0_nearestWhole_22 dX0_nearestWhole_23 (by decide) (fun c_1 => ?_) (fun c_1 => ?_)
    · refine lv_iconst (v := 1) hx hb dX0_nearestWhole_42 (by decide) ?_
      refine lv_goto (tgt := 47) hx hb dX0_nearestWhole_43 (by decide) ?_
      exact kJ _ (by rw [if_pos c_1])
    · refine lv_lload hx hb dX0_nearestWhole_26 (lv_at hl 1 rfl) ?_
      refine lv_lload hx hb dX0_nearestWhole_28 (lv_at hl 0 rfl) ?_
      refine lc_ne (tgt := 46) hx hb dX0_nearestWhole_30 dX0_nearestWhole_31 (by decide) (fun c_2 => ?_) (fun c_2 => ?_)
      · refine lv_iconst (v := 0) hx hb dX0_nearestWhole_46 (by decide) ?_
        exact kJ _ (by rw [if_neg c_1, if_neg c_2])
      · refine lv_lload_n hx hb dX0_nearestWhole_34 rfl (lv_at hl 2 rfl) ?_
        refine lv_lconst (v := 1) hx hb dX0_nearestWhole_35 (by decide) ?_
        refine lv_land hx hb dX0_nearestWhole_36 ?_
        refine lv_lconst (v := 1) hx hb dX0_nearestWhole_37 (by decide) ?_
        refine lc_ne (tgt := 46) hx hb dX0_nearestWhole_38 dX0_nearestWhole_39 (by decide) (fun c_3 => ?_) (fun c_3 => ?_)
        · refine lv_iconst (v := 0) hx hb dX0_nearestWhole_46 (by decide) ?_
          exact kJ _ (by rw [if_neg c_1, if_pos c_2, if_neg c_3])
        · refine lv_iconst (v := 1) hx hb dX0_nearestWhole_42 (by decide) ?_
          refine lv_goto (tgt := 47) hx hb dX0_nearestWhole_43 (by decide) ?_
          exact kJ _ (by rw [if_neg c_1, if_pos c_2, if_pos c_3])
  refine lv_istore (lv' := [(9, .int (if (sl 1 (x2 - 1)) < (jX0_lowPlaces x0 x2) then 1 else (if (jX0_lowPlaces x0 x2) = (sl 1 (x2 - 1)) then (if ((su x0 x2) &&& 1) = 1 then 1 else 0 : Int32) else 0 : Int32) : Int32)), (7, .long (sl 1 (x2 - 1))), (5, .long (jX0_lowPlaces x0 x2)), (3, .long (su x0 x2)), (0, .long x0), (2, .int x2)]) hx hb dX0_nearestWhole_47 hl (by decide) rfl (fun ls hl => ?_)
  refine lv_iload hx hb dX0_nearestWhole_49 (lv_at hl 0 rfl) ?_
  refine rg_l (pj := 61) (v := (if (if (sl 1 (x2 - 1)) < (jX0_lowPlaces x0 x2) then 1 else (if (jX0_lowPlaces x0 x2) = (sl 1 (x2 - 1)) then (if ((su x0 x2) &&& 1) = 1 then 1 else 0 : Int32) else 0 : Int32) : Int32) = 0 then su x0 x2 else (su x0 x2) + 1 : Int64)) (ls := ls) (rest := []) (fun kJ => ?_) ?_
  · refine lv_if_eq (tgt := 60) hx hb dX0_nearestWhole_51 (by decide) (fun c_4 => ?_) (fun c_4 => ?_)
    · refine lv_lload_n hx hb dX0_nearestWhole_60 rfl (lv_at hl 3 rfl) ?_
      exact kJ _ (by rw [if_pos c_4])
    · refine lv_lload_n hx hb dX0_nearestWhole_54 rfl (lv_at hl 3 rfl) ?_
      refine lv_lconst (v := 1) hx hb dX0_nearestWhole_55 (by decide) ?_
      refine lv_ladd hx hb dX0_nearestWhole_56 ?_
      refine lv_goto (tgt := 61) hx hb dX0_nearestWhole_57 (by decide) ?_
      exact kJ _ (by rw [if_neg c_4])
  exact W.lret hx hb hr (fun t ht _ => ⟨by rw [← h], ht⟩) (fun q h9 => nomatch h9) dX0_nearestWhole_61
theorem sc_X0_nearestWhole : SC yX0_nearestWhole cX0_nearestWhole 10 (some .long) 2 := ⟨tw_125, tw_1, tw_126, by decide +kernel⟩
theorem cX0_nearestWhole_met (l : Launch) (x0 : Int64) (x2 : Int32) (v : Int64) (h : jX0_nearestWhole x0 x2 = v) : PM l yX0_nearestWhole cX0_nearestWhole 10 (some .long) (rmz 1 22) [.long x0, .int x2] (.long v) :=
  pm_of (own := RX0) (by decide +kernel) rfl (Nat.le_of_ble_eq_true rfl) (fun p e s m below meth c ls C hl => wX0_nearestWhole_0 C x0 x2 ls v hl h)

/-! RealDesk.nearest(JI)J -/
def jX0_nearest (x0 : Int64) (x2 : Int32) : Int64 := (if x0 = 0 then 0 else (if (jmax ((64 - (jJ13_numberOfLeadingZeros_95d88 x0)) - 53) ((-1074) - x2)) ≤ 63 then (if (x2 + (jmax ((64 - (jJ13_numberOfLeadingZeros_95d88 x0)) - 53) ((-1074) - x2))) ≤ 971 then (if (jmax ((64 - (jJ13_numberOfLeadingZeros_95d88 x0)) - 53) ((-1074) - x2)) ≤ 0 then (sl (((x2 + (jmax ((64 - (jJ13_numberOfLeadingZeros_95d88 x0)) - 53) ((-1074) - x2))) - (-1074)).toInt64) 52) + (sl x0 (-(jmax ((64 - (jJ13_numberOfLeadingZeros_95d88 x0)) - 53) ((-1074) - x2)))) else (sl (((x2 + (jmax ((64 - (jJ13_numberOfLeadingZeros_95d88 x0)) - 53) ((-1074) - x2))) - (-1074)).toInt64) 52) + (jX0_nearestWhole x0 (jmax ((64 - (jJ13_numberOfLeadingZeros_95d88 x0)) - 53) ((-1074) - x2)))) else 9218868437227405312) else 0))
set_option maxHeartbeats 4000000 in
set_option maxRecDepth 100000 in
theorem wX0_nearest_0 {p : Program} {l : Launch} {e : Env} {s : State} {m : MethodId} {args : Array Value} {below : List Frame} {meth : Method} {c : Code} (C : CX p s m args meth c RX0 cX0_nearest 8 (some .long)) (x0 : Int64) (x2 : Int32) (ls : Array Slot) (v : Int64) (hl : lv_has ls 8 [(0, .long x0), (2, .int x2)]) (h : jX0_nearest x0 x2 = v) : W p l e (rmz 2 51) s m args below meth c s.heap [] 0 0 (MQ below (k2_QcV (.long v)) args s 0 0 (fun _ => False)) (F0 m 0 ls []) := by
  obtain ⟨hx, hb, hml, hown, hg, hr, hlocks⟩ := id C
  unfold jX0_nearest at h
  refine lv_lload_n hx hb dX0_nearest_0 rfl (lv_at hl 0 rfl) ?_
  refine lv_lconst (v := 0) hx hb dX0_nearest_1 (by decide) ?_
  refine lc_ne (tgt := 8) hx hb dX0_nearest_2 dX0_nearest_3 (by decide) (fun c_1 => ?_) (fun c_1 => ?_)
  · rw [if_neg c_1] at h
    refine lv_bipush (v := 64) hx hb dX0_nearest_8 (by decide) ?_
    refine lv_lload_n hx hb dX0_nearest_10 rfl (lv_at hl 0 rfl) ?_
    refine pcall C (cJ13_numberOfLeadingZeros_95d88_met l _ _ rfl) sc_J13_numberOfLeadingZeros_95d88 tw_113 (by decide) rfl hl.1 (rest := [.int 64]) rfl (Nat.le_of_ble_eq_true rfl) (by decide) dX0_nearest_11 ?_
    refine lv_isub hx hb dX0_nearest_14 ?_
    refine lv_istore_n (lv' := [(3, .int (64 - (jJ13_numberOfLeadingZeros_95d88 x0))), (0, .long x0), (2, .int x2)]) hx hb dX0_nearest_15 rfl hl (by decide) rfl (fun ls hl => ?_)
    refine lv_iload_n hx hb dX0_nearest_16 rfl (lv_at hl 0 rfl) ?_
    refine lv_bipush (v := 53) hx hb dX0_nearest_17 (by decide) ?_
    refine lv_isub hx hb dX0_nearest_19 ?_
    refine lv_sipush (v := (-1074)) hx hb dX0_nearest_20 (by decide) ?_
    refine lv_iload_n hx hb dX0_nearest_23 rfl (lv_at hl 2 rfl) ?_
    refine lv_isub hx hb dX0_nearest_24 ?_
    refine q_max C tw_120 (by decide) (Nat.le_of_ble_eq_true rfl) (by decide) hl.1 dX0_nearest_25 ?_
    refine lv_istore (lv' := [(4, .int (jmax ((64 - (jJ13_numberOfLeadingZeros_95d88 x0)) - 53) ((-1074) - x2))), (3, .int (64 - (jJ13_numberOfLeadingZeros_95d88 x0))), (0, .long x0), (2, .int x2)]) hx hb dX0_nearest_28 hl (by decide) rfl (fun ls hl => ?_)
    refine lv_iload hx hb dX0_nearest_30 (lv_at hl 0 rfl) ?_
    refine lv_bipush (v := 63) hx hb dX0_nearest_32 (by decide) ?_
    refine lv_icmp_le (tgt := 39) hx hb dX0_nearest_34 (by decide) (fun c_2 => ?_) (fun c_2 => ?_)
    · rw [if_pos c_2] at h
      refine lv_iload_n hx hb dX0_nearest_39 rfl (lv_at hl 3 rfl) ?_
      refine lv_iload hx hb dX0_nearest_40 (lv_at hl 0 rfl) ?_
      refine lv_iadd hx hb dX0_nearest_42 ?_
      refine lv_istore (lv' := [(5, .int (x2 + (jmax ((64 - (jJ13_numberOfLeadingZeros_95d88 x0)) - 53) ((-1074) - x2)))), (4, .int (jmax ((64 - (jJ13_numberOfLeadingZeros_95d88 x0)) - 53) ((-1074) - x2))), (3, .int (64 - (jJ13_numberOfLeadingZeros_95d88 x0))), (0, .long x0), (2, .int x2)]) hx hb dX0_nearest_43 hl (by decide) rfl (fun ls hl => ?_)
      refine lv_iload hx hb dX0_nearest_45 (lv_at hl 0 rfl) ?_
      refine lv_sipush (v := 971) hx hb dX0_nearest_47 (by decide) ?_
      refine lv_icmp_le (tgt := 57) hx hb dX0_nearest_50 (by decide) (fun c_3 => ?_) (fun c_3 => ?_)
      · rw [if_pos c_3] at h
        refine lv_iload hx hb dX0_nearest_57 (lv_at hl 1 rfl) ?_
        refine lv_if_le (tgt := 71) hx hb dX0_nearest_59 (by decide) (fun c_4 => ?_) (fun c_4 => ?_)
        · rw [if_pos c_4] at h
          refine lv_lload_n hx hb dX0_nearest_71 rfl (lv_at hl 3 rfl) ?_
          refine lv_iload hx hb dX0_nearest_72 (lv_at hl 1 rfl) ?_
          refine lv_ineg hx hb dX0_nearest_74 ?_
          refine lv_lshl (v := sl x0 (-(jmax ((64 - (jJ13_numberOfLeadingZeros_95d88 x0)) - 53) ((-1074) - x2)))) hx hb dX0_nearest_75 rfl ?_
          refine lv_lstore (lv' := [(6, .long (sl x0 (-(jmax ((64 - (jJ13_numberOfLeadingZeros_95d88 x0)) - 53) ((-1074) - x2))))), (5, .int (x2 + (jmax ((64 - (jJ13_numberOfLeadingZeros_95d88 x0)) - 53) ((-1074) - x2)))), (4, .int (jmax ((64 - (jJ13_numberOfLeadingZeros_95d88 x0)) - 53) ((-1074) - x2))), (3, .int (64 - (jJ13_numberOfLeadingZeros_95d88 x0))), (0, .long x0), (2, .int x2)]) hx hb dX0_nearest_76 hl (by decide) rfl (fun ls hl => ?_)
          refine lv_iload hx hb dX0_nearest_78 (lv_at hl 1 rfl) ?_
          refine lv_sipush (v := (-1074)) hx hb dX0_nearest_80 (by decide) ?_
          refine lv_isub hx hb dX0_nearest_83 ?_
          refine lv_i2l hx hb dX0_nearest_84 rfl ?_
          refine lv_bipush (v := 52) hx hb dX0_nearest_85 (by decide) ?_
          refine lv_lshl (v := sl (((x2 + (jmax ((64 - (jJ13_numberOfLeadingZeros_95d88 x0)) - 53) ((-1074) - x2))) - (-1074)).toInt64) 52) hx hb dX0_nearest_87 rfl ?_
          refine lv_lload hx hb dX0_nearest_88 (lv_at hl 0 rfl) ?_
          refine lv_ladd hx hb dX0_nearest_90 ?_
          exact W.lret hx hb hr (fun t ht _ => ⟨by rw [← h], ht⟩) (fun q h9 => nomatch h9) dX0_nearest_91
        · rw [if_neg c_4] at h
          refine lv_lload_n hx hb dX0_nearest_62 rfl (lv_at hl 3 rfl) ?_
          refine lv_iload hx hb dX0_nearest_63 (lv_at hl 1 rfl) ?_
          refine pcall C (cX0_nearestWhole_met l _ _ _ rfl) sc_X0_nearestWhole tw_124 (by decide) rfl hl.1 (rest := []) rfl (Nat.le_of_ble_eq_true rfl) (by decide) dX0_nearest_65 ?_
          refine lv_goto (tgt := 76) hx hb dX0_nearest_68 (by decide) ?_
          refine lv_lstore (lv' := [(6, .long (jX0_nearestWhole x0 (jmax ((64 - (jJ13_numberOfLeadingZeros_95d88 x0)) - 53) ((-1074) - x2)))), (5, .int (x2 + (jmax ((64 - (jJ13_numberOfLeadingZeros_95d88 x0)) - 53) ((-1074) - x2)))), (4, .int (jmax ((64 - (jJ13_numberOfLeadingZeros_95d88 x0)) - 53) ((-1074) - x2))), (3, .int (64 - (jJ13_numberOfLeadingZeros_95d88 x0))), (0, .long x0), (2, .int x2)]) hx hb dX0_nearest_76 hl (by decide) rfl (fun ls hl => ?_)
          refine lv_iload hx hb dX0_nearest_78 (lv_at hl 1 rfl) ?_
          refine lv_sipush (v := (-1074)) hx hb dX0_nearest_80 (by decide) ?_
          refine lv_isub hx hb dX0_nearest_83 ?_
          refine lv_i2l hx hb dX0_nearest_84 rfl ?_
          refine lv_bipush (v := 52) hx hb dX0_nearest_85 (by decide) ?_
          refine lv_lshl (v := sl (((x2 + (jmax ((64 - (jJ13_numberOfLeadingZeros_95d88 x0)) - 53) ((-1074) - x2))) - (-1074)).toInt64) 52) hx hb dX0_nearest_87 rfl ?_
          refine lv_lload hx hb dX0_nearest_88 (lv_at hl 0 rfl) ?_
          refine lv_ladd hx hb dX0_nearest_90 ?_
          exact W.lret hx hb hr (fun t ht _ => ⟨by rw [← h], ht⟩) (fun q h9 => nomatch h9) dX0_nearest_91
      · rw [if_neg c_3] at h
        refine lv_ldc2 hx hb hown (hg _ tw_123) dX0_nearest_53 ?_
        exact W.lret hx hb hr (fun t ht _ => ⟨by rw [← h], ht⟩) (fun q h9 => nomatch h9) dX0_nearest_56
    · rw [if_neg c_2] at h
      refine lv_lconst (v := 0) hx hb dX0_nearest_37 (by decide) ?_
      exact W.lret hx hb hr (fun t ht _ => ⟨by rw [← h], ht⟩) (fun q h9 => nomatch h9) dX0_nearest_38
  · rw [if_pos c_1] at h
    refine lv_lconst (v := 0) hx hb dX0_nearest_6 (by decide) ?_
    exact W.lret hx hb hr (fun t ht _ => ⟨by rw [← h], ht⟩) (fun q h9 => nomatch h9) dX0_nearest_7
theorem sc_X0_nearest : SC yX0_nearest cX0_nearest 8 (some .long) 2 := ⟨tw_111, tw_1, tw_112, by decide +kernel⟩
theorem cX0_nearest_met (l : Launch) (x0 : Int64) (x2 : Int32) (v : Int64) (h : jX0_nearest x0 x2 = v) : PM l yX0_nearest cX0_nearest 8 (some .long) (rmz 2 51) [.long x0, .int x2] (.long v) :=
  pm_of (own := RX0) (by decide +kernel) rfl (Nat.le_of_ble_eq_true rfl) (fun p e s m below meth c ls C hl => wX0_nearest_0 C x0 x2 ls v hl h)

/-! RealDesk.greatInSize(JJ)J -/
def jX0_greatInSize (x0 : Int64) (x2 : Int64) : Int64 := (if (jabsl x0) < (jabsl x2) then x2 else x0 : Int64)
set_option maxHeartbeats 4000000 in
set_option maxRecDepth 100000 in
theorem wX0_greatInSize_0 {p : Program} {l : Launch} {e : Env} {s : State} {m : MethodId} {args : Array Value} {below : List Frame} {meth : Method} {c : Code} (C : CX p s m args meth c RX0 cX0_greatInSize 4 (some .long)) (x0 : Int64) (x2 : Int64) (ls : Array Slot) (v : Int64) (hl : lv_has ls 4 [(0, .long x0), (2, .long x2)]) (h : jX0_greatInSize x0 x2 = v) : W p l e (rmz 1 21) s m args below meth c s.heap [] 0 0 (MQ below (k2_QcV (.long v)) args s 0 0 (fun _ => False)) (F0 m 0 ls []) := by
  obtain ⟨hx, hb, hml, hown, hg, hr, hlocks⟩ := id C
  unfold jX0_greatInSize at h
  refine lv_lload_n hx hb dX0_greatInSize_0 rfl (lv_at hl 0 rfl) ?_
  refine q_absl C tw_107 (by decide) (Nat.le_of_ble_eq_true rfl) (by decide) hl.1 dX0_greatInSize_1 ?_
  refine lv_lload_n hx hb dX0_greatInSize_4 rfl (lv_at hl 1 rfl) ?_
  refine q_absl C tw_107 (by decide) (Nat.le_of_ble_eq_true rfl) (by decide) hl.1 dX0_greatInSize_5 ?_
  refine rg_l (pj := 17) (v := (if (jabsl x0) < (jabsl x2) then x2 else x0 : Int64)) (ls := ls) (rest := []) (fun kJ => ?_) ?_
  · refine lc_lt (tgt := 16) hx hb dX0_greatInSize_8 dX0_greatInSize_9 (by decide) (fun c_1 => ?_) (fun c_1 => ?_)
    · refine lv_lload_n hx hb dX0_greatInSize_16 rfl (lv_at hl 1 rfl) ?_
      exact kJ _ (by rw [if_pos c_1])
    · refine lv_lload_n hx hb dX0_greatInSize_12 rfl (lv_at hl 0 rfl) ?_
      refine lv_goto (tgt := 17) hx hb dX0_greatInSize_13 (by decide) ?_
      exact kJ _ (by rw [if_neg c_1])
  exact W.lret hx hb hr (fun t ht _ => ⟨by rw [← h], ht⟩) (fun q h9 => nomatch h9) dX0_greatInSize_17
theorem sc_X0_greatInSize : SC yX0_greatInSize cX0_greatInSize 4 (some .long) 2 := ⟨tw_160, tw_1, tw_161, by decide +kernel⟩
theorem cX0_greatInSize_met (l : Launch) (x0 : Int64) (x2 : Int64) (v : Int64) (h : jX0_greatInSize x0 x2 = v) : PM l yX0_greatInSize cX0_greatInSize 4 (some .long) (rmz 1 21) [.long x0, .long x2] (.long v) :=
  pm_of (own := RX0) (by decide +kernel) rfl (Nat.le_of_ble_eq_true rfl) (fun p e s m below meth c ls C hl => wX0_greatInSize_0 C x0 x2 ls v hl h)

/-! RealDesk.smallInSize(JJ)J -/
def jX0_smallInSize (x0 : Int64) (x2 : Int64) : Int64 := (if (jabsl x0) < (jabsl x2) then x0 else x2 : Int64)
set_option maxHeartbeats 4000000 in
set_option maxRecDepth 100000 in
theorem wX0_smallInSize_0 {p : Program} {l : Launch} {e : Env} {s : State} {m : MethodId} {args : Array Value} {below : List Frame} {meth : Method} {c : Code} (C : CX p s m args meth c RX0 cX0_smallInSize 4 (some .long)) (x0 : Int64) (x2 : Int64) (ls : Array Slot) (v : Int64) (hl : lv_has ls 4 [(0, .long x0), (2, .long x2)]) (h : jX0_smallInSize x0 x2 = v) : W p l e (rmz 1 21) s m args below meth c s.heap [] 0 0 (MQ below (k2_QcV (.long v)) args s 0 0 (fun _ => False)) (F0 m 0 ls []) := by
  obtain ⟨hx, hb, hml, hown, hg, hr, hlocks⟩ := id C
  unfold jX0_smallInSize at h
  refine lv_lload_n hx hb dX0_smallInSize_0 rfl (lv_at hl 0 rfl) ?_
  refine q_absl C tw_107 (by decide) (Nat.le_of_ble_eq_true rfl) (by decide) hl.1 dX0_smallInSize_1 ?_
  refine lv_lload_n hx hb dX0_smallInSize_4 rfl (lv_at hl 1 rfl) ?_
  refine q_absl C tw_107 (by decide) (Nat.le_of_ble_eq_true rfl) (by decide) hl.1 dX0_smallInSize_5 ?_
  refine rg_l (pj := 17) (v := (if (jabsl x0) < (jabsl x2) then x0 else x2 : Int64)) (ls := ls) (rest := []) (fun kJ => ?_) ?_
  · refine lc_lt (tgt := 16) hx hb dX0_smallInSize_8 dX0_smallInSize_9 (by decide) (fun c_1 => ?_) (fun c_1 => ?_)
    · refine lv_lload_n hx hb dX0_smallInSize_16 rfl (lv_at hl 0 rfl) ?_
      exact kJ _ (by rw [if_pos c_1])
    · refine lv_lload_n hx hb dX0_smallInSize_12 rfl (lv_at hl 1 rfl) ?_
      refine lv_goto (tgt := 17) hx hb dX0_smallInSize_13 (by decide) ?_
      exact kJ _ (by rw [if_neg c_1])
  exact W.lret hx hb hr (fun t ht _ => ⟨by rw [← h], ht⟩) (fun q h9 => nomatch h9) dX0_smallInSize_17
theorem sc_X0_smallInSize : SC yX0_smallInSize cX0_smallInSize 4 (some .long) 2 := ⟨tw_163, tw_1, tw_164, by decide +kernel⟩
theorem cX0_smallInSize_met (l : Launch) (x0 : Int64) (x2 : Int64) (v : Int64) (h : jX0_smallInSize x0 x2 = v) : PM l yX0_smallInSize cX0_smallInSize 4 (some .long) (rmz 1 21) [.long x0, .long x2] (.long v) :=
  pm_of (own := RX0) (by decide +kernel) rfl (Nat.le_of_ble_eq_true rfl) (fun p e s m below meth c ls C hl => wX0_smallInSize_0 C x0 x2 ls v hl h)

/-! RealDesk.sum(JJ)J -/
def jX0_sum (x0 : Int64) (x2 : Int64) : Int64 := jX0_withSignOf (jX0_nearest (if (if (if 0 ≤ (jX0_greatInSize x0 x2) then 0 else 1 : Int32) = (if 0 ≤ (jX0_smallInSize x0 x2) then 0 else 1 : Int32) then 1 else 0 : Int32) = 0 then (sl (jX0_mOf (jX0_greatInSize x0 x2)) (jmin ((jX0_eOf (jX0_greatInSize x0 x2)) - (jX0_eOf (jX0_smallInSize x0 x2))) 9)) - (jX0_lower (jX0_mOf (jX0_smallInSize x0 x2)) (((jX0_eOf (jX0_greatInSize x0 x2)) - (jX0_eOf (jX0_smallInSize x0 x2))) - (jmin ((jX0_eOf (jX0_greatInSize x0 x2)) - (jX0_eOf (jX0_smallInSize x0 x2))) 9))) else (sl (jX0_mOf (jX0_greatInSize x0 x2)) (jmin ((jX0_eOf (jX0_greatInSize x0 x2)) - (jX0_eOf (jX0_smallInSize x0 x2))) 9)) + (jX0_lower (jX0_mOf (jX0_smallInSize x0 x2)) (((jX0_eOf (jX0_greatInSize x0 x2)) - (jX0_eOf (jX0_smallInSize x0 x2))) - (jmin ((jX0_eOf (jX0_greatInSize x0 x2)) - (jX0_eOf (jX0_smallInSize x0 x2))) 9))) : Int64) ((jX0_eOf (jX0_greatInSize x0 x2)) - (jmin ((jX0_eOf (jX0_greatInSize x0 x2)) - (jX0_eOf (jX0_smallInSize x0 x2))) 9))) (jX0_greatInSize x0 x2)
set_option maxHeartbeats 4000000 in
set_option maxRecDepth 100000 in
theorem wX0_sum_0 {p : Program} {l : Launch} {e : Env} {s : State} {m : MethodId} {args : Array Value} {below : List Frame} {meth : Method} {c : Code} (C : CX p s m args meth c RX0 cX0_sum 17 (some .long)) (x0 : Int64) (x2 : Int64) (ls : Array Slot) (v : Int64) (hl : lv_has ls 17 [(0, .long x0), (2, .long x2)]) (h : jX0_sum x0 x2 = v) : W p l e (rmz 3 78) s m args below meth c s.heap [] 0 0 (MQ below (k2_QcV (.long v)) args s 0 0 (fun _ => False)) (F0 m 0 ls []) := by
  obtain ⟨hx, hb, hml, hown, hg, hr, hlocks⟩ := id C
  unfold jX0_sum at h
  refine lv_lload_n hx hb dX0_sum_0 rfl (lv_at hl 0 rfl) ?_
  refine lv_lload_n hx hb dX0_sum_1 rfl (lv_at hl 1 rfl) ?_
  refine pcall C (cX0_greatInSize_met l _ _ _ rfl) sc_X0_greatInSize tw_159 (by decide) rfl hl.1 (rest := []) rfl (Nat.le_of_ble_eq_true rfl) (by decide) dX0_sum_2 ?_
  refine lv_lstore (lv' := [(4, .long (jX0_greatInSize x0 x2)), (0, .long x0), (2, .long x2)]) hx hb dX0_sum_5 hl (by decide) rfl (fun ls hl => ?_)
  refine lv_lload_n hx hb dX0_sum_7 rfl (lv_at hl 1 rfl) ?_
  refine lv_lload_n hx hb dX0_sum_8 rfl (lv_at hl 2 rfl) ?_
  refine pcall C (cX0_smallInSize_met l _ _ _ rfl) sc_X0_smallInSize tw_162 (by decide) rfl hl.1 (rest := []) rfl (Nat.le_of_ble_eq_true rfl) (by decide) dX0_sum_9 ?_
  refine lv_lstore (lv' := [(6, .long (jX0_smallInSize x0 x2)), (4, .long (jX0_greatInSize x0 x2)), (0, .long x0), (2, .long x2)]) hx hb dX0_sum_12 hl (by decide) rfl (fun ls hl => ?_)
  refine lv_lload hx hb dX0_sum_14 (lv_at hl 1 rfl) ?_
  refine pcall C (cX0_eOf_met l _ _ rfl) sc_X0_eOf tw_165 (by decide) rfl hl.1 (rest := []) rfl (Nat.le_of_ble_eq_true rfl) (by decide) dX0_sum_16 ?_
  refine lv_lload hx hb dX0_sum_19 (lv_at hl 0 rfl) ?_
  refine pcall C (cX0_eOf_met l _ _ rfl) sc_X0_eOf tw_165 (by decide) rfl hl.1 (rest := [.int (jX0_eOf (jX0_greatInSize x0 x2))]) rfl (Nat.le_of_ble_eq_true rfl) (by decide) dX0_sum_21 ?_
  refine lv_isub hx hb dX0_sum_24 ?_
  refine lv_istore (lv' := [(8, .int ((jX0_eOf (jX0_greatInSize x0 x2)) - (jX0_eOf (jX0_smallInSize x0 x2)))), (6, .long (jX0_smallInSize x0 x2)), (4, .long (jX0_greatInSize x0 x2)), (0, .long x0), (2, .long x2)]) hx hb dX0_sum_25 hl (by decide) rfl (fun ls hl => ?_)
  refine lv_iload hx hb dX0_sum_27 (lv_at hl 0 rfl) ?_
  refine lv_bipush (v := 9) hx hb dX0_sum_29 (by decide) ?_
  refine q_min C tw_168 (by decide) (Nat.le_of_ble_eq_true rfl) (by decide) hl.1 dX0_sum_31 ?_
  refine lv_istore (lv' := [(9, .int (jmin ((jX0_eOf (jX0_greatInSize x0 x2)) - (jX0_eOf (jX0_smallInSize x0 x2))) 9)), (8, .int ((jX0_eOf (jX0_greatInSize x0 x2)) - (jX0_eOf (jX0_smallInSize x0 x2)))), (6, .long (jX0_smallInSize x0 x2)), (4, .long (jX0_greatInSize x0 x2)), (0, .long x0), (2, .long x2)]) hx hb dX0_sum_34 hl (by decide) rfl (fun ls hl => ?_)
  refine lv_lload hx hb dX0_sum_36 (lv_at hl 3 rfl) ?_
  refine pcall C (cX0_mOf_met l _ _ rfl) sc_X0_mOf tw_171 (by decide) rfl hl.1 (rest := []) rfl (Nat.le_of_ble_eq_true rfl) (by decide) dX0_sum_38 ?_
  refine lv_iload hx hb dX0_sum_41 (lv_at hl 0 rfl) ?_
  refine lv_lshl (v := sl (jX0_mOf (jX0_greatInSize x0 x2)) (jmin ((jX0_eOf (jX0_greatInSize x0 x2)) - (jX0_eOf (jX0_smallInSize x0 x2))) 9)) hx hb dX0_sum_43 rfl ?_
  refine lv_lstore (lv' := [(10, .long (sl (jX0_mOf (jX0_greatInSize x0 x2)) (jmin ((jX0_eOf (jX0_greatInSize x0 x2)) - (jX0_eOf (jX0_smallInSize x0 x2))) 9))), (9, .int (jmin ((jX0_eOf (jX0_greatInSize x0 x2)) - (jX0_eOf (jX0_smallInSize x0 x2))) 9)), (8, .int ((jX0_eOf (jX0_greatInSize x0 x2)) - (jX0_eOf (jX0_smallInSize x0 x2)))), (6, .long (jX0_smallInSize x0 x2)), (4, .long (jX0_greatInSize x0 x2)), (0, .long x0), (2, .long x2)]) hx hb dX0_sum_44 hl (by decide) rfl (fun ls hl => ?_)
  refine lv_lload hx hb dX0_sum_46 (lv_at hl 3 rfl) ?_
  refine pcall C (cX0_mOf_met l _ _ rfl) sc_X0_mOf tw_171 (by decide) rfl hl.1 (rest := []) rfl (Nat.le_of_ble_eq_true rfl) (by decide) dX0_sum_48 ?_
  refine lv_iload hx hb dX0_sum_51 (lv_at hl 2 rfl) ?_
  refine lv_iload hx hb dX0_sum_53 (lv_at hl 1 rfl) ?_
  refine lv_isub hx hb dX0_sum_55 ?_
  refine pcall C (cX0_lower_met l _ _ _ rfl) sc_X0_lower tw_175 (by decide) rfl hl.1 (rest := []) rfl (Nat.le_of_ble_eq_true rfl) (by decide) dX0_sum_56 ?_
  refine lv_lstore (lv' := [(12, .long (jX0_lower (jX0_mOf (jX0_smallInSize x0 x2)) (((jX0_eOf (jX0_greatInSize x0 x2)) - (jX0_eOf (jX0_smallInSize x0 x2))) - (jmin ((jX0_eOf (jX0_greatInSize x0 x2)) - (jX0_eOf (jX0_smallInSize x0 x2))) 9)))), (10, .long (sl (jX0_mOf (jX0_greatInSize x0 x2)) (jmin ((jX0_eOf (jX0_greatInSize x0 x2)) - (jX0_eOf (jX0_smallInSize x0 x2))) 9))), (9, .int (jmin ((jX0_eOf (jX0_greatInSize x0 x2)) - (jX0_eOf (jX0_smallInSize x0 x2))) 9)), (8, .int ((jX0_eOf (jX0_greatInSize x0 x2)) - (jX0_eOf (jX0_smallInSize x0 x2)))), (6, .long (jX0_smallInSize x0 x2)), (4, .long (jX0_greatInSize x0 x2)), (0, .long x0), (2, .long x2)]) hx hb dX0_sum_59 hl (by decide) rfl (fun ls hl => ?_)
  refine lv_lload hx hb dX0_sum_61 (lv_at hl 5 rfl) ?_
  refine lv_lconst (v := 0) hx hb dX0_sum_63 (by decide) ?_
  refine rg_i (pj := 73) (v := (if 0 ≤ (jX0_greatInSize x0 x2) then 0 else 1 : Int32)) (ls := ls) (rest := []) (fun kJ => ?_) ?_
  · refine lc_ge (tgt := 72) hx hb dX0_sum_64 dX0_sum_65 (by decide) (fun c_1 => ?_) (fun c_1 => ?_)
    · refine lv_iconst (v := 0) hx hb dX0_sum_72 (by decide) ?_
      exact kJ _ (by rw [if_pos c_1])
    · refine lv_iconst (v := 1) hx hb dX0_sum_68 (by decide) ?_
      refine lv_goto (tgt := 73) hx hb dX0_sum_69 (by decide) ?_
      exact kJ _ (by rw [if_neg c_1])
  refine lv_lload hx hb dX0_sum_73 (lv_at hl 4 rfl) ?_
  refine lv_lconst (v := 0) hx hb dX0_sum_75 (by decide) ?_
  refine rg_i (pj := 85) (v := (if 0 ≤ (jX0_smallInSize x0 x2) then 0 else 1 : Int32)) (ls := ls) (rest := [.int (if 0 ≤ (jX0_greatInSize x0 x2) then 0 else 1 : Int32)]) (fun kJ => ?_) ?_
  · refine lc_ge (tgt := 84) hx hb dX0_sum_76 dX0_sum_77 (by decide) (fun c_2 => ?_) (fun c_2 => ?_)
    · refine lv_iconst (v := 0) hx hb dX0_sum_84 (by decide) ?_
      exact kJ _ (by rw [if_pos c_2])
    · refine lv_iconst (v := 1) hx hb dX0_sum_80 (by decide) ?_
      refine lv_goto (tgt := 85) hx hb dX0_sum_81 (by decide) ?_
      exact kJ _ (by rw [if_neg c_2])
  refine rg_i (pj := 93) (v := (if (if 0 ≤ (jX0_greatInSize x0 x2) then 0 else 1 : Int32) = (if 0 ≤ (jX0_smallInSize x0 x2) then 0 else 1 : Int32) then 1 else 0 : Int32)) (ls := ls) (rest := []) (fun kJ => ?_) ?_
  · refine lv_icmp_ne (tgt := 92) hx hb dX0_sum_85 (by decide) (fun c_3 => ?_) (fun c_3 => ?_)
    · refine lv_iconst (v := 0) hx hb dX0_sum_92 (by decide) ?_
      exact kJ _ (by rw [if_neg c_3])
    · refine lv_iconst (v := 1) hx hb dX0_sum_88 (by decide) ?_
      refine lv_goto (tgt := 93) hx hb dX0_sum_89 (by decide) ?_
      exact kJ _ (by rw [if_pos c_3])
  refine lv_istore (lv' := [(14, .int (if (if 0 ≤ (jX0_greatInSize x0 x2) then 0 else 1 : Int32) = (if 0 ≤ (jX0_smallInSize x0 x2) then 0 else 1 : Int32) then 1 else 0 : Int32)), (12, .long (jX0_lower (jX0_mOf (jX0_smallInSize x0 x2)) (((jX0_eOf (jX0_greatInSize x0 x2)) - (jX0_eOf (jX0_smallInSize x0 x2))) - (jmin ((jX0_eOf (jX0_greatInSize x0 x2)) - (jX0_eOf (jX0_smallInSize x0 x2))) 9)))), (10, .long (sl (jX0_mOf (jX0_greatInSize x0 x2)) (jmin ((jX0_eOf (jX0_greatInSize x0 x2)) - (jX0_eOf (jX0_smallInSize x0 x2))) 9))), (9, .int (jmin ((jX0_eOf (jX0_greatInSize x0 x2)) - (jX0_eOf (jX0_smallInSize x0 x2))) 9)), (8, .int ((jX0_eOf (jX0_greatInSize x0 x2)) - (jX0_eOf (jX0_smallInSize x0 x2)))), (6, .long (jX0_smallInSize x0 x2)), (4, .long (jX0_greatInSize x0 x2)), (0, .long x0), (2, .long x2)]) hx hb dX0_sum_93 hl (by decide) rfl (fun ls hl => ?_)
  refine lv_iload hx hb dX0_sum_95 (lv_at hl 0 rfl) ?_
  refine rg_l (pj := 113) (v := (if (if (if 0 ≤ (jX0_greatInSize x0 x2) then 0 else 1 : Int32) = (if 0 ≤ (jX0_smallInSize x0 x2) then 0 else 1 : Int32) then 1 else 0 : Int32) = 0 then (sl (jX0_mOf (jX0_greatInSize x0 x2)) (jmin ((jX0_eOf (jX0_greatInSize x0 x2)) - (jX0_eOf (jX0_smallInSize x0 x2))) 9)) - (jX0_lower (jX0_mOf (jX0_smallInSize x0 x2)) (((jX0_eOf (jX0_greatInSize x0 x2)) - (jX0_eOf (jX0_smallInSize x0 x2))) - (jmin ((jX0_eOf (jX0_greatInSize x0 x2)) - (jX0_eOf (jX0_smallInSize x0 x2))) 9))) else (sl (jX0_mOf (jX0_greatInSize x0 x2)) (jmin ((jX0_eOf (jX0_greatInSize x0 x2)) - (jX0_eOf (jX0_smallInSize x0 x2))) 9)) + (jX0_lower (jX0_mOf (jX0_smallInSize x0 x2)) (((jX0_eOf (jX0_greatInSize x0 x2)) - (jX0_eOf (jX0_smallInSize x0 x2))) - (jmin ((jX0_eOf (jX0_greatInSize x0 x2)) - (jX0_eOf (jX0_smallInSize x0 x2))) 9))) : Int64)) (ls := ls) (rest := []) (fun kJ => ?_) ?_
  · refine lv_if_eq (tgt := 108) hx hb dX0_sum_97 (by decide) (fun c_4 => ?_) (fun c_4 => ?_)
    · refine lv_lload hx hb dX0_sum_108 (lv_at hl 2 rfl) ?_
      refine lv_lload hx hb dX0_sum_110 (lv_at hl 1 rfl) ?_
      refine lv_lsub hx hb dX0_sum_112 ?_
      exact kJ _ (by rw [if_pos c_4])
    · refine lv_lload hx hb dX0_sum_100 (lv_at hl 2 rfl) ?_
      refine lv_lload hx hb dX0_sum_102 (lv_at hl 1 rfl) ?_
      refine lv_ladd hx hb dX0_sum_104 ?_
      refine lv_goto (tgt := 113) hx hb dX0_sum_105 (by decide) ?_
      exact kJ _ (by rw [if_neg c_4])
  refine lv_lstore (lv' := [(15, .long (if (if (if 0 ≤ (jX0_greatInSize x0 x2) then 0 else 1 : Int32) = (if 0 ≤ (jX0_smallInSize x0 x2) then 0 else 1 : Int32) then 1 else 0 : Int32) = 0 then (sl (jX0_mOf (jX0_greatInSize x0 x2)) (jmin ((jX0_eOf (jX0_greatInSize x0 x2)) - (jX0_eOf (jX0_smallInSize x0 x2))) 9)) - (jX0_lower (jX0_mOf (jX0_smallInSize x0 x2)) (((jX0_eOf (jX0_greatInSize x0 x2)) - (jX0_eOf (jX0_smallInSize x0 x2))) - (jmin ((jX0_eOf (jX0_greatInSize x0 x2)) - (jX0_eOf (jX0_smallInSize x0 x2))) 9))) else (sl (jX0_mOf (jX0_greatInSize x0 x2)) (jmin ((jX0_eOf (jX0_greatInSize x0 x2)) - (jX0_eOf (jX0_smallInSize x0 x2))) 9)) + (jX0_lower (jX0_mOf (jX0_smallInSize x0 x2)) (((jX0_eOf (jX0_greatInSize x0 x2)) - (jX0_eOf (jX0_smallInSize x0 x2))) - (jmin ((jX0_eOf (jX0_greatInSize x0 x2)) - (jX0_eOf (jX0_smallInSize x0 x2))) 9))) : Int64)), (14, .int (if (if 0 ≤ (jX0_greatInSize x0 x2) then 0 else 1 : Int32) = (if 0 ≤ (jX0_smallInSize x0 x2) then 0 else 1 : Int32) then 1 else 0 : Int32)), (12, .long (jX0_lower (jX0_mOf (jX0_smallInSize x0 x2)) (((jX0_eOf (jX0_greatInSize x0 x2)) - (jX0_eOf (jX0_smallInSize x0 x2))) - (jmin ((jX0_eOf (jX0_greatInSize x0 x2)) - (jX0_eOf (jX0_smallInSize x0 x2))) 9)))), (10, .long (sl (jX0_mOf (jX0_greatInSize x0 x2)) (jmin ((jX0_eOf (jX0_greatInSize x0 x2)) - (jX0_eOf (jX0_smallInSize x0 x2))) 9))), (9, .int (jmin ((jX0_eOf (jX0_greatInSize x0 x2)) - (jX0_eOf (jX0_smallInSize x0 x2))) 9)), (8, .int ((jX0_eOf (jX0_greatInSize x0 x2)) - (jX0_eOf (jX0_smallInSize x0 x2)))), (6, .long (jX0_smallInSize x0 x2)), (4, .long (jX0_greatInSize x0 x2)), (0, .long x0), (2, .long x2)]) hx hb dX0_sum_113 hl (by decide) rfl (fun ls hl => ?_)
  refine lv_lload hx hb dX0_sum_115 (lv_at hl 0 rfl) ?_
  refine lv_lload hx hb dX0_sum_117 (lv_at hl 7 rfl) ?_
  refine pcall C (cX0_eOf_met l _ _ rfl) sc_X0_eOf tw_165 (by decide) rfl hl.1 (rest := [.long (if (if (if 0 ≤ (jX0_greatInSize x0 x2) then 0 else 1 : Int32) = (if 0 ≤ (jX0_smallInSize x0 x2) then 0 else 1 : Int32) then 1 else 0 : Int32) = 0 then (sl (jX0_mOf (jX0_greatInSize x0 x2)) (jmin ((jX0_eOf (jX0_greatInSize x0 x2)) - (jX0_eOf (jX0_smallInSize x0 x2))) 9)) - (jX0_lower (jX0_mOf (jX0_smallInSize x0 x2)) (((jX0_eOf (jX0_greatInSize x0 x2)) - (jX0_eOf (jX0_smallInSize x0 x2))) - (jmin ((jX0_eOf (jX0_greatInSize x0 x2)) - (jX0_eOf (jX0_smallInSize x0 x2))) 9))) else (sl (jX0_mOf (jX0_greatInSize x0 x2)) (jmin ((jX0_eOf (jX0_greatInSize x0 x2)) - (jX0_eOf (jX0_smallInSize x0 x2))) 9)) + (jX0_lower (jX0_mOf (jX0_smallInSize x0 x2)) (((jX0_eOf (jX0_greatInSize x0 x2)) - (jX0_eOf (jX0_smallInSize x0 x2))) - (jmin ((jX0_eOf (jX0_greatInSize x0 x2)) - (jX0_eOf (jX0_smallInSize x0 x2))) 9))) : Int64)]) rfl (Nat.le_of_ble_eq_true rfl) (by decide) dX0_sum_119 ?_
  refine lv_iload hx hb dX0_sum_122 (lv_at hl 4 rfl) ?_
  refine lv_isub hx hb dX0_sum_124 ?_
  refine pcall C (cX0_nearest_met l _ _ _ rfl) sc_X0_nearest tw_110 (by decide) rfl hl.1 (rest := []) rfl (Nat.le_of_ble_eq_true rfl) (by decide) dX0_sum_125 ?_
  refine lv_lload hx hb dX0_sum_128 (lv_at hl 7 rfl) ?_
  refine pcall C (cX0_withSignOf_met l _ _ _ rfl) sc_X0_withSignOf tw_130 (by decide) rfl hl.1 (rest := []) rfl (Nat.le_of_ble_eq_true rfl) (by decide) dX0_sum_130 ?_
  exact W.lret hx hb hr (fun t ht _ => ⟨by rw [← h], ht⟩) (fun q h9 => nomatch h9) dX0_sum_133
theorem sc_X0_sum : SC yX0_sum cX0_sum 17 (some .long) 2 := ⟨tw_157, tw_1, tw_158, by decide +kernel⟩
theorem cX0_sum_met (l : Launch) (x0 : Int64) (x2 : Int64) (v : Int64) (h : jX0_sum x0 x2 = v) : PM l yX0_sum cX0_sum 17 (some .long) (rmz 3 78) [.long x0, .long x2] (.long v) :=
  pm_of (own := RX0) (by decide +kernel) rfl (Nat.le_of_ble_eq_true rfl) (fun p e s m below meth c ls C hl => wX0_sum_0 C x0 x2 ls v hl h)

/-! RealDesk.sumError(JJ)J -/
def jX0_sumError (x0 : Int64) (x2 : Int64) : Int64 := (if (jX0_isOver (jX0_sum (jX0_greatInSize x0 x2) (jX0_smallInSize x0 x2))) = 0 then jX0_sum (jX0_smallInSize x0 x2) (-(jX0_sum (jX0_sum (jX0_greatInSize x0 x2) (jX0_smallInSize x0 x2)) (-(jX0_greatInSize x0 x2)))) else jX0_sum (jX0_greatInSize x0 x2) (jX0_smallInSize x0 x2))
set_option maxHeartbeats 4000000 in
set_option maxRecDepth 100000 in
theorem wX0_sumError_0 {p : Program} {l : Launch} {e : Env} {s : State} {m : MethodId} {args : Array Value} {below : List Frame} {meth : Method} {c : Code} (C : CX p s m args meth c RX0 cX0_sumError 10 (some .long)) (x0 : Int64) (x2 : Int64) (ls : Array Slot) (v : Int64) (hl : lv_has ls 10 [(0, .long x0), (2, .long x2)]) (h : jX0_sumError x0 x2 = v) : W p l e (rmz 4 114) s m args below meth c s.heap [] 0 0 (MQ below (k2_QcV (.long v)) args s 0 0 (fun _ => False)) (F0 m 0 ls []) := by
  obtain ⟨hx, hb, hml, hown, hg, hr, hlocks⟩ := id C
  unfold jX0_sumError at h
  refine lv_lload_n hx hb dX0_sumError_0 rfl (lv_at hl 0 rfl) ?_
  refine lv_lload_n hx hb dX0_sumError_1 rfl (lv_at hl 1 rfl) ?_
  refine pcall C (cX0_greatInSize_met l _ _ _ rfl) sc_X0_greatInSize tw_159 (by decide) rfl hl.1 (rest := []) rfl (Nat.le_of_ble_eq_true rfl) (by decide) dX0_sumError_2 ?_
  refine lv_lstore (lv' := [(4, .long (jX0_greatInSize x0 x2)), (0, .long x0), (2, .long x2)]) hx hb dX0_sumError_5 hl (by decide) rfl (fun ls hl => ?_)
  refine lv_lload_n hx hb dX0_sumError_7 rfl (lv_at hl 1 rfl) ?_
  refine lv_lload_n hx hb dX0_sumError_8 rfl (lv_at hl 2 rfl) ?_
  refine pcall C (cX0_smallInSize_met l _ _ _ rfl) sc_X0_smallInSize tw_162 (by decide) rfl hl.1 (rest := []) rfl (Nat.le_of_ble_eq_true rfl) (by decide) dX0_sumError_9 ?_
  refine lv_lstore (lv' := [(6, .long (jX0_smallInSize x0 x2)), (4, .long (jX0_greatInSize x0 x2)), (0, .long x0), (2, .long x2)]) hx hb dX0_sumError_12 hl (by decide) rfl (fun ls hl => ?_)
  refine lv_lload hx hb dX0_sumError_14 (lv_at hl 1 rfl) ?_
  refine lv_lload hx hb dX0_sumError_16 (lv_at hl 0 rfl) ?_
  refine pcall C (cX0_sum_met l _ _ _ rfl) sc_X0_sum tw_156 (by decide) rfl hl.1 (rest := []) rfl (Nat.le_of_ble_eq_true rfl) (by decide) dX0_sumError_18 ?_
  refine lv_lstore (lv' := [(8, .long (jX0_sum (jX0_greatInSize x0 x2) (jX0_smallInSize x0 x2))), (6, .long (jX0_smallInSize x0 x2)), (4, .long (jX0_greatInSize x0 x2)), (0, .long x0), (2, .long x2)]) hx hb dX0_sumError_21 hl (by decide) rfl (fun ls hl => ?_)
  refine lv_lload hx hb dX0_sumError_23 (lv_at hl 0 rfl) ?_
  refine pcall C (cX0_isOver_met l _ _ rfl) sc_X0_isOver tw_137 (by decide) rfl hl.1 (rest := []) rfl (Nat.le_of_ble_eq_true rfl) (by decide) dX0_sumError_25 ?_
  refine lv_if_eq (tgt := 34) hx hb dX0_sumError_28 (by decide) (fun c_1 => ?_) (fun c_1 => ?_)
  · rw [if_pos c_1] at h
    refine lv_lload hx hb dX0_sumError_34 (lv_at hl 1 rfl) ?_
    refine lv_lload hx hb dX0_sumError_36 (lv_at hl 0 rfl) ?_
    refine lv_lload hx hb dX0_sumError_38 (lv_at hl 2 rfl) ?_
    refine lv_lneg hx hb dX0_sumError_40 ?_
    refine pcall C (cX0_sum_met l _ _ _ rfl) sc_X0_sum tw_156 (by decide) rfl hl.1 (rest := [.long (jX0_smallInSize x0 x2)]) rfl (Nat.le_of_ble_eq_true rfl) (by decide) dX0_sumError_41 ?_
    refine lv_lneg hx hb dX0_sumError_44 ?_
    refine pcall C (cX0_sum_met l _ _ _ rfl) sc_X0_sum tw_156 (by decide) rfl hl.1 (rest := []) rfl (Nat.le_of_ble_eq_true rfl) (by decide) dX0_sumError_45 ?_
    exact W.lret hx hb hr (fun t ht _ => ⟨by rw [← h], ht⟩) (fun q h9 => nomatch h9) dX0_sumError_48
  · rw [if_neg c_1] at h
    refine lv_lload hx hb dX0_sumError_31 (lv_at hl 0 rfl) ?_
    exact W.lret hx hb hr (fun t ht _ => ⟨by rw [← h], ht⟩) (fun q h9 => nomatch h9) dX0_sumError_33
theorem sc_X0_sumError : SC yX0_sumError cX0_sumError 10 (some .long) 2 := ⟨tw_206, tw_1, tw_207, by decide +kernel⟩
theorem cX0_sumError_met (l : Launch) (x0 : Int64) (x2 : Int64) (v : Int64) (h : jX0_sumError x0 x2 = v) : PM l yX0_sumError cX0_sumError 10 (some .long) (rmz 4 114) [.long x0, .long x2] (.long v) :=
  pm_of (own := RX0) (by decide +kernel) rfl (Nat.le_of_ble_eq_true rfl) (fun p e s m below meth c ls C hl => wX0_sumError_0 C x0 x2 ls v hl h)

/-! RealDesk.topOfProduct(JJ)J -/
def jX0_topOfProduct (x0 : Int64) (x2 : Int64) : Int64 := (sl ((((su x0 27) * (su x2 27)) + (su (((su x0 27) * (jX0_lowPlaces x2 27)) + ((jX0_lowPlaces x0 27) * (su x2 27))) 27)) + (su (((jX0_lowPlaces x0 27) * (jX0_lowPlaces x2 27)) + (sl (jX0_lowPlaces (((su x0 27) * (jX0_lowPlaces x2 27)) + ((jX0_lowPlaces x0 27) * (su x2 27))) 27) 27)) 54)) 9) ||| (jX0_lower (jX0_lowPlaces (((jX0_lowPlaces x0 27) * (jX0_lowPlaces x2 27)) + (sl (jX0_lowPlaces (((su x0 27) * (jX0_lowPlaces x2 27)) + ((jX0_lowPlaces x0 27) * (su x2 27))) 27) 27)) 54) 45)
set_option maxHeartbeats 4000000 in
set_option maxRecDepth 100000 in
theorem wX0_topOfProduct_0 {p : Program} {l : Launch} {e : Env} {s : State} {m : MethodId} {args : Array Value} {below : List Frame} {meth : Method} {c : Code} (C : CX p s m args meth c RX0 cX0_topOfProduct 20 (some .long)) (x0 : Int64) (x2 : Int64) (ls : Array Slot) (v : Int64) (hl : lv_has ls 20 [(0, .long x0), (2, .long x2)]) (h : jX0_topOfProduct x0 x2 = v) : W p l e (rmz 2 46) s m args below meth c s.heap [] 0 0 (MQ below (k2_QcV (.long v)) args s 0 0 (fun _ => False)) (F0 m 0 ls []) := by
  obtain ⟨hx, hb, hml, hown, hg, hr, hlocks⟩ := id C
  unfold jX0_topOfProduct at h
  refine lv_lload_n hx hb dX0_topOfProduct_0 rfl (lv_at hl 0 rfl) ?_
  refine lv_bipush (v := 27) hx hb dX0_topOfProduct_1 (by decide) ?_
  refine lv_lushr (v := su x0 27) hx hb dX0_topOfProduct_3 rfl ?_
  refine lv_lstore (lv' := [(4, .long (su x0 27)), (0, .long x0), (2, .long x2)]) hx hb dX0_topOfProduct_4 hl (by decide) rfl (fun ls hl => ?_)
  refine lv_lload_n hx hb dX0_topOfProduct_6 rfl (lv_at hl 1 rfl) ?_
  refine lv_bipush (v := 27) hx hb dX0_topOfProduct_7 (by decide) ?_
  refine pcall C (cX0_lowPlaces_met l _ _ _ rfl) sc_X0_lowPlaces tw_127 (by decide) rfl hl.1 (rest := []) rfl (Nat.le_of_ble_eq_true rfl) (by decide) dX0_topOfProduct_9 ?_
  refine lv_lstore (lv' := [(6, .long (jX0_lowPlaces x0 27)), (4, .long (su x0 27)), (0, .long x0), (2, .long x2)]) hx hb dX0_topOfProduct_12 hl (by decide) rfl (fun ls hl => ?_)
  refine lv_lload_n hx hb dX0_topOfProduct_14 rfl (lv_at hl 3 rfl) ?_
  refine lv_bipush (v := 27) hx hb dX0_topOfProduct_15 (by decide) ?_
  refine lv_lushr (v := su x2 27) hx hb dX0_topOfProduct_17 rfl ?_
  refine lv_lstore (lv' := [(8, .long (su x2 27)), (6, .long (jX0_lowPlaces x0 27)), (4, .long (su x0 27)), (0, .long x0), (2, .long x2)]) hx hb dX0_topOfProduct_18 hl (by decide) rfl (fun ls hl => ?_)
  refine lv_lload_n hx hb dX0_topOfProduct_20 rfl (lv_at hl 4 rfl) ?_
  refine lv_bipush (v := 27) hx hb dX0_topOfProduct_21 (by decide) ?_
  refine pcall C (cX0_lowPlaces_met l _ _ _ rfl) sc_X0_lowPlaces tw_127 (by decide) rfl hl.1 (rest := []) rfl (Nat.le_of_ble_eq_true rfl) (by decide) dX0_topOfProduct_23 ?_
  refine lv_lstore (lv' := [(10, .long (jX0_lowPlaces x2 27)), (8, .long (su x2 27)), (6, .long (jX0_lowPlaces x0 27)), (4, .long (su x0 27)), (0, .long x0), (2, .long x2)]) hx hb dX0_topOfProduct_26 hl (by decide) rfl (fun ls hl => ?_)
  refine lv_lload hx hb dX0_topOfProduct_28 (lv_at hl 3 rfl) ?_
  refine lv_lload hx hb dX0_topOfProduct_30 (lv_at hl 0 rfl) ?_
  refine lv_lmul hx hb dX0_topOfProduct_32 ?_
  refine lv_lload hx hb dX0_topOfProduct_33 (lv_at hl 2 rfl) ?_
  refine lv_lload hx hb dX0_topOfProduct_35 (lv_at hl 1 rfl) ?_
  refine lv_lmul hx hb dX0_topOfProduct_37 ?_
  refine lv_ladd hx hb dX0_topOfProduct_38 ?_
  refine lv_lstore (lv' := [(12, .long (((su x0 27) * (jX0_lowPlaces x2 27)) + ((jX0_lowPlaces x0 27) * (su x2 27)))), (10, .long (jX0_lowPlaces x2 27)), (8, .long (su x2 27)), (6, .long (jX0_lowPlaces x0 27)), (4, .long (su x0 27)), (0, .long x0), (2, .long x2)]) hx hb dX0_topOfProduct_39 hl (by decide) rfl (fun ls hl => ?_)
  refine lv_lload hx hb dX0_topOfProduct_41 (lv_at hl 3 rfl) ?_
  refine lv_lload hx hb dX0_topOfProduct_43 (lv_at hl 1 rfl) ?_
  refine lv_lmul hx hb dX0_topOfProduct_45 ?_
  refine lv_lload hx hb dX0_topOfProduct_46 (lv_at hl 0 rfl) ?_
  refine lv_bipush (v := 27) hx hb dX0_topOfProduct_48 (by decide) ?_
  refine pcall C (cX0_lowPlaces_met l _ _ _ rfl) sc_X0_lowPlaces tw_127 (by decide) rfl hl.1 (rest := [.long ((jX0_lowPlaces x0 27) * (jX0_lowPlaces x2 27))]) rfl (Nat.le_of_ble_eq_true rfl) (by decide) dX0_topOfProduct_50 ?_
  refine lv_bipush (v := 27) hx hb dX0_topOfProduct_53 (by decide) ?_
  refine lv_lshl (v := sl (jX0_lowPlaces (((su x0 27) * (jX0_lowPlaces x2 27)) + ((jX0_lowPlaces x0 27) * (su x2 27))) 27) 27) hx hb dX0_topOfProduct_55 rfl ?_
  refine lv_ladd hx hb dX0_topOfProduct_56 ?_
  refine lv_lstore (lv' := [(14, .long (((jX0_lowPlaces x0 27) * (jX0_lowPlaces x2 27)) + (sl (jX0_lowPlaces (((su x0 27) * (jX0_lowPlaces x2 27)) + ((jX0_lowPlaces x0 27) * (su x2 27))) 27) 27))), (12, .long (((su x0 27) * (jX0_lowPlaces x2 27)) + ((jX0_lowPlaces x0 27) * (su x2 27)))), (10, .long (jX0_lowPlaces x2 27)), (8, .long (su x2 27)), (6, .long (jX0_lowPlaces x0 27)), (4, .long (su x0 27)), (0, .long x0), (2, .long x2)]) hx hb dX0_topOfProduct_57 hl (by decide) rfl (fun ls hl => ?_)
  refine lv_lload hx hb dX0_topOfProduct_59 (lv_at hl 5 rfl) ?_
  refine lv_lload hx hb dX0_topOfProduct_61 (lv_at hl 3 rfl) ?_
  refine lv_lmul hx hb dX0_topOfProduct_63 ?_
  refine lv_lload hx hb dX0_topOfProduct_64 (lv_at hl 1 rfl) ?_
  refine lv_bipush (v := 27) hx hb dX0_topOfProduct_66 (by decide) ?_
  refine lv_lushr (v := su (((su x0 27) * (jX0_lowPlaces x2 27)) + ((jX0_lowPlaces x0 27) * (su x2 27))) 27) hx hb dX0_topOfProduct_68 rfl ?_
  refine lv_ladd hx hb dX0_topOfProduct_69 ?_
  refine lv_lload hx hb dX0_topOfProduct_70 (lv_at hl 0 rfl) ?_
  refine lv_bipush (v := 54) hx hb dX0_topOfProduct_72 (by decide) ?_
  refine lv_lushr (v := su (((jX0_lowPlaces x0 27) * (jX0_lowPlaces x2 27)) + (sl (jX0_lowPlaces (((su x0 27) * (jX0_lowPlaces x2 27)) + ((jX0_lowPlaces x0 27) * (su x2 27))) 27) 27)) 54) hx hb dX0_topOfProduct_74 rfl ?_
  refine lv_ladd hx hb dX0_topOfProduct_75 ?_
  refine lv_lstore (lv' := [(16, .long ((((su x0 27) * (su x2 27)) + (su (((su x0 27) * (jX0_lowPlaces x2 27)) + ((jX0_lowPlaces x0 27) * (su x2 27))) 27)) + (su (((jX0_lowPlaces x0 27) * (jX0_lowPlaces x2 27)) + (sl (jX0_lowPlaces (((su x0 27) * (jX0_lowPlaces x2 27)) + ((jX0_lowPlaces x0 27) * (su x2 27))) 27) 27)) 54))), (14, .long (((jX0_lowPlaces x0 27) * (jX0_lowPlaces x2 27)) + (sl (jX0_lowPlaces (((su x0 27) * (jX0_lowPlaces x2 27)) + ((jX0_lowPlaces x0 27) * (su x2 27))) 27) 27))), (12, .long (((su x0 27) * (jX0_lowPlaces x2 27)) + ((jX0_lowPlaces x0 27) * (su x2 27)))), (10, .long (jX0_lowPlaces x2 27)), (8, .long (su x2 27)), (6, .long (jX0_lowPlaces x0 27)), (4, .long (su x0 27)), (0, .long x0), (2, .long x2)]) hx hb dX0_topOfProduct_76 hl (by decide) rfl (fun ls hl => ?_)
  refine lv_lload hx hb dX0_topOfProduct_78 (lv_at hl 1 rfl) ?_
  refine lv_bipush (v := 54) hx hb dX0_topOfProduct_80 (by decide) ?_
  refine pcall C (cX0_lowPlaces_met l _ _ _ rfl) sc_X0_lowPlaces tw_127 (by decide) rfl hl.1 (rest := []) rfl (Nat.le_of_ble_eq_true rfl) (by decide) dX0_topOfProduct_82 ?_
  refine lv_lstore (lv' := [(18, .long (jX0_lowPlaces (((jX0_lowPlaces x0 27) * (jX0_lowPlaces x2 27)) + (sl (jX0_lowPlaces (((su x0 27) * (jX0_lowPlaces x2 27)) + ((jX0_lowPlaces x0 27) * (su x2 27))) 27) 27)) 54)), (16, .long ((((su x0 27) * (su x2 27)) + (su (((su x0 27) * (jX0_lowPlaces x2 27)) + ((jX0_lowPlaces x0 27) * (su x2 27))) 27)) + (su (((jX0_lowPlaces x0 27) * (jX0_lowPlaces x2 27)) + (sl (jX0_lowPlaces (((su x0 27) * (jX0_lowPlaces x2 27)) + ((jX0_lowPlaces x0 27) * (su x2 27))) 27) 27)) 54))), (14, .long (((jX0_lowPlaces x0 27) * (jX0_lowPlaces x2 27)) + (sl (jX0_lowPlaces (((su x0 27) * (jX0_lowPlaces x2 27)) + ((jX0_lowPlaces x0 27) * (su x2 27))) 27) 27))), (12, .long (((su x0 27) * (jX0_lowPlaces x2 27)) + ((jX0_lowPlaces x0 27) * (su x2 27)))), (10, .long (jX0_lowPlaces x2 27)), (8, .long (su x2 27)), (6, .long (jX0_lowPlaces x0 27)), (4, .long (su x0 27)), (0, .long x0), (2, .long x2)]) hx hb dX0_topOfProduct_85 hl (by decide) rfl (fun ls hl => ?_)
  refine lv_lload hx hb dX0_topOfProduct_87 (lv_at hl 1 rfl) ?_
  refine lv_bipush (v := 9) hx hb dX0_topOfProduct_89 (by decide) ?_
  refine lv_lshl (v := sl ((((su x0 27) * (su x2 27)) + (su (((su x0 27) * (jX0_lowPlaces x2 27)) + ((jX0_lowPlaces x0 27) * (su x2 27))) 27)) + (su (((jX0_lowPlaces x0 27) * (jX0_lowPlaces x2 27)) + (sl (jX0_lowPlaces (((su x0 27) * (jX0_lowPlaces x2 27)) + ((jX0_lowPlaces x0 27) * (su x2 27))) 27) 27)) 54)) 9) hx hb dX0_topOfProduct_91 rfl ?_
  refine lv_lload hx hb dX0_topOfProduct_92 (lv_at hl 0 rfl) ?_
  refine lv_bipush (v := 45) hx hb dX0_topOfProduct_94 (by decide) ?_
  refine pcall C (cX0_lower_met l _ _ _ rfl) sc_X0_lower tw_175 (by decide) rfl hl.1 (rest := [.long (sl ((((su x0 27) * (su x2 27)) + (su (((su x0 27) * (jX0_lowPlaces x2 27)) + ((jX0_lowPlaces x0 27) * (su x2 27))) 27)) + (su (((jX0_lowPlaces x0 27) * (jX0_lowPlaces x2 27)) + (sl (jX0_lowPlaces (((su x0 27) * (jX0_lowPlaces x2 27)) + ((jX0_lowPlaces x0 27) * (su x2 27))) 27) 27)) 54)) 9)]) rfl (Nat.le_of_ble_eq_true rfl) (by decide) dX0_topOfProduct_96 ?_
  refine lv_lor hx hb dX0_topOfProduct_99 ?_
  exact W.lret hx hb hr (fun t ht _ => ⟨by rw [← h], ht⟩) (fun q h9 => nomatch h9) dX0_topOfProduct_100
theorem sc_X0_topOfProduct : SC yX0_topOfProduct cX0_topOfProduct 20 (some .long) 2 := ⟨tw_191, tw_1, tw_192, by decide +kernel⟩
theorem cX0_topOfProduct_met (l : Launch) (x0 : Int64) (x2 : Int64) (v : Int64) (h : jX0_topOfProduct x0 x2 = v) : PM l yX0_topOfProduct cX0_topOfProduct 20 (some .long) (rmz 2 46) [.long x0, .long x2] (.long v) :=
  pm_of (own := RX0) (by decide +kernel) rfl (Nat.le_of_ble_eq_true rfl) (fun p e s m below meth c ls C hl => wX0_topOfProduct_0 C x0 x2 ls v hl h)

/-! RealDesk.product(JJ)J -/
def jX0_product (x0 : Int64) (x2 : Int64) : Int64 := (if x0 = 0 then 0 else (if x2 = 0 then 0 else jX0_withSignOf (jX0_nearest (jX0_topOfProduct (jX0_liftedM x0) (jX0_liftedM x2)) (((jX0_liftedE x0) + (jX0_liftedE x2)) + 45)) (x0 ^^^ x2)))
set_option maxHeartbeats 4000000 in
set_option maxRecDepth 100000 in
theorem wX0_product_0 {p : Program} {l : Launch} {e : Env} {s : State} {m : MethodId} {args : Array Value} {below : List Frame} {meth : Method} {c : Code} (C : CX p s m args meth c RX0 cX0_product 5 (some .long)) (x0 : Int64) (x2 : Int64) (ls : Array Slot) (v : Int64) (hl : lv_has ls 5 [(0, .long x0), (2, .long x2)]) (h : jX0_product x0 x2 = v) : W p l e (rmz 4 87) s m args below meth c s.heap [] 0 0 (MQ below (k2_QcV (.long v)) args s 0 0 (fun _ => False)) (F0 m 0 ls []) := by
  obtain ⟨hx, hb, hml, hown, hg, hr, hlocks⟩ := id C
  unfold jX0_product at h
  refine lv_lload_n hx hb dX0_product_0 rfl (lv_at hl 0 rfl) ?_
  refine lv_lconst (v := 0) hx hb dX0_product_1 (by decide) ?_
  refine lc_eq (tgt := 12) hx hb dX0_product_2 dX0_product_3 (by decide) (fun c_1 => ?_) (fun c_1 => ?_)
  · rw [if_pos c_1] at h
    refine lv_lconst (v := 0) hx hb dX0_product_12 (by decide) ?_
    exact W.lret hx hb hr (fun t ht _ => ⟨by rw [← h], ht⟩) (fun q h9 => nomatch h9) dX0_product_13
  · rw [if_neg c_1] at h
    refine lv_lload_n hx hb dX0_product_6 rfl (lv_at hl 1 rfl) ?_
    refine lv_lconst (v := 0) hx hb dX0_product_7 (by decide) ?_
    refine lc_ne (tgt := 14) hx hb dX0_product_8 dX0_product_9 (by decide) (fun c_2 => ?_) (fun c_2 => ?_)
    · rw [if_neg c_2] at h
      refine lv_lload_n hx hb dX0_product_14 rfl (lv_at hl 0 rfl) ?_
      refine pcall C (cX0_liftedE_met l _ _ rfl) sc_X0_liftedE tw_181 (by decide) rfl hl.1 (rest := []) rfl (Nat.le_of_ble_eq_true rfl) (by decide) dX0_product_15 ?_
      refine lv_lload_n hx hb dX0_product_18 rfl (lv_at hl 1 rfl) ?_
      refine pcall C (cX0_liftedE_met l _ _ rfl) sc_X0_liftedE tw_181 (by decide) rfl hl.1 (rest := [.int (jX0_liftedE x0)]) rfl (Nat.le_of_ble_eq_true rfl) (by decide) dX0_product_19 ?_
      refine lv_iadd hx hb dX0_product_22 ?_
      refine lv_bipush (v := 45) hx hb dX0_product_23 (by decide) ?_
      refine lv_iadd hx hb dX0_product_25 ?_
      refine lv_istore (lv' := [(4, .int (((jX0_liftedE x0) + (jX0_liftedE x2)) + 45)), (0, .long x0), (2, .long x2)]) hx hb dX0_product_26 hl (by decide) rfl (fun ls hl => ?_)
      refine lv_lload_n hx hb dX0_product_28 rfl (lv_at hl 1 rfl) ?_
      refine pcall C (cX0_liftedM_met l _ _ rfl) sc_X0_liftedM tw_187 (by decide) rfl hl.1 (rest := []) rfl (Nat.le_of_ble_eq_true rfl) (by decide) dX0_product_29 ?_
      refine lv_lload_n hx hb dX0_product_32 rfl (lv_at hl 2 rfl) ?_
      refine pcall C (cX0_liftedM_met l _ _ rfl) sc_X0_liftedM tw_187 (by decide) rfl hl.1 (rest := [.long (jX0_liftedM x0)]) rfl (Nat.le_of_ble_eq_true rfl) (by decide) dX0_product_33 ?_
      refine pcall C (cX0_topOfProduct_met l _ _ _ rfl) sc_X0_topOfProduct tw_190 (by decide) rfl hl.1 (rest := []) rfl (Nat.le_of_ble_eq_true rfl) (by decide) dX0_product_36 ?_
      refine lv_iload hx hb dX0_product_39 (lv_at hl 0 rfl) ?_
      refine pcall C (cX0_nearest_met l _ _ _ rfl) sc_X0_nearest tw_110 (by decide) rfl hl.1 (rest := []) rfl (Nat.le_of_ble_eq_true rfl) (by decide) dX0_product_41 ?_
      refine lv_lload_n hx hb dX0_product_44 rfl (lv_at hl 1 rfl) ?_
      refine lv_lload_n hx hb dX0_product_45 rfl (lv_at hl 2 rfl) ?_
      refine lv_lxor hx hb dX0_product_46 ?_
      refine pcall C (cX0_withSignOf_met l _ _ _ rfl) sc_X0_withSignOf tw_130 (by decide) rfl hl.1 (rest := []) rfl (Nat.le_of_ble_eq_true rfl) (by decide) dX0_product_47 ?_
      exact W.lret hx hb hr (fun t ht _ => ⟨by rw [← h], ht⟩) (fun q h9 => nomatch h9) dX0_product_50
    · rw [if_pos c_2] at h
      refine lv_lconst (v := 0) hx hb dX0_product_12 (by decide) ?_
      exact W.lret hx hb hr (fun t ht _ => ⟨by rw [← h], ht⟩) (fun q h9 => nomatch h9) dX0_product_13
theorem sc_X0_product : SC yX0_product cX0_product 5 (some .long) 2 := ⟨tw_179, tw_1, tw_180, by decide +kernel⟩
theorem cX0_product_met (l : Launch) (x0 : Int64) (x2 : Int64) (v : Int64) (h : jX0_product x0 x2 = v) : PM l yX0_product cX0_product 5 (some .long) (rmz 4 87) [.long x0, .long x2] (.long v) :=
  pm_of (own := RX0) (by decide +kernel) rfl (Nat.le_of_ble_eq_true rfl) (fun p e s m below meth c ls C hl => wX0_product_0 C x0 x2 ls v hl h)

/-! RealDesk.isSmallProduct(JJ)Z -/
def jX0_isSmallProduct (x0 : Int64) (x2 : Int64) : Int32 := (if x0 = 0 then 0 else (if x2 = 0 then 0 else (if (-960) ≤ ((((63 - (jJ13_numberOfLeadingZeros_95d88 (jX0_topOfProduct (jX0_liftedM x0) (jX0_liftedM x2)))) + 45) + (jX0_liftedE x0)) + (jX0_liftedE x2)) then 0 else 1 : Int32)))
set_option maxHeartbeats 4000000 in
set_option maxRecDepth 100000 in
theorem wX0_isSmallProduct_0 {p : Program} {l : Launch} {e : Env} {s : State} {m : MethodId} {args : Array Value} {below : List Frame} {meth : Method} {c : Code} (C : CX p s m args meth c RX0 cX0_isSmallProduct 7 (some .boolean)) (x0 : Int64) (x2 : Int64) (ls : Array Slot) (v : Int32) (hl : lv_has ls 7 [(0, .long x0), (2, .long x2)]) (h : jX0_isSmallProduct x0 x2 = v) : W p l e (rmz 4 87) s m args below meth c s.heap [] 0 0 (MQ below (k2_QcV (.int v)) args s 0 0 (fun _ => False)) (F0 m 0 ls []) := by
  obtain ⟨hx, hb, hml, hown, hg, hr, hlocks⟩ := id C
  unfold jX0_isSmallProduct at h
  refine lv_lload_n hx hb dX0_isSmallProduct_0 rfl (lv_at hl 0 rfl) ?_
  refine lv_lconst (v := 0) hx hb dX0_isSmallProduct_1 (by decide) ?_
  refine lc_eq (tgt := 12) hx hb dX0_isSmallProduct_2 dX0_isSmallProduct_3 (by decide) (fun c_1 => ?_) (fun c_1 => ?_)
  · rw [if_pos c_1] at h
    refine lv_iconst (v := 0) hx hb dX0_isSmallProduct_12 (by decide) ?_
    exact W.zret hx hb hr (by first | rfl | (split <;> rfl) | (split <;> first | rfl | (split <;> rfl))) (fun t ht _ => ⟨by rw [← h], ht⟩) (fun q h9 => nomatch h9) dX0_isSmallProduct_13
  · rw [if_neg c_1] at h
    refine lv_lload_n hx hb dX0_isSmallProduct_6 rfl (lv_at hl 1 rfl) ?_
    refine lv_lconst (v := 0) hx hb dX0_isSmallProduct_7 (by decide) ?_
    refine lc_ne (tgt := 14) hx hb dX0_isSmallProduct_8 dX0_isSmallProduct_9 (by decide) (fun c_2 => ?_) (fun c_2 => ?_)
    · rw [if_neg c_2] at h
      refine lv_lload_n hx hb dX0_isSmallProduct_14 rfl (lv_at hl 0 rfl) ?_
      refine pcall C (cX0_liftedM_met l _ _ rfl) sc_X0_liftedM tw_187 (by decide) rfl hl.1 (rest := []) rfl (Nat.le_of_ble_eq_true rfl) (by decide) dX0_isSmallProduct_15 ?_
      refine lv_lload_n hx hb dX0_isSmallProduct_18 rfl (lv_at hl 1 rfl) ?_
      refine pcall C (cX0_liftedM_met l _ _ rfl) sc_X0_liftedM tw_187 (by decide) rfl hl.1 (rest := [.long (jX0_liftedM x0)]) rfl (Nat.le_of_ble_eq_true rfl) (by decide) dX0_isSmallProduct_19 ?_
      refine pcall C (cX0_topOfProduct_met l _ _ _ rfl) sc_X0_topOfProduct tw_190 (by decide) rfl hl.1 (rest := []) rfl (Nat.le_of_ble_eq_true rfl) (by decide) dX0_isSmallProduct_22 ?_
      refine lv_lstore (lv' := [(4, .long (jX0_topOfProduct (jX0_liftedM x0) (jX0_liftedM x2))), (0, .long x0), (2, .long x2)]) hx hb dX0_isSmallProduct_25 hl (by decide) rfl (fun ls hl => ?_)
      refine lv_bipush (v := 63) hx hb dX0_isSmallProduct_27 (by decide) ?_
      refine lv_lload hx hb dX0_isSmallProduct_29 (lv_at hl 0 rfl) ?_
      refine pcall C (cJ13_numberOfLeadingZeros_95d88_met l _ _ rfl) sc_J13_numberOfLeadingZeros_95d88 tw_113 (by decide) rfl hl.1 (rest := [.int 63]) rfl (Nat.le_of_ble_eq_true rfl) (by decide) dX0_isSmallProduct_31 ?_
      refine lv_isub hx hb dX0_isSmallProduct_34 ?_
      refine lv_istore (lv' := [(6, .int (63 - (jJ13_numberOfLeadingZeros_95d88 (jX0_topOfProduct (jX0_liftedM x0) (jX0_liftedM x2))))), (4, .long (jX0_topOfProduct (jX0_liftedM x0) (jX0_liftedM x2))), (0, .long x0), (2, .long x2)]) hx hb dX0_isSmallProduct_35 hl (by decide) rfl (fun ls hl => ?_)
      refine lv_iload hx hb dX0_isSmallProduct_37 (lv_at hl 0 rfl) ?_
      refine lv_bipush (v := 45) hx hb dX0_isSmallProduct_39 (by decide) ?_
      refine lv_iadd hx hb dX0_isSmallProduct_41 ?_
      refine lv_lload_n hx hb dX0_isSmallProduct_42 rfl (lv_at hl 2 rfl) ?_
      refine pcall C (cX0_liftedE_met l _ _ rfl) sc_X0_liftedE tw_181 (by decide) rfl hl.1 (rest := [.int ((63 - (jJ13_numberOfLeadingZeros_95d88 (jX0_topOfProduct (jX0_liftedM x0) (jX0_liftedM x2)))) + 45)]) rfl (Nat.le_of_ble_eq_true rfl) (by decide) dX0_isSmallProduct_43 ?_
      refine lv_iadd hx hb dX0_isSmallProduct_46 ?_
      refine lv_lload_n hx hb dX0_isSmallProduct_47 rfl (lv_at hl 3 rfl) ?_
      refine pcall C (cX0_liftedE_met l _ _ rfl) sc_X0_liftedE tw_181 (by decide) rfl hl.1 (rest := [.int (((63 - (jJ13_numberOfLeadingZeros_95d88 (jX0_topOfProduct (jX0_liftedM x0) (jX0_liftedM x2)))) + 45) + (jX0_liftedE x0))]) rfl (Nat.le_of_ble_eq_true rfl) (by decide) dX0_isSmallProduct_48 ?_
      refine lv_iadd hx hb dX0_isSmallProduct_51 ?_
      refine lv_sipush (v := (-960)) hx hb dX0_isSmallProduct_52 (by decide) ?_
      refine rg_i (pj := 63) (v := (if (-960) ≤ ((((63 - (jJ13_numberOfLeadingZeros_95d88 (jX0_topOfProduct (jX0_liftedM x0) (jX0_liftedM x2)))) + 45) + (jX0_liftedE x0)) + (jX0_liftedE x2)) then 0 else 1 : Int32)) (ls := ls) (rest := []) (fun kJ => ?_) ?_
      · refine lv_icmp_ge (tgt := 62) hx hb dX0_isSmallProduct_55 (by decide) (fun c_3 => ?_) (fun c_3 => ?_)
        · refine lv_iconst (v := 0) hx hb dX0_isSmallProduct_62 (by decide) ?_
          exact kJ _ (by rw [if_pos c_3])
        · refine lv_iconst (v := 1) hx hb dX0_isSmallProduct_58 (by decide) ?_
          refine lv_goto (tgt := 63) hx hb dX0_isSmallProduct_59 (by decide) ?_
          exact kJ _ (by rw [if_neg c_3])
      exact W.zret hx hb hr (by first | rfl | (split <;> rfl) | (split <;> first | rfl | (split <;> rfl))) (fun t ht _ => ⟨by rw [← h], ht⟩) (fun q h9 => nomatch h9) dX0_isSmallProduct_63
    · rw [if_pos c_2] at h
      refine lv_iconst (v := 0) hx hb dX0_isSmallProduct_12 (by decide) ?_
      exact W.zret hx hb hr (by first | rfl | (split <;> rfl) | (split <;> first | rfl | (split <;> rfl))) (fun t ht _ => ⟨by rw [← h], ht⟩) (fun q h9 => nomatch h9) dX0_isSmallProduct_13
theorem sc_X0_isSmallProduct : SC yX0_isSmallProduct cX0_isSmallProduct 7 (some .boolean) 2 := ⟨tw_209, tw_1, tw_210, by decide +kernel⟩
theorem cX0_isSmallProduct_met (l : Launch) (x0 : Int64) (x2 : Int64) (v : Int32) (h : jX0_isSmallProduct x0 x2 = v) : PM l yX0_isSmallProduct cX0_isSmallProduct 7 (some .boolean) (rmz 4 87) [.long x0, .long x2] (.int v) :=
  pm_of (own := RX0) (by decide +kernel) rfl (Nat.le_of_ble_eq_true rfl) (fun p e s m below meth c ls C hl => wX0_isSmallProduct_0 C x0 x2 ls v hl h)

/-! RealDesk.productError(JJ)J -/
def jX0_productError (x0 : Int64) (x2 : Int64) : Int64 := (if (jX0_product x0 x2) = 0 then jX0_product x0 x2 else (if (jX0_isOver (jX0_product x0 x2)) = 0 then jX0_withSignOf (jX0_nearest (jabsl (((jX0_liftedM x0) * (jX0_liftedM x2)) - (sl (jX0_mOf (jX0_product x0 x2)) ((jX0_eOf (jX0_product x0 x2)) - ((jX0_liftedE x0) + (jX0_liftedE x2)))))) ((jX0_liftedE x0) + (jX0_liftedE x2))) ((((jX0_liftedM x0) * (jX0_liftedM x2)) - (sl (jX0_mOf (jX0_product x0 x2)) ((jX0_eOf (jX0_product x0 x2)) - ((jX0_liftedE x0) + (jX0_liftedE x2))))) ^^^ (jX0_product x0 x2)) else jX0_product x0 x2))
set_option maxHeartbeats 4000000 in
set_option maxRecDepth 100000 in
theorem wX0_productError_0 {p : Program} {l : Launch} {e : Env} {s : State} {m : MethodId} {args : Array Value} {below : List Frame} {meth : Method} {c : Code} (C : CX p s m args meth c RX0 cX0_productError 11 (some .long)) (x0 : Int64) (x2 : Int64) (ls : Array Slot) (v : Int64) (hl : lv_has ls 11 [(0, .long x0), (2, .long x2)]) (h : jX0_productError x0 x2 = v) : W p l e (rmz 5 111) s m args below meth c s.heap [] 0 0 (MQ below (k2_QcV (.long v)) args s 0 0 (fun _ => False)) (F0 m 0 ls []) := by
  obtain ⟨hx, hb, hml, hown, hg, hr, hlocks⟩ := id C
  unfold jX0_productError at h
  refine lv_lload_n hx hb dX0_productError_0 rfl (lv_at hl 0 rfl) ?_
  refine lv_lload_n hx hb dX0_productError_1 rfl (lv_at hl 1 rfl) ?_
  refine pcall C (cX0_product_met l _ _ _ rfl) sc_X0_product tw_178 (by decide) rfl hl.1 (rest := []) rfl (Nat.le_of_ble_eq_true rfl) (by decide) dX0_productError_2 ?_
  refine lv_lstore (lv' := [(4, .long (jX0_product x0 x2)), (0, .long x0), (2, .long x2)]) hx hb dX0_productError_5 hl (by decide) rfl (fun ls hl => ?_)
  refine lv_lload hx hb dX0_productError_7 (lv_at hl 0 rfl) ?_
  refine lv_lconst (v := 0) hx hb dX0_productError_9 (by decide) ?_
  refine lc_eq (tgt := 22) hx hb dX0_productError_10 dX0_productError_11 (by decide) (fun c_1 => ?_) (fun c_1 => ?_)
  · rw [if_pos c_1] at h
    refine lv_lload hx hb dX0_productError_22 (lv_at hl 0 rfl) ?_
    exact W.lret hx hb hr (fun t ht _ => ⟨by rw [← h], ht⟩) (fun q h9 => nomatch h9) dX0_productError_24
  · rw [if_neg c_1] at h
    refine lv_lload hx hb dX0_productError_14 (lv_at hl 0 rfl) ?_
    refine pcall C (cX0_isOver_met l _ _ rfl) sc_X0_isOver tw_137 (by decide) rfl hl.1 (rest := []) rfl (Nat.le_of_ble_eq_true rfl) (by decide) dX0_productError_16 ?_
    refine lv_if_eq (tgt := 25) hx hb dX0_productError_19 (by decide) (fun c_2 => ?_) (fun c_2 => ?_)
    · rw [if_pos c_2] at h
      refine lv_lload_n hx hb dX0_productError_25 rfl (lv_at hl 1 rfl) ?_
      refine pcall C (cX0_liftedE_met l _ _ rfl) sc_X0_liftedE tw_181 (by decide) rfl hl.1 (rest := []) rfl (Nat.le_of_ble_eq_true rfl) (by decide) dX0_productError_26 ?_
      refine lv_lload_n hx hb dX0_productError_29 rfl (lv_at hl 2 rfl) ?_
      refine pcall C (cX0_liftedE_met l _ _ rfl) sc_X0_liftedE tw_181 (by decide) rfl hl.1 (rest := [.int (jX0_liftedE x0)]) rfl (Nat.le_of_ble_eq_true rfl) (by decide) dX0_productError_30 ?_
      refine lv_iadd hx hb dX0_productError_33 ?_
      refine lv_istore (lv' := [(6, .int ((jX0_liftedE x0) + (jX0_liftedE x2))), (4, .long (jX0_product x0 x2)), (0, .long x0), (2, .long x2)]) hx hb dX0_productError_34 hl (by decide) rfl (fun ls hl => ?_)
      refine lv_lload_n hx hb dX0_productError_36 rfl (lv_at hl 2 rfl) ?_
      refine pcall C (cX0_liftedM_met l _ _ rfl) sc_X0_liftedM tw_187 (by decide) rfl hl.1 (rest := []) rfl (Nat.le_of_ble_eq_true rfl) (by decide) dX0_productError_37 ?_
      refine lv_lload_n hx hb dX0_productError_40 rfl (lv_at hl 3 rfl) ?_
      refine pcall C (cX0_liftedM_met l _ _ rfl) sc_X0_liftedM tw_187 (by decide) rfl hl.1 (rest := [.long (jX0_liftedM x0)]) rfl (Nat.le_of_ble_eq_true rfl) (by decide) dX0_productError_41 ?_
      refine lv_lmul hx hb dX0_productError_44 ?_
      refine lv_lstore (lv' := [(7, .long ((jX0_liftedM x0) * (jX0_liftedM x2))), (6, .int ((jX0_liftedE x0) + (jX0_liftedE x2))), (4, .long (jX0_product x0 x2)), (0, .long x0), (2, .long x2)]) hx hb dX0_productError_45 hl (by decide) rfl (fun ls hl => ?_)
      refine lv_lload hx hb dX0_productError_47 (lv_at hl 0 rfl) ?_
      refine lv_lload hx hb dX0_productError_49 (lv_at hl 2 rfl) ?_
      refine pcall C (cX0_mOf_met l _ _ rfl) sc_X0_mOf tw_171 (by decide) rfl hl.1 (rest := [.long ((jX0_liftedM x0) * (jX0_liftedM x2))]) rfl (Nat.le_of_ble_eq_true rfl) (by decide) dX0_productError_51 ?_
      refine lv_lload hx hb dX0_productError_54 (lv_at hl 2 rfl) ?_
      refine pcall C (cX0_eOf_met l _ _ rfl) sc_X0_eOf tw_165 (by decide) rfl hl.1 (rest := [.long (jX0_mOf (jX0_product x0 x2)), .long ((jX0_liftedM x0) * (jX0_liftedM x2))]) rfl (Nat.le_of_ble_eq_true rfl) (by decide) dX0_productError_56 ?_
      refine lv_iload hx hb dX0_productError_59 (lv_at hl 1 rfl) ?_
      refine lv_isub hx hb dX0_productError_61 ?_
      refine lv_lshl (v := sl (jX0_mOf (jX0_product x0 x2)) ((jX0_eOf (jX0_product x0 x2)) - ((jX0_liftedE x0) + (jX0_liftedE x2)))) hx hb dX0_productError_62 rfl ?_
      refine lv_lsub hx hb dX0_productError_63 ?_
      refine lv_lstore (lv' := [(9, .long (((jX0_liftedM x0) * (jX0_liftedM x2)) - (sl (jX0_mOf (jX0_product x0 x2)) ((jX0_eOf (jX0_product x0 x2)) - ((jX0_liftedE x0) + (jX0_liftedE x2)))))), (7, .long ((jX0_liftedM x0) * (jX0_liftedM x2))), (6, .int ((jX0_liftedE x0) + (jX0_liftedE x2))), (4, .long (jX0_product x0 x2)), (0, .long x0), (2, .long x2)]) hx hb dX0_productError_64 hl (by decide) rfl (fun ls hl => ?_)
      refine lv_lload hx hb dX0_productError_66 (lv_at hl 0 rfl) ?_
      refine q_absl C tw_107 (by decide) (Nat.le_of_ble_eq_true rfl) (by decide) hl.1 dX0_productError_68 ?_
      refine lv_iload hx hb dX0_productError_71 (lv_at hl 2 rfl) ?_
      refine pcall C (cX0_nearest_met l _ _ _ rfl) sc_X0_nearest tw_110 (by decide) rfl hl.1 (rest := []) rfl (Nat.le_of_ble_eq_true rfl) (by decide) dX0_productError_73 ?_
      refine lv_lload hx hb dX0_productError_76 (lv_at hl 0 rfl) ?_
      refine lv_lload hx hb dX0_productError_78 (lv_at hl 3 rfl) ?_
      refine lv_lxor hx hb dX0_productError_80 ?_
      refine pcall C (cX0_withSignOf_met l _ _ _ rfl) sc_X0_withSignOf tw_130 (by decide) rfl hl.1 (rest := []) rfl (Nat.le_of_ble_eq_true rfl) (by decide) dX0_productError_81 ?_
      exact W.lret hx hb hr (fun t ht _ => ⟨by rw [← h], ht⟩) (fun q h9 => nomatch h9) dX0_productError_84
    · rw [if_neg c_2] at h
      refine lv_lload hx hb dX0_productError_22 (lv_at hl 0 rfl) ?_
      exact W.lret hx hb hr (fun t ht _ => ⟨by rw [← h], ht⟩) (fun q h9 => nomatch h9) dX0_productError_24
theorem sc_X0_productError : SC yX0_productError cX0_productError 11 (some .long) 2 := ⟨tw_212, tw_1, tw_213, by decide +kernel⟩
theorem cX0_productError_met (l : Launch) (x0 : Int64) (x2 : Int64) (v : Int64) (h : jX0_productError x0 x2 = v) : PM l yX0_productError cX0_productError 11 (some .long) (rmz 5 111) [.long x0, .long x2] (.long v) :=
  pm_of (own := RX0) (by decide +kernel) rfl (Nat.le_of_ble_eq_true rfl) (fun p e s m below meth c ls C hl => wX0_productError_0 C x0 x2 ls v hl h)

/-! RealDeskModel.isRegister(I)Z -/
def jX2_isRegister (x0 : Int32) : Int32 := (if x0 < 0 then 0 else (if 16 ≤ x0 then 0 else 1 : Int32) : Int32)
set_option maxHeartbeats 4000000 in
set_option maxRecDepth 100000 in
theorem wX2_isRegister_0 {p : Program} {l : Launch} {e : Env} {s : State} {m : MethodId} {args : Array Value} {below : List Frame} {meth : Method} {c : Code} (C : CX p s m args meth c RX2 cX2_isRegister 1 (some .boolean)) (x0 : Int32) (ls : Array Slot) (v : Int32) (hl : lv_has ls 1 [(0, .int x0)]) (h : jX2_isRegister x0 = v) : W p l e (rmz 0 0) s m args below meth c s.heap [] 0 0 (MQ below (k2_QcV (.int v)) args s 0 0 (fun _ => False)) (F0 m 0 ls []) := by
  obtain ⟨hx, hb, hml, hown, hg, hr, hlocks⟩ := id C
  unfold jX2_isRegister at h
  refine lv_iload_n hx hb dX2_isRegister_0 rfl (lv_at hl 0 rfl) ?_
  refine rg_i (pj := 15) (v := (if x0 < 0 then 0 else (if 16 ≤ x0 then 0 else 1 : Int32) : Int32)) (ls := ls) (rest := []) (fun kJ => ?_) ?_
  · refine lv_if_lt (tgt := 14) hx hb dX2_isRegister_1 (by decide) (fun c_1 => ?_) (fun c_1 => ?_)
    · refine lv_iconst (v := 0) hx hb dX2_isRegister_14 (by decide) ?_
      exact kJ _ (by rw [if_pos c_1])
    · refine lv_iload_n hx hb dX2_isRegister_4 rfl (lv_at hl 0 rfl) ?_
      refine lv_bipush (v := 16) hx hb dX2_isRegister_5 (by decide) ?_
      refine lv_icmp_ge (tgt := 14) hx hb dX2_isRegister_7 (by decide) (fun c_2 => ?_) (fun c_2 => ?_)
      · refine lv_iconst (v := 0) hx hb dX2_isRegister_14 (by decide) ?_
        exact kJ _ (by rw [if_neg c_1, if_pos c_2])
      · refine lv_iconst (v := 1) hx hb dX2_isRegister_10 (by decide) ?_
        refine lv_goto (tgt := 15) hx hb dX2_isRegister_11 (by decide) ?_
        exact kJ _ (by rw [if_neg c_1, if_neg c_2])
  exact W.zret hx hb hr (by first | rfl | (split <;> rfl) | (split <;> first | rfl | (split <;> rfl))) (fun t ht _ => ⟨by rw [← h], ht⟩) (fun q h9 => nomatch h9) dX2_isRegister_15
theorem sc_X2_isRegister : SC yX2_isRegister cX2_isRegister 1 (some .boolean) 1 := ⟨tw_363, tw_2, tw_364, by decide +kernel⟩
theorem cX2_isRegister_met (l : Launch) (x0 : Int32) (v : Int32) (h : jX2_isRegister x0 = v) : PM l yX2_isRegister cX2_isRegister 1 (some .boolean) (rmz 0 0) [.int x0] (.int v) :=
  pm_of (own := RX2) (by decide +kernel) rfl (Nat.le_of_ble_eq_true rfl) (fun p e s m below meth c ls C hl => wX2_isRegister_0 C x0 ls v hl h)

/-! RealDeskModel.within(III)Z -/
def jX2_within (x0 : Int32) (x1 : Int32) (x2 : Int32) : Int32 := (if x0 < x1 then 0 else (if x2 < x0 then 0 else 1 : Int32) : Int32)
set_option maxHeartbeats 4000000 in
set_option maxRecDepth 100000 in
theorem wX2_within_0 {p : Program} {l : Launch} {e : Env} {s : State} {m : MethodId} {args : Array Value} {below : List Frame} {meth : Method} {c : Code} (C : CX p s m args meth c RX2 cX2_within 3 (some .boolean)) (x0 : Int32) (x1 : Int32) (x2 : Int32) (ls : Array Slot) (v : Int32) (hl : lv_has ls 3 [(0, .int x0), (1, .int x1), (2, .int x2)]) (h : jX2_within x0 x1 x2 = v) : W p l e (rmz 0 0) s m args below meth c s.heap [] 0 0 (MQ below (k2_QcV (.int v)) args s 0 0 (fun _ => False)) (F0 m 0 ls []) := by
  obtain ⟨hx, hb, hml, hown, hg, hr, hlocks⟩ := id C
  unfold jX2_within at h
  refine lv_iload_n hx hb dX2_within_0 rfl (lv_at hl 0 rfl) ?_
  refine lv_iload_n hx hb dX2_within_1 rfl (lv_at hl 1 rfl) ?_
  refine rg_i (pj := 15) (v := (if x0 < x1 then 0 else (if x2 < x0 then 0 else 1 : Int32) : Int32)) (ls := ls) (rest := []) (fun kJ => ?_) ?_
  · refine lv_icmp_lt (tgt := 14) hx hb dX2_within_2 (by decide) (fun c_1 => ?_) (fun c_1 => ?_)
    · refine lv_iconst (v := 0) hx hb dX2_within_14 (by decide) ?_
      exact kJ _ (by rw [if_pos c_1])
    · refine lv_iload_n hx hb dX2_within_5 rfl (lv_at hl 0 rfl) ?_
      refine lv_iload_n hx hb dX2_within_6 rfl (lv_at hl 2 rfl) ?_
      refine lv_icmp_gt (tgt := 14) hx hb dX2_within_7 (by decide) (fun c_2 => ?_) (fun c_2 => ?_)
      · refine lv_iconst (v := 0) hx hb dX2_within_14 (by decide) ?_
        exact kJ _ (by rw [if_neg c_1, if_pos c_2])
      · refine lv_iconst (v := 1) hx hb dX2_within_10 (by decide) ?_
        refine lv_goto (tgt := 15) hx hb dX2_within_11 (by decide) ?_
        exact kJ _ (by rw [if_neg c_1, if_neg c_2])
  exact W.zret hx hb hr (by first | rfl | (split <;> rfl) | (split <;> first | rfl | (split <;> rfl))) (fun t ht _ => ⟨by rw [← h], ht⟩) (fun q h9 => nomatch h9) dX2_within_15
theorem sc_X2_within : SC yX2_within cX2_within 3 (some .boolean) 3 := ⟨tw_368, tw_2, tw_369, by decide +kernel⟩
theorem cX2_within_met (l : Launch) (x0 : Int32) (x1 : Int32) (x2 : Int32) (v : Int32) (h : jX2_within x0 x1 x2 = v) : PM l yX2_within cX2_within 3 (some .boolean) (rmz 0 0) [.int x0, .int x1, .int x2] (.int v) :=
  pm_of (own := RX2) (by decide +kernel) rfl (Nat.le_of_ble_eq_true rfl) (fun p e s m below meth c ls C hl => wX2_within_0 C x0 x1 x2 ls v hl h)
end
section
/-! switches -/
section SW
variable {p : Program} {l : Launch} {e : Env} {R : Room} {s : State} {m : MethodId} {args : Array Value} {below : List Frame} {meth : Method} {c : Code} {H : Heap} {locs : List Loc} {cells slots : Nat} {Q : State → Prop}
variable {cc : ByteArray} {pc : Nat} {ls : Array Slot} {rest : List Value}
theorem sw_in (hx : p.tables.exec = Jvm.exec) (hb : c.code = cc) {dflt lo hi : Int} {offs : Array Int} {len : Nat} {x : Int32} (v : Int32) (tgt : Nat) (hdg : decode cc pc = .ok (.tableswitch dflt lo hi offs, len)) (hv : x = v) (h1 : ¬ v.toInt < lo) (h2 : ¬ hi < v.toInt) (ho : (offs[(v.toInt - lo).toNat]?).map (fun o => (pc : Int) + o) = some (tgt : Int))
    (k : W p l e R s m args below meth c H locs cells slots Q (F0 m tgt ls rest)) : W p l e R s m args below meth c H locs cells slots Q (F0 m pc ls (.int x :: rest)) := by
  subst hv
  cases hq : offs[(x.toInt - lo).toNat]? with
  | none => rw [hq] at ho; cases ho
  | some o =>
    rw [hq] at ho
    exact lv_tableIn hx hb hdg h1 h2 hq (Option.some.inj ho) k
theorem sw_def (hx : p.tables.exec = Jvm.exec) (hb : c.code = cc) {dflt lo hi : Int} {offs : Array Int} {len : Nat} {x : Int32} (tgt n : Nat) (mains : List Int32) (hdg : decode cc pc = .ok (.tableswitch dflt lo hi offs, len)) (ht : (pc : Int) + dflt = (tgt : Int)) (hn : (n : Int) = hi - lo + 1)
    (hd : ∀ k, k < n → offs[k]? = some dflt ∨ Int32.ofInt (lo + (k : Int)) ∈ mains) (hm : ∀ v ∈ mains, ¬ x = v)
    (k : W p l e R s m args below meth c H locs cells slots Q (F0 m tgt ls rest)) : W p l e R s m args below meth c H locs cells slots Q (F0 m pc ls (.int x :: rest)) := by
  by_cases h1 : x.toInt < lo
  · exact lv_tableOut hx hb hdg (Or.inl h1) ht k
  · by_cases h2 : hi < x.toInt
    · exact lv_tableOut hx hb hdg (Or.inr h2) ht k
    · rcases hd (x.toInt - lo).toNat (by omega) with h | h
      · exact lv_tableIn hx hb hdg h1 h2 h ht k
      · exfalso
        have e1 : lo + ((x.toInt - lo).toNat : Int) = x.toInt := by omega
        rw [e1, Int32.ofInt_toInt] at h
        exact hm x h rfl
end SW
/-! checks that a partial function makes -/
def nn (r : UInt64) : Bool := decide (r &&& 0x7fffffffffffffff ≤ 0x7ff0000000000000)
theorem nn_of {r : UInt64} (h : nn r = true) : vf_n64 r := by
  have h2 : r &&& 0x7fffffffffffffff ≤ 0x7ff0000000000000 := of_decide_eq_true h
  exact h2
def ok (i : Int32) (n : Nat) : Bool := decide (0 ≤ i.toInt ∧ i.toInt < n)
theorem ok_in {i : Int32} {n : Nat} (h : ok i n = true) : vp_in i n := vp_in_iff.mpr (of_decide_eq_true h)
def bz (x : Int32) : Bool := decide (x = 0 ∨ x = 1)
theorem bz_n {x : Int32} (h : bz x = true) : narrow .boolean (.int x) = .int x := by
  rcases of_decide_eq_true h with rfl | rfl <;> rfl
theorem bz_f {x : Int32} (h : bz x = true) : fits .boolean (.int x) = true := by
  rcases of_decide_eq_true h with rfl | rfl <;> rfl
theorem bz_v {x : Int32} (h : bz x = true) : vp_nar .boolean x = x := by
  rcases of_decide_eq_true h with rfl | rfl <;> rfl
/-! words that aren't in gtbl, but that every road keeps -/
def XT (U : State) : Prop := va_Nw (.fieldLinkNest "RealDeskModel" 112 "RealDeskModel$Big" "parts" "[I" "RealDeskModel") U ∧ va_Nw (.castable "java/lang/IllegalArgumentException" "java/lang/IllegalArgumentException") U ∧ va_Nw (.castable "java/lang/IllegalStateException" "java/lang/IllegalStateException") U ∧ va_Nc "java/lang/IllegalStateException" "java/lang/IllegalArgumentException" U
theorem XT.warm {s U : State} (hW : s.WarmedH U.vm) (h : XT s) : XT U := ⟨va_Nw.warmF hW h.1, va_Nw.warmC hW h.2.1, va_Nw.warmC hW h.2.2.1, h.2.2.2.moved hW.alike⟩
theorem XT.same {s U : State} (h9 : s.vm = U.vm) (h : XT s) : XT U := ⟨va_tabs rfl h9 h.1, va_tabs rfl h9 h.2.1, va_tabs rfl h9 h.2.2.1, h.2.2.2.moved (by rw [h9]; exact Vm.Alike.refl _)⟩
/-! a method over a world of cells: from w it answers v and leaves w1, nothing else is written -/
def HP (D : va_G) (tys : List (ClassId × FieldType)) (w : va_W) (sz : Nat) (U : State) : Prop := U.heap.size = sz ∧ va_P D vwCl w U.heap ∧ va_K D vwCl tys U ∧ va_D (fun _ => True) w ∧ XT U
def HQ (D : va_G) (A : Nat → Prop) (w : va_W) (v : Option Value) : Array Value → State → Outcome → State → Prop := fun _ st o t => o = .returned v ∧ va_P D vwCl w t.heap ∧ va_D A w ∧ va_F A st t
def HM (l : Launch) (y : MethodName) (cc : ByteArray) (n : Nat) (ret : Option FieldType) (rm : Room) (As : List Value) (tys : List (ClassId × FieldType)) (w : va_W) (v : Option Value) (w1 : va_W) : Prop :=
  ∀ (D : va_G) (sz : Nat), Met l y (WS y cc n ret) rm (va_Pc As (HP D tys w sz)) (HQ D (va_A w sz) w1 v) 0 0 (va_A w sz)
theorem HP.blind {D : va_G} {tys : List (ClassId × FieldType)} {w : va_W} {sz : Nat} {As : List Value} : FrameBlind (va_Pc As (HP D tys w sz)) := fun a U g mk q => ⟨q.1, q.2.1, q.2.2.1, va_K.moved (u := U) (U := U.calling g mk a) (Vm.Alike.refl U.vm) q.2.2.2.1, q.2.2.2.2.1, XT.same rfl q.2.2.2.2.2⟩
theorem hm_of {l : Launch} {y : MethodName} {cc : ByteArray} {n : Nat} {ret : Option FieldType} {own : String} {rm : Room} {As : List Value} {tys : List (ClassId × FieldType)} {w w1 : va_W} {v : Option Value} (hy : plainName y.cls = true) (hown : y.cls = own) (hlen : (lg_sl As).length ≤ n)
    (body : ∀ (D : va_G) (A : Nat → Prop) (p : Program) (e : Env) (s : State) (m : MethodId) (below : List Frame) (meth : Method) (c : Code) (ls : Array Slot), CX p s m As.toArray meth c own cc n ret → (∀ q, s.heap.size ≤ q → A q) → va_K D vwCl tys s → XT s → va_P D vwCl w s.heap → va_D A w → va_S A s.heap s.heap [] → lv_has ls n (lv_args 0 As) →
      W p l e rm s m As.toArray below meth c s.heap [] 0 0 (MQ below (HQ D A w1 v) As.toArray s 0 0 A) (F0 m 0 ls [])) : HM l y cc n ret rm As tys w v w1 := by
  intro D sz
  refine met_of hy hown hlen (fun p e s m below meth c ls C _ hB hl => ?_)
  obtain ⟨rfl, hP, hK, hD, hX⟩ := hB
  exact body D _ p e s m below meth c ls C (fun q h => Or.inr h) hK hX hP hD.self va_S.rf hl
section HC
variable {p : Program} {l : Launch} {e : Env} {R : Room} {s : State} {m : MethodId} {args : Array Value} {below : List Frame} {meth : Method} {c : Code} {H : Heap} {locs : List Loc} {cells slots : Nat} {Q : State → Prop}
variable {own : String} {cc : ByteArray} {nL : Nat} {ret0 : Option FieldType} {pc : Nat} {ls : Array Slot} {rest : List Value} {D : va_G} {tys : List (ClassId × FieldType)} {A : Nat → Prop} {ws : va_W}
theorem hrun {mc ms : Nat} {g : JFrame} {As : List Value} {wc wr w1 wf : va_W} {v : Option Value} (hP : va_P D vwCl ws H) (hD : va_D A ws) (hS : va_S A s.heap H locs) (hA : ∀ q, s.heap.size ≤ q → A q) (isC isR isF : List Nat) (hC : isC.map (fun i => ws[i]?) = wc.map some) (hR : isR.map (fun i => ws[i]?) = wr.map some) (hn : va_nd isR = true) (hdis : ∀ i ∈ isR, i ∉ isC)
    (hF1 : isF.filterMap (fun i => (wr ++ w1)[i]?) = wf) (hF2 : isF.map (fun i => (wr ++ w1)[i]?) = wf.map some) (hF3 : va_nd isF = true)
    (hr : CallRun p l e R s m args below meth c H locs cells slots mc ms g rest (HQ D (va_A wc H.size) w1 v As.toArray) (va_A wc H.size))
    (k : ∀ (H1 : Heap) (locs1 : List Loc), va_P D vwCl wf H1 → va_D A wf → va_S A s.heap H1 locs1 → W p l e R s m args below meth c H1 locs1 (cells + mc) (slots + ms) Q { g with pc := g.pc + 3, stack := v.toList ++ rest }) : W p l e R s m args below meth c H locs cells slots Q g := by
  intro T hT X
  obtain ⟨v9, st₀, t, T', L, h0, X', hL, e1, ⟨hv, hP1, hD1, hF⟩, st⟩ := hr T hT X
  cases hv
  have hFc := va_free (wc := wc) hD hS hA isC hC
  obtain ⟨hz, hk⟩ := hF
  rw [h0] at hz hk
  obtain ⟨hP2, hD2⟩ := va_join (wr := wr) (w1 := w1) (H1 := T'.heap) hP hD isC isR hC hR hn hdis (fun q h1 h2 => by rw [e1]; exact hk q h1 h2) hFc (by rw [e1]; exact hP1) hD1
  have hS2 : va_S A s.heap T'.heap (locs ++ L) := ⟨Nat.le_trans hS.1 (by rw [e1]; exact hz), fun q h1 h2 => by
      rw [e1, hk q (Nat.lt_of_lt_of_le h1 hS.1) (fun z => h2 (hFc q z))]; exact hS.2.1 q h1 h2, fun q hq => by
      rcases List.mem_append.mp hq with h | h
      · exact hS.2.2 q h
      · exact hFc _ (hL q h)⟩
  obtain ⟨t2, a1, b1⟩ := k T'.heap (locs ++ L) (hP2.sub isF hF1) (hD2.sub isF hF3 hF2) hS2 T' rfl X'
  exact ⟨t2, st t2 a1, b1⟩
/-- a call on an object: the callee's cells wc, the rest wr, behind it wf -/
theorem hcallV (C : CX p s m args meth c own cc nL ret0) (hK : va_K D vwCl tys s) (hX : XT s) (hP : va_P D vwCl ws H) (hD : va_D A ws) (hS : va_S A s.heap H locs) (hA : ∀ q, s.heap.size ≤ q → A q)
    {y : MethodName} {bytes : ByteArray} {maxL n idx b : Nat} {ret : Option FieldType} {rm : Room} {As : List Value} {tysc : List (ClassId × FieldType)} {wc wr w1 wf : va_W} {v : Option Value} {Cn : String} {st0 : List Value} (hM : HM l y bytes maxL ret rm (.ref b :: As) tysc wc v w1) (hV : VC Cn y bytes maxL ret n) (hl : Cond.methodLink own idx y ∈ gtbl)
    (isC isR isF isT : List Nat) (hC : isC.map (fun i => ws[i]?) = wc.map some) (hC1 : isC.filterMap (fun i => ws[i]?) = wc) (hCn : va_nd isC = true) (hR : isR.map (fun i => ws[i]?) = wr.map some) (hn : va_nd isR = true) (hdis : ∀ i ∈ isR, i ∉ isC)
    (hF1 : isF.filterMap (fun i => (wr ++ w1)[i]?) = wf) (hF2 : isF.map (fun i => (wr ++ w1)[i]?) = wf.map some) (hF3 : va_nd isF = true) (hT : isT.filterMap (fun i => tys[i]?) = tysc)
    {q0 ci : Nat} {q : vw_C} {fs : List Value} (hci : vwCl[ci]? = some q) (hq : q.1 = Cn) (he : ws[q0]? = some (b, .inr (ci, fs)))
    (hRm : (rm.frames + 1 ≤ R.frames ∧ 8 + (maxL + 11) + rm.locals ≤ R.locals) ∧ rm.cells = 0 ∧ rm.slots = 0) (hna : As.length = n) (hsz : ls.size = nL) (hst : st0 = As.reverse ++ .ref b :: rest) (hW : (rest.map fun v => v.category).sum ≤ 8) (hc : cells ≤ R.cells ∧ slots ≤ R.slots) (hd : decode cc pc = .ok (.invokevirtual idx, 3))
    (k : ∀ (H1 : Heap) (locs1 : List Loc), va_P D vwCl wf H1 → va_D A wf → va_S A s.heap H1 locs1 → W p l e R s m args below meth c H1 locs1 cells slots Q (F0 m (pc + 3) ls (v.toList ++ rest))) : W p l e R s m args below meth c H locs cells slots Q (F0 m pc ls st0) := by
  obtain ⟨hx, hb, hml, hown, hg, -, -⟩ := C
  have hPc := hP.sub isC hC1
  have hDc := hD.sub isC hCn hC
  have hrec := va_recv hK hP hci he
  rw [hq] at hrec
  exact hrun (g := F0 m pc ls st0) hP hD hS hA isC isR isF hC hR hn hdis hF1 hF2 hF3 (W.runV (Ts := gtbl) (cc := cc) (nL := nL) (C := Cn) ⟨hx, hb, hml, hown, hg⟩ (hM D H.size) (cwV n hg (gi_V hV hl) rfl hRm.2.1 hRm.2.2 hV.2.2.2.2 hRm.1)
    ⟨HP.blind, hrec, fun U hU hW9 => ⟨rfl, by rw [hU], by rw [hU]; exact hPc, (va_K.moved hW9.alike hK).sub isT hT, hDc.weaken (fun _ _ _ _ => trivial), hX.warm hW9⟩⟩ rfl hna hsz hst (lv_room hW) hd hc) k
end HC
theorem inX0 : ∀ w ∈ u_ws RX0 TX0 1, w ∈ gtbl := by
  have h : (u_ws RX0 TX0 1).all (fun w => decide (w ∈ gtbl)) = true := by decide +kernel
  exact fun w hw => of_decide_eq_true (List.all_eq_true.mp h w hw)
theorem inX1 : ∀ w ∈ u_ws RX1 TX1 1, w ∈ gtbl := by
  have h : (u_ws RX1 TX1 1).all (fun w => decide (w ∈ gtbl)) = true := by decide +kernel
  exact fun w hw => of_decide_eq_true (List.all_eq_true.mp h w hw)
theorem inX2 : ∀ w ∈ u_ws RX2 TX2 9, w ∈ gtbl := by
  have h : (u_ws RX2 TX2 9).all (fun w => decide (w ∈ gtbl)) = true := by decide +kernel
  exact fun w hw => of_decide_eq_true (List.all_eq_true.mp h w hw)
end
section
/-! RealDesk.wholeNear(IJ)J -/
def jX0_wholeNear (x0 : Int32) (x1 : Int64) : Int64 := (if (jX0_eOf x1) < 0 then (if x0 = 3 then jX0_withSignOf (jX0_nearest (if 0 ≤ x1 then su (jX0_mOf x1) (jmin (-(jX0_eOf x1)) 62) else (if (jX0_lowPlaces (jX0_mOf x1) (jmin (-(jX0_eOf x1)) 62)) = 0 then su (jX0_mOf x1) (jmin (-(jX0_eOf x1)) 62) else (su (jX0_mOf x1) (jmin (-(jX0_eOf x1)) 62)) + 1 : Int64) : Int64) 0) x1 else (if x0 = 4 then jX0_withSignOf (jX0_nearest (if 0 ≤ x1 then (if (jX0_lowPlaces (jX0_mOf x1) (jmin (-(jX0_eOf x1)) 62)) = 0 then su (jX0_mOf x1) (jmin (-(jX0_eOf x1)) 62) else (su (jX0_mOf x1) (jmin (-(jX0_eOf x1)) 62)) + 1 : Int64) else su (jX0_mOf x1) (jmin (-(jX0_eOf x1)) 62) : Int64) 0) x1 else (if x0 = 5 then jX0_withSignOf (jX0_nearest (su (jX0_mOf x1) (jmin (-(jX0_eOf x1)) 62)) 0) x1 else jX0_withSignOf (jX0_nearest (jX0_nearestWhole (jX0_mOf x1) (jmin (-(jX0_eOf x1)) 62)) 0) x1))) else x1)
set_option maxHeartbeats 4000000 in
set_option maxRecDepth 100000 in
theorem wX0_wholeNear_0 {p : Program} {l : Launch} {e : Env} {s : State} {m : MethodId} {args : Array Value} {below : List Frame} {meth : Method} {c : Code} (C : CX p s m args meth c RX0 cX0_wholeNear 13 (some .long)) (x0 : Int32) (x1 : Int64) (ls : Array Slot) (v : Int64) (hl : lv_has ls 13 [(0, .int x0), (1, .long x1)]) (h : jX0_wholeNear x0 x1 = v) : W p l e (rmz 3 78) s m args below meth c s.heap [] 0 0 (MQ below (k2_QcV (.long v)) args s 0 0 (fun _ => False)) (F0 m 0 ls []) := by
  obtain ⟨hx, hb, hml, hown, hg, hr, hlocks⟩ := id C
  unfold jX0_wholeNear at h
  refine lv_lload_n hx hb dX0_wholeNear_0 rfl (lv_at hl 1 rfl) ?_
  refine pcall C (cX0_eOf_met l _ _ rfl) sc_X0_eOf tw_165 (by decide) rfl hl.1 (rest := []) rfl (Nat.le_of_ble_eq_true rfl) (by decide) dX0_wholeNear_1 ?_
  refine lv_istore_n (lv' := [(3, .int (jX0_eOf x1)), (0, .int x0), (1, .long x1)]) hx hb dX0_wholeNear_4 rfl hl (by decide) rfl (fun ls hl => ?_)
  refine lv_iload_n hx hb dX0_wholeNear_5 rfl (lv_at hl 0 rfl) ?_
  refine lv_if_lt (tgt := 11) hx hb dX0_wholeNear_6 (by decide) (fun c_1 => ?_) (fun c_1 => ?_)
  · rw [if_pos c_1] at h
    refine lv_lload_n hx hb dX0_wholeNear_11 rfl (lv_at hl 2 rfl) ?_
    refine pcall C (cX0_mOf_met l _ _ rfl) sc_X0_mOf tw_171 (by decide) rfl hl.1 (rest := []) rfl (Nat.le_of_ble_eq_true rfl) (by decide) dX0_wholeNear_12 ?_
    refine lv_lstore (lv' := [(4, .long (jX0_mOf x1)), (3, .int (jX0_eOf x1)), (0, .int x0), (1, .long x1)]) hx hb dX0_wholeNear_15 hl (by decide) rfl (fun ls hl => ?_)
    refine lv_iload_n hx hb dX0_wholeNear_17 rfl (lv_at hl 1 rfl) ?_
    refine lv_ineg hx hb dX0_wholeNear_18 ?_
    refine lv_bipush (v := 62) hx hb dX0_wholeNear_19 (by decide) ?_
    refine q_min C tw_168 (by decide) (Nat.le_of_ble_eq_true rfl) (by decide) hl.1 dX0_wholeNear_21 ?_
    refine lv_istore (lv' := [(6, .int (jmin (-(jX0_eOf x1)) 62)), (4, .long (jX0_mOf x1)), (3, .int (jX0_eOf x1)), (0, .int x0), (1, .long x1)]) hx hb dX0_wholeNear_24 hl (by decide) rfl (fun ls hl => ?_)
    refine lv_lload hx hb dX0_wholeNear_26 (lv_at hl 1 rfl) ?_
    refine lv_iload hx hb dX0_wholeNear_28 (lv_at hl 0 rfl) ?_
    refine lv_lushr (v := su (jX0_mOf x1) (jmin (-(jX0_eOf x1)) 62)) hx hb dX0_wholeNear_30 rfl ?_
    refine lv_lstore (lv' := [(7, .long (su (jX0_mOf x1) (jmin (-(jX0_eOf x1)) 62))), (6, .int (jmin (-(jX0_eOf x1)) 62)), (4, .long (jX0_mOf x1)), (3, .int (jX0_eOf x1)), (0, .int x0), (1, .long x1)]) hx hb dX0_wholeNear_31 hl (by decide) rfl (fun ls hl => ?_)
    refine lv_lload hx hb dX0_wholeNear_33 (lv_at hl 2 rfl) ?_
    refine lv_iload hx hb dX0_wholeNear_35 (lv_at hl 1 rfl) ?_
    refine pcall C (cX0_lowPlaces_met l _ _ _ rfl) sc_X0_lowPlaces tw_127 (by decide) rfl hl.1 (rest := []) rfl (Nat.le_of_ble_eq_true rfl) (by decide) dX0_wholeNear_37 ?_
    refine lv_lconst (v := 0) hx hb dX0_wholeNear_40 (by decide) ?_
    refine rg_l (pj := 54) (v := (if (jX0_lowPlaces (jX0_mOf x1) (jmin (-(jX0_eOf x1)) 62)) = 0 then su (jX0_mOf x1) (jmin (-(jX0_eOf x1)) 62) else (su (jX0_mOf x1) (jmin (-(jX0_eOf x1)) 62)) + 1 : Int64)) (ls := ls) (rest := []) (fun kJ => ?_) ?_
    · refine lc_ne (tgt := 50) hx hb dX0_wholeNear_41 dX0_wholeNear_42 (by decide) (fun c_2 => ?_) (fun c_2 => ?_)
      · refine lv_lload hx hb dX0_wholeNear_50 (lv_at hl 0 rfl) ?_
        refine lv_lconst (v := 1) hx hb dX0_wholeNear_52 (by decide) ?_
        refine lv_ladd hx hb dX0_wholeNear_53 ?_
        exact kJ _ (by rw [if_neg c_2])
      · refine lv_lload hx hb dX0_wholeNear_45 (lv_at hl 0 rfl) ?_
        refine lv_goto (tgt := 54) hx hb dX0_wholeNear_47 (by decide) ?_
        exact kJ _ (by rw [if_pos c_2])
    refine lv_lstore (lv' := [(9, .long (if (jX0_lowPlaces (jX0_mOf x1) (jmin (-(jX0_eOf x1)) 62)) = 0 then su (jX0_mOf x1) (jmin (-(jX0_eOf x1)) 62) else (su (jX0_mOf x1) (jmin (-(jX0_eOf x1)) 62)) + 1 : Int64)), (7, .long (su (jX0_mOf x1) (jmin (-(jX0_eOf x1)) 62))), (6, .int (jmin (-(jX0_eOf x1)) 62)), (4, .long (jX0_mOf x1)), (3, .int (jX0_eOf x1)), (0, .int x0), (1, .long x1)]) hx hb dX0_wholeNear_54 hl (by decide) rfl (fun ls hl => ?_)
    refine lv_iload_n hx hb dX0_wholeNear_56 rfl (lv_at hl 5 rfl) ?_
    by_cases c_3 : x0 = 3
    · rw [if_pos c_3] at h
      refine sw_in hx hb 3 88 dX0_wholeNear_57 c_3 (by decide) (by decide) (by decide) ?_
      refine lv_lload_n hx hb dX0_wholeNear_88 rfl (lv_at hl 6 rfl) ?_
      refine lv_lconst (v := 0) hx hb dX0_wholeNear_89 (by decide) ?_
      refine rg_l (pj := 101) (v := (if 0 ≤ x1 then su (jX0_mOf x1) (jmin (-(jX0_eOf x1)) 62) else (if (jX0_lowPlaces (jX0_mOf x1) (jmin (-(jX0_eOf x1)) 62)) = 0 then su (jX0_mOf x1) (jmin (-(jX0_eOf x1)) 62) else (su (jX0_mOf x1) (jmin (-(jX0_eOf x1)) 62)) + 1 : Int64) : Int64)) (ls := ls) (rest := []) (fun kJ => ?_) ?_
      · refine lc_ge (tgt := 99) hx hb dX0_wholeNear_90 dX0_wholeNear_91 (by decide) (fun c_4 => ?_) (fun c_4 => ?_)
        · refine lv_lload hx hb dX0_wholeNear_99 (lv_at hl 1 rfl) ?_
          exact kJ _ (by rw [if_pos c_4])
        · refine lv_lload hx hb dX0_wholeNear_94 (lv_at hl 0 rfl) ?_
          refine lv_goto (tgt := 101) hx hb dX0_wholeNear_96 (by decide) ?_
          exact kJ _ (by rw [if_neg c_4])
      refine lv_lstore (lv' := [(11, .long (if 0 ≤ x1 then su (jX0_mOf x1) (jmin (-(jX0_eOf x1)) 62) else (if (jX0_lowPlaces (jX0_mOf x1) (jmin (-(jX0_eOf x1)) 62)) = 0 then su (jX0_mOf x1) (jmin (-(jX0_eOf x1)) 62) else (su (jX0_mOf x1) (jmin (-(jX0_eOf x1)) 62)) + 1 : Int64) : Int64)), (9, .long (if (jX0_lowPlaces (jX0_mOf x1) (jmin (-(jX0_eOf x1)) 62)) = 0 then su (jX0_mOf x1) (jmin (-(jX0_eOf x1)) 62) else (su (jX0_mOf x1) (jmin (-(jX0_eOf x1)) 62)) + 1 : Int64)), (7, .long (su (jX0_mOf x1) (jmin (-(jX0_eOf x1)) 62))), (6, .int (jmin (-(jX0_eOf x1)) 62)), (4, .long (jX0_mOf x1)), (3, .int (jX0_eOf x1)), (0, .int x0), (1, .long x1)]) hx hb dX0_wholeNear_101 hl (by decide) rfl (fun ls hl => ?_)
      refine lv_goto (tgt := 140) hx hb dX0_wholeNear_103 (by decide) ?_
      refine lv_lload hx hb dX0_wholeNear_140 (lv_at hl 0 rfl) ?_
      refine lv_iconst (v := 0) hx hb dX0_wholeNear_142 (by decide) ?_
      refine pcall C (cX0_nearest_met l _ _ _ rfl) sc_X0_nearest tw_110 (by decide) rfl hl.1 (rest := []) rfl (Nat.le_of_ble_eq_true rfl) (by decide) dX0_wholeNear_143 ?_
      refine lv_lload_n hx hb dX0_wholeNear_146 rfl (lv_at hl 7 rfl) ?_
      refine pcall C (cX0_withSignOf_met l _ _ _ rfl) sc_X0_withSignOf tw_130 (by decide) rfl hl.1 (rest := []) rfl (Nat.le_of_ble_eq_true rfl) (by decide) dX0_wholeNear_147 ?_
      exact W.lret hx hb hr (fun t ht _ => ⟨by rw [← h], ht⟩) (fun q h9 => nomatch h9) dX0_wholeNear_150
    rw [if_neg c_3] at h
    by_cases c_5 : x0 = 4
    · rw [if_pos c_5] at h
      refine sw_in hx hb 4 106 dX0_wholeNear_57 c_5 (by decide) (by decide) (by decide) ?_
      refine lv_lload_n hx hb dX0_wholeNear_106 rfl (lv_at hl 6 rfl) ?_
      refine lv_lconst (v := 0) hx hb dX0_wholeNear_107 (by decide) ?_
      refine rg_l (pj := 119) (v := (if 0 ≤ x1 then (if (jX0_lowPlaces (jX0_mOf x1) (jmin (-(jX0_eOf x1)) 62)) = 0 then su (jX0_mOf x1) (jmin (-(jX0_eOf x1)) 62) else (su (jX0_mOf x1) (jmin (-(jX0_eOf x1)) 62)) + 1 : Int64) else su (jX0_mOf x1) (jmin (-(jX0_eOf x1)) 62) : Int64)) (ls := ls) (rest := []) (fun kJ => ?_) ?_
      · refine lc_ge (tgt := 117) hx hb dX0_wholeNear_108 dX0_wholeNear_109 (by decide) (fun c_6 => ?_) (fun c_6 => ?_)
        · refine lv_lload hx hb dX0_wholeNear_117 (lv_at hl 0 rfl) ?_
          exact kJ _ (by rw [if_pos c_6])
        · refine lv_lload hx hb dX0_wholeNear_112 (lv_at hl 1 rfl) ?_
          refine lv_goto (tgt := 119) hx hb dX0_wholeNear_114 (by decide) ?_
          exact kJ _ (by rw [if_neg c_6])
      refine lv_lstore (lv' := [(11, .long (if 0 ≤ x1 then (if (jX0_lowPlaces (jX0_mOf x1) (jmin (-(jX0_eOf x1)) 62)) = 0 then su (jX0_mOf x1) (jmin (-(jX0_eOf x1)) 62) else (su (jX0_mOf x1) (jmin (-(jX0_eOf x1)) 62)) + 1 : Int64) else su (jX0_mOf x1) (jmin (-(jX0_eOf x1)) 62) : Int64)), (9, .long (if (jX0_lowPlaces (jX0_mOf x1) (jmin (-(jX0_eOf x1)) 62)) = 0 then su (jX0_mOf x1) (jmin (-(jX0_eOf x1)) 62) else (su (jX0_mOf x1) (jmin (-(jX0_eOf x1)) 62)) + 1 : Int64)), (7, .long (su (jX0_mOf x1) (jmin (-(jX0_eOf x1)) 62))), (6, .int (jmin (-(jX0_eOf x1)) 62)), (4, .long (jX0_mOf x1)), (3, .int (jX0_eOf x1)), (0, .int x0), (1, .long x1)]) hx hb dX0_wholeNear_119 hl (by decide) rfl (fun ls hl => ?_)
      refine lv_goto (tgt := 140) hx hb dX0_wholeNear_121 (by decide) ?_
      refine lv_lload hx hb dX0_wholeNear_140 (lv_at hl 0 rfl) ?_
      refine lv_iconst (v := 0) hx hb dX0_wholeNear_142 (by decide) ?_
      refine pcall C (cX0_nearest_met l _ _ _ rfl) sc_X0_nearest tw_110 (by decide) rfl hl.1 (rest := []) rfl (Nat.le_of_ble_eq_true rfl) (by decide) dX0_wholeNear_143 ?_
      refine lv_lload_n hx hb dX0_wholeNear_146 rfl (lv_at hl 7 rfl) ?_
      refine pcall C (cX0_withSignOf_met l _ _ _ rfl) sc_X0_withSignOf tw_130 (by decide) rfl hl.1 (rest := []) rfl (Nat.le_of_ble_eq_true rfl) (by decide) dX0_wholeNear_147 ?_
      exact W.lret hx hb hr (fun t ht _ => ⟨by rw [← h], ht⟩) (fun q h9 => nomatch h9) dX0_wholeNear_150
    rw [if_neg c_5] at h
    by_cases c_7 : x0 = 5
    · rw [if_pos c_7] at h
      refine sw_in hx hb 5 124 dX0_wholeNear_57 c_7 (by decide) (by decide) (by decide) ?_
      refine lv_lload hx hb dX0_wholeNear_124 (lv_at hl 1 rfl) ?_
      refine lv_lstore (lv' := [(11, .long (su (jX0_mOf x1) (jmin (-(jX0_eOf x1)) 62))), (9, .long (if (jX0_lowPlaces (jX0_mOf x1) (jmin (-(jX0_eOf x1)) 62)) = 0 then su (jX0_mOf x1) (jmin (-(jX0_eOf x1)) 62) else (su (jX0_mOf x1) (jmin (-(jX0_eOf x1)) 62)) + 1 : Int64)), (7, .long (su (jX0_mOf x1) (jmin (-(jX0_eOf x1)) 62))), (6, .int (jmin (-(jX0_eOf x1)) 62)), (4, .long (jX0_mOf x1)), (3, .int (jX0_eOf x1)), (0, .int x0), (1, .long x1)]) hx hb dX0_wholeNear_126 hl (by decide) rfl (fun ls hl => ?_)
      refine lv_goto (tgt := 140) hx hb dX0_wholeNear_128 (by decide) ?_
      refine lv_lload hx hb dX0_wholeNear_140 (lv_at hl 0 rfl) ?_
      refine lv_iconst (v := 0) hx hb dX0_wholeNear_142 (by decide) ?_
      refine pcall C (cX0_nearest_met l _ _ _ rfl) sc_X0_nearest tw_110 (by decide) rfl hl.1 (rest := []) rfl (Nat.le_of_ble_eq_true rfl) (by decide) dX0_wholeNear_143 ?_
      refine lv_lload_n hx hb dX0_wholeNear_146 rfl (lv_at hl 7 rfl) ?_
      refine pcall C (cX0_withSignOf_met l _ _ _ rfl) sc_X0_withSignOf tw_130 (by decide) rfl hl.1 (rest := []) rfl (Nat.le_of_ble_eq_true rfl) (by decide) dX0_wholeNear_147 ?_
      exact W.lret hx hb hr (fun t ht _ => ⟨by rw [← h], ht⟩) (fun q h9 => nomatch h9) dX0_wholeNear_150
    rw [if_neg c_7] at h
    refine sw_def hx hb (tgt := 131) (n := 4) [3, 4, 5] dX0_wholeNear_57 (by decide) (by decide) (by decide) (List.forall_mem_cons.mpr ⟨c_3, List.forall_mem_cons.mpr ⟨c_5, List.forall_mem_cons.mpr ⟨c_7, fun _ h9 => nomatch h9⟩⟩⟩) ?_
    refine lv_lload hx hb dX0_wholeNear_131 (lv_at hl 3 rfl) ?_
    refine lv_iload hx hb dX0_wholeNear_133 (lv_at hl 2 rfl) ?_
    refine pcall C (cX0_nearestWhole_met l _ _ _ rfl) sc_X0_nearestWhole tw_124 (by decide) rfl hl.1 (rest := []) rfl (Nat.le_of_ble_eq_true rfl) (by decide) dX0_wholeNear_135 ?_
    refine lv_lstore (lv' := [(11, .long (jX0_nearestWhole (jX0_mOf x1) (jmin (-(jX0_eOf x1)) 62))), (9, .long (if (jX0_lowPlaces (jX0_mOf x1) (jmin (-(jX0_eOf x1)) 62)) = 0 then su (jX0_mOf x1) (jmin (-(jX0_eOf x1)) 62) else (su (jX0_mOf x1) (jmin (-(jX0_eOf x1)) 62)) + 1 : Int64)), (7, .long (su (jX0_mOf x1) (jmin (-(jX0_eOf x1)) 62))), (6, .int (jmin (-(jX0_eOf x1)) 62)), (4, .long (jX0_mOf x1)), (3, .int (jX0_eOf x1)), (0, .int x0), (1, .long x1)]) hx hb dX0_wholeNear_138 hl (by decide) rfl (fun ls hl => ?_)
    refine lv_lload hx hb dX0_wholeNear_140 (lv_at hl 0 rfl) ?_
    refine lv_iconst (v := 0) hx hb dX0_wholeNear_142 (by decide) ?_
    refine pcall C (cX0_nearest_met l _ _ _ rfl) sc_X0_nearest tw_110 (by decide) rfl hl.1 (rest := []) rfl (Nat.le_of_ble_eq_true rfl) (by decide) dX0_wholeNear_143 ?_
    refine lv_lload_n hx hb dX0_wholeNear_146 rfl (lv_at hl 7 rfl) ?_
    refine pcall C (cX0_withSignOf_met l _ _ _ rfl) sc_X0_withSignOf tw_130 (by decide) rfl hl.1 (rest := []) rfl (Nat.le_of_ble_eq_true rfl) (by decide) dX0_wholeNear_147 ?_
    exact W.lret hx hb hr (fun t ht _ => ⟨by rw [← h], ht⟩) (fun q h9 => nomatch h9) dX0_wholeNear_150
  · rw [if_neg c_1] at h
    refine lv_lload_n hx hb dX0_wholeNear_9 rfl (lv_at hl 2 rfl) ?_
    exact W.lret hx hb hr (fun t ht _ => ⟨by rw [← h], ht⟩) (fun q h9 => nomatch h9) dX0_wholeNear_10
theorem sc_X0_wholeNear : SC yX0_wholeNear cX0_wholeNear 13 (some .long) 2 := ⟨tw_229, tw_1, tw_230, by decide +kernel⟩
theorem cX0_wholeNear_met (l : Launch) (x0 : Int32) (x1 : Int64) (v : Int64) (h : jX0_wholeNear x0 x1 = v) : PM l yX0_wholeNear cX0_wholeNear 13 (some .long) (rmz 3 78) [.int x0, .long x1] (.long v) :=
  pm_of (own := RX0) (by decide +kernel) rfl (Nat.le_of_ble_eq_true rfl) (fun p e s m below meth c ls C hl => wX0_wholeNear_0 C x0 x1 ls v hl h)

/-! RealDesk.quotient(JJ)J -/
def jX0_quotient_L38 : Nat → Int64 → Int64 → Int64 → Int64 → Int64 → Int32 → Option Int64
  | 0, _, _, _, _, _, _ => none
  | k + 1, x0, x2, x4, x6, x8, x10 => (if 6 ≤ x10 then some (jX0_withSignOf (jX0_nearest (if x8 = 0 then x6 else x6 ||| 1 : Int64) (((jX0_liftedE x0) - (jX0_liftedE x2)) - 60)) (x0 ^^^ x2)) else (if x4 = 0 then none else (if x4 = 0 then none else jX0_quotient_L38 k x0 x2 x4 ((sl x6 10) ||| ((sl x8 10) / x4)) ((sl x8 10) - (sl x8 10) / x4 * x4) (x10 + 1))))
set_option maxHeartbeats 4000000 in
set_option maxRecDepth 100000 in
theorem wX0_quotient_L38 {p : Program} {l : Launch} {e : Env} {s : State} {m : MethodId} {args : Array Value} {below : List Frame} {meth : Method} {c : Code} (C : CX p s m args meth c RX0 cX0_quotient 13 (some .long)) : ∀ (k : Nat) (x0 : Int64) (x2 : Int64) (x4 : Int64) (x6 : Int64) (x8 : Int64) (x10 : Int32) (ls : Array Slot) (v : Int64), lv_has ls 13 [(0, .long x0), (2, .long x2), (4, .long x4), (6, .long x6), (8, .long x8), (10, .int x10)] → jX0_quotient_L38 k x0 x2 x4 x6 x8 x10 = some v → W p l e (rmz 4 87) s m args below meth c s.heap [] 0 0 (MQ below (k2_QcV (.long v)) args s 0 0 (fun _ => False)) (F0 m 38 ls []) := by
  obtain ⟨hx, hb, hml, hown, hg, hr, hlocks⟩ := id C
  intro k
  induction k with
  | zero => intro x0 x2 x4 x6 x8 x10 ls v hl h; cases h
  | succ k ih =>
    intro x0 x2 x4 x6 x8 x10 ls v hl h
    unfold jX0_quotient_L38 at h
    refine lv_iload hx hb dX0_quotient_38 (lv_at hl 5 rfl) ?_
    refine lv_bipush (v := 6) hx hb dX0_quotient_40 (by decide) ?_
    refine lv_icmp_ge (tgt := 78) hx hb dX0_quotient_42 (by decide) (fun c_1 => ?_) (fun c_1 => ?_)
    · rw [if_pos c_1] at h
      refine lv_lload hx hb dX0_quotient_78 (lv_at hl 4 rfl) ?_
      refine lv_lconst (v := 0) hx hb dX0_quotient_80 (by decide) ?_
      refine rg_l (pj := 94) (v := (if x8 = 0 then x6 else x6 ||| 1 : Int64)) (ls := ls) (rest := []) (fun kJ => ?_) ?_
      · refine lc_ne (tgt := 90) hx hb dX0_quotient_81 dX0_quotient_82 (by decide) (fun c_2 => ?_) (fun c_2 => ?_)
        · refine lv_lload hx hb dX0_quotient_90 (lv_at hl 3 rfl) ?_
          refine lv_lconst (v := 1) hx hb dX0_quotient_92 (by decide) ?_
          refine lv_lor hx hb dX0_quotient_93 ?_
          exact kJ _ (by rw [if_neg c_2])
        · refine lv_lload hx hb dX0_quotient_85 (lv_at hl 3 rfl) ?_
          refine lv_goto (tgt := 94) hx hb dX0_quotient_87 (by decide) ?_
          exact kJ _ (by rw [if_pos c_2])
      refine lv_lstore (lv' := [(10, .long (if x8 = 0 then x6 else x6 ||| 1 : Int64)), (0, .long x0), (2, .long x2), (4, .long x4), (6, .long x6), (8, .long x8)]) hx hb dX0_quotient_94 hl (by decide) rfl (fun ls hl => ?_)
      refine lv_lload_n hx hb dX0_quotient_96 rfl (lv_at hl 1 rfl) ?_
      refine pcall C (cX0_liftedE_met l _ _ rfl) sc_X0_liftedE tw_181 (by decide) rfl hl.1 (rest := []) rfl (Nat.le_of_ble_eq_true rfl) (by decide) dX0_quotient_97 ?_
      refine lv_lload_n hx hb dX0_quotient_100 rfl (lv_at hl 2 rfl) ?_
      refine pcall C (cX0_liftedE_met l _ _ rfl) sc_X0_liftedE tw_181 (by decide) rfl hl.1 (rest := [.int (jX0_liftedE x0)]) rfl (Nat.le_of_ble_eq_true rfl) (by decide) dX0_quotient_101 ?_
      refine lv_isub hx hb dX0_quotient_104 ?_
      refine lv_bipush (v := 60) hx hb dX0_quotient_105 (by decide) ?_
      refine lv_isub hx hb dX0_quotient_107 ?_
      refine lv_istore (lv' := [(12, .int (((jX0_liftedE x0) - (jX0_liftedE x2)) - 60)), (10, .long (if x8 = 0 then x6 else x6 ||| 1 : Int64)), (0, .long x0), (2, .long x2), (4, .long x4), (6, .long x6), (8, .long x8)]) hx hb dX0_quotient_108 hl (by decide) rfl (fun ls hl => ?_)
      refine lv_lload hx hb dX0_quotient_110 (lv_at hl 1 rfl) ?_
      refine lv_iload hx hb dX0_quotient_112 (lv_at hl 0 rfl) ?_
      refine pcall C (cX0_nearest_met l _ _ _ rfl) sc_X0_nearest tw_110 (by decide) rfl hl.1 (rest := []) rfl (Nat.le_of_ble_eq_true rfl) (by decide) dX0_quotient_114 ?_
      refine lv_lload_n hx hb dX0_quotient_117 rfl (lv_at hl 2 rfl) ?_
      refine lv_lload_n hx hb dX0_quotient_118 rfl (lv_at hl 3 rfl) ?_
      refine lv_lxor hx hb dX0_quotient_119 ?_
      refine pcall C (cX0_withSignOf_met l _ _ _ rfl) sc_X0_withSignOf tw_130 (by decide) rfl hl.1 (rest := []) rfl (Nat.le_of_ble_eq_true rfl) (by decide) dX0_quotient_120 ?_
      exact W.lret hx hb hr (fun t ht _ => ⟨by cases h; rfl, ht⟩) (fun q h9 => nomatch h9) dX0_quotient_123
    · rw [if_neg c_1] at h
      refine lv_lload hx hb dX0_quotient_45 (lv_at hl 4 rfl) ?_
      refine lv_bipush (v := 10) hx hb dX0_quotient_47 (by decide) ?_
      refine lv_lshl (v := sl x8 10) hx hb dX0_quotient_49 rfl ?_
      refine lv_lstore (lv' := [(8, .long (sl x8 10)), (0, .long x0), (2, .long x2), (4, .long x4), (6, .long x6), (10, .int x10)]) hx hb dX0_quotient_50 hl (by decide) rfl (fun ls hl => ?_)
      refine lv_lload hx hb dX0_quotient_52 (lv_at hl 4 rfl) ?_
      refine lv_bipush (v := 10) hx hb dX0_quotient_54 (by decide) ?_
      refine lv_lshl (v := sl x6 10) hx hb dX0_quotient_56 rfl ?_
      refine lv_lload hx hb dX0_quotient_57 (lv_at hl 0 rfl) ?_
      refine lv_lload hx hb dX0_quotient_59 (lv_at hl 3 rfl) ?_
      obtain ⟨z_61, h⟩ := of_ite2 h
      refine lv_ldiv hx hb dX0_quotient_61 z_61 ?_
      refine lv_lor hx hb dX0_quotient_62 ?_
      refine lv_lstore (lv' := [(6, .long ((sl x6 10) ||| ((sl x8 10) / x4))), (8, .long (sl x8 10)), (0, .long x0), (2, .long x2), (4, .long x4), (10, .int x10)]) hx hb dX0_quotient_63 hl (by decide) rfl (fun ls hl => ?_)
      refine lv_lload hx hb dX0_quotient_65 (lv_at hl 1 rfl) ?_
      refine lv_lload hx hb dX0_quotient_67 (lv_at hl 4 rfl) ?_
      obtain ⟨z_69, h⟩ := of_ite2 h
      refine lv_lrem hx hb dX0_quotient_69 z_69 ?_
      refine lv_lstore (lv' := [(8, .long ((sl x8 10) - (sl x8 10) / x4 * x4)), (6, .long ((sl x6 10) ||| ((sl x8 10) / x4))), (0, .long x0), (2, .long x2), (4, .long x4), (10, .int x10)]) hx hb dX0_quotient_70 hl (by decide) rfl (fun ls hl => ?_)
      refine lv_iinc (v := x10 + 1) (lv' := [(10, .int (x10 + 1)), (8, .long ((sl x8 10) - (sl x8 10) / x4 * x4)), (6, .long ((sl x6 10) ||| ((sl x8 10) / x4))), (0, .long x0), (2, .long x2), (4, .long x4)]) hx hb dX0_quotient_72 hl (k := 5) rfl rfl (by decide) rfl (fun ls hl => ?_)
      refine lv_goto (tgt := 38) hx hb dX0_quotient_75 (by decide) ?_
      exact ih _ _ _ _ _ _ _ _ (lv_sub hl [3, 4, 5, 2, 1, 0] rfl) h
def jX0_quotient (x0 : Int64) (x2 : Int64) : Option Int64 := (if (jX0_liftedM x2) = 0 then some 9218868437227405312 else (if (jX0_liftedM x2) = 0 then none else (if (jX0_liftedM x2) = 0 then none else jX0_quotient_L38 FU x0 x2 (jX0_liftedM x2) ((jX0_liftedM x0) / (jX0_liftedM x2)) ((jX0_liftedM x0) - (jX0_liftedM x0) / (jX0_liftedM x2) * (jX0_liftedM x2)) 0)))
set_option maxHeartbeats 4000000 in
set_option maxRecDepth 100000 in
theorem wX0_quotient_0 {p : Program} {l : Launch} {e : Env} {s : State} {m : MethodId} {args : Array Value} {below : List Frame} {meth : Method} {c : Code} (C : CX p s m args meth c RX0 cX0_quotient 13 (some .long)) (x0 : Int64) (x2 : Int64) (ls : Array Slot) (v : Int64) (hl : lv_has ls 13 [(0, .long x0), (2, .long x2)]) (h : jX0_quotient x0 x2 = some v) : W p l e (rmz 4 87) s m args below meth c s.heap [] 0 0 (MQ below (k2_QcV (.long v)) args s 0 0 (fun _ => False)) (F0 m 0 ls []) := by
  obtain ⟨hx, hb, hml, hown, hg, hr, hlocks⟩ := id C
  unfold jX0_quotient at h
  refine lv_lload_n hx hb dX0_quotient_0 rfl (lv_at hl 1 rfl) ?_
  refine pcall C (cX0_liftedM_met l _ _ rfl) sc_X0_liftedM tw_187 (by decide) rfl hl.1 (rest := []) rfl (Nat.le_of_ble_eq_true rfl) (by decide) dX0_quotient_1 ?_
  refine lv_lstore (lv' := [(4, .long (jX0_liftedM x2)), (0, .long x0), (2, .long x2)]) hx hb dX0_quotient_4 hl (by decide) rfl (fun ls hl => ?_)
  refine lv_lload hx hb dX0_quotient_6 (lv_at hl 0 rfl) ?_
  refine lv_lconst (v := 0) hx hb dX0_quotient_8 (by decide) ?_
  refine lc_ne (tgt := 17) hx hb dX0_quotient_9 dX0_quotient_10 (by decide) (fun c_1 => ?_) (fun c_1 => ?_)
  · rw [if_neg c_1] at h
    refine lv_lload_n hx hb dX0_quotient_17 rfl (lv_at hl 1 rfl) ?_
    refine pcall C (cX0_liftedM_met l _ _ rfl) sc_X0_liftedM tw_187 (by decide) rfl hl.1 (rest := []) rfl (Nat.le_of_ble_eq_true rfl) (by decide) dX0_quotient_18 ?_
    refine lv_lload hx hb dX0_quotient_21 (lv_at hl 0 rfl) ?_
    obtain ⟨z_23, h⟩ := of_ite2 h
    refine lv_ldiv hx hb dX0_quotient_23 z_23 ?_
    refine lv_lstore (lv' := [(6, .long ((jX0_liftedM x0) / (jX0_liftedM x2))), (4, .long (jX0_liftedM x2)), (0, .long x0), (2, .long x2)]) hx hb dX0_quotient_24 hl (by decide) rfl (fun ls hl => ?_)
    refine lv_lload_n hx hb dX0_quotient_26 rfl (lv_at hl 2 rfl) ?_
    refine pcall C (cX0_liftedM_met l _ _ rfl) sc_X0_liftedM tw_187 (by decide) rfl hl.1 (rest := []) rfl (Nat.le_of_ble_eq_true rfl) (by decide) dX0_quotient_27 ?_
    refine lv_lload hx hb dX0_quotient_30 (lv_at hl 1 rfl) ?_
    obtain ⟨z_32, h⟩ := of_ite2 h
    refine lv_lrem hx hb dX0_quotient_32 z_32 ?_
    refine lv_lstore (lv' := [(8, .long ((jX0_liftedM x0) - (jX0_liftedM x0) / (jX0_liftedM x2) * (jX0_liftedM x2))), (6, .long ((jX0_liftedM x0) / (jX0_liftedM x2))), (4, .long (jX0_liftedM x2)), (0, .long x0), (2, .long x2)]) hx hb dX0_quotient_33 hl (by decide) rfl (fun ls hl => ?_)
    refine lv_iconst (v := 0) hx hb dX0_quotient_35 (by decide) ?_
    refine lv_istore (lv' := [(10, .int 0), (8, .long ((jX0_liftedM x0) - (jX0_liftedM x0) / (jX0_liftedM x2) * (jX0_liftedM x2))), (6, .long ((jX0_liftedM x0) / (jX0_liftedM x2))), (4, .long (jX0_liftedM x2)), (0, .long x0), (2, .long x2)]) hx hb dX0_quotient_36 hl (by decide) rfl (fun ls hl => ?_)
    exact wX0_quotient_L38 C FU _ _ _ _ _ _ _ _ (lv_sub hl [4, 5, 3, 2, 1, 0] rfl) h
  · rw [if_pos c_1] at h
    refine lv_ldc2 hx hb hown (hg _ tw_123) dX0_quotient_13 ?_
    exact W.lret hx hb hr (fun t ht _ => ⟨by cases h; rfl, ht⟩) (fun q h9 => nomatch h9) dX0_quotient_16
theorem sc_X0_quotient : SC yX0_quotient cX0_quotient 13 (some .long) 2 := ⟨tw_194, tw_1, tw_195, by decide +kernel⟩
theorem cX0_quotient_met (l : Launch) (x0 : Int64) (x2 : Int64) (v : Int64) (h : jX0_quotient x0 x2 = some v) : PM l yX0_quotient cX0_quotient 13 (some .long) (rmz 4 87) [.long x0, .long x2] (.long v) :=
  pm_of (own := RX0) (by decide +kernel) rfl (Nat.le_of_ble_eq_true rfl) (fun p e s m below meth c ls C hl => wX0_quotient_0 C x0 x2 ls v hl h)

/-! RealDesk.rest(JJ)J -/
def jX0_rest_L47 : Nat → Int64 → Int64 → Int64 → Int64 → Int32 → Option Int64
  | 0, _, _, _, _, _ => none
  | k + 1, x0, x2, x4, x6, x8 => (if x8 ≤ 0 then some (jX0_withSignOf (jX0_nearest x6 (jX0_eOf x2)) x0) else (if x4 = 0 then none else jX0_rest_L47 k x0 x2 x4 ((sl x6 (jmin x8 10)) - (sl x6 (jmin x8 10)) / x4 * x4) (x8 + (-10))))
set_option maxHeartbeats 4000000 in
set_option maxRecDepth 100000 in
theorem wX0_rest_L47 {p : Program} {l : Launch} {e : Env} {s : State} {m : MethodId} {args : Array Value} {below : List Frame} {meth : Method} {c : Code} (C : CX p s m args meth c RX0 cX0_rest 9 (some .long)) : ∀ (k : Nat) (x0 : Int64) (x2 : Int64) (x4 : Int64) (x6 : Int64) (x8 : Int32) (ls : Array Slot) (v : Int64), lv_has ls 9 [(0, .long x0), (2, .long x2), (4, .long x4), (6, .long x6), (8, .int x8)] → jX0_rest_L47 k x0 x2 x4 x6 x8 = some v → W p l e (rmz 3 78) s m args below meth c s.heap [] 0 0 (MQ below (k2_QcV (.long v)) args s 0 0 (fun _ => False)) (F0 m 47 ls []) := by
  obtain ⟨hx, hb, hml, hown, hg, hr, hlocks⟩ := id C
  intro k
  induction k with
  | zero => intro x0 x2 x4 x6 x8 ls v hl h; cases h
  | succ k ih =>
    intro x0 x2 x4 x6 x8 ls v hl h
    unfold jX0_rest_L47 at h
    refine lv_iload hx hb dX0_rest_47 (lv_at hl 4 rfl) ?_
    refine lv_if_le (tgt := 73) hx hb dX0_rest_49 (by decide) (fun c_1 => ?_) (fun c_1 => ?_)
    · rw [if_pos c_1] at h
      refine lv_lload hx hb dX0_rest_73 (lv_at hl 3 rfl) ?_
      refine lv_lload_n hx hb dX0_rest_75 rfl (lv_at hl 1 rfl) ?_
      refine pcall C (cX0_eOf_met l _ _ rfl) sc_X0_eOf tw_165 (by decide) rfl hl.1 (rest := [.long x6]) rfl (Nat.le_of_ble_eq_true rfl) (by decide) dX0_rest_76 ?_
      refine pcall C (cX0_nearest_met l _ _ _ rfl) sc_X0_nearest tw_110 (by decide) rfl hl.1 (rest := []) rfl (Nat.le_of_ble_eq_true rfl) (by decide) dX0_rest_79 ?_
      refine lv_lload_n hx hb dX0_rest_82 rfl (lv_at hl 0 rfl) ?_
      refine pcall C (cX0_withSignOf_met l _ _ _ rfl) sc_X0_withSignOf tw_130 (by decide) rfl hl.1 (rest := []) rfl (Nat.le_of_ble_eq_true rfl) (by decide) dX0_rest_83 ?_
      exact W.lret hx hb hr (fun t ht _ => ⟨by cases h; rfl, ht⟩) (fun q h9 => nomatch h9) dX0_rest_86
    · rw [if_neg c_1] at h
      refine lv_lload hx hb dX0_rest_52 (lv_at hl 3 rfl) ?_
      refine lv_iload hx hb dX0_rest_54 (lv_at hl 4 rfl) ?_
      refine lv_bipush (v := 10) hx hb dX0_rest_56 (by decide) ?_
      refine q_min C tw_168 (by decide) (Nat.le_of_ble_eq_true rfl) (by decide) hl.1 dX0_rest_58 ?_
      refine lv_lshl (v := sl x6 (jmin x8 10)) hx hb dX0_rest_61 rfl ?_
      refine lv_lload hx hb dX0_rest_62 (lv_at hl 2 rfl) ?_
      obtain ⟨z_64, h⟩ := of_ite2 h
      refine lv_lrem hx hb dX0_rest_64 z_64 ?_
      refine lv_lstore (lv' := [(6, .long ((sl x6 (jmin x8 10)) - (sl x6 (jmin x8 10)) / x4 * x4)), (0, .long x0), (2, .long x2), (4, .long x4), (8, .int x8)]) hx hb dX0_rest_65 hl (by decide) rfl (fun ls hl => ?_)
      refine lv_iinc (v := x8 + (-10)) (lv' := [(8, .int (x8 + (-10))), (6, .long ((sl x6 (jmin x8 10)) - (sl x6 (jmin x8 10)) / x4 * x4)), (0, .long x0), (2, .long x2), (4, .long x4)]) hx hb dX0_rest_67 hl (k := 4) rfl rfl (by decide) rfl (fun ls hl => ?_)
      refine lv_goto (tgt := 47) hx hb dX0_rest_70 (by decide) ?_
      exact ih _ _ _ _ _ _ _ (lv_sub hl [2, 3, 4, 1, 0] rfl) h
def jX0_rest (x0 : Int64) (x2 : Int64) : Option Int64 := (if (jX0_mOf x2) = 0 then some x0 else (if (jabsl x2) ≤ (jabsl x0) then (if (jX0_mOf x2) = 0 then none else jX0_rest_L47 FU x0 x2 (jX0_mOf x2) ((jX0_mOf x0) - (jX0_mOf x0) / (jX0_mOf x2) * (jX0_mOf x2)) ((jX0_eOf x0) - (jX0_eOf x2))) else some x0))
set_option maxHeartbeats 4000000 in
set_option maxRecDepth 100000 in
theorem wX0_rest_0 {p : Program} {l : Launch} {e : Env} {s : State} {m : MethodId} {args : Array Value} {below : List Frame} {meth : Method} {c : Code} (C : CX p s m args meth c RX0 cX0_rest 9 (some .long)) (x0 : Int64) (x2 : Int64) (ls : Array Slot) (v : Int64) (hl : lv_has ls 9 [(0, .long x0), (2, .long x2)]) (h : jX0_rest x0 x2 = some v) : W p l e (rmz 3 78) s m args below meth c s.heap [] 0 0 (MQ below (k2_QcV (.long v)) args s 0 0 (fun _ => False)) (F0 m 0 ls []) := by
  obtain ⟨hx, hb, hml, hown, hg, hr, hlocks⟩ := id C
  unfold jX0_rest at h
  refine lv_lload_n hx hb dX0_rest_0 rfl (lv_at hl 1 rfl) ?_
  refine pcall C (cX0_mOf_met l _ _ rfl) sc_X0_mOf tw_171 (by decide) rfl hl.1 (rest := []) rfl (Nat.le_of_ble_eq_true rfl) (by decide) dX0_rest_1 ?_
  refine lv_lstore (lv' := [(4, .long (jX0_mOf x2)), (0, .long x0), (2, .long x2)]) hx hb dX0_rest_4 hl (by decide) rfl (fun ls hl => ?_)
  refine lv_lload hx hb dX0_rest_6 (lv_at hl 0 rfl) ?_
  refine lv_lconst (v := 0) hx hb dX0_rest_8 (by decide) ?_
  refine lc_eq (tgt := 25) hx hb dX0_rest_9 dX0_rest_10 (by decide) (fun c_1 => ?_) (fun c_1 => ?_)
  · rw [if_pos c_1] at h
    refine lv_lload_n hx hb dX0_rest_25 rfl (lv_at hl 1 rfl) ?_
    exact W.lret hx hb hr (fun t ht _ => ⟨by cases h; rfl, ht⟩) (fun q h9 => nomatch h9) dX0_rest_26
  · rw [if_neg c_1] at h
    refine lv_lload_n hx hb dX0_rest_13 rfl (lv_at hl 1 rfl) ?_
    refine q_absl C tw_107 (by decide) (Nat.le_of_ble_eq_true rfl) (by decide) hl.1 dX0_rest_14 ?_
    refine lv_lload_n hx hb dX0_rest_17 rfl (lv_at hl 2 rfl) ?_
    refine q_absl C tw_107 (by decide) (Nat.le_of_ble_eq_true rfl) (by decide) hl.1 dX0_rest_18 ?_
    refine lc_ge (tgt := 27) hx hb dX0_rest_21 dX0_rest_22 (by decide) (fun c_2 => ?_) (fun c_2 => ?_)
    · rw [if_pos c_2] at h
      refine lv_lload_n hx hb dX0_rest_27 rfl (lv_at hl 1 rfl) ?_
      refine pcall C (cX0_mOf_met l _ _ rfl) sc_X0_mOf tw_171 (by decide) rfl hl.1 (rest := []) rfl (Nat.le_of_ble_eq_true rfl) (by decide) dX0_rest_28 ?_
      refine lv_lload hx hb dX0_rest_31 (lv_at hl 0 rfl) ?_
      obtain ⟨z_33, h⟩ := of_ite2 h
      refine lv_lrem hx hb dX0_rest_33 z_33 ?_
      refine lv_lstore (lv' := [(6, .long ((jX0_mOf x0) - (jX0_mOf x0) / (jX0_mOf x2) * (jX0_mOf x2))), (4, .long (jX0_mOf x2)), (0, .long x0), (2, .long x2)]) hx hb dX0_rest_34 hl (by decide) rfl (fun ls hl => ?_)
      refine lv_lload_n hx hb dX0_rest_36 rfl (lv_at hl 2 rfl) ?_
      refine pcall C (cX0_eOf_met l _ _ rfl) sc_X0_eOf tw_165 (by decide) rfl hl.1 (rest := []) rfl (Nat.le_of_ble_eq_true rfl) (by decide) dX0_rest_37 ?_
      refine lv_lload_n hx hb dX0_rest_40 rfl (lv_at hl 3 rfl) ?_
      refine pcall C (cX0_eOf_met l _ _ rfl) sc_X0_eOf tw_165 (by decide) rfl hl.1 (rest := [.int (jX0_eOf x0)]) rfl (Nat.le_of_ble_eq_true rfl) (by decide) dX0_rest_41 ?_
      refine lv_isub hx hb dX0_rest_44 ?_
      refine lv_istore (lv' := [(8, .int ((jX0_eOf x0) - (jX0_eOf x2))), (6, .long ((jX0_mOf x0) - (jX0_mOf x0) / (jX0_mOf x2) * (jX0_mOf x2))), (4, .long (jX0_mOf x2)), (0, .long x0), (2, .long x2)]) hx hb dX0_rest_45 hl (by decide) rfl (fun ls hl => ?_)
      exact wX0_rest_L47 C FU _ _ _ _ _ _ _ (lv_sub hl [3, 4, 2, 1, 0] rfl) h
    · rw [if_neg c_2] at h
      refine lv_lload_n hx hb dX0_rest_25 rfl (lv_at hl 1 rfl) ?_
      exact W.lret hx hb hr (fun t ht _ => ⟨by cases h; rfl, ht⟩) (fun q h9 => nomatch h9) dX0_rest_26
theorem sc_X0_rest : SC yX0_rest cX0_rest 9 (some .long) 2 := ⟨tw_197, tw_1, tw_198, by decide +kernel⟩
theorem cX0_rest_met (l : Launch) (x0 : Int64) (x2 : Int64) (v : Int64) (h : jX0_rest x0 x2 = some v) : PM l yX0_rest cX0_rest 9 (some .long) (rmz 3 78) [.long x0, .long x2] (.long v) :=
  pm_of (own := RX0) (by decide +kernel) rfl (Nat.le_of_ble_eq_true rfl) (fun p e s m below meth c ls C hl => wX0_rest_0 C x0 x2 ls v hl h)

/-! RealDesk.root(J)J -/
def jX0_root_L39 : Nat → Int64 → Int32 → Int64 → Int64 → Int32 → Option Int64
  | 0, _, _, _, _, _ => none
  | k + 1, x3, x5, x6, x8, x10 => (if 56 < x10 then some (jX0_nearest (if x8 = 0 then x6 else x6 ||| 1 : Int64) ((x5 / 2) - 29)) else (if 27 < x10 then (if ((sl x8 2) ||| 0) < ((sl x6 2) ||| 1) then jX0_root_L39 k x3 x5 (sl x6 1) ((sl x8 2) ||| 0) (x10 + 1) else jX0_root_L39 k x3 x5 ((sl x6 1) ||| 1) (((sl x8 2) ||| 0) - ((sl x6 2) ||| 1)) (x10 + 1)) else (if ((sl x8 2) ||| (jX0_lowPlaces (su x3 (2 * (27 - x10))) 2)) < ((sl x6 2) ||| 1) then jX0_root_L39 k x3 x5 (sl x6 1) ((sl x8 2) ||| (jX0_lowPlaces (su x3 (2 * (27 - x10))) 2)) (x10 + 1) else jX0_root_L39 k x3 x5 ((sl x6 1) ||| 1) (((sl x8 2) ||| (jX0_lowPlaces (su x3 (2 * (27 - x10))) 2)) - ((sl x6 2) ||| 1)) (x10 + 1))))
set_option maxHeartbeats 4000000 in
set_option maxRecDepth 100000 in
theorem wX0_root_L39 {p : Program} {l : Launch} {e : Env} {s : State} {m : MethodId} {args : Array Value} {below : List Frame} {meth : Method} {c : Code} (C : CX p s m args meth c RX0 cX0_root 15 (some .long)) : ∀ (k : Nat) (x3 : Int64) (x5 : Int32) (x6 : Int64) (x8 : Int64) (x10 : Int32) (ls : Array Slot) (v : Int64), lv_has ls 15 [(3, .long x3), (5, .int x5), (6, .long x6), (8, .long x8), (10, .int x10)] → jX0_root_L39 k x3 x5 x6 x8 x10 = some v → W p l e (rmz 4 87) s m args below meth c s.heap [] 0 0 (MQ below (k2_QcV (.long v)) args s 0 0 (fun _ => False)) (F0 m 39 ls []) := by
  obtain ⟨hx, hb, hml, hown, hg, hr, hlocks⟩ := id C
  intro k
  induction k with
  | zero => intro x3 x5 x6 x8 x10 ls v hl h; cases h
  | succ k ih =>
    intro x3 x5 x6 x8 x10 ls v hl h
    unfold jX0_root_L39 at h
    refine lv_iload hx hb dX0_root_39 (lv_at hl 4 rfl) ?_
    refine lv_bipush (v := 56) hx hb dX0_root_41 (by decide) ?_
    refine lv_icmp_gt (tgt := 122) hx hb dX0_root_43 (by decide) (fun c_1 => ?_) (fun c_1 => ?_)
    · rw [if_pos c_1] at h
      refine lv_lload hx hb dX0_root_122 (lv_at hl 3 rfl) ?_
      refine lv_lconst (v := 0) hx hb dX0_root_124 (by decide) ?_
      refine rg_l (pj := 138) (v := (if x8 = 0 then x6 else x6 ||| 1 : Int64)) (ls := ls) (rest := []) (fun kJ => ?_) ?_
      · refine lc_ne (tgt := 134) hx hb dX0_root_125 dX0_root_126 (by decide) (fun c_2 => ?_) (fun c_2 => ?_)
        · refine lv_lload hx hb dX0_root_134 (lv_at hl 2 rfl) ?_
          refine lv_lconst (v := 1) hx hb dX0_root_136 (by decide) ?_
          refine lv_lor hx hb dX0_root_137 ?_
          exact kJ _ (by rw [if_neg c_2])
        · refine lv_lload hx hb dX0_root_129 (lv_at hl 2 rfl) ?_
          refine lv_goto (tgt := 138) hx hb dX0_root_131 (by decide) ?_
          exact kJ _ (by rw [if_pos c_2])
      refine lv_lstore (lv' := [(10, .long (if x8 = 0 then x6 else x6 ||| 1 : Int64)), (3, .long x3), (5, .int x5), (6, .long x6), (8, .long x8)]) hx hb dX0_root_138 hl (by decide) rfl (fun ls hl => ?_)
      refine lv_lload hx hb dX0_root_140 (lv_at hl 0 rfl) ?_
      refine lv_iload hx hb dX0_root_142 (lv_at hl 2 rfl) ?_
      refine lv_iconst (v := 2) hx hb dX0_root_144 (by decide) ?_
      refine lv_idiv hx hb dX0_root_145 (by decide) ?_
      refine lv_bipush (v := 29) hx hb dX0_root_146 (by decide) ?_
      refine lv_isub hx hb dX0_root_148 ?_
      refine pcall C (cX0_nearest_met l _ _ _ rfl) sc_X0_nearest tw_110 (by decide) rfl hl.1 (rest := []) rfl (Nat.le_of_ble_eq_true rfl) (by decide) dX0_root_149 ?_
      exact W.lret hx hb hr (fun t ht _ => ⟨by cases h; rfl, ht⟩) (fun q h9 => nomatch h9) dX0_root_152
    · rw [if_neg c_1] at h
      refine lv_iload hx hb dX0_root_46 (lv_at hl 4 rfl) ?_
      refine lv_bipush (v := 27) hx hb dX0_root_48 (by decide) ?_
      refine lv_icmp_gt (tgt := 69) hx hb dX0_root_50 (by decide) (fun c_3 => ?_) (fun c_3 => ?_)
      · rw [if_pos c_3] at h
        refine lv_lconst (v := 0) hx hb dX0_root_69 (by decide) ?_
        refine lv_lstore (lv' := [(11, .long 0), (3, .long x3), (5, .int x5), (6, .long x6), (8, .long x8), (10, .int x10)]) hx hb dX0_root_70 hl (by decide) rfl (fun ls hl => ?_)
        refine lv_lload hx hb dX0_root_72 (lv_at hl 4 rfl) ?_
        refine lv_iconst (v := 2) hx hb dX0_root_74 (by decide) ?_
        refine lv_lshl (v := sl x8 2) hx hb dX0_root_75 rfl ?_
        refine lv_lload hx hb dX0_root_76 (lv_at hl 0 rfl) ?_
        refine lv_lor hx hb dX0_root_78 ?_
        refine lv_lstore (lv' := [(8, .long ((sl x8 2) ||| 0)), (11, .long 0), (3, .long x3), (5, .int x5), (6, .long x6), (10, .int x10)]) hx hb dX0_root_79 hl (by decide) rfl (fun ls hl => ?_)
        refine lv_lload hx hb dX0_root_81 (lv_at hl 4 rfl) ?_
        refine lv_iconst (v := 2) hx hb dX0_root_83 (by decide) ?_
        refine lv_lshl (v := sl x6 2) hx hb dX0_root_84 rfl ?_
        refine lv_lconst (v := 1) hx hb dX0_root_85 (by decide) ?_
        refine lv_lor hx hb dX0_root_86 ?_
        refine lv_lstore (lv' := [(13, .long ((sl x6 2) ||| 1)), (8, .long ((sl x8 2) ||| 0)), (11, .long 0), (3, .long x3), (5, .int x5), (6, .long x6), (10, .int x10)]) hx hb dX0_root_87 hl (by decide) rfl (fun ls hl => ?_)
        refine lv_lload hx hb dX0_root_89 (lv_at hl 5 rfl) ?_
        refine lv_iconst (v := 1) hx hb dX0_root_91 (by decide) ?_
        refine lv_lshl (v := sl x6 1) hx hb dX0_root_92 rfl ?_
        refine lv_lstore (lv' := [(6, .long (sl x6 1)), (13, .long ((sl x6 2) ||| 1)), (8, .long ((sl x8 2) ||| 0)), (11, .long 0), (3, .long x3), (5, .int x5), (10, .int x10)]) hx hb dX0_root_93 hl (by decide) rfl (fun ls hl => ?_)
        refine lv_lload hx hb dX0_root_95 (lv_at hl 2 rfl) ?_
        refine lv_lload hx hb dX0_root_97 (lv_at hl 1 rfl) ?_
        refine lc_lt (tgt := 116) hx hb dX0_root_99 dX0_root_100 (by decide) (fun c_4 => ?_) (fun c_4 => ?_)
        · rw [if_pos c_4] at h
          refine lv_iinc (v := x10 + 1) (lv' := [(10, .int (x10 + 1)), (6, .long (sl x6 1)), (13, .long ((sl x6 2) ||| 1)), (8, .long ((sl x8 2) ||| 0)), (11, .long 0), (3, .long x3), (5, .int x5)]) hx hb dX0_root_116 hl (k := 6) rfl rfl (by decide) rfl (fun ls hl => ?_)
          refine lv_goto (tgt := 39) hx hb dX0_root_119 (by decide) ?_
          exact ih _ _ _ _ _ _ _ (lv_sub hl [5, 6, 1, 3, 0] rfl) h
        · rw [if_neg c_4] at h
          refine lv_lload hx hb dX0_root_103 (lv_at hl 2 rfl) ?_
          refine lv_lload hx hb dX0_root_105 (lv_at hl 1 rfl) ?_
          refine lv_lsub hx hb dX0_root_107 ?_
          refine lv_lstore (lv' := [(8, .long (((sl x8 2) ||| 0) - ((sl x6 2) ||| 1))), (6, .long (sl x6 1)), (13, .long ((sl x6 2) ||| 1)), (11, .long 0), (3, .long x3), (5, .int x5), (10, .int x10)]) hx hb dX0_root_108 hl (by decide) rfl (fun ls hl => ?_)
          refine lv_lload hx hb dX0_root_110 (lv_at hl 1 rfl) ?_
          refine lv_lconst (v := 1) hx hb dX0_root_112 (by decide) ?_
          refine lv_lor hx hb dX0_root_113 ?_
          refine lv_lstore (lv' := [(6, .long ((sl x6 1) ||| 1)), (8, .long (((sl x8 2) ||| 0) - ((sl x6 2) ||| 1))), (13, .long ((sl x6 2) ||| 1)), (11, .long 0), (3, .long x3), (5, .int x5), (10, .int x10)]) hx hb dX0_root_114 hl (by decide) rfl (fun ls hl => ?_)
          refine lv_iinc (v := x10 + 1) (lv' := [(10, .int (x10 + 1)), (6, .long ((sl x6 1) ||| 1)), (8, .long (((sl x8 2) ||| 0) - ((sl x6 2) ||| 1))), (13, .long ((sl x6 2) ||| 1)), (11, .long 0), (3, .long x3), (5, .int x5)]) hx hb dX0_root_116 hl (k := 6) rfl rfl (by decide) rfl (fun ls hl => ?_)
          refine lv_goto (tgt := 39) hx hb dX0_root_119 (by decide) ?_
          exact ih _ _ _ _ _ _ _ (lv_sub hl [5, 6, 1, 2, 0] rfl) h
      · rw [if_neg c_3] at h
        refine lv_lload_n hx hb dX0_root_53 rfl (lv_at hl 0 rfl) ?_
        refine lv_iconst (v := 2) hx hb dX0_root_54 (by decide) ?_
        refine lv_bipush (v := 27) hx hb dX0_root_55 (by decide) ?_
        refine lv_iload hx hb dX0_root_57 (lv_at hl 4 rfl) ?_
        refine lv_isub hx hb dX0_root_59 ?_
        refine lv_imul hx hb dX0_root_60 ?_
        refine lv_lushr (v := su x3 (2 * (27 - x10))) hx hb dX0_root_61 rfl ?_
        refine lv_iconst (v := 2) hx hb dX0_root_62 (by decide) ?_
        refine pcall C (cX0_lowPlaces_met l _ _ _ rfl) sc_X0_lowPlaces tw_127 (by decide) rfl hl.1 (rest := []) rfl (Nat.le_of_ble_eq_true rfl) (by decide) dX0_root_63 ?_
        refine lv_goto (tgt := 70) hx hb dX0_root_66 (by decide) ?_
        refine lv_lstore (lv' := [(11, .long (jX0_lowPlaces (su x3 (2 * (27 - x10))) 2)), (3, .long x3), (5, .int x5), (6, .long x6), (8, .long x8), (10, .int x10)]) hx hb dX0_root_70 hl (by decide) rfl (fun ls hl => ?_)
        refine lv_lload hx hb dX0_root_72 (lv_at hl 4 rfl) ?_
        refine lv_iconst (v := 2) hx hb dX0_root_74 (by decide) ?_
        refine lv_lshl (v := sl x8 2) hx hb dX0_root_75 rfl ?_
        refine lv_lload hx hb dX0_root_76 (lv_at hl 0 rfl) ?_
        refine lv_lor hx hb dX0_root_78 ?_
        refine lv_lstore (lv' := [(8, .long ((sl x8 2) ||| (jX0_lowPlaces (su x3 (2 * (27 - x10))) 2))), (11, .long (jX0_lowPlaces (su x3 (2 * (27 - x10))) 2)), (3, .long x3), (5, .int x5), (6, .long x6), (10, .int x10)]) hx hb dX0_root_79 hl (by decide) rfl (fun ls hl => ?_)
        refine lv_lload hx hb dX0_root_81 (lv_at hl 4 rfl) ?_
        refine lv_iconst (v := 2) hx hb dX0_root_83 (by decide) ?_
        refine lv_lshl (v := sl x6 2) hx hb dX0_root_84 rfl ?_
        refine lv_lconst (v := 1) hx hb dX0_root_85 (by decide) ?_
        refine lv_lor hx hb dX0_root_86 ?_
        refine lv_lstore (lv' := [(13, .long ((sl x6 2) ||| 1)), (8, .long ((sl x8 2) ||| (jX0_lowPlaces (su x3 (2 * (27 - x10))) 2))), (11, .long (jX0_lowPlaces (su x3 (2 * (27 - x10))) 2)), (3, .long x3), (5, .int x5), (6, .long x6), (10, .int x10)]) hx hb dX0_root_87 hl (by decide) rfl (fun ls hl => ?_)
        refine lv_lload hx hb dX0_root_89 (lv_at hl 5 rfl) ?_
        refine lv_iconst (v := 1) hx hb dX0_root_91 (by decide) ?_
        refine lv_lshl (v := sl x6 1) hx hb dX0_root_92 rfl ?_
        refine lv_lstore (lv' := [(6, .long (sl x6 1)), (13, .long ((sl x6 2) ||| 1)), (8, .long ((sl x8 2) ||| (jX0_lowPlaces (su x3 (2 * (27 - x10))) 2))), (11, .long (jX0_lowPlaces (su x3 (2 * (27 - x10))) 2)), (3, .long x3), (5, .int x5), (10, .int x10)]) hx hb dX0_root_93 hl (by decide) rfl (fun ls hl => ?_)
        refine lv_lload hx hb dX0_root_95 (lv_at hl 2 rfl) ?_
        refine lv_lload hx hb dX0_root_97 (lv_at hl 1 rfl) ?_
        refine lc_lt (tgt := 116) hx hb dX0_root_99 dX0_root_100 (by decide) (fun c_5 => ?_) (fun c_5 => ?_)
        · rw [if_pos c_5] at h
          refine lv_iinc (v := x10 + 1) (lv' := [(10, .int (x10 + 1)), (6, .long (sl x6 1)), (13, .long ((sl x6 2) ||| 1)), (8, .long ((sl x8 2) ||| (jX0_lowPlaces (su x3 (2 * (27 - x10))) 2))), (11, .long (jX0_lowPlaces (su x3 (2 * (27 - x10))) 2)), (3, .long x3), (5, .int x5)]) hx hb dX0_root_116 hl (k := 6) rfl rfl (by decide) rfl (fun ls hl => ?_)
          refine lv_goto (tgt := 39) hx hb dX0_root_119 (by decide) ?_
          exact ih _ _ _ _ _ _ _ (lv_sub hl [5, 6, 1, 3, 0] rfl) h
        · rw [if_neg c_5] at h
          refine lv_lload hx hb dX0_root_103 (lv_at hl 2 rfl) ?_
          refine lv_lload hx hb dX0_root_105 (lv_at hl 1 rfl) ?_
          refine lv_lsub hx hb dX0_root_107 ?_
          refine lv_lstore (lv' := [(8, .long (((sl x8 2) ||| (jX0_lowPlaces (su x3 (2 * (27 - x10))) 2)) - ((sl x6 2) ||| 1))), (6, .long (sl x6 1)), (13, .long ((sl x6 2) ||| 1)), (11, .long (jX0_lowPlaces (su x3 (2 * (27 - x10))) 2)), (3, .long x3), (5, .int x5), (10, .int x10)]) hx hb dX0_root_108 hl (by decide) rfl (fun ls hl => ?_)
          refine lv_lload hx hb dX0_root_110 (lv_at hl 1 rfl) ?_
          refine lv_lconst (v := 1) hx hb dX0_root_112 (by decide) ?_
          refine lv_lor hx hb dX0_root_113 ?_
          refine lv_lstore (lv' := [(6, .long ((sl x6 1) ||| 1)), (8, .long (((sl x8 2) ||| (jX0_lowPlaces (su x3 (2 * (27 - x10))) 2)) - ((sl x6 2) ||| 1))), (13, .long ((sl x6 2) ||| 1)), (11, .long (jX0_lowPlaces (su x3 (2 * (27 - x10))) 2)), (3, .long x3), (5, .int x5), (10, .int x10)]) hx hb dX0_root_114 hl (by decide) rfl (fun ls hl => ?_)
          refine lv_iinc (v := x10 + 1) (lv' := [(10, .int (x10 + 1)), (6, .long ((sl x6 1) ||| 1)), (8, .long (((sl x8 2) ||| (jX0_lowPlaces (su x3 (2 * (27 - x10))) 2)) - ((sl x6 2) ||| 1))), (13, .long ((sl x6 2) ||| 1)), (11, .long (jX0_lowPlaces (su x3 (2 * (27 - x10))) 2)), (3, .long x3), (5, .int x5)]) hx hb dX0_root_116 hl (k := 6) rfl rfl (by decide) rfl (fun ls hl => ?_)
          refine lv_goto (tgt := 39) hx hb dX0_root_119 (by decide) ?_
          exact ih _ _ _ _ _ _ _ (lv_sub hl [5, 6, 1, 2, 0] rfl) h
def jX0_root (x0 : Int64) : Option Int64 := (if x0 = 0 then some 0 else jX0_root_L39 FU (sl (jX0_liftedM x0) ((jX0_liftedE x0) &&& 1)) ((jX0_liftedE x0) - ((jX0_liftedE x0) &&& 1)) 0 0 1)
set_option maxHeartbeats 4000000 in
set_option maxRecDepth 100000 in
theorem wX0_root_0 {p : Program} {l : Launch} {e : Env} {s : State} {m : MethodId} {args : Array Value} {below : List Frame} {meth : Method} {c : Code} (C : CX p s m args meth c RX0 cX0_root 15 (some .long)) (x0 : Int64) (ls : Array Slot) (v : Int64) (hl : lv_has ls 15 [(0, .long x0)]) (h : jX0_root x0 = some v) : W p l e (rmz 4 87) s m args below meth c s.heap [] 0 0 (MQ below (k2_QcV (.long v)) args s 0 0 (fun _ => False)) (F0 m 0 ls []) := by
  obtain ⟨hx, hb, hml, hown, hg, hr, hlocks⟩ := id C
  unfold jX0_root at h
  refine lv_lload_n hx hb dX0_root_0 rfl (lv_at hl 0 rfl) ?_
  refine lv_lconst (v := 0) hx hb dX0_root_1 (by decide) ?_
  refine lc_ne (tgt := 8) hx hb dX0_root_2 dX0_root_3 (by decide) (fun c_1 => ?_) (fun c_1 => ?_)
  · rw [if_neg c_1] at h
    refine lv_lload_n hx hb dX0_root_8 rfl (lv_at hl 0 rfl) ?_
    refine pcall C (cX0_liftedE_met l _ _ rfl) sc_X0_liftedE tw_181 (by decide) rfl hl.1 (rest := []) rfl (Nat.le_of_ble_eq_true rfl) (by decide) dX0_root_9 ?_
    refine lv_iconst (v := 1) hx hb dX0_root_12 (by decide) ?_
    refine lv_iand hx hb dX0_root_13 ?_
    refine lv_istore_n (lv' := [(2, .int ((jX0_liftedE x0) &&& 1)), (0, .long x0)]) hx hb dX0_root_14 rfl hl (by decide) rfl (fun ls hl => ?_)
    refine lv_lload_n hx hb dX0_root_15 rfl (lv_at hl 1 rfl) ?_
    refine pcall C (cX0_liftedM_met l _ _ rfl) sc_X0_liftedM tw_187 (by decide) rfl hl.1 (rest := []) rfl (Nat.le_of_ble_eq_true rfl) (by decide) dX0_root_16 ?_
    refine lv_iload_n hx hb dX0_root_19 rfl (lv_at hl 0 rfl) ?_
    refine lv_lshl (v := sl (jX0_liftedM x0) ((jX0_liftedE x0) &&& 1)) hx hb dX0_root_20 rfl ?_
    refine lv_lstore_n (lv' := [(3, .long (sl (jX0_liftedM x0) ((jX0_liftedE x0) &&& 1))), (2, .int ((jX0_liftedE x0) &&& 1)), (0, .long x0)]) hx hb dX0_root_21 rfl hl (by decide) rfl (fun ls hl => ?_)
    refine lv_lload_n hx hb dX0_root_22 rfl (lv_at hl 2 rfl) ?_
    refine pcall C (cX0_liftedE_met l _ _ rfl) sc_X0_liftedE tw_181 (by decide) rfl hl.1 (rest := []) rfl (Nat.le_of_ble_eq_true rfl) (by decide) dX0_root_23 ?_
    refine lv_iload_n hx hb dX0_root_26 rfl (lv_at hl 1 rfl) ?_
    refine lv_isub hx hb dX0_root_27 ?_
    refine lv_istore (lv' := [(5, .int ((jX0_liftedE x0) - ((jX0_liftedE x0) &&& 1))), (3, .long (sl (jX0_liftedM x0) ((jX0_liftedE x0) &&& 1))), (2, .int ((jX0_liftedE x0) &&& 1)), (0, .long x0)]) hx hb dX0_root_28 hl (by decide) rfl (fun ls hl => ?_)
    refine lv_lconst (v := 0) hx hb dX0_root_30 (by decide) ?_
    refine lv_lstore (lv' := [(6, .long 0), (5, .int ((jX0_liftedE x0) - ((jX0_liftedE x0) &&& 1))), (3, .long (sl (jX0_liftedM x0) ((jX0_liftedE x0) &&& 1))), (2, .int ((jX0_liftedE x0) &&& 1)), (0, .long x0)]) hx hb dX0_root_31 hl (by decide) rfl (fun ls hl => ?_)
    refine lv_lconst (v := 0) hx hb dX0_root_33 (by decide) ?_
    refine lv_lstore (lv' := [(8, .long 0), (6, .long 0), (5, .int ((jX0_liftedE x0) - ((jX0_liftedE x0) &&& 1))), (3, .long (sl (jX0_liftedM x0) ((jX0_liftedE x0) &&& 1))), (2, .int ((jX0_liftedE x0) &&& 1)), (0, .long x0)]) hx hb dX0_root_34 hl (by decide) rfl (fun ls hl => ?_)
    refine lv_iconst (v := 1) hx hb dX0_root_36 (by decide) ?_
    refine lv_istore (lv' := [(10, .int 1), (8, .long 0), (6, .long 0), (5, .int ((jX0_liftedE x0) - ((jX0_liftedE x0) &&& 1))), (3, .long (sl (jX0_liftedM x0) ((jX0_liftedE x0) &&& 1))), (2, .int ((jX0_liftedE x0) &&& 1)), (0, .long x0)]) hx hb dX0_root_37 hl (by decide) rfl (fun ls hl => ?_)
    exact wX0_root_L39 C FU _ _ _ _ _ _ _ (lv_sub hl [4, 3, 2, 1, 0] rfl) h
  · rw [if_pos c_1] at h
    refine lv_lconst (v := 0) hx hb dX0_root_6 (by decide) ?_
    exact W.lret hx hb hr (fun t ht _ => ⟨by cases h; rfl, ht⟩) (fun q h9 => nomatch h9) dX0_root_7
theorem sc_X0_root : SC yX0_root cX0_root 15 (some .long) 1 := ⟨tw_226, tw_1, tw_227, by decide +kernel⟩
theorem cX0_root_met (l : Launch) (x0 : Int64) (v : Int64) (h : jX0_root x0 = some v) : PM l yX0_root cX0_root 15 (some .long) (rmz 4 87) [.long x0] (.long v) :=
  pm_of (own := RX0) (by decide +kernel) rfl (Nat.le_of_ble_eq_true rfl) (fun p e s m below meth c ls C hl => wX0_root_0 C x0 ls v hl h)

/-! RealDesk.raise(JI)J -/
def jX0_raise_L25 : Nat → Int64 → Int32 → Int64 → Int32 → Option Int64
  | 0, _, _, _, _ => none
  | k + 1, x0, x2, x3, x6 => (if x6 < 0 then some x3 else (if (jX0_isOver x3) = 0 then (if ((iu x2 x6) &&& 1) = 1 then (if (jX0_isOver (jX0_product x3 x3)) = 0 then jX0_raise_L25 k x0 x2 (jX0_product (jX0_product x3 x3) x0) (x6 + (-1)) else jX0_raise_L25 k x0 x2 (jX0_product x3 x3) (x6 + (-1))) else jX0_raise_L25 k x0 x2 (jX0_product x3 x3) (x6 + (-1))) else some x3))
set_option maxHeartbeats 4000000 in
set_option maxRecDepth 100000 in
theorem wX0_raise_L25 {p : Program} {l : Launch} {e : Env} {s : State} {m : MethodId} {args : Array Value} {below : List Frame} {meth : Method} {c : Code} (C : CX p s m args meth c RX0 cX0_raise 7 (some .long)) : ∀ (k : Nat) (x0 : Int64) (x2 : Int32) (x3 : Int64) (x6 : Int32) (ls : Array Slot) (v : Int64), lv_has ls 7 [(0, .long x0), (2, .int x2), (3, .long x3), (6, .int x6)] → jX0_raise_L25 k x0 x2 x3 x6 = some v → W p l e (rmz 5 111) s m args below meth c s.heap [] 0 0 (MQ below (k2_QcV (.long v)) args s 0 0 (fun _ => False)) (F0 m 25 ls []) := by
  obtain ⟨hx, hb, hml, hown, hg, hr, hlocks⟩ := id C
  intro k
  induction k with
  | zero => intro x0 x2 x3 x6 ls v hl h; cases h
  | succ k ih =>
    intro x0 x2 x3 x6 ls v hl h
    unfold jX0_raise_L25 at h
    refine lv_iload hx hb dX0_raise_25 (lv_at hl 3 rfl) ?_
    refine lv_if_lt (tgt := 72) hx hb dX0_raise_27 (by decide) (fun c_1 => ?_) (fun c_1 => ?_)
    · rw [if_pos c_1] at h
      refine lv_lload_n hx hb dX0_raise_72 rfl (lv_at hl 2 rfl) ?_
      exact W.lret hx hb hr (fun t ht _ => ⟨by cases h; rfl, ht⟩) (fun q h9 => nomatch h9) dX0_raise_73
    · rw [if_neg c_1] at h
      refine lv_lload_n hx hb dX0_raise_30 rfl (lv_at hl 2 rfl) ?_
      refine pcall C (cX0_isOver_met l _ _ rfl) sc_X0_isOver tw_137 (by decide) rfl hl.1 (rest := []) rfl (Nat.le_of_ble_eq_true rfl) (by decide) dX0_raise_31 ?_
      refine lv_if_ne (tgt := 72) hx hb dX0_raise_34 (by decide) (fun c_2 => ?_) (fun c_2 => ?_)
      · rw [if_neg c_2] at h
        refine lv_lload_n hx hb dX0_raise_72 rfl (lv_at hl 2 rfl) ?_
        exact W.lret hx hb hr (fun t ht _ => ⟨by cases h; rfl, ht⟩) (fun q h9 => nomatch h9) dX0_raise_73
      · rw [if_pos c_2] at h
        refine lv_lload_n hx hb dX0_raise_37 rfl (lv_at hl 2 rfl) ?_
        refine lv_lload_n hx hb dX0_raise_38 rfl (lv_at hl 2 rfl) ?_
        refine pcall C (cX0_product_met l _ _ _ rfl) sc_X0_product tw_178 (by decide) rfl hl.1 (rest := []) rfl (Nat.le_of_ble_eq_true rfl) (by decide) dX0_raise_39 ?_
        refine lv_lstore_n (lv' := [(3, .long (jX0_product x3 x3)), (0, .long x0), (2, .int x2), (6, .int x6)]) hx hb dX0_raise_42 rfl hl (by decide) rfl (fun ls hl => ?_)
        refine lv_iload_n hx hb dX0_raise_43 rfl (lv_at hl 2 rfl) ?_
        refine lv_iload hx hb dX0_raise_44 (lv_at hl 3 rfl) ?_
        refine lv_iushr (v := iu x2 x6) hx hb dX0_raise_46 rfl ?_
        refine lv_iconst (v := 1) hx hb dX0_raise_47 (by decide) ?_
        refine lv_iand hx hb dX0_raise_48 ?_
        refine lv_iconst (v := 1) hx hb dX0_raise_49 (by decide) ?_
        refine lv_icmp_ne (tgt := 66) hx hb dX0_raise_50 (by decide) (fun c_3 => ?_) (fun c_3 => ?_)
        · rw [if_neg c_3] at h
          refine lv_iinc (v := x6 + (-1)) (lv' := [(6, .int (x6 + (-1))), (3, .long (jX0_product x3 x3)), (0, .long x0), (2, .int x2)]) hx hb dX0_raise_66 hl (k := 3) rfl rfl (by decide) rfl (fun ls hl => ?_)
          refine lv_goto (tgt := 25) hx hb dX0_raise_69 (by decide) ?_
          exact ih _ _ _ _ _ _ (lv_sub hl [2, 3, 1, 0] rfl) h
        · rw [if_pos c_3] at h
          refine lv_lload_n hx hb dX0_raise_53 rfl (lv_at hl 0 rfl) ?_
          refine pcall C (cX0_isOver_met l _ _ rfl) sc_X0_isOver tw_137 (by decide) rfl hl.1 (rest := []) rfl (Nat.le_of_ble_eq_true rfl) (by decide) dX0_raise_54 ?_
          refine lv_if_ne (tgt := 66) hx hb dX0_raise_57 (by decide) (fun c_4 => ?_) (fun c_4 => ?_)
          · rw [if_neg c_4] at h
            refine lv_iinc (v := x6 + (-1)) (lv' := [(6, .int (x6 + (-1))), (3, .long (jX0_product x3 x3)), (0, .long x0), (2, .int x2)]) hx hb dX0_raise_66 hl (k := 3) rfl rfl (by decide) rfl (fun ls hl => ?_)
            refine lv_goto (tgt := 25) hx hb dX0_raise_69 (by decide) ?_
            exact ih _ _ _ _ _ _ (lv_sub hl [2, 3, 1, 0] rfl) h
          · rw [if_pos c_4] at h
            refine lv_lload_n hx hb dX0_raise_60 rfl (lv_at hl 0 rfl) ?_
            refine lv_lload_n hx hb dX0_raise_61 rfl (lv_at hl 1 rfl) ?_
            refine pcall C (cX0_product_met l _ _ _ rfl) sc_X0_product tw_178 (by decide) rfl hl.1 (rest := []) rfl (Nat.le_of_ble_eq_true rfl) (by decide) dX0_raise_62 ?_
            refine lv_lstore_n (lv' := [(3, .long (jX0_product (jX0_product x3 x3) x0)), (0, .long x0), (2, .int x2), (6, .int x6)]) hx hb dX0_raise_65 rfl hl (by decide) rfl (fun ls hl => ?_)
            refine lv_iinc (v := x6 + (-1)) (lv' := [(6, .int (x6 + (-1))), (3, .long (jX0_product (jX0_product x3 x3) x0)), (0, .long x0), (2, .int x2)]) hx hb dX0_raise_66 hl (k := 3) rfl rfl (by decide) rfl (fun ls hl => ?_)
            refine lv_goto (tgt := 25) hx hb dX0_raise_69 (by decide) ?_
            exact ih _ _ _ _ _ _ (lv_sub hl [2, 3, 1, 0] rfl) h
def jX0_raise (x0 : Int64) (x2 : Int32) : Option Int64 := (if x2 = 0 then some 4607182418800017408 else jX0_raise_L25 FU x0 x2 x0 ((31 - (jJ6_numberOfLeadingZeros_0f7a4 x2)) - 1))
set_option maxHeartbeats 4000000 in
set_option maxRecDepth 100000 in
theorem wX0_raise_0 {p : Program} {l : Launch} {e : Env} {s : State} {m : MethodId} {args : Array Value} {below : List Frame} {meth : Method} {c : Code} (C : CX p s m args meth c RX0 cX0_raise 7 (some .long)) (x0 : Int64) (x2 : Int32) (ls : Array Slot) (v : Int64) (hl : lv_has ls 7 [(0, .long x0), (2, .int x2)]) (h : jX0_raise x0 x2 = some v) : W p l e (rmz 5 111) s m args below meth c s.heap [] 0 0 (MQ below (k2_QcV (.long v)) args s 0 0 (fun _ => False)) (F0 m 0 ls []) := by
  obtain ⟨hx, hb, hml, hown, hg, hr, hlocks⟩ := id C
  unfold jX0_raise at h
  refine lv_iload_n hx hb dX0_raise_0 rfl (lv_at hl 1 rfl) ?_
  refine lv_if_ne (tgt := 8) hx hb dX0_raise_1 (by decide) (fun c_1 => ?_) (fun c_1 => ?_)
  · rw [if_neg c_1] at h
    refine lv_lload_n hx hb dX0_raise_8 rfl (lv_at hl 0 rfl) ?_
    refine lv_lstore_n (lv' := [(3, .long x0), (0, .long x0), (2, .int x2)]) hx hb dX0_raise_9 rfl hl (by decide) rfl (fun ls hl => ?_)
    refine lv_bipush (v := 31) hx hb dX0_raise_10 (by decide) ?_
    refine lv_iload_n hx hb dX0_raise_12 rfl (lv_at hl 2 rfl) ?_
    refine pcall C (cJ6_numberOfLeadingZeros_0f7a4_met l _ _ rfl) sc_J6_numberOfLeadingZeros_0f7a4 tw_246 (by decide) rfl hl.1 (rest := [.int 31]) rfl (Nat.le_of_ble_eq_true rfl) (by decide) dX0_raise_13 ?_
    refine lv_isub hx hb dX0_raise_16 ?_
    refine lv_istore (lv' := [(5, .int (31 - (jJ6_numberOfLeadingZeros_0f7a4 x2))), (3, .long x0), (0, .long x0), (2, .int x2)]) hx hb dX0_raise_17 hl (by decide) rfl (fun ls hl => ?_)
    refine lv_iload hx hb dX0_raise_19 (lv_at hl 0 rfl) ?_
    refine lv_iconst (v := 1) hx hb dX0_raise_21 (by decide) ?_
    refine lv_isub hx hb dX0_raise_22 ?_
    refine lv_istore (lv' := [(6, .int ((31 - (jJ6_numberOfLeadingZeros_0f7a4 x2)) - 1)), (5, .int (31 - (jJ6_numberOfLeadingZeros_0f7a4 x2))), (3, .long x0), (0, .long x0), (2, .int x2)]) hx hb dX0_raise_23 hl (by decide) rfl (fun ls hl => ?_)
    exact wX0_raise_L25 C FU _ _ _ _ _ _ (lv_sub hl [3, 4, 2, 0] rfl) h
  · rw [if_pos c_1] at h
    refine lv_ldc2 hx hb hown (hg _ tw_245) dX0_raise_4 ?_
    exact W.lret hx hb hr (fun t ht _ => ⟨by cases h; rfl, ht⟩) (fun q h9 => nomatch h9) dX0_raise_7
theorem sc_X0_raise : SC yX0_raise cX0_raise 7 (some .long) 2 := ⟨tw_243, tw_1, tw_244, by decide +kernel⟩
theorem cX0_raise_met (l : Launch) (x0 : Int64) (x2 : Int32) (v : Int64) (h : jX0_raise x0 x2 = some v) : PM l yX0_raise cX0_raise 7 (some .long) (rmz 5 111) [.long x0, .int x2] (.long v) :=
  pm_of (own := RX0) (by decide +kernel) rfl (Nat.le_of_ble_eq_true rfl) (fun p e s m below meth c ls C hl => wX0_raise_0 C x0 x2 ls v hl h)

/-! RealDesk.powerOfTwo(I)D -/
def jX0_powerOfTwo_L22 : Nat → UInt64 → UInt64 → Int32 → Option UInt64
  | 0, _, _, _ => none
  | k + 1, x1, x3, x5 => (if x5 ≤ 0 then some x1 else (if (x5 &&& 1) = 1 then (if nn (FP.dmul x1 x3) = true then (if x5 ≤ 1 then jX0_powerOfTwo_L22 k (FP.dmul x1 x3) x3 (iu x5 1) else (if nn (FP.dmul x3 x3) = true then jX0_powerOfTwo_L22 k (FP.dmul x1 x3) (FP.dmul x3 x3) (iu x5 1) else none)) else none) else (if x5 ≤ 1 then jX0_powerOfTwo_L22 k x1 x3 (iu x5 1) else (if nn (FP.dmul x3 x3) = true then jX0_powerOfTwo_L22 k x1 (FP.dmul x3 x3) (iu x5 1) else none))))
set_option maxHeartbeats 4000000 in
set_option maxRecDepth 100000 in
theorem wX0_powerOfTwo_L22 {p : Program} {l : Launch} {e : Env} {s : State} {m : MethodId} {args : Array Value} {below : List Frame} {meth : Method} {c : Code} (C : CX p s m args meth c RX0 cX0_powerOfTwo 6 (some .double)) : ∀ (k : Nat) (x1 : UInt64) (x3 : UInt64) (x5 : Int32) (ls : Array Slot) (v : UInt64), lv_has ls 6 [(1, .double x1), (3, .double x3), (5, .int x5)] → jX0_powerOfTwo_L22 k x1 x3 x5 = some v → W p l e (rmz 1 21) s m args below meth c s.heap [] 0 0 (MQ below (k2_QcV (.double v)) args s 0 0 (fun _ => False)) (F0 m 22 ls []) := by
  obtain ⟨hx, hb, hml, hown, hg, hr, hlocks⟩ := id C
  intro k
  induction k with
  | zero => intro x1 x3 x5 ls v hl h; cases h
  | succ k ih =>
    intro x1 x3 x5 ls v hl h
    unfold jX0_powerOfTwo_L22 at h
    refine lv_iload hx hb dX0_powerOfTwo_22 (lv_at hl 2 rfl) ?_
    refine lv_if_le (tgt := 58) hx hb dX0_powerOfTwo_24 (by decide) (fun c_1 => ?_) (fun c_1 => ?_)
    · rw [if_pos c_1] at h
      refine lv_dload_n hx hb dX0_powerOfTwo_58 rfl (lv_at hl 0 rfl) ?_
      exact W.dret hx hb hr (fun t ht _ => ⟨by cases h; rfl, ht⟩) (fun q h9 => nomatch h9) dX0_powerOfTwo_59
    · rw [if_neg c_1] at h
      refine lv_iload hx hb dX0_powerOfTwo_27 (lv_at hl 2 rfl) ?_
      refine lv_iconst (v := 1) hx hb dX0_powerOfTwo_29 (by decide) ?_
      refine lv_iand hx hb dX0_powerOfTwo_30 ?_
      refine lv_iconst (v := 1) hx hb dX0_powerOfTwo_31 (by decide) ?_
      refine lv_icmp_ne (tgt := 39) hx hb dX0_powerOfTwo_32 (by decide) (fun c_2 => ?_) (fun c_2 => ?_)
      · rw [if_neg c_2] at h
        refine lv_iload hx hb dX0_powerOfTwo_39 (lv_at hl 2 rfl) ?_
        refine lv_iconst (v := 1) hx hb dX0_powerOfTwo_41 (by decide) ?_
        refine lv_icmp_le (tgt := 49) hx hb dX0_powerOfTwo_42 (by decide) (fun c_3 => ?_) (fun c_3 => ?_)
        · rw [if_pos c_3] at h
          refine lv_iload hx hb dX0_powerOfTwo_49 (lv_at hl 2 rfl) ?_
          refine lv_iconst (v := 1) hx hb dX0_powerOfTwo_51 (by decide) ?_
          refine lv_iushr (v := iu x5 1) hx hb dX0_powerOfTwo_52 rfl ?_
          refine lv_istore (lv' := [(5, .int (iu x5 1)), (1, .double x1), (3, .double x3)]) hx hb dX0_powerOfTwo_53 hl (by decide) rfl (fun ls hl => ?_)
          refine lv_goto (tgt := 22) hx hb dX0_powerOfTwo_55 (by decide) ?_
          exact ih _ _ _ _ _ (lv_sub hl [1, 2, 0] rfl) h
        · rw [if_neg c_3] at h
          refine lv_dload_n hx hb dX0_powerOfTwo_45 rfl (lv_at hl 1 rfl) ?_
          refine lv_dload_n hx hb dX0_powerOfTwo_46 rfl (lv_at hl 1 rfl) ?_
          obtain ⟨z_47, h⟩ := of_ite h
          refine lv_dmul hx hb dX0_powerOfTwo_47 (nn_of z_47) ?_
          refine lv_dstore_n (lv' := [(3, .double (FP.dmul x3 x3)), (1, .double x1), (5, .int x5)]) hx hb dX0_powerOfTwo_48 rfl hl (by decide) rfl (fun ls hl => ?_)
          refine lv_iload hx hb dX0_powerOfTwo_49 (lv_at hl 2 rfl) ?_
          refine lv_iconst (v := 1) hx hb dX0_powerOfTwo_51 (by decide) ?_
          refine lv_iushr (v := iu x5 1) hx hb dX0_powerOfTwo_52 rfl ?_
          refine lv_istore (lv' := [(5, .int (iu x5 1)), (3, .double (FP.dmul x3 x3)), (1, .double x1)]) hx hb dX0_powerOfTwo_53 hl (by decide) rfl (fun ls hl => ?_)
          refine lv_goto (tgt := 22) hx hb dX0_powerOfTwo_55 (by decide) ?_
          exact ih _ _ _ _ _ (lv_sub hl [2, 1, 0] rfl) h
      · rw [if_pos c_2] at h
        refine lv_dload_n hx hb dX0_powerOfTwo_35 rfl (lv_at hl 0 rfl) ?_
        refine lv_dload_n hx hb dX0_powerOfTwo_36 rfl (lv_at hl 1 rfl) ?_
        obtain ⟨z_37, h⟩ := of_ite h
        refine lv_dmul hx hb dX0_powerOfTwo_37 (nn_of z_37) ?_
        refine lv_dstore_n (lv' := [(1, .double (FP.dmul x1 x3)), (3, .double x3), (5, .int x5)]) hx hb dX0_powerOfTwo_38 rfl hl (by decide) rfl (fun ls hl => ?_)
        refine lv_iload hx hb dX0_powerOfTwo_39 (lv_at hl 2 rfl) ?_
        refine lv_iconst (v := 1) hx hb dX0_powerOfTwo_41 (by decide) ?_
        refine lv_icmp_le (tgt := 49) hx hb dX0_powerOfTwo_42 (by decide) (fun c_4 => ?_) (fun c_4 => ?_)
        · rw [if_pos c_4] at h
          refine lv_iload hx hb dX0_powerOfTwo_49 (lv_at hl 2 rfl) ?_
          refine lv_iconst (v := 1) hx hb dX0_powerOfTwo_51 (by decide) ?_
          refine lv_iushr (v := iu x5 1) hx hb dX0_powerOfTwo_52 rfl ?_
          refine lv_istore (lv' := [(5, .int (iu x5 1)), (1, .double (FP.dmul x1 x3)), (3, .double x3)]) hx hb dX0_powerOfTwo_53 hl (by decide) rfl (fun ls hl => ?_)
          refine lv_goto (tgt := 22) hx hb dX0_powerOfTwo_55 (by decide) ?_
          exact ih _ _ _ _ _ (lv_sub hl [1, 2, 0] rfl) h
        · rw [if_neg c_4] at h
          refine lv_dload_n hx hb dX0_powerOfTwo_45 rfl (lv_at hl 1 rfl) ?_
          refine lv_dload_n hx hb dX0_powerOfTwo_46 rfl (lv_at hl 1 rfl) ?_
          obtain ⟨z_47, h⟩ := of_ite h
          refine lv_dmul hx hb dX0_powerOfTwo_47 (nn_of z_47) ?_
          refine lv_dstore_n (lv' := [(3, .double (FP.dmul x3 x3)), (1, .double (FP.dmul x1 x3)), (5, .int x5)]) hx hb dX0_powerOfTwo_48 rfl hl (by decide) rfl (fun ls hl => ?_)
          refine lv_iload hx hb dX0_powerOfTwo_49 (lv_at hl 2 rfl) ?_
          refine lv_iconst (v := 1) hx hb dX0_powerOfTwo_51 (by decide) ?_
          refine lv_iushr (v := iu x5 1) hx hb dX0_powerOfTwo_52 rfl ?_
          refine lv_istore (lv' := [(5, .int (iu x5 1)), (3, .double (FP.dmul x3 x3)), (1, .double (FP.dmul x1 x3))]) hx hb dX0_powerOfTwo_53 hl (by decide) rfl (fun ls hl => ?_)
          refine lv_goto (tgt := 22) hx hb dX0_powerOfTwo_55 (by decide) ?_
          exact ih _ _ _ _ _ (lv_sub hl [2, 1, 0] rfl) h
def jX0_powerOfTwo (x0 : Int32) : Option UInt64 := jX0_powerOfTwo_L22 FU FP.dconst1 (if 0 ≤ x0 then (4611686018427387904 : UInt64) else (4602678819172646912 : UInt64) : UInt64) (jabs x0)
set_option maxHeartbeats 4000000 in
set_option maxRecDepth 100000 in
theorem wX0_powerOfTwo_0 {p : Program} {l : Launch} {e : Env} {s : State} {m : MethodId} {args : Array Value} {below : List Frame} {meth : Method} {c : Code} (C : CX p s m args meth c RX0 cX0_powerOfTwo 6 (some .double)) (x0 : Int32) (ls : Array Slot) (v : UInt64) (hl : lv_has ls 6 [(0, .int x0)]) (h : jX0_powerOfTwo x0 = some v) : W p l e (rmz 1 21) s m args below meth c s.heap [] 0 0 (MQ below (k2_QcV (.double v)) args s 0 0 (fun _ => False)) (F0 m 0 ls []) := by
  obtain ⟨hx, hb, hml, hown, hg, hr, hlocks⟩ := id C
  unfold jX0_powerOfTwo at h
  refine lv_dconst1 hx hb dX0_powerOfTwo_0 ?_
  refine lv_dstore_n (lv' := [(1, .double FP.dconst1), (0, .int x0)]) hx hb dX0_powerOfTwo_1 rfl hl (by decide) rfl (fun ls hl => ?_)
  refine lv_iload_n hx hb dX0_powerOfTwo_2 rfl (lv_at hl 1 rfl) ?_
  refine rg_d (pj := 15) (v := (if 0 ≤ x0 then (4611686018427387904 : UInt64) else (4602678819172646912 : UInt64) : UInt64)) (ls := ls) (rest := []) (fun kJ => ?_) ?_
  · refine lv_if_ge (tgt := 12) hx hb dX0_powerOfTwo_3 (by decide) (fun c_1 => ?_) (fun c_1 => ?_)
    · refine lv_ldc2d hx hb hown (hg _ tw_279) dX0_powerOfTwo_12 ?_
      exact kJ _ (by rw [if_pos c_1])
    · refine lv_ldc2d hx hb hown (hg _ tw_278) dX0_powerOfTwo_6 ?_
      refine lv_goto (tgt := 15) hx hb dX0_powerOfTwo_9 (by decide) ?_
      exact kJ _ (by rw [if_neg c_1])
  refine lv_dstore_n (lv' := [(3, .double (if 0 ≤ x0 then (4611686018427387904 : UInt64) else (4602678819172646912 : UInt64) : UInt64)), (1, .double FP.dconst1), (0, .int x0)]) hx hb dX0_powerOfTwo_15 rfl hl (by decide) rfl (fun ls hl => ?_)
  refine lv_iload_n hx hb dX0_powerOfTwo_16 rfl (lv_at hl 2 rfl) ?_
  refine q_abs C tw_239 (by decide) (Nat.le_of_ble_eq_true rfl) (by decide) hl.1 dX0_powerOfTwo_17 ?_
  refine lv_istore (lv' := [(5, .int (jabs x0)), (3, .double (if 0 ≤ x0 then (4611686018427387904 : UInt64) else (4602678819172646912 : UInt64) : UInt64)), (1, .double FP.dconst1), (0, .int x0)]) hx hb dX0_powerOfTwo_20 hl (by decide) rfl (fun ls hl => ?_)
  exact wX0_powerOfTwo_L22 C FU _ _ _ _ _ (lv_sub hl [2, 1, 0] rfl) h
theorem sc_X0_powerOfTwo : SC yX0_powerOfTwo cX0_powerOfTwo 6 (some .double) 1 := ⟨tw_276, tw_1, tw_277, by decide +kernel⟩
theorem cX0_powerOfTwo_met (l : Launch) (x0 : Int32) (v : UInt64) (h : jX0_powerOfTwo x0 = some v) : PM l yX0_powerOfTwo cX0_powerOfTwo 6 (some .double) (rmz 1 21) [.int x0] (.double v) :=
  pm_of (own := RX0) (by decide +kernel) rfl (Nat.le_of_ble_eq_true rfl) (fun p e s m below meth c ls C hl => wX0_powerOfTwo_0 C x0 ls v hl h)
end
section
/-! the worlds: a Big (obj, parts), two of them, the model (8 cells), the desk (2 cells); ad: addresses, ck: the array classes (int, long, boolean, double) -/
abbrev NI : Type := Nat → Int32
abbrev NL : Type := Nat → Int64
abbrev MS : Type := Int32 × NI × NL × NI × Int32 × Int64 × Int32 × NI × NI
abbrev tyB (ck : Nat → ClassId) : List (ClassId × FieldType) := [(ck 0, .int)]
abbrev tyM (ck : Nat → ClassId) : List (ClassId × FieldType) := [(ck 0, .int), (ck 1, .long), (ck 2, .boolean)]
abbrev tyD (ck : Nat → ClassId) : List (ClassId × FieldType) := [(ck 1, .long)]
abbrev wB (ck : Nat → ClassId) (ad : Nat → Nat) (fa : NI) : va_W := [(ad 0, .inr (1, [.ref (ad 1)])), (ad 1, .inl (ck 0, 140, .inl fa))]
abbrev wBB (ck : Nat → ClassId) (ad : Nat → Nat) (fa fb : NI) : va_W := [(ad 0, .inr (1, [.ref (ad 1)])), (ad 1, .inl (ck 0, 140, .inl fa)), (ad 2, .inr (1, [.ref (ad 3)])), (ad 3, .inl (ck 0, 140, .inl fb))]
abbrev wM (ck : Nat → ClassId) (ad : Nat → Nat) (th : Int32) (mi : NI) (di : NL) (po : NI) (be : Int32) (mm : Int64) (ee : Int32) (fa fb : NI) : va_W :=
  [(ad 0, .inr (2, [.int th, .ref (ad 1), .ref (ad 2), .ref (ad 3), .int be, .long mm, .int ee, .ref (ad 4), .ref (ad 6)])), (ad 1, .inl (ck 2, 16, .inl mi)), (ad 2, .inl (ck 1, 16, .inr (.inl di))), (ad 3, .inl (ck 0, 16, .inl po)),
   (ad 4, .inr (1, [.ref (ad 5)])), (ad 5, .inl (ck 0, 140, .inl fa)), (ad 6, .inr (1, [.ref (ad 7)])), (ad 7, .inl (ck 0, 140, .inl fb))]
abbrev wD (ck : Nat → ClassId) (ad : Nat → Nat) (g : NL) : va_W := [(ad 0, .inr (0, [.ref (ad 1)])), (ad 1, .inl (ck 1, 16, .inr (.inl g)))]
def b2 {α β γ : Type} (o : Option (α × β)) (f : α → β → Option γ) : Option γ := o.bind (fun q => f q.1 q.2)
theorem of_b2 {α β γ : Type} {o : Option (α × β)} {f : α → β → Option γ} {r : γ} (h : b2 o f = some r) : ∃ a b, o = some (a, b) ∧ f a b = some r := by
  obtain ⟨⟨a, b⟩, h1, h2⟩ := of_bind h
  exact ⟨a, b, h1, h2⟩
def b3 {α β γ δ : Type} (o : Option (α × β × γ)) (f : α → β → γ → Option δ) : Option δ := o.bind (fun q => f q.1 q.2.1 q.2.2)
theorem of_b3 {α β γ δ : Type} {o : Option (α × β × γ)} {f : α → β → γ → Option δ} {r : δ} (h : b3 o f = some r) : ∃ a b c, o = some (a, b, c) ∧ f a b c = some r := by
  obtain ⟨⟨a, b, c⟩, h1, h2⟩ := of_bind h
  exact ⟨a, b, c, h1, h2⟩
def bM {α γ : Type} (o : Option (α × MS)) (f : α → Int32 → NI → NL → NI → Int32 → Int64 → Int32 → NI → NI → Option γ) : Option γ := o.bind (fun q => f q.1 q.2.1 q.2.2.1 q.2.2.2.1 q.2.2.2.2.1 q.2.2.2.2.2.1 q.2.2.2.2.2.2.1 q.2.2.2.2.2.2.2.1 q.2.2.2.2.2.2.2.2.1 q.2.2.2.2.2.2.2.2.2)
theorem of_bM {α γ : Type} {o : Option (α × MS)} {f : α → Int32 → NI → NL → NI → Int32 → Int64 → Int32 → NI → NI → Option γ} {r : γ} (h : bM o f = some r) : ∃ a th mi di po be mm ee fa fb, o = some (a, th, mi, di, po, be, mm, ee, fa, fb) ∧ f a th mi di po be mm ee fa fb = some r := by
  obtain ⟨⟨a, th, mi, di, po, be, mm, ee, fa, fb⟩, h1, h2⟩ := of_bind h
  exact ⟨a, th, mi, di, po, be, mm, ee, fa, fb, h1, h2⟩
def bMv {γ : Type} (o : Option MS) (f : Int32 → NI → NL → NI → Int32 → Int64 → Int32 → NI → NI → Option γ) : Option γ := o.bind (fun q => f q.1 q.2.1 q.2.2.1 q.2.2.2.1 q.2.2.2.2.1 q.2.2.2.2.2.1 q.2.2.2.2.2.2.1 q.2.2.2.2.2.2.2.1 q.2.2.2.2.2.2.2.2)
theorem of_bMv {γ : Type} {o : Option MS} {f : Int32 → NI → NL → NI → Int32 → Int64 → Int32 → NI → NI → Option γ} {r : γ} (h : bMv o f = some r) : ∃ th mi di po be mm ee fa fb, o = some (th, mi, di, po, be, mm, ee, fa, fb) ∧ f th mi di po be mm ee fa fb = some r := by
  obtain ⟨⟨th, mi, di, po, be, mm, ee, fa, fb⟩, h1, h2⟩ := of_bind h
  exact ⟨th, mi, di, po, be, mm, ee, fa, fb, h1, h2⟩
section WC
variable {p : Program} {l : Launch} {e : Env} {R : Room} {s : State} {m : MethodId} {args : Array Value} {below : List Frame} {meth : Method} {c : Code} {H : Heap} {locs : List Loc} {cells slots : Nat} {Q : State → Prop}
variable {own : String} {cc : ByteArray} {nL : Nat} {ret0 : Option FieldType} {pc : Nat} {ls : Array Slot} {rest : List Value} {D : va_G} {A : Nat → Prop} {ck : Nat → ClassId} {ad : Nat → Nat}
variable {y : MethodName} {bytes : ByteArray} {maxL n idx : Nat} {ret : Option FieldType} {rm : Room} {As : List Value} {v : Option Value} {st0 : List Value}
theorem callB {fa fa' : NI} (C : CX p s m args meth c own cc nL ret0) (hK : va_K D vwCl (tyB ck) s) (hX : XT s) (hP : va_P D vwCl (wB ck ad fa) H) (hD : va_D A (wB ck ad fa)) (hS : va_S A s.heap H locs) (hA : ∀ q, s.heap.size ≤ q → A q)
    (hM : HM l y bytes maxL ret rm (.ref (ad 0) :: As) (tyB ck) (wB ck ad fa) v (wB ck ad fa')) (hV : VC RX1 y bytes maxL ret n) (hl : Cond.methodLink own idx y ∈ gtbl)
    (hRm : (rm.frames + 1 ≤ R.frames ∧ 8 + (maxL + 11) + rm.locals ≤ R.locals) ∧ rm.cells = 0 ∧ rm.slots = 0) (hna : As.length = n) (hsz : ls.size = nL) (hst : st0 = As.reverse ++ .ref (ad 0) :: rest) (hW : (rest.map fun v => v.category).sum ≤ 8) (hc : cells ≤ R.cells ∧ slots ≤ R.slots) (hd : decode cc pc = .ok (.invokevirtual idx, 3))
    (k : ∀ (H1 : Heap) (locs1 : List Loc), va_P D vwCl (wB ck ad fa') H1 → va_D A (wB ck ad fa') → va_S A s.heap H1 locs1 → W p l e R s m args below meth c H1 locs1 cells slots Q (F0 m (pc + 3) ls (v.toList ++ rest))) : W p l e R s m args below meth c H locs cells slots Q (F0 m pc ls st0) :=
  hcallV (wr := []) C hK hX hP hD hS hA hM hV hl [0, 1] [] [0, 1] [0] rfl rfl rfl rfl rfl (by decide) rfl rfl rfl rfl (q0 := 0) (ci := 1) rfl rfl rfl hRm hna hsz hst hW hc hd k
theorem callD {g g' : NL} (C : CX p s m args meth c own cc nL ret0) (hK : va_K D vwCl (tyD ck) s) (hX : XT s) (hP : va_P D vwCl (wD ck ad g) H) (hD : va_D A (wD ck ad g)) (hS : va_S A s.heap H locs) (hA : ∀ q, s.heap.size ≤ q → A q)
    (hM : HM l y bytes maxL ret rm (.ref (ad 0) :: As) (tyD ck) (wD ck ad g) v (wD ck ad g')) (hV : VC RX0 y bytes maxL ret n) (hl : Cond.methodLink own idx y ∈ gtbl)
    (hRm : (rm.frames + 1 ≤ R.frames ∧ 8 + (maxL + 11) + rm.locals ≤ R.locals) ∧ rm.cells = 0 ∧ rm.slots = 0) (hna : As.length = n) (hsz : ls.size = nL) (hst : st0 = As.reverse ++ .ref (ad 0) :: rest) (hW : (rest.map fun v => v.category).sum ≤ 8) (hc : cells ≤ R.cells ∧ slots ≤ R.slots) (hd : decode cc pc = .ok (.invokevirtual idx, 3))
    (k : ∀ (H1 : Heap) (locs1 : List Loc), va_P D vwCl (wD ck ad g') H1 → va_D A (wD ck ad g') → va_S A s.heap H1 locs1 → W p l e R s m args below meth c H1 locs1 cells slots Q (F0 m (pc + 3) ls (v.toList ++ rest))) : W p l e R s m args below meth c H locs cells slots Q (F0 m pc ls st0) :=
  hcallV (wr := []) C hK hX hP hD hS hA hM hV hl [0, 1] [] [0, 1] [0] rfl rfl rfl rfl rfl (by decide) rfl rfl rfl rfl (q0 := 0) (ci := 0) rfl rfl rfl hRm hna hsz hst hW hc hd k
variable {th : Int32} {mi : NI} {di : NL} {po : NI} {be : Int32} {mm : Int64} {ee : Int32} {fa fb : NI}
theorem callMM {th' : Int32} {mi' : NI} {di' : NL} {po' : NI} {be' : Int32} {mm' : Int64} {ee' : Int32} {fa' fb' : NI} (C : CX p s m args meth c own cc nL ret0) (hK : va_K D vwCl (tyM ck) s) (hX : XT s) (hP : va_P D vwCl (wM ck ad th mi di po be mm ee fa fb) H) (hD : va_D A (wM ck ad th mi di po be mm ee fa fb)) (hS : va_S A s.heap H locs) (hA : ∀ q, s.heap.size ≤ q → A q)
    (hM : HM l y bytes maxL ret rm (.ref (ad 0) :: As) (tyM ck) (wM ck ad th mi di po be mm ee fa fb) v (wM ck ad th' mi' di' po' be' mm' ee' fa' fb')) (hV : VC RX2 y bytes maxL ret n) (hl : Cond.methodLink own idx y ∈ gtbl)
    (hRm : (rm.frames + 1 ≤ R.frames ∧ 8 + (maxL + 11) + rm.locals ≤ R.locals) ∧ rm.cells = 0 ∧ rm.slots = 0) (hna : As.length = n) (hsz : ls.size = nL) (hst : st0 = As.reverse ++ .ref (ad 0) :: rest) (hW : (rest.map fun v => v.category).sum ≤ 8) (hc : cells ≤ R.cells ∧ slots ≤ R.slots) (hd : decode cc pc = .ok (.invokevirtual idx, 3))
    (k : ∀ (H1 : Heap) (locs1 : List Loc), va_P D vwCl (wM ck ad th' mi' di' po' be' mm' ee' fa' fb') H1 → va_D A (wM ck ad th' mi' di' po' be' mm' ee' fa' fb') → va_S A s.heap H1 locs1 → W p l e R s m args below meth c H1 locs1 cells slots Q (F0 m (pc + 3) ls (v.toList ++ rest))) : W p l e R s m args below meth c H locs cells slots Q (F0 m pc ls st0) :=
  hcallV (wr := []) C hK hX hP hD hS hA hM hV hl [0, 1, 2, 3, 4, 5, 6, 7] [] [0, 1, 2, 3, 4, 5, 6, 7] [0, 1, 2] rfl rfl rfl rfl rfl (by decide) rfl rfl rfl rfl (q0 := 0) (ci := 2) rfl rfl rfl hRm hna hsz hst hW hc hd k
theorem callMa {fa' : NI} (C : CX p s m args meth c own cc nL ret0) (hK : va_K D vwCl (tyM ck) s) (hX : XT s) (hP : va_P D vwCl (wM ck ad th mi di po be mm ee fa fb) H) (hD : va_D A (wM ck ad th mi di po be mm ee fa fb)) (hS : va_S A s.heap H locs) (hA : ∀ q, s.heap.size ≤ q → A q)
    (hM : HM l y bytes maxL ret rm (.ref (ad 4) :: As) (tyB ck) (wB ck (fun i => ad (i + 4)) fa) v (wB ck (fun i => ad (i + 4)) fa')) (hV : VC RX1 y bytes maxL ret n) (hl : Cond.methodLink own idx y ∈ gtbl)
    (hRm : (rm.frames + 1 ≤ R.frames ∧ 8 + (maxL + 11) + rm.locals ≤ R.locals) ∧ rm.cells = 0 ∧ rm.slots = 0) (hna : As.length = n) (hsz : ls.size = nL) (hst : st0 = As.reverse ++ .ref (ad 4) :: rest) (hW : (rest.map fun v => v.category).sum ≤ 8) (hc : cells ≤ R.cells ∧ slots ≤ R.slots) (hd : decode cc pc = .ok (.invokevirtual idx, 3))
    (k : ∀ (H1 : Heap) (locs1 : List Loc), va_P D vwCl (wM ck ad th mi di po be mm ee fa' fb) H1 → va_D A (wM ck ad th mi di po be mm ee fa' fb) → va_S A s.heap H1 locs1 → W p l e R s m args below meth c H1 locs1 cells slots Q (F0 m (pc + 3) ls (v.toList ++ rest))) : W p l e R s m args below meth c H locs cells slots Q (F0 m pc ls st0) :=
  hcallV (wr := [(ad 0, .inr (2, [.int th, .ref (ad 1), .ref (ad 2), .ref (ad 3), .int be, .long mm, .int ee, .ref (ad 4), .ref (ad 6)])), (ad 1, .inl (ck 2, 16, .inl mi)), (ad 2, .inl (ck 1, 16, .inr (.inl di))), (ad 3, .inl (ck 0, 16, .inl po)), (ad 6, .inr (1, [.ref (ad 7)])), (ad 7, .inl (ck 0, 140, .inl fb))])
    C hK hX hP hD hS hA hM hV hl [4, 5] [0, 1, 2, 3, 6, 7] [0, 1, 2, 3, 6, 7, 4, 5] [0] rfl rfl rfl rfl rfl (by decide) rfl rfl rfl rfl (q0 := 4) (ci := 1) rfl rfl rfl hRm hna hsz hst hW hc hd k
theorem callMb {fb' : NI} (C : CX p s m args meth c own cc nL ret0) (hK : va_K D vwCl (tyM ck) s) (hX : XT s) (hP : va_P D vwCl (wM ck ad th mi di po be mm ee fa fb) H) (hD : va_D A (wM ck ad th mi di po be mm ee fa fb)) (hS : va_S A s.heap H locs) (hA : ∀ q, s.heap.size ≤ q → A q)
    (hM : HM l y bytes maxL ret rm (.ref (ad 6) :: As) (tyB ck) (wB ck (fun i => ad (i + 6)) fb) v (wB ck (fun i => ad (i + 6)) fb')) (hV : VC RX1 y bytes maxL ret n) (hl : Cond.methodLink own idx y ∈ gtbl)
    (hRm : (rm.frames + 1 ≤ R.frames ∧ 8 + (maxL + 11) + rm.locals ≤ R.locals) ∧ rm.cells = 0 ∧ rm.slots = 0) (hna : As.length = n) (hsz : ls.size = nL) (hst : st0 = As.reverse ++ .ref (ad 6) :: rest) (hW : (rest.map fun v => v.category).sum ≤ 8) (hc : cells ≤ R.cells ∧ slots ≤ R.slots) (hd : decode cc pc = .ok (.invokevirtual idx, 3))
    (k : ∀ (H1 : Heap) (locs1 : List Loc), va_P D vwCl (wM ck ad th mi di po be mm ee fa fb') H1 → va_D A (wM ck ad th mi di po be mm ee fa fb') → va_S A s.heap H1 locs1 → W p l e R s m args below meth c H1 locs1 cells slots Q (F0 m (pc + 3) ls (v.toList ++ rest))) : W p l e R s m args below meth c H locs cells slots Q (F0 m pc ls st0) :=
  hcallV (wr := [(ad 0, .inr (2, [.int th, .ref (ad 1), .ref (ad 2), .ref (ad 3), .int be, .long mm, .int ee, .ref (ad 4), .ref (ad 6)])), (ad 1, .inl (ck 2, 16, .inl mi)), (ad 2, .inl (ck 1, 16, .inr (.inl di))), (ad 3, .inl (ck 0, 16, .inl po)), (ad 4, .inr (1, [.ref (ad 5)])), (ad 5, .inl (ck 0, 140, .inl fa))])
    C hK hX hP hD hS hA hM hV hl [6, 7] [0, 1, 2, 3, 4, 5] [0, 1, 2, 3, 4, 5, 6, 7] [0] rfl rfl rfl rfl rfl (by decide) rfl rfl rfl rfl (q0 := 6) (ci := 1) rfl rfl rfl hRm hna hsz hst hW hc hd k
theorem callMab {fa' fb' : NI} (C : CX p s m args meth c own cc nL ret0) (hK : va_K D vwCl (tyM ck) s) (hX : XT s) (hP : va_P D vwCl (wM ck ad th mi di po be mm ee fa fb) H) (hD : va_D A (wM ck ad th mi di po be mm ee fa fb)) (hS : va_S A s.heap H locs) (hA : ∀ q, s.heap.size ≤ q → A q)
    (hM : HM l y bytes maxL ret rm (.ref (ad 4) :: As) (tyB ck) (wBB ck (fun i => ad (i + 4)) fa fb) v (wBB ck (fun i => ad (i + 4)) fa' fb')) (hV : VC RX1 y bytes maxL ret n) (hl : Cond.methodLink own idx y ∈ gtbl)
    (hRm : (rm.frames + 1 ≤ R.frames ∧ 8 + (maxL + 11) + rm.locals ≤ R.locals) ∧ rm.cells = 0 ∧ rm.slots = 0) (hna : As.length = n) (hsz : ls.size = nL) (hst : st0 = As.reverse ++ .ref (ad 4) :: rest) (hW : (rest.map fun v => v.category).sum ≤ 8) (hc : cells ≤ R.cells ∧ slots ≤ R.slots) (hd : decode cc pc = .ok (.invokevirtual idx, 3))
    (k : ∀ (H1 : Heap) (locs1 : List Loc), va_P D vwCl (wM ck ad th mi di po be mm ee fa' fb') H1 → va_D A (wM ck ad th mi di po be mm ee fa' fb') → va_S A s.heap H1 locs1 → W p l e R s m args below meth c H1 locs1 cells slots Q (F0 m (pc + 3) ls (v.toList ++ rest))) : W p l e R s m args below meth c H locs cells slots Q (F0 m pc ls st0) :=
  hcallV (wr := [(ad 0, .inr (2, [.int th, .ref (ad 1), .ref (ad 2), .ref (ad 3), .int be, .long mm, .int ee, .ref (ad 4), .ref (ad 6)])), (ad 1, .inl (ck 2, 16, .inl mi)), (ad 2, .inl (ck 1, 16, .inr (.inl di))), (ad 3, .inl (ck 0, 16, .inl po))])
    C hK hX hP hD hS hA hM hV hl [4, 5, 6, 7] [0, 1, 2, 3] [0, 1, 2, 3, 4, 5, 6, 7] [0] rfl rfl rfl rfl rfl (by decide) rfl rfl rfl rfl (q0 := 4) (ci := 1) rfl rfl rfl hRm hna hsz hst hW hc hd k
end WC
end
section
/-! RealDeskModel$Big.set(J)V -/
def jX1_set_L2 : Nat → NI → Int64 → Int32 → Option (NI)
  | 0, _, _, _ => none
  | k + 1, fa, x1, x3 => (if 140 ≤ x3 then some (fa) else (if ok x3 140 = true then jX1_set_L2 k (upd fa x3.toNatClampNeg (if 3 ≤ x3 then 0 else ((sr x1 (24 * x3)) &&& 16777215).toInt32 : Int32)) x1 (x3 + 1) else none))
set_option maxHeartbeats 4000000 in
set_option maxRecDepth 100000 in
theorem wX1_set_L2 {p : Program} {l : Launch} {e : Env} {s : State} {m : MethodId} {args : Array Value} {below : List Frame} {meth : Method} {c : Code} {D : va_G} {A : Nat → Prop} {ck : Nat → ClassId} {ad : Nat → Nat} (C : CX p s m args meth c RX1 cX1_set 4 none) (hA : ∀ q, s.heap.size ≤ q → A q) (hK : va_K D vwCl (tyB ck) s) (hX : XT s) : ∀ (k : Nat) (fa : NI) (x1 : Int64) (x3 : Int32) (ls : Array Slot) (H : Heap) (locs : List Loc) (u : NI), va_P D vwCl (wB ck ad fa) H → va_D A (wB ck ad fa) → va_S A s.heap H locs → lv_has ls 4 [(0, .ref (ad 0)), (1, .long x1), (3, .int x3)] → jX1_set_L2 k fa x1 x3 = some u → W p l e (rmz 0 0) s m args below meth c H locs 0 0 (MQ below (HQ D A (wB ck ad u) none) args s 0 0 A) (F0 m 2 ls []) := by
  obtain ⟨hx, hb, hml, hown, hg, hr, hlocks⟩ := id C
  intro k
  induction k with
  | zero => intro fa x1 x3 ls H locs u hP hD hS hl h; cases h
  | succ k ih =>
    intro fa x1 x3 ls H locs u hP hD hS hl h
    unfold jX1_set_L2 at h
    refine lv_iload_n hx hb dX1_set_2 rfl (lv_at hl 2 rfl) ?_
    refine lv_sipush (v := 140) hx hb dX1_set_3 (by decide) ?_
    refine lv_icmp_ge (tgt := 41) hx hb dX1_set_6 (by decide) (fun c_1 => ?_) (fun c_1 => ?_)
    · rw [if_pos c_1] at h
      cases h
      exact W.vret hx hb hr (fun t ht _ => ⟨rfl, by rw [ht]; exact hP, hD, hS.F ht⟩) hS.2.2 dX1_set_41
    · rw [if_neg c_1] at h
      refine lv_aload_n hx hb dX1_set_9 rfl (lv_at hl 0 rfl) ?_
      refine va_get hx hb hg inX1 hown hK hP 0 rfl rfl 0 (by decide) (hg _ tw_319) (fun _ h9 => h9) rfl dX1_set_10 ?_
      refine lv_iload_n hx hb dX1_set_13 rfl (lv_at hl 2 rfl) ?_
      refine lv_iload_n hx hb dX1_set_14 rfl (lv_at hl 2 rfl) ?_
      refine lv_iconst (v := 3) hx hb dX1_set_15 (by decide) ?_
      refine rg_i (pj := 34) (v := (if 3 ≤ x3 then 0 else ((sr x1 (24 * x3)) &&& 16777215).toInt32 : Int32)) (ls := ls) (rest := [.int x3, .ref (ad 1)]) (fun kJ => ?_) ?_
      · refine lv_icmp_ge (tgt := 33) hx hb dX1_set_16 (by decide) (fun c_2 => ?_) (fun c_2 => ?_)
        · refine lv_iconst (v := 0) hx hb dX1_set_33 (by decide) ?_
          exact kJ _ (by rw [if_pos c_2])
        · refine lv_lload_n hx hb dX1_set_19 rfl (lv_at hl 1 rfl) ?_
          refine lv_bipush (v := 24) hx hb dX1_set_20 (by decide) ?_
          refine lv_iload_n hx hb dX1_set_22 rfl (lv_at hl 2 rfl) ?_
          refine lv_imul hx hb dX1_set_23 ?_
          refine lv_lshr (v := sr x1 (24 * x3)) hx hb dX1_set_24 rfl ?_
          refine lv_ldc2 hx hb hown (hg _ tw_374) dX1_set_25 ?_
          refine lv_land hx hb dX1_set_28 ?_
          refine lv_l2i hx hb dX1_set_29 rfl ?_
          refine lv_goto (tgt := 34) hx hb dX1_set_30 (by decide) ?_
          exact kJ _ (by rw [if_neg c_2])
      obtain ⟨z_34, h⟩ := of_ite h
      refine va_iast hx hb hK hP hD hS 1 0 rfl rfl (ok_in z_34) dX1_set_34 (fun H locs hP hD hS => ?_)
      have hP : va_P D vwCl (wB ck ad (upd fa x3.toNatClampNeg (if 3 ≤ x3 then 0 else ((sr x1 (24 * x3)) &&& 16777215).toInt32 : Int32))) H := hP
      have hD : va_D A (wB ck ad (upd fa x3.toNatClampNeg (if 3 ≤ x3 then 0 else ((sr x1 (24 * x3)) &&& 16777215).toInt32 : Int32))) := hD
      refine lv_iinc (v := x3 + 1) (lv' := [(3, .int (x3 + 1)), (0, .ref (ad 0)), (1, .long x1)]) hx hb dX1_set_35 hl (k := 2) rfl rfl (by decide) rfl (fun ls hl => ?_)
      refine lv_goto (tgt := 2) hx hb dX1_set_38 (by decide) ?_
      exact ih _ _ _ _ _ _ _ hP hD hS (lv_sub hl [1, 2, 0] rfl) h
def jX1_set (fa : NI) (x1 : Int64) : Option (NI) := jX1_set_L2 FU fa x1 0
set_option maxHeartbeats 4000000 in
set_option maxRecDepth 100000 in
theorem wX1_set_0 {p : Program} {l : Launch} {e : Env} {s : State} {m : MethodId} {args : Array Value} {below : List Frame} {meth : Method} {c : Code} {D : va_G} {A : Nat → Prop} {ck : Nat → ClassId} {ad : Nat → Nat} (C : CX p s m args meth c RX1 cX1_set 4 none) (hA : ∀ q, s.heap.size ≤ q → A q) (hK : va_K D vwCl (tyB ck) s) (hX : XT s) (fa : NI) (x1 : Int64) (ls : Array Slot) (H : Heap) (locs : List Loc) (u : NI) (hP : va_P D vwCl (wB ck ad fa) H) (hD : va_D A (wB ck ad fa)) (hS : va_S A s.heap H locs) (hl : lv_has ls 4 [(0, .ref (ad 0)), (1, .long x1)]) (h : jX1_set fa x1 = some u) : W p l e (rmz 0 0) s m args below meth c H locs 0 0 (MQ below (HQ D A (wB ck ad u) none) args s 0 0 A) (F0 m 0 ls []) := by
  obtain ⟨hx, hb, hml, hown, hg, hr, hlocks⟩ := id C
  unfold jX1_set at h
  refine lv_iconst (v := 0) hx hb dX1_set_0 (by decide) ?_
  refine lv_istore_n (lv' := [(3, .int 0), (0, .ref (ad 0)), (1, .long x1)]) hx hb dX1_set_1 rfl hl (by decide) rfl (fun ls hl => ?_)
  exact wX1_set_L2 C hA hK hX FU _ _ _ _ _ _ _ hP hD hS (lv_sub hl [1, 2, 0] rfl) h
theorem vc_X1_set : VC RX1 yX1_set cX1_set 4 none 1 := ⟨tw_371, tw_372, tw_3, tw_373, by decide +kernel⟩
theorem cX1_set_met (l : Launch) (ck : Nat → ClassId) (ad : Nat → Nat) (fa : NI) (x1 : Int64) (u : NI) (h : jX1_set fa x1 = some u) : HM l yX1_set cX1_set 4 none (rmz 0 0) [.ref (ad 0), .long x1] (tyB ck) (wB ck ad fa) none (wB ck ad u) :=
  hm_of (own := RX1) (by decide +kernel) rfl (Nat.le_of_ble_eq_true rfl) (fun D A p e s m below meth c ls C hA hK hX hP hD hS hl => wX1_set_0 C hA hK hX fa x1 ls _ _ u hP hD hS hl h)

/-! RealDeskModel$Big.bit(I)Z -/
def jX1_bit (fa : NI) (x1 : Int32) : Option (Int32 × NI) := (if x1 < 0 then some (0, fa) else (if 3360 ≤ x1 then some (0, fa) else (if ok (x1 / 24) 140 = true then some ((if (((fa (x1 / 24).toNatClampNeg) >>> ((x1 - x1 / 24 * 24) &&& 31)) &&& 1) = 1 then 1 else 0 : Int32), fa) else none)))
set_option maxHeartbeats 4000000 in
set_option maxRecDepth 100000 in
theorem wX1_bit_0 {p : Program} {l : Launch} {e : Env} {s : State} {m : MethodId} {args : Array Value} {below : List Frame} {meth : Method} {c : Code} {D : va_G} {A : Nat → Prop} {ck : Nat → ClassId} {ad : Nat → Nat} (C : CX p s m args meth c RX1 cX1_bit 2 (some .boolean)) (hA : ∀ q, s.heap.size ≤ q → A q) (hK : va_K D vwCl (tyB ck) s) (hX : XT s) (fa : NI) (x1 : Int32) (ls : Array Slot) (H : Heap) (locs : List Loc) (u : Int32 × NI) (hP : va_P D vwCl (wB ck ad fa) H) (hD : va_D A (wB ck ad fa)) (hS : va_S A s.heap H locs) (hl : lv_has ls 2 [(0, .ref (ad 0)), (1, .int x1)]) (h : jX1_bit fa x1 = some u) : W p l e (rmz 0 0) s m args below meth c H locs 0 0 (MQ below (HQ D A (wB ck ad u.2) (some (.int u.1))) args s 0 0 A) (F0 m 0 ls []) := by
  obtain ⟨hx, hb, hml, hown, hg, hr, hlocks⟩ := id C
  unfold jX1_bit at h
  refine lv_iload_n hx hb dX1_bit_0 rfl (lv_at hl 1 rfl) ?_
  refine lv_if_lt (tgt := 35) hx hb dX1_bit_1 (by decide) (fun c_1 => ?_) (fun c_1 => ?_)
  · rw [if_pos c_1] at h
    refine lv_iconst (v := 0) hx hb dX1_bit_35 (by decide) ?_
    cases h
    exact W.zret hx hb hr (by first | rfl | (split <;> rfl) | (split <;> first | rfl | (split <;> rfl))) (fun t ht _ => ⟨rfl, by rw [ht]; exact hP, hD, hS.F ht⟩) hS.2.2 dX1_bit_36
  · rw [if_neg c_1] at h
    refine lv_iload_n hx hb dX1_bit_4 rfl (lv_at hl 1 rfl) ?_
    refine lv_sipush (v := 3360) hx hb dX1_bit_5 (by decide) ?_
    refine lv_icmp_ge (tgt := 35) hx hb dX1_bit_8 (by decide) (fun c_2 => ?_) (fun c_2 => ?_)
    · rw [if_pos c_2] at h
      refine lv_iconst (v := 0) hx hb dX1_bit_35 (by decide) ?_
      cases h
      exact W.zret hx hb hr (by first | rfl | (split <;> rfl) | (split <;> first | rfl | (split <;> rfl))) (fun t ht _ => ⟨rfl, by rw [ht]; exact hP, hD, hS.F ht⟩) hS.2.2 dX1_bit_36
    · rw [if_neg c_2] at h
      refine lv_aload_n hx hb dX1_bit_11 rfl (lv_at hl 0 rfl) ?_
      refine va_get hx hb hg inX1 hown hK hP 0 rfl rfl 0 (by decide) (hg _ tw_319) (fun _ h9 => h9) rfl dX1_bit_12 ?_
      refine lv_iload_n hx hb dX1_bit_15 rfl (lv_at hl 1 rfl) ?_
      refine lv_bipush (v := 24) hx hb dX1_bit_16 (by decide) ?_
      refine lv_idiv hx hb dX1_bit_18 (by decide) ?_
      obtain ⟨z_19, h⟩ := of_ite h
      refine va_iald hx hb hK hP 1 0 rfl rfl (ok_in z_19) dX1_bit_19 ?_
      refine lv_iload_n hx hb dX1_bit_20 rfl (lv_at hl 1 rfl) ?_
      refine lv_bipush (v := 24) hx hb dX1_bit_21 (by decide) ?_
      refine lv_irem hx hb dX1_bit_23 (by decide) ?_
      refine lv_ishr hx hb dX1_bit_24 ?_
      refine lv_iconst (v := 1) hx hb dX1_bit_25 (by decide) ?_
      refine lv_iand hx hb dX1_bit_26 ?_
      refine lv_iconst (v := 1) hx hb dX1_bit_27 (by decide) ?_
      refine rg_i (pj := 36) (v := (if (((fa (x1 / 24).toNatClampNeg) >>> ((x1 - x1 / 24 * 24) &&& 31)) &&& 1) = 1 then 1 else 0 : Int32)) (ls := ls) (rest := []) (fun kJ => ?_) ?_
      · refine lv_icmp_ne (tgt := 35) hx hb dX1_bit_28 (by decide) (fun c_3 => ?_) (fun c_3 => ?_)
        · refine lv_iconst (v := 0) hx hb dX1_bit_35 (by decide) ?_
          exact kJ _ (by rw [if_neg c_3])
        · refine lv_iconst (v := 1) hx hb dX1_bit_31 (by decide) ?_
          refine lv_goto (tgt := 36) hx hb dX1_bit_32 (by decide) ?_
          exact kJ _ (by rw [if_pos c_3])
      cases h
      exact W.zret hx hb hr (by first | rfl | (split <;> rfl) | (split <;> first | rfl | (split <;> rfl))) (fun t ht _ => ⟨rfl, by rw [ht]; exact hP, hD, hS.F ht⟩) hS.2.2 dX1_bit_36
theorem vc_X1_bit : VC RX1 yX1_bit cX1_bit 2 (some .boolean) 1 := ⟨tw_384, tw_385, tw_3, tw_386, by decide +kernel⟩
theorem cX1_bit_met (l : Launch) (ck : Nat → ClassId) (ad : Nat → Nat) (fa : NI) (x1 : Int32) (u : Int32 × NI) (h : jX1_bit fa x1 = some u) : HM l yX1_bit cX1_bit 2 (some .boolean) (rmz 0 0) [.ref (ad 0), .int x1] (tyB ck) (wB ck ad fa) (some (.int u.1)) (wB ck ad u.2) :=
  hm_of (own := RX1) (by decide +kernel) rfl (Nat.le_of_ble_eq_true rfl) (fun D A p e s m below meth c ls C hA hK hX hP hD hS hl => wX1_bit_0 C hA hK hX fa x1 ls _ _ u hP hD hS hl h)

/-! RealDeskModel$Big.length()I -/
def jX1_length_L4 : Nat → NI → Int32 → Option (Int32 × NI)
  | 0, _, _ => none
  | k + 1, fa, x1 => (if x1 ≤ 0 then some (x1, fa) else (b2 (jX1_bit fa (x1 - 1)) fun r_1 fa_1 => (if r_1 = 0 then jX1_length_L4 k fa_1 (x1 + (-1)) else some (x1, fa_1))))
set_option maxHeartbeats 4000000 in
set_option maxRecDepth 100000 in
theorem wX1_length_L4 {p : Program} {l : Launch} {e : Env} {s : State} {m : MethodId} {args : Array Value} {below : List Frame} {meth : Method} {c : Code} {D : va_G} {A : Nat → Prop} {ck : Nat → ClassId} {ad : Nat → Nat} (C : CX p s m args meth c RX1 cX1_length 2 (some .int)) (hA : ∀ q, s.heap.size ≤ q → A q) (hK : va_K D vwCl (tyB ck) s) (hX : XT s) : ∀ (k : Nat) (fa : NI) (x1 : Int32) (ls : Array Slot) (H : Heap) (locs : List Loc) (u : Int32 × NI), va_P D vwCl (wB ck ad fa) H → va_D A (wB ck ad fa) → va_S A s.heap H locs → lv_has ls 2 [(0, .ref (ad 0)), (1, .int x1)] → jX1_length_L4 k fa x1 = some u → W p l e (rmz 1 21) s m args below meth c H locs 0 0 (MQ below (HQ D A (wB ck ad u.2) (some (.int u.1))) args s 0 0 A) (F0 m 4 ls []) := by
  obtain ⟨hx, hb, hml, hown, hg, hr, hlocks⟩ := id C
  intro k
  induction k with
  | zero => intro fa x1 ls H locs u hP hD hS hl h; cases h
  | succ k ih =>
    intro fa x1 ls H locs u hP hD hS hl h
    unfold jX1_length_L4 at h
    refine lv_iload_n hx hb dX1_length_4 rfl (lv_at hl 1 rfl) ?_
    refine lv_if_le (tgt := 24) hx hb dX1_length_5 (by decide) (fun c_1 => ?_) (fun c_1 => ?_)
    · rw [if_pos c_1] at h
      refine lv_iload_n hx hb dX1_length_24 rfl (lv_at hl 1 rfl) ?_
      cases h
      exact W.iret hx hb hr (fun t ht _ => ⟨rfl, by rw [ht]; exact hP, hD, hS.F ht⟩) hS.2.2 dX1_length_25
    · rw [if_neg c_1] at h
      refine lv_aload_n hx hb dX1_length_8 rfl (lv_at hl 0 rfl) ?_
      refine lv_iload_n hx hb dX1_length_9 rfl (lv_at hl 1 rfl) ?_
      refine lv_iconst (v := 1) hx hb dX1_length_10 (by decide) ?_
      refine lv_isub hx hb dX1_length_11 ?_
      obtain ⟨r_1, fa_1, h_r_1, h⟩ := of_b2 h
      refine callB C hK hX hP hD hS hA (cX1_bit_met l ck ad _ _ _ h_r_1) vc_X1_bit tw_383 (by decide) rfl hl.1 (rest := []) rfl (Nat.le_of_ble_eq_true rfl) (by decide) dX1_length_12 (fun H locs hP hD hS => ?_)
      have hP : va_P D vwCl (wB ck ad fa_1) H := hP
      have hD : va_D A (wB ck ad fa_1) := hD
      refine W.eq (g2 := F0 m 15 ls [.int r_1]) rfl ?_
      refine lv_if_ne (tgt := 24) hx hb dX1_length_15 (by decide) (fun c_2 => ?_) (fun c_2 => ?_)
      · rw [if_neg c_2] at h
        refine lv_iload_n hx hb dX1_length_24 rfl (lv_at hl 1 rfl) ?_
        cases h
        exact W.iret hx hb hr (fun t ht _ => ⟨rfl, by rw [ht]; exact hP, hD, hS.F ht⟩) hS.2.2 dX1_length_25
      · rw [if_pos c_2] at h
        refine lv_iinc (v := x1 + (-1)) (lv' := [(1, .int (x1 + (-1))), (0, .ref (ad 0))]) hx hb dX1_length_18 hl (k := 1) rfl rfl (by decide) rfl (fun ls hl => ?_)
        refine lv_goto (tgt := 4) hx hb dX1_length_21 (by decide) ?_
        exact ih _ _ _ _ _ _ hP hD hS (lv_sub hl [1, 0] rfl) h
def jX1_length (fa : NI) : Option (Int32 × NI) := jX1_length_L4 FU fa 3360
set_option maxHeartbeats 4000000 in
set_option maxRecDepth 100000 in
theorem wX1_length_0 {p : Program} {l : Launch} {e : Env} {s : State} {m : MethodId} {args : Array Value} {below : List Frame} {meth : Method} {c : Code} {D : va_G} {A : Nat → Prop} {ck : Nat → ClassId} {ad : Nat → Nat} (C : CX p s m args meth c RX1 cX1_length 2 (some .int)) (hA : ∀ q, s.heap.size ≤ q → A q) (hK : va_K D vwCl (tyB ck) s) (hX : XT s) (fa : NI) (ls : Array Slot) (H : Heap) (locs : List Loc) (u : Int32 × NI) (hP : va_P D vwCl (wB ck ad fa) H) (hD : va_D A (wB ck ad fa)) (hS : va_S A s.heap H locs) (hl : lv_has ls 2 [(0, .ref (ad 0))]) (h : jX1_length fa = some u) : W p l e (rmz 1 21) s m args below meth c H locs 0 0 (MQ below (HQ D A (wB ck ad u.2) (some (.int u.1))) args s 0 0 A) (F0 m 0 ls []) := by
  obtain ⟨hx, hb, hml, hown, hg, hr, hlocks⟩ := id C
  unfold jX1_length at h
  refine lv_sipush (v := 3360) hx hb dX1_length_0 (by decide) ?_
  refine lv_istore_n (lv' := [(1, .int 3360), (0, .ref (ad 0))]) hx hb dX1_length_3 rfl hl (by decide) rfl (fun ls hl => ?_)
  exact wX1_length_L4 C hA hK hX FU _ _ _ _ _ _ hP hD hS (lv_sub hl [1, 0] rfl) h
theorem vc_X1_length : VC RX1 yX1_length cX1_length 2 (some .int) 0 := ⟨tw_380, tw_381, tw_3, tw_382, by decide +kernel⟩
theorem cX1_length_met (l : Launch) (ck : Nat → ClassId) (ad : Nat → Nat) (fa : NI) (u : Int32 × NI) (h : jX1_length fa = some u) : HM l yX1_length cX1_length 2 (some .int) (rmz 1 21) [.ref (ad 0)] (tyB ck) (wB ck ad fa) (some (.int u.1)) (wB ck ad u.2) :=
  hm_of (own := RX1) (by decide +kernel) rfl (Nat.le_of_ble_eq_true rfl) (fun D A p e s m below meth c ls C hA hK hX hP hD hS hl => wX1_length_0 C hA hK hX fa ls _ _ u hP hD hS hl h)

/-! RealDeskModel$Big.twice(Z)V -/
def jX1_twice_L12 : Nat → NI → Int32 → Int32 → Option (NI)
  | 0, _, _, _ => none
  | k + 1, fa, x2, x3 => (if 140 ≤ x3 then some (fa) else (if ok x3 140 = true then (if ok x3 140 = true then jX1_twice_L12 k (upd fa x3.toNatClampNeg (((2 * (fa x3.toNatClampNeg)) + x2) &&& 16777215)) (((2 * (fa x3.toNatClampNeg)) + x2) >>> (24 &&& 31)) (x3 + 1) else none) else none))
set_option maxHeartbeats 4000000 in
set_option maxRecDepth 100000 in
theorem wX1_twice_L12 {p : Program} {l : Launch} {e : Env} {s : State} {m : MethodId} {args : Array Value} {below : List Frame} {meth : Method} {c : Code} {D : va_G} {A : Nat → Prop} {ck : Nat → ClassId} {ad : Nat → Nat} (C : CX p s m args meth c RX1 cX1_twice 5 none) (hA : ∀ q, s.heap.size ≤ q → A q) (hK : va_K D vwCl (tyB ck) s) (hX : XT s) : ∀ (k : Nat) (fa : NI) (x2 : Int32) (x3 : Int32) (ls : Array Slot) (H : Heap) (locs : List Loc) (u : NI), va_P D vwCl (wB ck ad fa) H → va_D A (wB ck ad fa) → va_S A s.heap H locs → lv_has ls 5 [(0, .ref (ad 0)), (2, .int x2), (3, .int x3)] → jX1_twice_L12 k fa x2 x3 = some u → W p l e (rmz 0 0) s m args below meth c H locs 0 0 (MQ below (HQ D A (wB ck ad u) none) args s 0 0 A) (F0 m 12 ls []) := by
  obtain ⟨hx, hb, hml, hown, hg, hr, hlocks⟩ := id C
  intro k
  induction k with
  | zero => intro fa x2 x3 ls H locs u hP hD hS hl h; cases h
  | succ k ih =>
    intro fa x2 x3 ls H locs u hP hD hS hl h
    unfold jX1_twice_L12 at h
    refine lv_iload_n hx hb dX1_twice_12 rfl (lv_at hl 2 rfl) ?_
    refine lv_sipush (v := 140) hx hb dX1_twice_13 (by decide) ?_
    refine lv_icmp_ge (tgt := 54) hx hb dX1_twice_16 (by decide) (fun c_1 => ?_) (fun c_1 => ?_)
    · rw [if_pos c_1] at h
      cases h
      exact W.vret hx hb hr (fun t ht _ => ⟨rfl, by rw [ht]; exact hP, hD, hS.F ht⟩) hS.2.2 dX1_twice_54
    · rw [if_neg c_1] at h
      refine lv_iconst (v := 2) hx hb dX1_twice_19 (by decide) ?_
      refine lv_aload_n hx hb dX1_twice_20 rfl (lv_at hl 0 rfl) ?_
      refine va_get hx hb hg inX1 hown hK hP 0 rfl rfl 0 (by decide) (hg _ tw_319) (fun _ h9 => h9) rfl dX1_twice_21 ?_
      refine lv_iload_n hx hb dX1_twice_24 rfl (lv_at hl 2 rfl) ?_
      obtain ⟨z_25, h⟩ := of_ite h
      refine va_iald hx hb hK hP 1 0 rfl rfl (ok_in z_25) dX1_twice_25 ?_
      refine lv_imul hx hb dX1_twice_26 ?_
      refine lv_iload_n hx hb dX1_twice_27 rfl (lv_at hl 1 rfl) ?_
      refine lv_iadd hx hb dX1_twice_28 ?_
      refine lv_istore (lv' := [(4, .int ((2 * (fa x3.toNatClampNeg)) + x2)), (0, .ref (ad 0)), (2, .int x2), (3, .int x3)]) hx hb dX1_twice_29 hl (by decide) rfl (fun ls hl => ?_)
      refine lv_aload_n hx hb dX1_twice_31 rfl (lv_at hl 1 rfl) ?_
      refine va_get hx hb hg inX1 hown hK hP 0 rfl rfl 0 (by decide) (hg _ tw_319) (fun _ h9 => h9) rfl dX1_twice_32 ?_
      refine lv_iload_n hx hb dX1_twice_35 rfl (lv_at hl 3 rfl) ?_
      refine lv_iload hx hb dX1_twice_36 (lv_at hl 0 rfl) ?_
      refine lv_ldc hx hb hown (hg _ tw_427) dX1_twice_38 ?_
      refine lv_iand hx hb dX1_twice_40 ?_
      obtain ⟨z_41, h⟩ := of_ite h
      refine va_iast hx hb hK hP hD hS 1 0 rfl rfl (ok_in z_41) dX1_twice_41 (fun H locs hP hD hS => ?_)
      have hP : va_P D vwCl (wB ck ad (upd fa x3.toNatClampNeg (((2 * (fa x3.toNatClampNeg)) + x2) &&& 16777215))) H := hP
      have hD : va_D A (wB ck ad (upd fa x3.toNatClampNeg (((2 * (fa x3.toNatClampNeg)) + x2) &&& 16777215))) := hD
      refine lv_iload hx hb dX1_twice_42 (lv_at hl 0 rfl) ?_
      refine lv_bipush (v := 24) hx hb dX1_twice_44 (by decide) ?_
      refine lv_ishr hx hb dX1_twice_46 ?_
      refine lv_istore_n (lv' := [(2, .int (((2 * (fa x3.toNatClampNeg)) + x2) >>> (24 &&& 31))), (4, .int ((2 * (fa x3.toNatClampNeg)) + x2)), (0, .ref (ad 0)), (3, .int x3)]) hx hb dX1_twice_47 rfl hl (by decide) rfl (fun ls hl => ?_)
      refine lv_iinc (v := x3 + 1) (lv' := [(3, .int (x3 + 1)), (2, .int (((2 * (fa x3.toNatClampNeg)) + x2) >>> (24 &&& 31))), (4, .int ((2 * (fa x3.toNatClampNeg)) + x2)), (0, .ref (ad 0))]) hx hb dX1_twice_48 hl (k := 3) rfl rfl (by decide) rfl (fun ls hl => ?_)
      refine lv_goto (tgt := 12) hx hb dX1_twice_51 (by decide) ?_
      exact ih _ _ _ _ _ _ _ hP hD hS (lv_sub hl [3, 1, 0] rfl) h
def jX1_twice (fa : NI) (x1 : Int32) : Option (NI) := jX1_twice_L12 FU fa (if x1 = 0 then 0 else 1 : Int32) 0
set_option maxHeartbeats 4000000 in
set_option maxRecDepth 100000 in
theorem wX1_twice_0 {p : Program} {l : Launch} {e : Env} {s : State} {m : MethodId} {args : Array Value} {below : List Frame} {meth : Method} {c : Code} {D : va_G} {A : Nat → Prop} {ck : Nat → ClassId} {ad : Nat → Nat} (C : CX p s m args meth c RX1 cX1_twice 5 none) (hA : ∀ q, s.heap.size ≤ q → A q) (hK : va_K D vwCl (tyB ck) s) (hX : XT s) (fa : NI) (x1 : Int32) (ls : Array Slot) (H : Heap) (locs : List Loc) (u : NI) (hP : va_P D vwCl (wB ck ad fa) H) (hD : va_D A (wB ck ad fa)) (hS : va_S A s.heap H locs) (hl : lv_has ls 5 [(0, .ref (ad 0)), (1, .int x1)]) (h : jX1_twice fa x1 = some u) : W p l e (rmz 0 0) s m args below meth c H locs 0 0 (MQ below (HQ D A (wB ck ad u) none) args s 0 0 A) (F0 m 0 ls []) := by
  obtain ⟨hx, hb, hml, hown, hg, hr, hlocks⟩ := id C
  unfold jX1_twice at h
  refine lv_iload_n hx hb dX1_twice_0 rfl (lv_at hl 1 rfl) ?_
  refine rg_i (pj := 9) (v := (if x1 = 0 then 0 else 1 : Int32)) (ls := ls) (rest := []) (fun kJ => ?_) ?_
  · refine lv_if_eq (tgt := 8) hx hb dX1_twice_1 (by decide) (fun c_1 => ?_) (fun c_1 => ?_)
    · refine lv_iconst (v := 0) hx hb dX1_twice_8 (by decide) ?_
      exact kJ _ (by rw [if_pos c_1])
    · refine lv_iconst (v := 1) hx hb dX1_twice_4 (by decide) ?_
      refine lv_goto (tgt := 9) hx hb dX1_twice_5 (by decide) ?_
      exact kJ _ (by rw [if_neg c_1])
  refine lv_istore_n (lv' := [(2, .int (if x1 = 0 then 0 else 1 : Int32)), (0, .ref (ad 0)), (1, .int x1)]) hx hb dX1_twice_9 rfl hl (by decide) rfl (fun ls hl => ?_)
  refine lv_iconst (v := 0) hx hb dX1_twice_10 (by decide) ?_
  refine lv_istore_n (lv' := [(3, .int 0), (2, .int (if x1 = 0 then 0 else 1 : Int32)), (0, .ref (ad 0)), (1, .int x1)]) hx hb dX1_twice_11 rfl hl (by decide) rfl (fun ls hl => ?_)
  exact wX1_twice_L12 C hA hK hX FU _ _ _ _ _ _ _ hP hD hS (lv_sub hl [2, 1, 0] rfl) h
theorem vc_X1_twice : VC RX1 yX1_twice cX1_twice 5 none 1 := ⟨tw_454, tw_455, tw_3, tw_456, by decide +kernel⟩
theorem cX1_twice_met (l : Launch) (ck : Nat → ClassId) (ad : Nat → Nat) (fa : NI) (x1 : Int32) (u : NI) (h : jX1_twice fa x1 = some u) : HM l yX1_twice cX1_twice 5 none (rmz 0 0) [.ref (ad 0), .int x1] (tyB ck) (wB ck ad fa) none (wB ck ad u) :=
  hm_of (own := RX1) (by decide +kernel) rfl (Nat.le_of_ble_eq_true rfl) (fun D A p e s m below meth c ls C hA hK hX hP hD hS hl => wX1_twice_0 C hA hK hX fa x1 ls _ _ u hP hD hS hl h)

/-! RealDeskModel$Big.up(I)V -/
def jX1_up_L4 : Nat → NI → Int32 → Int32 → Option (NI)
  | 0, _, _, _ => none
  | k + 1, fa, x1, x2 => (if x2 < 0 then some (fa) else (if (x2 - (x1 / 24)) < 0 then (if (x2 - (x1 / 24)) ≤ 0 then (if ok x2 140 = true then jX1_up_L4 k (upd fa x2.toNatClampNeg ((0 ||| 0) &&& 16777215)) x1 (x2 + (-1)) else none) else (if ok ((x2 - (x1 / 24)) - 1) 140 = true then (if ok x2 140 = true then jX1_up_L4 k (upd fa x2.toNatClampNeg ((0 ||| ((fa ((x2 - (x1 / 24)) - 1).toNatClampNeg) >>> ((24 - (x1 - x1 / 24 * 24)) &&& 31))) &&& 16777215)) x1 (x2 + (-1)) else none) else none)) else (if ok (x2 - (x1 / 24)) 140 = true then (if (x2 - (x1 / 24)) ≤ 0 then (if ok x2 140 = true then jX1_up_L4 k (upd fa x2.toNatClampNeg ((((fa (x2 - (x1 / 24)).toNatClampNeg) <<< ((x1 - x1 / 24 * 24) &&& 31)) ||| 0) &&& 16777215)) x1 (x2 + (-1)) else none) else (if ok ((x2 - (x1 / 24)) - 1) 140 = true then (if ok x2 140 = true then jX1_up_L4 k (upd fa x2.toNatClampNeg ((((fa (x2 - (x1 / 24)).toNatClampNeg) <<< ((x1 - x1 / 24 * 24) &&& 31)) ||| ((fa ((x2 - (x1 / 24)) - 1).toNatClampNeg) >>> ((24 - (x1 - x1 / 24 * 24)) &&& 31))) &&& 16777215)) x1 (x2 + (-1)) else none) else none)) else none)))
set_option maxHeartbeats 4000000 in
set_option maxRecDepth 100000 in
theorem wX1_up_L4 {p : Program} {l : Launch} {e : Env} {s : State} {m : MethodId} {args : Array Value} {below : List Frame} {meth : Method} {c : Code} {D : va_G} {A : Nat → Prop} {ck : Nat → ClassId} {ad : Nat → Nat} (C : CX p s m args meth c RX1 cX1_up 6 none) (hA : ∀ q, s.heap.size ≤ q → A q) (hK : va_K D vwCl (tyB ck) s) (hX : XT s) : ∀ (k : Nat) (fa : NI) (x1 : Int32) (x2 : Int32) (ls : Array Slot) (H : Heap) (locs : List Loc) (u : NI), va_P D vwCl (wB ck ad fa) H → va_D A (wB ck ad fa) → va_S A s.heap H locs → lv_has ls 6 [(0, .ref (ad 0)), (1, .int x1), (2, .int x2)] → jX1_up_L4 k fa x1 x2 = some u → W p l e (rmz 0 0) s m args below meth c H locs 0 0 (MQ below (HQ D A (wB ck ad u) none) args s 0 0 A) (F0 m 4 ls []) := by
  obtain ⟨hx, hb, hml, hown, hg, hr, hlocks⟩ := id C
  intro k
  induction k with
  | zero => intro fa x1 x2 ls H locs u hP hD hS hl h; cases h
  | succ k ih =>
    intro fa x1 x2 ls H locs u hP hD hS hl h
    unfold jX1_up_L4 at h
    refine lv_iload_n hx hb dX1_up_4 rfl (lv_at hl 2 rfl) ?_
    refine lv_if_lt (tgt := 82) hx hb dX1_up_5 (by decide) (fun c_1 => ?_) (fun c_1 => ?_)
    · rw [if_pos c_1] at h
      cases h
      exact W.vret hx hb hr (fun t ht _ => ⟨rfl, by rw [ht]; exact hP, hD, hS.F ht⟩) hS.2.2 dX1_up_82
    · rw [if_neg c_1] at h
      refine lv_iload_n hx hb dX1_up_8 rfl (lv_at hl 2 rfl) ?_
      refine lv_iload_n hx hb dX1_up_9 rfl (lv_at hl 1 rfl) ?_
      refine lv_bipush (v := 24) hx hb dX1_up_10 (by decide) ?_
      refine lv_idiv hx hb dX1_up_12 (by decide) ?_
      refine lv_isub hx hb dX1_up_13 ?_
      refine lv_istore_n (lv' := [(3, .int (x2 - (x1 / 24))), (0, .ref (ad 0)), (1, .int x1), (2, .int x2)]) hx hb dX1_up_14 rfl hl (by decide) rfl (fun ls hl => ?_)
      refine lv_iload_n hx hb dX1_up_15 rfl (lv_at hl 0 rfl) ?_
      refine lv_if_lt (tgt := 33) hx hb dX1_up_16 (by decide) (fun c_2 => ?_) (fun c_2 => ?_)
      · rw [if_pos c_2] at h
        refine lv_iconst (v := 0) hx hb dX1_up_33 (by decide) ?_
        refine lv_istore (lv' := [(4, .int 0), (3, .int (x2 - (x1 / 24))), (0, .ref (ad 0)), (1, .int x1), (2, .int x2)]) hx hb dX1_up_34 hl (by decide) rfl (fun ls hl => ?_)
        refine lv_iload_n hx hb dX1_up_36 rfl (lv_at hl 1 rfl) ?_
        refine lv_if_le (tgt := 59) hx hb dX1_up_37 (by decide) (fun c_3 => ?_) (fun c_3 => ?_)
        · rw [if_pos c_3] at h
          refine lv_iconst (v := 0) hx hb dX1_up_59 (by decide) ?_
          refine lv_istore (lv' := [(5, .int 0), (4, .int 0), (3, .int (x2 - (x1 / 24))), (0, .ref (ad 0)), (1, .int x1), (2, .int x2)]) hx hb dX1_up_60 hl (by decide) rfl (fun ls hl => ?_)
          refine lv_aload_n hx hb dX1_up_62 rfl (lv_at hl 3 rfl) ?_
          refine va_get hx hb hg inX1 hown hK hP 0 rfl rfl 0 (by decide) (hg _ tw_319) (fun _ h9 => h9) rfl dX1_up_63 ?_
          refine lv_iload_n hx hb dX1_up_66 rfl (lv_at hl 5 rfl) ?_
          refine lv_iload hx hb dX1_up_67 (lv_at hl 1 rfl) ?_
          refine lv_iload hx hb dX1_up_69 (lv_at hl 0 rfl) ?_
          refine lv_ior hx hb dX1_up_71 ?_
          refine lv_ldc hx hb hown (hg _ tw_427) dX1_up_72 ?_
          refine lv_iand hx hb dX1_up_74 ?_
          obtain ⟨z_75, h⟩ := of_ite h
          refine va_iast hx hb hK hP hD hS 1 0 rfl rfl (ok_in z_75) dX1_up_75 (fun H locs hP hD hS => ?_)
          have hP : va_P D vwCl (wB ck ad (upd fa x2.toNatClampNeg ((0 ||| 0) &&& 16777215))) H := hP
          have hD : va_D A (wB ck ad (upd fa x2.toNatClampNeg ((0 ||| 0) &&& 16777215))) := hD
          refine lv_iinc (v := x2 + (-1)) (lv' := [(2, .int (x2 + (-1))), (5, .int 0), (4, .int 0), (3, .int (x2 - (x1 / 24))), (0, .ref (ad 0)), (1, .int x1)]) hx hb dX1_up_76 hl (k := 5) rfl rfl (by decide) rfl (fun ls hl => ?_)
          refine lv_goto (tgt := 4) hx hb dX1_up_79 (by decide) ?_
          exact ih _ _ _ _ _ _ _ hP hD hS (lv_sub hl [4, 5, 0] rfl) h
        · rw [if_neg c_3] at h
          refine lv_aload_n hx hb dX1_up_40 rfl (lv_at hl 2 rfl) ?_
          refine va_get hx hb hg inX1 hown hK hP 0 rfl rfl 0 (by decide) (hg _ tw_319) (fun _ h9 => h9) rfl dX1_up_41 ?_
          refine lv_iload_n hx hb dX1_up_44 rfl (lv_at hl 1 rfl) ?_
          refine lv_iconst (v := 1) hx hb dX1_up_45 (by decide) ?_
          refine lv_isub hx hb dX1_up_46 ?_
          obtain ⟨z_47, h⟩ := of_ite h
          refine va_iald hx hb hK hP 1 0 rfl rfl (ok_in z_47) dX1_up_47 ?_
          refine lv_bipush (v := 24) hx hb dX1_up_48 (by decide) ?_
          refine lv_iload_n hx hb dX1_up_50 rfl (lv_at hl 3 rfl) ?_
          refine lv_bipush (v := 24) hx hb dX1_up_51 (by decide) ?_
          refine lv_irem hx hb dX1_up_53 (by decide) ?_
          refine lv_isub hx hb dX1_up_54 ?_
          refine lv_ishr hx hb dX1_up_55 ?_
          refine lv_goto (tgt := 60) hx hb dX1_up_56 (by decide) ?_
          refine lv_istore (lv' := [(5, .int ((fa ((x2 - (x1 / 24)) - 1).toNatClampNeg) >>> ((24 - (x1 - x1 / 24 * 24)) &&& 31))), (4, .int 0), (3, .int (x2 - (x1 / 24))), (0, .ref (ad 0)), (1, .int x1), (2, .int x2)]) hx hb dX1_up_60 hl (by decide) rfl (fun ls hl => ?_)
          refine lv_aload_n hx hb dX1_up_62 rfl (lv_at hl 3 rfl) ?_
          refine va_get hx hb hg inX1 hown hK hP 0 rfl rfl 0 (by decide) (hg _ tw_319) (fun _ h9 => h9) rfl dX1_up_63 ?_
          refine lv_iload_n hx hb dX1_up_66 rfl (lv_at hl 5 rfl) ?_
          refine lv_iload hx hb dX1_up_67 (lv_at hl 1 rfl) ?_
          refine lv_iload hx hb dX1_up_69 (lv_at hl 0 rfl) ?_
          refine lv_ior hx hb dX1_up_71 ?_
          refine lv_ldc hx hb hown (hg _ tw_427) dX1_up_72 ?_
          refine lv_iand hx hb dX1_up_74 ?_
          obtain ⟨z_75, h⟩ := of_ite h
          refine va_iast hx hb hK hP hD hS 1 0 rfl rfl (ok_in z_75) dX1_up_75 (fun H locs hP hD hS => ?_)
          have hP : va_P D vwCl (wB ck ad (upd fa x2.toNatClampNeg ((0 ||| ((fa ((x2 - (x1 / 24)) - 1).toNatClampNeg) >>> ((24 - (x1 - x1 / 24 * 24)) &&& 31))) &&& 16777215))) H := hP
          have hD : va_D A (wB ck ad (upd fa x2.toNatClampNeg ((0 ||| ((fa ((x2 - (x1 / 24)) - 1).toNatClampNeg) >>> ((24 - (x1 - x1 / 24 * 24)) &&& 31))) &&& 16777215))) := hD
          refine lv_iinc (v := x2 + (-1)) (lv' := [(2, .int (x2 + (-1))), (5, .int ((fa ((x2 - (x1 / 24)) - 1).toNatClampNeg) >>> ((24 - (x1 - x1 / 24 * 24)) &&& 31))), (4, .int 0), (3, .int (x2 - (x1 / 24))), (0, .ref (ad 0)), (1, .int x1)]) hx hb dX1_up_76 hl (k := 5) rfl rfl (by decide) rfl (fun ls hl => ?_)
          refine lv_goto (tgt := 4) hx hb dX1_up_79 (by decide) ?_
          exact ih _ _ _ _ _ _ _ hP hD hS (lv_sub hl [4, 5, 0] rfl) h
      · rw [if_neg c_2] at h
        refine lv_aload_n hx hb dX1_up_19 rfl (lv_at hl 1 rfl) ?_
        refine va_get hx hb hg inX1 hown hK hP 0 rfl rfl 0 (by decide) (hg _ tw_319) (fun _ h9 => h9) rfl dX1_up_20 ?_
        refine lv_iload_n hx hb dX1_up_23 rfl (lv_at hl 0 rfl) ?_
        obtain ⟨z_24, h⟩ := of_ite h
        refine va_iald hx hb hK hP 1 0 rfl rfl (ok_in z_24) dX1_up_24 ?_
        refine lv_iload_n hx hb dX1_up_25 rfl (lv_at hl 2 rfl) ?_
        refine lv_bipush (v := 24) hx hb dX1_up_26 (by decide) ?_
        refine lv_irem hx hb dX1_up_28 (by decide) ?_
        refine lv_ishl hx hb dX1_up_29 ?_
        refine lv_goto (tgt := 34) hx hb dX1_up_30 (by decide) ?_
        refine lv_istore (lv' := [(4, .int ((fa (x2 - (x1 / 24)).toNatClampNeg) <<< ((x1 - x1 / 24 * 24) &&& 31))), (3, .int (x2 - (x1 / 24))), (0, .ref (ad 0)), (1, .int x1), (2, .int x2)]) hx hb dX1_up_34 hl (by decide) rfl (fun ls hl => ?_)
        refine lv_iload_n hx hb dX1_up_36 rfl (lv_at hl 1 rfl) ?_
        refine lv_if_le (tgt := 59) hx hb dX1_up_37 (by decide) (fun c_4 => ?_) (fun c_4 => ?_)
        · rw [if_pos c_4] at h
          refine lv_iconst (v := 0) hx hb dX1_up_59 (by decide) ?_
          refine lv_istore (lv' := [(5, .int 0), (4, .int ((fa (x2 - (x1 / 24)).toNatClampNeg) <<< ((x1 - x1 / 24 * 24) &&& 31))), (3, .int (x2 - (x1 / 24))), (0, .ref (ad 0)), (1, .int x1), (2, .int x2)]) hx hb dX1_up_60 hl (by decide) rfl (fun ls hl => ?_)
          refine lv_aload_n hx hb dX1_up_62 rfl (lv_at hl 3 rfl) ?_
          refine va_get hx hb hg inX1 hown hK hP 0 rfl rfl 0 (by decide) (hg _ tw_319) (fun _ h9 => h9) rfl dX1_up_63 ?_
          refine lv_iload_n hx hb dX1_up_66 rfl (lv_at hl 5 rfl) ?_
          refine lv_iload hx hb dX1_up_67 (lv_at hl 1 rfl) ?_
          refine lv_iload hx hb dX1_up_69 (lv_at hl 0 rfl) ?_
          refine lv_ior hx hb dX1_up_71 ?_
          refine lv_ldc hx hb hown (hg _ tw_427) dX1_up_72 ?_
          refine lv_iand hx hb dX1_up_74 ?_
          obtain ⟨z_75, h⟩ := of_ite h
          refine va_iast hx hb hK hP hD hS 1 0 rfl rfl (ok_in z_75) dX1_up_75 (fun H locs hP hD hS => ?_)
          have hP : va_P D vwCl (wB ck ad (upd fa x2.toNatClampNeg ((((fa (x2 - (x1 / 24)).toNatClampNeg) <<< ((x1 - x1 / 24 * 24) &&& 31)) ||| 0) &&& 16777215))) H := hP
          have hD : va_D A (wB ck ad (upd fa x2.toNatClampNeg ((((fa (x2 - (x1 / 24)).toNatClampNeg) <<< ((x1 - x1 / 24 * 24) &&& 31)) ||| 0) &&& 16777215))) := hD
          refine lv_iinc (v := x2 + (-1)) (lv' := [(2, .int (x2 + (-1))), (5, .int 0), (4, .int ((fa (x2 - (x1 / 24)).toNatClampNeg) <<< ((x1 - x1 / 24 * 24) &&& 31))), (3, .int (x2 - (x1 / 24))), (0, .ref (ad 0)), (1, .int x1)]) hx hb dX1_up_76 hl (k := 5) rfl rfl (by decide) rfl (fun ls hl => ?_)
          refine lv_goto (tgt := 4) hx hb dX1_up_79 (by decide) ?_
          exact ih _ _ _ _ _ _ _ hP hD hS (lv_sub hl [4, 5, 0] rfl) h
        · rw [if_neg c_4] at h
          refine lv_aload_n hx hb dX1_up_40 rfl (lv_at hl 2 rfl) ?_
          refine va_get hx hb hg inX1 hown hK hP 0 rfl rfl 0 (by decide) (hg _ tw_319) (fun _ h9 => h9) rfl dX1_up_41 ?_
          refine lv_iload_n hx hb dX1_up_44 rfl (lv_at hl 1 rfl) ?_
          refine lv_iconst (v := 1) hx hb dX1_up_45 (by decide) ?_
          refine lv_isub hx hb dX1_up_46 ?_
          obtain ⟨z_47, h⟩ := of_ite h
          refine va_iald hx hb hK hP 1 0 rfl rfl (ok_in z_47) dX1_up_47 ?_
          refine lv_bipush (v := 24) hx hb dX1_up_48 (by decide) ?_
          refine lv_iload_n hx hb dX1_up_50 rfl (lv_at hl 3 rfl) ?_
          refine lv_bipush (v := 24) hx hb dX1_up_51 (by decide) ?_
          refine lv_irem hx hb dX1_up_53 (by decide) ?_
          refine lv_isub hx hb dX1_up_54 ?_
          refine lv_ishr hx hb dX1_up_55 ?_
          refine lv_goto (tgt := 60) hx hb dX1_up_56 (by decide) ?_
          refine lv_istore (lv' := [(5, .int ((fa ((x2 - (x1 / 24)) - 1).toNatClampNeg) >>> ((24 - (x1 - x1 / 24 * 24)) &&& 31))), (4, .int ((fa (x2 - (x1 / 24)).toNatClampNeg) <<< ((x1 - x1 / 24 * 24) &&& 31))), (3, .int (x2 - (x1 / 24))), (0, .ref (ad 0)), (1, .int x1), (2, .int x2)]) hx hb dX1_up_60 hl (by decide) rfl (fun ls hl => ?_)
          refine lv_aload_n hx hb dX1_up_62 rfl (lv_at hl 3 rfl) ?_
          refine va_get hx hb hg inX1 hown hK hP 0 rfl rfl 0 (by decide) (hg _ tw_319) (fun _ h9 => h9) rfl dX1_up_63 ?_
          refine lv_iload_n hx hb dX1_up_66 rfl (lv_at hl 5 rfl) ?_
          refine lv_iload hx hb dX1_up_67 (lv_at hl 1 rfl) ?_
          refine lv_iload hx hb dX1_up_69 (lv_at hl 0 rfl) ?_
          refine lv_ior hx hb dX1_up_71 ?_
          refine lv_ldc hx hb hown (hg _ tw_427) dX1_up_72 ?_
          refine lv_iand hx hb dX1_up_74 ?_
          obtain ⟨z_75, h⟩ := of_ite h
          refine va_iast hx hb hK hP hD hS 1 0 rfl rfl (ok_in z_75) dX1_up_75 (fun H locs hP hD hS => ?_)
          have hP : va_P D vwCl (wB ck ad (upd fa x2.toNatClampNeg ((((fa (x2 - (x1 / 24)).toNatClampNeg) <<< ((x1 - x1 / 24 * 24) &&& 31)) ||| ((fa ((x2 - (x1 / 24)) - 1).toNatClampNeg) >>> ((24 - (x1 - x1 / 24 * 24)) &&& 31))) &&& 16777215))) H := hP
          have hD : va_D A (wB ck ad (upd fa x2.toNatClampNeg ((((fa (x2 - (x1 / 24)).toNatClampNeg) <<< ((x1 - x1 / 24 * 24) &&& 31)) ||| ((fa ((x2 - (x1 / 24)) - 1).toNatClampNeg) >>> ((24 - (x1 - x1 / 24 * 24)) &&& 31))) &&& 16777215))) := hD
          refine lv_iinc (v := x2 + (-1)) (lv' := [(2, .int (x2 + (-1))), (5, .int ((fa ((x2 - (x1 / 24)) - 1).toNatClampNeg) >>> ((24 - (x1 - x1 / 24 * 24)) &&& 31))), (4, .int ((fa (x2 - (x1 / 24)).toNatClampNeg) <<< ((x1 - x1 / 24 * 24) &&& 31))), (3, .int (x2 - (x1 / 24))), (0, .ref (ad 0)), (1, .int x1)]) hx hb dX1_up_76 hl (k := 5) rfl rfl (by decide) rfl (fun ls hl => ?_)
          refine lv_goto (tgt := 4) hx hb dX1_up_79 (by decide) ?_
          exact ih _ _ _ _ _ _ _ hP hD hS (lv_sub hl [4, 5, 0] rfl) h
def jX1_up (fa : NI) (x1 : Int32) : Option (NI) := jX1_up_L4 FU fa x1 139
set_option maxHeartbeats 4000000 in
set_option maxRecDepth 100000 in
theorem wX1_up_0 {p : Program} {l : Launch} {e : Env} {s : State} {m : MethodId} {args : Array Value} {below : List Frame} {meth : Method} {c : Code} {D : va_G} {A : Nat → Prop} {ck : Nat → ClassId} {ad : Nat → Nat} (C : CX p s m args meth c RX1 cX1_up 6 none) (hA : ∀ q, s.heap.size ≤ q → A q) (hK : va_K D vwCl (tyB ck) s) (hX : XT s) (fa : NI) (x1 : Int32) (ls : Array Slot) (H : Heap) (locs : List Loc) (u : NI) (hP : va_P D vwCl (wB ck ad fa) H) (hD : va_D A (wB ck ad fa)) (hS : va_S A s.heap H locs) (hl : lv_has ls 6 [(0, .ref (ad 0)), (1, .int x1)]) (h : jX1_up fa x1 = some u) : W p l e (rmz 0 0) s m args below meth c H locs 0 0 (MQ below (HQ D A (wB ck ad u) none) args s 0 0 A) (F0 m 0 ls []) := by
  obtain ⟨hx, hb, hml, hown, hg, hr, hlocks⟩ := id C
  unfold jX1_up at h
  refine lv_sipush (v := 139) hx hb dX1_up_0 (by decide) ?_
  refine lv_istore_n (lv' := [(2, .int 139), (0, .ref (ad 0)), (1, .int x1)]) hx hb dX1_up_3 rfl hl (by decide) rfl (fun ls hl => ?_)
  exact wX1_up_L4 C hA hK hX FU _ _ _ _ _ _ _ hP hD hS (lv_sub hl [1, 2, 0] rfl) h
theorem vc_X1_up : VC RX1 yX1_up cX1_up 6 none 1 := ⟨tw_424, tw_425, tw_3, tw_426, by decide +kernel⟩
theorem cX1_up_met (l : Launch) (ck : Nat → ClassId) (ad : Nat → Nat) (fa : NI) (x1 : Int32) (u : NI) (h : jX1_up fa x1 = some u) : HM l yX1_up cX1_up 6 none (rmz 0 0) [.ref (ad 0), .int x1] (tyB ck) (wB ck ad fa) none (wB ck ad u) :=
  hm_of (own := RX1) (by decide +kernel) rfl (Nat.le_of_ble_eq_true rfl) (fun D A p e s m below meth c ls C hA hK hX hP hD hS hl => wX1_up_0 C hA hK hX fa x1 ls _ _ u hP hD hS hl h)

/-! RealDeskModel$Big.add(LRealDeskModel$Big;)V -/
def jX1_add_L4 : Nat → NI → NI → Int32 → Int32 → Option (NI × NI)
  | 0, _, _, _, _ => none
  | k + 1, fa, fb, x2, x3 => (if 140 ≤ x3 then some (fa, fb) else (if ok x3 140 = true then (if ok x3 140 = true then (if ok x3 140 = true then jX1_add_L4 k (upd fa x3.toNatClampNeg ((((fa x3.toNatClampNeg) + (fb x3.toNatClampNeg)) + x2) &&& 16777215)) fb ((((fa x3.toNatClampNeg) + (fb x3.toNatClampNeg)) + x2) >>> (24 &&& 31)) (x3 + 1) else none) else none) else none))
set_option maxHeartbeats 4000000 in
set_option maxRecDepth 100000 in
theorem wX1_add_L4 {p : Program} {l : Launch} {e : Env} {s : State} {m : MethodId} {args : Array Value} {below : List Frame} {meth : Method} {c : Code} {D : va_G} {A : Nat → Prop} {ck : Nat → ClassId} {ad : Nat → Nat} (C : CX p s m args meth c RX1 cX1_add 5 none) (hA : ∀ q, s.heap.size ≤ q → A q) (hK : va_K D vwCl (tyB ck) s) (hX : XT s) : ∀ (k : Nat) (fa : NI) (fb : NI) (x2 : Int32) (x3 : Int32) (ls : Array Slot) (H : Heap) (locs : List Loc) (u : NI × NI), va_P D vwCl (wBB ck ad fa fb) H → va_D A (wBB ck ad fa fb) → va_S A s.heap H locs → lv_has ls 5 [(0, .ref (ad 0)), (1, .ref (ad 2)), (2, .int x2), (3, .int x3)] → jX1_add_L4 k fa fb x2 x3 = some u → W p l e (rmz 0 0) s m args below meth c H locs 0 0 (MQ below (HQ D A (wBB ck ad u.1 u.2) none) args s 0 0 A) (F0 m 4 ls []) := by
  obtain ⟨hx, hb, hml, hown, hg, hr, hlocks⟩ := id C
  intro k
  induction k with
  | zero => intro fa fb x2 x3 ls H locs u hP hD hS hl h; cases h
  | succ k ih =>
    intro fa fb x2 x3 ls H locs u hP hD hS hl h
    unfold jX1_add_L4 at h
    refine lv_iload_n hx hb dX1_add_4 rfl (lv_at hl 3 rfl) ?_
    refine lv_sipush (v := 140) hx hb dX1_add_5 (by decide) ?_
    refine lv_icmp_ge (tgt := 51) hx hb dX1_add_8 (by decide) (fun c_1 => ?_) (fun c_1 => ?_)
    · rw [if_pos c_1] at h
      cases h
      exact W.vret hx hb hr (fun t ht _ => ⟨rfl, by rw [ht]; exact hP, hD, hS.F ht⟩) hS.2.2 dX1_add_51
    · rw [if_neg c_1] at h
      refine lv_aload_n hx hb dX1_add_11 rfl (lv_at hl 0 rfl) ?_
      refine va_get hx hb hg inX1 hown hK hP 0 rfl rfl 0 (by decide) (hg _ tw_319) (fun _ h9 => h9) rfl dX1_add_12 ?_
      refine lv_iload_n hx hb dX1_add_15 rfl (lv_at hl 3 rfl) ?_
      obtain ⟨z_16, h⟩ := of_ite h
      refine va_iald hx hb hK hP 1 0 rfl rfl (ok_in z_16) dX1_add_16 ?_
      refine lv_aload_n hx hb dX1_add_17 rfl (lv_at hl 1 rfl) ?_
      refine va_get hx hb hg inX1 hown hK hP 2 rfl rfl 0 (by decide) (hg _ tw_319) (fun _ h9 => h9) rfl dX1_add_18 ?_
      refine lv_iload_n hx hb dX1_add_21 rfl (lv_at hl 3 rfl) ?_
      obtain ⟨z_22, h⟩ := of_ite h
      refine va_iald hx hb hK hP 3 0 rfl rfl (ok_in z_22) dX1_add_22 ?_
      refine lv_iadd hx hb dX1_add_23 ?_
      refine lv_iload_n hx hb dX1_add_24 rfl (lv_at hl 2 rfl) ?_
      refine lv_iadd hx hb dX1_add_25 ?_
      refine lv_istore (lv' := [(4, .int (((fa x3.toNatClampNeg) + (fb x3.toNatClampNeg)) + x2)), (0, .ref (ad 0)), (1, .ref (ad 2)), (2, .int x2), (3, .int x3)]) hx hb dX1_add_26 hl (by decide) rfl (fun ls hl => ?_)
      refine lv_aload_n hx hb dX1_add_28 rfl (lv_at hl 1 rfl) ?_
      refine va_get hx hb hg inX1 hown hK hP 0 rfl rfl 0 (by decide) (hg _ tw_319) (fun _ h9 => h9) rfl dX1_add_29 ?_
      refine lv_iload_n hx hb dX1_add_32 rfl (lv_at hl 4 rfl) ?_
      refine lv_iload hx hb dX1_add_33 (lv_at hl 0 rfl) ?_
      refine lv_ldc hx hb hown (hg _ tw_427) dX1_add_35 ?_
      refine lv_iand hx hb dX1_add_37 ?_
      obtain ⟨z_38, h⟩ := of_ite h
      refine va_iast hx hb hK hP hD hS 1 0 rfl rfl (ok_in z_38) dX1_add_38 (fun H locs hP hD hS => ?_)
      have hP : va_P D vwCl (wBB ck ad (upd fa x3.toNatClampNeg ((((fa x3.toNatClampNeg) + (fb x3.toNatClampNeg)) + x2) &&& 16777215)) fb) H := hP
      have hD : va_D A (wBB ck ad (upd fa x3.toNatClampNeg ((((fa x3.toNatClampNeg) + (fb x3.toNatClampNeg)) + x2) &&& 16777215)) fb) := hD
      refine lv_iload hx hb dX1_add_39 (lv_at hl 0 rfl) ?_
      refine lv_bipush (v := 24) hx hb dX1_add_41 (by decide) ?_
      refine lv_ishr hx hb dX1_add_43 ?_
      refine lv_istore_n (lv' := [(2, .int ((((fa x3.toNatClampNeg) + (fb x3.toNatClampNeg)) + x2) >>> (24 &&& 31))), (4, .int (((fa x3.toNatClampNeg) + (fb x3.toNatClampNeg)) + x2)), (0, .ref (ad 0)), (1, .ref (ad 2)), (3, .int x3)]) hx hb dX1_add_44 rfl hl (by decide) rfl (fun ls hl => ?_)
      refine lv_iinc (v := x3 + 1) (lv' := [(3, .int (x3 + 1)), (2, .int ((((fa x3.toNatClampNeg) + (fb x3.toNatClampNeg)) + x2) >>> (24 &&& 31))), (4, .int (((fa x3.toNatClampNeg) + (fb x3.toNatClampNeg)) + x2)), (0, .ref (ad 0)), (1, .ref (ad 2))]) hx hb dX1_add_45 hl (k := 4) rfl rfl (by decide) rfl (fun ls hl => ?_)
      refine lv_goto (tgt := 4) hx hb dX1_add_48 (by decide) ?_
      exact ih _ _ _ _ _ _ _ _ hP hD hS (lv_sub hl [3, 4, 1, 0] rfl) h
def jX1_add (fa : NI) (fb : NI) : Option (NI × NI) := jX1_add_L4 FU fa fb 0 0
set_option maxHeartbeats 4000000 in
set_option maxRecDepth 100000 in
theorem wX1_add_0 {p : Program} {l : Launch} {e : Env} {s : State} {m : MethodId} {args : Array Value} {below : List Frame} {meth : Method} {c : Code} {D : va_G} {A : Nat → Prop} {ck : Nat → ClassId} {ad : Nat → Nat} (C : CX p s m args meth c RX1 cX1_add 5 none) (hA : ∀ q, s.heap.size ≤ q → A q) (hK : va_K D vwCl (tyB ck) s) (hX : XT s) (fa : NI) (fb : NI) (ls : Array Slot) (H : Heap) (locs : List Loc) (u : NI × NI) (hP : va_P D vwCl (wBB ck ad fa fb) H) (hD : va_D A (wBB ck ad fa fb)) (hS : va_S A s.heap H locs) (hl : lv_has ls 5 [(0, .ref (ad 0)), (1, .ref (ad 2))]) (h : jX1_add fa fb = some u) : W p l e (rmz 0 0) s m args below meth c H locs 0 0 (MQ below (HQ D A (wBB ck ad u.1 u.2) none) args s 0 0 A) (F0 m 0 ls []) := by
  obtain ⟨hx, hb, hml, hown, hg, hr, hlocks⟩ := id C
  unfold jX1_add at h
  refine lv_iconst (v := 0) hx hb dX1_add_0 (by decide) ?_
  refine lv_istore_n (lv' := [(2, .int 0), (0, .ref (ad 0)), (1, .ref (ad 2))]) hx hb dX1_add_1 rfl hl (by decide) rfl (fun ls hl => ?_)
  refine lv_iconst (v := 0) hx hb dX1_add_2 (by decide) ?_
  refine lv_istore_n (lv' := [(3, .int 0), (2, .int 0), (0, .ref (ad 0)), (1, .ref (ad 2))]) hx hb dX1_add_3 rfl hl (by decide) rfl (fun ls hl => ?_)
  exact wX1_add_L4 C hA hK hX FU _ _ _ _ _ _ _ _ hP hD hS (lv_sub hl [2, 3, 1, 0] rfl) h
theorem vc_X1_add : VC RX1 yX1_add cX1_add 5 none 1 := ⟨tw_429, tw_430, tw_3, tw_431, by decide +kernel⟩
theorem cX1_add_met (l : Launch) (ck : Nat → ClassId) (ad : Nat → Nat) (fa : NI) (fb : NI) (u : NI × NI) (h : jX1_add fa fb = some u) : HM l yX1_add cX1_add 5 none (rmz 0 0) [.ref (ad 0), .ref (ad 2)] (tyB ck) (wBB ck ad fa fb) none (wBB ck ad u.1 u.2) :=
  hm_of (own := RX1) (by decide +kernel) rfl (Nat.le_of_ble_eq_true rfl) (fun D A p e s m below meth c ls C hA hK hX hP hD hS hl => wX1_add_0 C hA hK hX fa fb ls _ _ u hP hD hS hl h)

/-! RealDeskModel$Big.less(LRealDeskModel$Big;)V -/
def jX1_less_L4 : Nat → NI → NI → Int32 → Int32 → Option (NI × NI)
  | 0, _, _, _, _ => none
  | k + 1, fa, fb, x2, x3 => (if 140 ≤ x3 then some (fa, fb) else (if ok x3 140 = true then (if ok x3 140 = true then (if ok x3 140 = true then jX1_less_L4 k (upd fa x3.toNatClampNeg ((((fa x3.toNatClampNeg) - (fb x3.toNatClampNeg)) - x2) &&& 16777215)) fb (if 0 ≤ (((fa x3.toNatClampNeg) - (fb x3.toNatClampNeg)) - x2) then 0 else 1 : Int32) (x3 + 1) else none) else none) else none))
set_option maxHeartbeats 4000000 in
set_option maxRecDepth 100000 in
theorem wX1_less_L4 {p : Program} {l : Launch} {e : Env} {s : State} {m : MethodId} {args : Array Value} {below : List Frame} {meth : Method} {c : Code} {D : va_G} {A : Nat → Prop} {ck : Nat → ClassId} {ad : Nat → Nat} (C : CX p s m args meth c RX1 cX1_less 5 none) (hA : ∀ q, s.heap.size ≤ q → A q) (hK : va_K D vwCl (tyB ck) s) (hX : XT s) : ∀ (k : Nat) (fa : NI) (fb : NI) (x2 : Int32) (x3 : Int32) (ls : Array Slot) (H : Heap) (locs : List Loc) (u : NI × NI), va_P D vwCl (wBB ck ad fa fb) H → va_D A (wBB ck ad fa fb) → va_S A s.heap H locs → lv_has ls 5 [(0, .ref (ad 0)), (1, .ref (ad 2)), (2, .int x2), (3, .int x3)] → jX1_less_L4 k fa fb x2 x3 = some u → W p l e (rmz 0 0) s m args below meth c H locs 0 0 (MQ below (HQ D A (wBB ck ad u.1 u.2) none) args s 0 0 A) (F0 m 4 ls []) := by
  obtain ⟨hx, hb, hml, hown, hg, hr, hlocks⟩ := id C
  intro k
  induction k with
  | zero => intro fa fb x2 x3 ls H locs u hP hD hS hl h; cases h
  | succ k ih =>
    intro fa fb x2 x3 ls H locs u hP hD hS hl h
    unfold jX1_less_L4 at h
    refine lv_iload_n hx hb dX1_less_4 rfl (lv_at hl 3 rfl) ?_
    refine lv_sipush (v := 140) hx hb dX1_less_5 (by decide) ?_
    refine lv_icmp_ge (tgt := 56) hx hb dX1_less_8 (by decide) (fun c_1 => ?_) (fun c_1 => ?_)
    · rw [if_pos c_1] at h
      cases h
      exact W.vret hx hb hr (fun t ht _ => ⟨rfl, by rw [ht]; exact hP, hD, hS.F ht⟩) hS.2.2 dX1_less_56
    · rw [if_neg c_1] at h
      refine lv_aload_n hx hb dX1_less_11 rfl (lv_at hl 0 rfl) ?_
      refine va_get hx hb hg inX1 hown hK hP 0 rfl rfl 0 (by decide) (hg _ tw_319) (fun _ h9 => h9) rfl dX1_less_12 ?_
      refine lv_iload_n hx hb dX1_less_15 rfl (lv_at hl 3 rfl) ?_
      obtain ⟨z_16, h⟩ := of_ite h
      refine va_iald hx hb hK hP 1 0 rfl rfl (ok_in z_16) dX1_less_16 ?_
      refine lv_aload_n hx hb dX1_less_17 rfl (lv_at hl 1 rfl) ?_
      refine va_get hx hb hg inX1 hown hK hP 2 rfl rfl 0 (by decide) (hg _ tw_319) (fun _ h9 => h9) rfl dX1_less_18 ?_
      refine lv_iload_n hx hb dX1_less_21 rfl (lv_at hl 3 rfl) ?_
      obtain ⟨z_22, h⟩ := of_ite h
      refine va_iald hx hb hK hP 3 0 rfl rfl (ok_in z_22) dX1_less_22 ?_
      refine lv_isub hx hb dX1_less_23 ?_
      refine lv_iload_n hx hb dX1_less_24 rfl (lv_at hl 2 rfl) ?_
      refine lv_isub hx hb dX1_less_25 ?_
      refine lv_istore (lv' := [(4, .int (((fa x3.toNatClampNeg) - (fb x3.toNatClampNeg)) - x2)), (0, .ref (ad 0)), (1, .ref (ad 2)), (2, .int x2), (3, .int x3)]) hx hb dX1_less_26 hl (by decide) rfl (fun ls hl => ?_)
      refine lv_iload hx hb dX1_less_28 (lv_at hl 0 rfl) ?_
      refine rg_i (pj := 38) (v := (if 0 ≤ (((fa x3.toNatClampNeg) - (fb x3.toNatClampNeg)) - x2) then 0 else 1 : Int32)) (ls := ls) (rest := []) (fun kJ => ?_) ?_
      · refine lv_if_ge (tgt := 37) hx hb dX1_less_30 (by decide) (fun c_2 => ?_) (fun c_2 => ?_)
        · refine lv_iconst (v := 0) hx hb dX1_less_37 (by decide) ?_
          exact kJ _ (by rw [if_pos c_2])
        · refine lv_iconst (v := 1) hx hb dX1_less_33 (by decide) ?_
          refine lv_goto (tgt := 38) hx hb dX1_less_34 (by decide) ?_
          exact kJ _ (by rw [if_neg c_2])
      refine lv_istore_n (lv' := [(2, .int (if 0 ≤ (((fa x3.toNatClampNeg) - (fb x3.toNatClampNeg)) - x2) then 0 else 1 : Int32)), (4, .int (((fa x3.toNatClampNeg) - (fb x3.toNatClampNeg)) - x2)), (0, .ref (ad 0)), (1, .ref (ad 2)), (3, .int x3)]) hx hb dX1_less_38 rfl hl (by decide) rfl (fun ls hl => ?_)
      refine lv_aload_n hx hb dX1_less_39 rfl (lv_at hl 2 rfl) ?_
      refine va_get hx hb hg inX1 hown hK hP 0 rfl rfl 0 (by decide) (hg _ tw_319) (fun _ h9 => h9) rfl dX1_less_40 ?_
      refine lv_iload_n hx hb dX1_less_43 rfl (lv_at hl 4 rfl) ?_
      refine lv_iload hx hb dX1_less_44 (lv_at hl 1 rfl) ?_
      refine lv_ldc hx hb hown (hg _ tw_427) dX1_less_46 ?_
      refine lv_iand hx hb dX1_less_48 ?_
      obtain ⟨z_49, h⟩ := of_ite h
      refine va_iast hx hb hK hP hD hS 1 0 rfl rfl (ok_in z_49) dX1_less_49 (fun H locs hP hD hS => ?_)
      have hP : va_P D vwCl (wBB ck ad (upd fa x3.toNatClampNeg ((((fa x3.toNatClampNeg) - (fb x3.toNatClampNeg)) - x2) &&& 16777215)) fb) H := hP
      have hD : va_D A (wBB ck ad (upd fa x3.toNatClampNeg ((((fa x3.toNatClampNeg) - (fb x3.toNatClampNeg)) - x2) &&& 16777215)) fb) := hD
      refine lv_iinc (v := x3 + 1) (lv' := [(3, .int (x3 + 1)), (2, .int (if 0 ≤ (((fa x3.toNatClampNeg) - (fb x3.toNatClampNeg)) - x2) then 0 else 1 : Int32)), (4, .int (((fa x3.toNatClampNeg) - (fb x3.toNatClampNeg)) - x2)), (0, .ref (ad 0)), (1, .ref (ad 2))]) hx hb dX1_less_50 hl (k := 4) rfl rfl (by decide) rfl (fun ls hl => ?_)
      refine lv_goto (tgt := 4) hx hb dX1_less_53 (by decide) ?_
      exact ih _ _ _ _ _ _ _ _ hP hD hS (lv_sub hl [3, 4, 1, 0] rfl) h
def jX1_less (fa : NI) (fb : NI) : Option (NI × NI) := jX1_less_L4 FU fa fb 0 0
set_option maxHeartbeats 4000000 in
set_option maxRecDepth 100000 in
theorem wX1_less_0 {p : Program} {l : Launch} {e : Env} {s : State} {m : MethodId} {args : Array Value} {below : List Frame} {meth : Method} {c : Code} {D : va_G} {A : Nat → Prop} {ck : Nat → ClassId} {ad : Nat → Nat} (C : CX p s m args meth c RX1 cX1_less 5 none) (hA : ∀ q, s.heap.size ≤ q → A q) (hK : va_K D vwCl (tyB ck) s) (hX : XT s) (fa : NI) (fb : NI) (ls : Array Slot) (H : Heap) (locs : List Loc) (u : NI × NI) (hP : va_P D vwCl (wBB ck ad fa fb) H) (hD : va_D A (wBB ck ad fa fb)) (hS : va_S A s.heap H locs) (hl : lv_has ls 5 [(0, .ref (ad 0)), (1, .ref (ad 2))]) (h : jX1_less fa fb = some u) : W p l e (rmz 0 0) s m args below meth c H locs 0 0 (MQ below (HQ D A (wBB ck ad u.1 u.2) none) args s 0 0 A) (F0 m 0 ls []) := by
  obtain ⟨hx, hb, hml, hown, hg, hr, hlocks⟩ := id C
  unfold jX1_less at h
  refine lv_iconst (v := 0) hx hb dX1_less_0 (by decide) ?_
  refine lv_istore_n (lv' := [(2, .int 0), (0, .ref (ad 0)), (1, .ref (ad 2))]) hx hb dX1_less_1 rfl hl (by decide) rfl (fun ls hl => ?_)
  refine lv_iconst (v := 0) hx hb dX1_less_2 (by decide) ?_
  refine lv_istore_n (lv' := [(3, .int 0), (2, .int 0), (0, .ref (ad 0)), (1, .ref (ad 2))]) hx hb dX1_less_3 rfl hl (by decide) rfl (fun ls hl => ?_)
  exact wX1_less_L4 C hA hK hX FU _ _ _ _ _ _ _ _ hP hD hS (lv_sub hl [2, 3, 1, 0] rfl) h
theorem vc_X1_less : VC RX1 yX1_less cX1_less 5 none 1 := ⟨tw_437, tw_438, tw_3, tw_439, by decide +kernel⟩
theorem cX1_less_met (l : Launch) (ck : Nat → ClassId) (ad : Nat → Nat) (fa : NI) (fb : NI) (u : NI × NI) (h : jX1_less fa fb = some u) : HM l yX1_less cX1_less 5 none (rmz 0 0) [.ref (ad 0), .ref (ad 2)] (tyB ck) (wBB ck ad fa fb) none (wBB ck ad u.1 u.2) :=
  hm_of (own := RX1) (by decide +kernel) rfl (Nat.le_of_ble_eq_true rfl) (fun D A p e s m below meth c ls C hA hK hX hP hD hS hl => wX1_less_0 C hA hK hX fa fb ls _ _ u hP hD hS hl h)

/-! RealDeskModel$Big.compare(LRealDeskModel$Big;)I -/
def jX1_compare_L4 : Nat → NI → NI → Int32 → Option (Int32 × NI × NI)
  | 0, _, _, _ => none
  | k + 1, fa, fb, x2 => (if x2 < 0 then (if 0 ≤ x2 then (if ok x2 140 = true then (if ok x2 140 = true then some ((if (fb x2.toNatClampNeg) ≤ (fa x2.toNatClampNeg) then 1 else (-1) : Int32), fa, fb) else none) else none) else some (0, fa, fb)) else (if ok x2 140 = true then (if ok x2 140 = true then (if (fa x2.toNatClampNeg) = (fb x2.toNatClampNeg) then jX1_compare_L4 k fa fb (x2 + (-1)) else (if 0 ≤ x2 then (if ok x2 140 = true then (if ok x2 140 = true then some ((if (fb x2.toNatClampNeg) ≤ (fa x2.toNatClampNeg) then 1 else (-1) : Int32), fa, fb) else none) else none) else some (0, fa, fb))) else none) else none))
set_option maxHeartbeats 4000000 in
set_option maxRecDepth 100000 in
theorem wX1_compare_L4 {p : Program} {l : Launch} {e : Env} {s : State} {m : MethodId} {args : Array Value} {below : List Frame} {meth : Method} {c : Code} {D : va_G} {A : Nat → Prop} {ck : Nat → ClassId} {ad : Nat → Nat} (C : CX p s m args meth c RX1 cX1_compare 3 (some .int)) (hA : ∀ q, s.heap.size ≤ q → A q) (hK : va_K D vwCl (tyB ck) s) (hX : XT s) : ∀ (k : Nat) (fa : NI) (fb : NI) (x2 : Int32) (ls : Array Slot) (H : Heap) (locs : List Loc) (u : Int32 × NI × NI), va_P D vwCl (wBB ck ad fa fb) H → va_D A (wBB ck ad fa fb) → va_S A s.heap H locs → lv_has ls 3 [(0, .ref (ad 0)), (1, .ref (ad 2)), (2, .int x2)] → jX1_compare_L4 k fa fb x2 = some u → W p l e (rmz 0 0) s m args below meth c H locs 0 0 (MQ below (HQ D A (wBB ck ad u.2.1 u.2.2) (some (.int u.1))) args s 0 0 A) (F0 m 4 ls []) := by
  obtain ⟨hx, hb, hml, hown, hg, hr, hlocks⟩ := id C
  intro k
  induction k with
  | zero => intro fa fb x2 ls H locs u hP hD hS hl h; cases h
  | succ k ih =>
    intro fa fb x2 ls H locs u hP hD hS hl h
    unfold jX1_compare_L4 at h
    refine lv_iload_n hx hb dX1_compare_4 rfl (lv_at hl 2 rfl) ?_
    refine lv_if_lt (tgt := 29) hx hb dX1_compare_5 (by decide) (fun c_1 => ?_) (fun c_1 => ?_)
    · rw [if_pos c_1] at h
      refine lv_iload_n hx hb dX1_compare_29 rfl (lv_at hl 2 rfl) ?_
      refine lv_if_ge (tgt := 37) hx hb dX1_compare_30 (by decide) (fun c_2 => ?_) (fun c_2 => ?_)
      · rw [if_pos c_2] at h
        refine lv_aload_n hx hb dX1_compare_37 rfl (lv_at hl 0 rfl) ?_
        refine va_get hx hb hg inX1 hown hK hP 0 rfl rfl 0 (by decide) (hg _ tw_319) (fun _ h9 => h9) rfl dX1_compare_38 ?_
        refine lv_iload_n hx hb dX1_compare_41 rfl (lv_at hl 2 rfl) ?_
        obtain ⟨z_42, h⟩ := of_ite h
        refine va_iald hx hb hK hP 1 0 rfl rfl (ok_in z_42) dX1_compare_42 ?_
        refine lv_aload_n hx hb dX1_compare_43 rfl (lv_at hl 1 rfl) ?_
        refine va_get hx hb hg inX1 hown hK hP 2 rfl rfl 0 (by decide) (hg _ tw_319) (fun _ h9 => h9) rfl dX1_compare_44 ?_
        refine lv_iload_n hx hb dX1_compare_47 rfl (lv_at hl 2 rfl) ?_
        obtain ⟨z_48, h⟩ := of_ite h
        refine va_iald hx hb hK hP 3 0 rfl rfl (ok_in z_48) dX1_compare_48 ?_
        refine rg_i (pj := 57) (v := (if (fb x2.toNatClampNeg) ≤ (fa x2.toNatClampNeg) then 1 else (-1) : Int32)) (ls := ls) (rest := []) (fun kJ => ?_) ?_
        · refine lv_icmp_ge (tgt := 56) hx hb dX1_compare_49 (by decide) (fun c_3 => ?_) (fun c_3 => ?_)
          · refine lv_iconst (v := 1) hx hb dX1_compare_56 (by decide) ?_
            exact kJ _ (by rw [if_pos c_3])
          · refine lv_iconst (v := (-1)) hx hb dX1_compare_52 (by decide) ?_
            refine lv_goto (tgt := 57) hx hb dX1_compare_53 (by decide) ?_
            exact kJ _ (by rw [if_neg c_3])
        cases h
        exact W.iret hx hb hr (fun t ht _ => ⟨rfl, by rw [ht]; exact hP, hD, hS.F ht⟩) hS.2.2 dX1_compare_57
      · rw [if_neg c_2] at h
        refine lv_iconst (v := 0) hx hb dX1_compare_33 (by decide) ?_
        refine lv_goto (tgt := 57) hx hb dX1_compare_34 (by decide) ?_
        cases h
        exact W.iret hx hb hr (fun t ht _ => ⟨rfl, by rw [ht]; exact hP, hD, hS.F ht⟩) hS.2.2 dX1_compare_57
    · rw [if_neg c_1] at h
      refine lv_aload_n hx hb dX1_compare_8 rfl (lv_at hl 0 rfl) ?_
      refine va_get hx hb hg inX1 hown hK hP 0 rfl rfl 0 (by decide) (hg _ tw_319) (fun _ h9 => h9) rfl dX1_compare_9 ?_
      refine lv_iload_n hx hb dX1_compare_12 rfl (lv_at hl 2 rfl) ?_
      obtain ⟨z_13, h⟩ := of_ite h
      refine va_iald hx hb hK hP 1 0 rfl rfl (ok_in z_13) dX1_compare_13 ?_
      refine lv_aload_n hx hb dX1_compare_14 rfl (lv_at hl 1 rfl) ?_
      refine va_get hx hb hg inX1 hown hK hP 2 rfl rfl 0 (by decide) (hg _ tw_319) (fun _ h9 => h9) rfl dX1_compare_15 ?_
      refine lv_iload_n hx hb dX1_compare_18 rfl (lv_at hl 2 rfl) ?_
      obtain ⟨z_19, h⟩ := of_ite h
      refine va_iald hx hb hK hP 3 0 rfl rfl (ok_in z_19) dX1_compare_19 ?_
      refine lv_icmp_ne (tgt := 29) hx hb dX1_compare_20 (by decide) (fun c_4 => ?_) (fun c_4 => ?_)
      · rw [if_neg c_4] at h
        refine lv_iload_n hx hb dX1_compare_29 rfl (lv_at hl 2 rfl) ?_
        refine lv_if_ge (tgt := 37) hx hb dX1_compare_30 (by decide) (fun c_5 => ?_) (fun c_5 => ?_)
        · rw [if_pos c_5] at h
          refine lv_aload_n hx hb dX1_compare_37 rfl (lv_at hl 0 rfl) ?_
          refine va_get hx hb hg inX1 hown hK hP 0 rfl rfl 0 (by decide) (hg _ tw_319) (fun _ h9 => h9) rfl dX1_compare_38 ?_
          refine lv_iload_n hx hb dX1_compare_41 rfl (lv_at hl 2 rfl) ?_
          obtain ⟨z_42, h⟩ := of_ite h
          refine va_iald hx hb hK hP 1 0 rfl rfl (ok_in z_42) dX1_compare_42 ?_
          refine lv_aload_n hx hb dX1_compare_43 rfl (lv_at hl 1 rfl) ?_
          refine va_get hx hb hg inX1 hown hK hP 2 rfl rfl 0 (by decide) (hg _ tw_319) (fun _ h9 => h9) rfl dX1_compare_44 ?_
          refine lv_iload_n hx hb dX1_compare_47 rfl (lv_at hl 2 rfl) ?_
          obtain ⟨z_48, h⟩ := of_ite h
          refine va_iald hx hb hK hP 3 0 rfl rfl (ok_in z_48) dX1_compare_48 ?_
          refine rg_i (pj := 57) (v := (if (fb x2.toNatClampNeg) ≤ (fa x2.toNatClampNeg) then 1 else (-1) : Int32)) (ls := ls) (rest := []) (fun kJ => ?_) ?_
          · refine lv_icmp_ge (tgt := 56) hx hb dX1_compare_49 (by decide) (fun c_6 => ?_) (fun c_6 => ?_)
            · refine lv_iconst (v := 1) hx hb dX1_compare_56 (by decide) ?_
              exact kJ _ (by rw [if_pos c_6])
            · refine lv_iconst (v := (-1)) hx hb dX1_compare_52 (by decide) ?_
              refine lv_goto (tgt := 57) hx hb dX1_compare_53 (by decide) ?_
              exact kJ _ (by rw [if_neg c_6])
          cases h
          exact W.iret hx hb hr (fun t ht _ => ⟨rfl, by rw [ht]; exact hP, hD, hS.F ht⟩) hS.2.2 dX1_compare_57
        · rw [if_neg c_5] at h
          refine lv_iconst (v := 0) hx hb dX1_compare_33 (by decide) ?_
          refine lv_goto (tgt := 57) hx hb dX1_compare_34 (by decide) ?_
          cases h
          exact W.iret hx hb hr (fun t ht _ => ⟨rfl, by rw [ht]; exact hP, hD, hS.F ht⟩) hS.2.2 dX1_compare_57
      · rw [if_pos c_4] at h
        refine lv_iinc (v := x2 + (-1)) (lv' := [(2, .int (x2 + (-1))), (0, .ref (ad 0)), (1, .ref (ad 2))]) hx hb dX1_compare_23 hl (k := 2) rfl rfl (by decide) rfl (fun ls hl => ?_)
        refine lv_goto (tgt := 4) hx hb dX1_compare_26 (by decide) ?_
        exact ih _ _ _ _ _ _ _ hP hD hS (lv_sub hl [1, 2, 0] rfl) h
def jX1_compare (fa : NI) (fb : NI) : Option (Int32 × NI × NI) := jX1_compare_L4 FU fa fb 139
set_option maxHeartbeats 4000000 in
set_option maxRecDepth 100000 in
theorem wX1_compare_0 {p : Program} {l : Launch} {e : Env} {s : State} {m : MethodId} {args : Array Value} {below : List Frame} {meth : Method} {c : Code} {D : va_G} {A : Nat → Prop} {ck : Nat → ClassId} {ad : Nat → Nat} (C : CX p s m args meth c RX1 cX1_compare 3 (some .int)) (hA : ∀ q, s.heap.size ≤ q → A q) (hK : va_K D vwCl (tyB ck) s) (hX : XT s) (fa : NI) (fb : NI) (ls : Array Slot) (H : Heap) (locs : List Loc) (u : Int32 × NI × NI) (hP : va_P D vwCl (wBB ck ad fa fb) H) (hD : va_D A (wBB ck ad fa fb)) (hS : va_S A s.heap H locs) (hl : lv_has ls 3 [(0, .ref (ad 0)), (1, .ref (ad 2))]) (h : jX1_compare fa fb = some u) : W p l e (rmz 0 0) s m args below meth c H locs 0 0 (MQ below (HQ D A (wBB ck ad u.2.1 u.2.2) (some (.int u.1))) args s 0 0 A) (F0 m 0 ls []) := by
  obtain ⟨hx, hb, hml, hown, hg, hr, hlocks⟩ := id C
  unfold jX1_compare at h
  refine lv_sipush (v := 139) hx hb dX1_compare_0 (by decide) ?_
  refine lv_istore_n (lv' := [(2, .int 139), (0, .ref (ad 0)), (1, .ref (ad 2))]) hx hb dX1_compare_3 rfl hl (by decide) rfl (fun ls hl => ?_)
  exact wX1_compare_L4 C hA hK hX FU _ _ _ _ _ _ _ hP hD hS (lv_sub hl [1, 2, 0] rfl) h
theorem vc_X1_compare : VC RX1 yX1_compare cX1_compare 3 (some .int) 1 := ⟨tw_433, tw_434, tw_3, tw_435, by decide +kernel⟩
theorem cX1_compare_met (l : Launch) (ck : Nat → ClassId) (ad : Nat → Nat) (fa : NI) (fb : NI) (u : Int32 × NI × NI) (h : jX1_compare fa fb = some u) : HM l yX1_compare cX1_compare 3 (some .int) (rmz 0 0) [.ref (ad 0), .ref (ad 2)] (tyB ck) (wBB ck ad fa fb) (some (.int u.1)) (wBB ck ad u.2.1 u.2.2) :=
  hm_of (own := RX1) (by decide +kernel) rfl (Nat.le_of_ble_eq_true rfl) (fun D A p e s m below meth c ls C hA hK hX hP hD hS hl => wX1_compare_0 C hA hK hX fa fb ls _ _ u hP hD hS hl h)

/-! RealDeskModel$Big.addLong(J)V -/
def jX1_addLong_L5 : Nat → NI → Int64 → Int32 → Option (NI)
  | 0, _, _, _ => none
  | k + 1, fa, x3, x5 => (if 140 ≤ x5 then some (fa) else (if ok x5 140 = true then (if ok x5 140 = true then jX1_addLong_L5 k (upd fa x5.toNatClampNeg (((x3 + ((fa x5.toNatClampNeg).toInt64)) &&& 16777215).toInt32)) (sr (x3 + ((fa x5.toNatClampNeg).toInt64)) 24) (x5 + 1) else none) else none))
set_option maxHeartbeats 4000000 in
set_option maxRecDepth 100000 in
theorem wX1_addLong_L5 {p : Program} {l : Launch} {e : Env} {s : State} {m : MethodId} {args : Array Value} {below : List Frame} {meth : Method} {c : Code} {D : va_G} {A : Nat → Prop} {ck : Nat → ClassId} {ad : Nat → Nat} (C : CX p s m args meth c RX1 cX1_addLong 6 none) (hA : ∀ q, s.heap.size ≤ q → A q) (hK : va_K D vwCl (tyB ck) s) (hX : XT s) : ∀ (k : Nat) (fa : NI) (x3 : Int64) (x5 : Int32) (ls : Array Slot) (H : Heap) (locs : List Loc) (u : NI), va_P D vwCl (wB ck ad fa) H → va_D A (wB ck ad fa) → va_S A s.heap H locs → lv_has ls 6 [(0, .ref (ad 0)), (3, .long x3), (5, .int x5)] → jX1_addLong_L5 k fa x3 x5 = some u → W p l e (rmz 0 0) s m args below meth c H locs 0 0 (MQ below (HQ D A (wB ck ad u) none) args s 0 0 A) (F0 m 5 ls []) := by
  obtain ⟨hx, hb, hml, hown, hg, hr, hlocks⟩ := id C
  intro k
  induction k with
  | zero => intro fa x3 x5 ls H locs u hP hD hS hl h; cases h
  | succ k ih =>
    intro fa x3 x5 ls H locs u hP hD hS hl h
    unfold jX1_addLong_L5 at h
    refine lv_iload hx hb dX1_addLong_5 (lv_at hl 2 rfl) ?_
    refine lv_sipush (v := 140) hx hb dX1_addLong_7 (by decide) ?_
    refine lv_icmp_ge (tgt := 48) hx hb dX1_addLong_10 (by decide) (fun c_1 => ?_) (fun c_1 => ?_)
    · rw [if_pos c_1] at h
      cases h
      exact W.vret hx hb hr (fun t ht _ => ⟨rfl, by rw [ht]; exact hP, hD, hS.F ht⟩) hS.2.2 dX1_addLong_48
    · rw [if_neg c_1] at h
      refine lv_lload_n hx hb dX1_addLong_13 rfl (lv_at hl 1 rfl) ?_
      refine lv_aload_n hx hb dX1_addLong_14 rfl (lv_at hl 0 rfl) ?_
      refine va_get hx hb hg inX1 hown hK hP 0 rfl rfl 0 (by decide) (hg _ tw_319) (fun _ h9 => h9) rfl dX1_addLong_15 ?_
      refine lv_iload hx hb dX1_addLong_18 (lv_at hl 2 rfl) ?_
      obtain ⟨z_20, h⟩ := of_ite h
      refine va_iald hx hb hK hP 1 0 rfl rfl (ok_in z_20) dX1_addLong_20 ?_
      refine lv_i2l hx hb dX1_addLong_21 rfl ?_
      refine lv_ladd hx hb dX1_addLong_22 ?_
      refine lv_lstore_n (lv' := [(3, .long (x3 + ((fa x5.toNatClampNeg).toInt64))), (0, .ref (ad 0)), (5, .int x5)]) hx hb dX1_addLong_23 rfl hl (by decide) rfl (fun ls hl => ?_)
      refine lv_aload_n hx hb dX1_addLong_24 rfl (lv_at hl 1 rfl) ?_
      refine va_get hx hb hg inX1 hown hK hP 0 rfl rfl 0 (by decide) (hg _ tw_319) (fun _ h9 => h9) rfl dX1_addLong_25 ?_
      refine lv_iload hx hb dX1_addLong_28 (lv_at hl 2 rfl) ?_
      refine lv_lload_n hx hb dX1_addLong_30 rfl (lv_at hl 0 rfl) ?_
      refine lv_ldc2 hx hb hown (hg _ tw_374) dX1_addLong_31 ?_
      refine lv_land hx hb dX1_addLong_34 ?_
      refine lv_l2i hx hb dX1_addLong_35 rfl ?_
      obtain ⟨z_36, h⟩ := of_ite h
      refine va_iast hx hb hK hP hD hS 1 0 rfl rfl (ok_in z_36) dX1_addLong_36 (fun H locs hP hD hS => ?_)
      have hP : va_P D vwCl (wB ck ad (upd fa x5.toNatClampNeg (((x3 + ((fa x5.toNatClampNeg).toInt64)) &&& 16777215).toInt32))) H := hP
      have hD : va_D A (wB ck ad (upd fa x5.toNatClampNeg (((x3 + ((fa x5.toNatClampNeg).toInt64)) &&& 16777215).toInt32))) := hD
      refine lv_lload_n hx hb dX1_addLong_37 rfl (lv_at hl 0 rfl) ?_
      refine lv_bipush (v := 24) hx hb dX1_addLong_38 (by decide) ?_
      refine lv_lshr (v := sr (x3 + ((fa x5.toNatClampNeg).toInt64)) 24) hx hb dX1_addLong_40 rfl ?_
      refine lv_lstore_n (lv' := [(3, .long (sr (x3 + ((fa x5.toNatClampNeg).toInt64)) 24)), (0, .ref (ad 0)), (5, .int x5)]) hx hb dX1_addLong_41 rfl hl (by decide) rfl (fun ls hl => ?_)
      refine lv_iinc (v := x5 + 1) (lv' := [(5, .int (x5 + 1)), (3, .long (sr (x3 + ((fa x5.toNatClampNeg).toInt64)) 24)), (0, .ref (ad 0))]) hx hb dX1_addLong_42 hl (k := 2) rfl rfl (by decide) rfl (fun ls hl => ?_)
      refine lv_goto (tgt := 5) hx hb dX1_addLong_45 (by decide) ?_
      exact ih _ _ _ _ _ _ _ hP hD hS (lv_sub hl [2, 1, 0] rfl) h
def jX1_addLong (fa : NI) (x1 : Int64) : Option (NI) := jX1_addLong_L5 FU fa x1 0
set_option maxHeartbeats 4000000 in
set_option maxRecDepth 100000 in
theorem wX1_addLong_0 {p : Program} {l : Launch} {e : Env} {s : State} {m : MethodId} {args : Array Value} {below : List Frame} {meth : Method} {c : Code} {D : va_G} {A : Nat → Prop} {ck : Nat → ClassId} {ad : Nat → Nat} (C : CX p s m args meth c RX1 cX1_addLong 6 none) (hA : ∀ q, s.heap.size ≤ q → A q) (hK : va_K D vwCl (tyB ck) s) (hX : XT s) (fa : NI) (x1 : Int64) (ls : Array Slot) (H : Heap) (locs : List Loc) (u : NI) (hP : va_P D vwCl (wB ck ad fa) H) (hD : va_D A (wB ck ad fa)) (hS : va_S A s.heap H locs) (hl : lv_has ls 6 [(0, .ref (ad 0)), (1, .long x1)]) (h : jX1_addLong fa x1 = some u) : W p l e (rmz 0 0) s m args below meth c H locs 0 0 (MQ below (HQ D A (wB ck ad u) none) args s 0 0 A) (F0 m 0 ls []) := by
  obtain ⟨hx, hb, hml, hown, hg, hr, hlocks⟩ := id C
  unfold jX1_addLong at h
  refine lv_lload_n hx hb dX1_addLong_0 rfl (lv_at hl 1 rfl) ?_
  refine lv_lstore_n (lv' := [(3, .long x1), (0, .ref (ad 0)), (1, .long x1)]) hx hb dX1_addLong_1 rfl hl (by decide) rfl (fun ls hl => ?_)
  refine lv_iconst (v := 0) hx hb dX1_addLong_2 (by decide) ?_
  refine lv_istore (lv' := [(5, .int 0), (3, .long x1), (0, .ref (ad 0)), (1, .long x1)]) hx hb dX1_addLong_3 hl (by decide) rfl (fun ls hl => ?_)
  exact wX1_addLong_L5 C hA hK hX FU _ _ _ _ _ _ _ hP hD hS (lv_sub hl [2, 1, 0] rfl) h
theorem vc_X1_addLong : VC RX1 yX1_addLong cX1_addLong 6 none 1 := ⟨tw_458, tw_459, tw_3, tw_460, by decide +kernel⟩
theorem cX1_addLong_met (l : Launch) (ck : Nat → ClassId) (ad : Nat → Nat) (fa : NI) (x1 : Int64) (u : NI) (h : jX1_addLong fa x1 = some u) : HM l yX1_addLong cX1_addLong 6 none (rmz 0 0) [.ref (ad 0), .long x1] (tyB ck) (wB ck ad fa) none (wB ck ad u) :=
  hm_of (own := RX1) (by decide +kernel) rfl (Nat.le_of_ble_eq_true rfl) (fun D A p e s m below meth c ls C hA hK hX hP hD hS hl => wX1_addLong_0 C hA hK hX fa x1 ls _ _ u hP hD hS hl h)

/-! RealDeskModel$Big.product(JJ)V -/
def jX1_product_L9 : Nat → NI → Int64 → Int64 → Int32 → Option (NI)
  | 0, _, _, _, _ => none
  | k + 1, fa, x1, x3, x5 => (if x5 < 0 then some (fa) else (Option.bind (jX1_twice fa 0) fun fa_2 => (if ((sr x3 x5) &&& 1) = 1 then (Option.bind (jX1_addLong fa_2 x1) fun fa_3 => jX1_product_L9 k fa_3 x1 x3 (x5 + (-1))) else jX1_product_L9 k fa_2 x1 x3 (x5 + (-1)))))
set_option maxHeartbeats 4000000 in
set_option maxRecDepth 100000 in
theorem wX1_product_L9 {p : Program} {l : Launch} {e : Env} {s : State} {m : MethodId} {args : Array Value} {below : List Frame} {meth : Method} {c : Code} {D : va_G} {A : Nat → Prop} {ck : Nat → ClassId} {ad : Nat → Nat} (C : CX p s m args meth c RX1 cX1_product 6 none) (hA : ∀ q, s.heap.size ≤ q → A q) (hK : va_K D vwCl (tyB ck) s) (hX : XT s) : ∀ (k : Nat) (fa : NI) (x1 : Int64) (x3 : Int64) (x5 : Int32) (ls : Array Slot) (H : Heap) (locs : List Loc) (u : NI), va_P D vwCl (wB ck ad fa) H → va_D A (wB ck ad fa) → va_S A s.heap H locs → lv_has ls 6 [(0, .ref (ad 0)), (1, .long x1), (3, .long x3), (5, .int x5)] → jX1_product_L9 k fa x1 x3 x5 = some u → W p l e (rmz 1 25) s m args below meth c H locs 0 0 (MQ below (HQ D A (wB ck ad u) none) args s 0 0 A) (F0 m 9 ls []) := by
  obtain ⟨hx, hb, hml, hown, hg, hr, hlocks⟩ := id C
  intro k
  induction k with
  | zero => intro fa x1 x3 x5 ls H locs u hP hD hS hl h; cases h
  | succ k ih =>
    intro fa x1 x3 x5 ls H locs u hP hD hS hl h
    unfold jX1_product_L9 at h
    refine lv_iload hx hb dX1_product_9 (lv_at hl 3 rfl) ?_
    refine lv_if_lt (tgt := 41) hx hb dX1_product_11 (by decide) (fun c_1 => ?_) (fun c_1 => ?_)
    · rw [if_pos c_1] at h
      cases h
      exact W.vret hx hb hr (fun t ht _ => ⟨rfl, by rw [ht]; exact hP, hD, hS.F ht⟩) hS.2.2 dX1_product_41
    · rw [if_neg c_1] at h
      refine lv_aload_n hx hb dX1_product_14 rfl (lv_at hl 0 rfl) ?_
      refine lv_iconst (v := 0) hx hb dX1_product_15 (by decide) ?_
      obtain ⟨fa_2, h_r_2, h⟩ := of_bind h
      refine callB C hK hX hP hD hS hA (cX1_twice_met l ck ad _ _ _ h_r_2) vc_X1_twice tw_453 (by decide) rfl hl.1 (rest := []) rfl (Nat.le_of_ble_eq_true rfl) (by decide) dX1_product_16 (fun H locs hP hD hS => ?_)
      have hP : va_P D vwCl (wB ck ad fa_2) H := hP
      have hD : va_D A (wB ck ad fa_2) := hD
      refine W.eq (g2 := F0 m 19 ls []) rfl ?_
      refine lv_lload_n hx hb dX1_product_19 rfl (lv_at hl 2 rfl) ?_
      refine lv_iload hx hb dX1_product_20 (lv_at hl 3 rfl) ?_
      refine lv_lshr (v := sr x3 x5) hx hb dX1_product_22 rfl ?_
      refine lv_lconst (v := 1) hx hb dX1_product_23 (by decide) ?_
      refine lv_land hx hb dX1_product_24 ?_
      refine lv_lconst (v := 1) hx hb dX1_product_25 (by decide) ?_
      refine lc_ne (tgt := 35) hx hb dX1_product_26 dX1_product_27 (by decide) (fun c_2 => ?_) (fun c_2 => ?_)
      · rw [if_neg c_2] at h
        refine lv_iinc (v := x5 + (-1)) (lv' := [(5, .int (x5 + (-1))), (0, .ref (ad 0)), (1, .long x1), (3, .long x3)]) hx hb dX1_product_35 hl (k := 3) rfl rfl (by decide) rfl (fun ls hl => ?_)
        refine lv_goto (tgt := 9) hx hb dX1_product_38 (by decide) ?_
        exact ih _ _ _ _ _ _ _ _ hP hD hS (lv_sub hl [1, 2, 3, 0] rfl) h
      · rw [if_pos c_2] at h
        refine lv_aload_n hx hb dX1_product_30 rfl (lv_at hl 0 rfl) ?_
        refine lv_lload_n hx hb dX1_product_31 rfl (lv_at hl 1 rfl) ?_
        obtain ⟨fa_3, h_r_3, h⟩ := of_bind h
        refine callB C hK hX hP hD hS hA (cX1_addLong_met l ck ad _ _ _ h_r_3) vc_X1_addLong tw_457 (by decide) rfl hl.1 (rest := []) rfl (Nat.le_of_ble_eq_true rfl) (by decide) dX1_product_32 (fun H locs hP hD hS => ?_)
        have hP : va_P D vwCl (wB ck ad fa_3) H := hP
        have hD : va_D A (wB ck ad fa_3) := hD
        refine W.eq (g2 := F0 m 35 ls []) rfl ?_
        refine lv_iinc (v := x5 + (-1)) (lv' := [(5, .int (x5 + (-1))), (0, .ref (ad 0)), (1, .long x1), (3, .long x3)]) hx hb dX1_product_35 hl (k := 3) rfl rfl (by decide) rfl (fun ls hl => ?_)
        refine lv_goto (tgt := 9) hx hb dX1_product_38 (by decide) ?_
        exact ih _ _ _ _ _ _ _ _ hP hD hS (lv_sub hl [1, 2, 3, 0] rfl) h
def jX1_product (fa : NI) (x1 : Int64) (x3 : Int64) : Option (NI) := (Option.bind (jX1_set fa 0) fun fa_1 => jX1_product_L9 FU fa_1 x1 x3 60)
set_option maxHeartbeats 4000000 in
set_option maxRecDepth 100000 in
theorem wX1_product_0 {p : Program} {l : Launch} {e : Env} {s : State} {m : MethodId} {args : Array Value} {below : List Frame} {meth : Method} {c : Code} {D : va_G} {A : Nat → Prop} {ck : Nat → ClassId} {ad : Nat → Nat} (C : CX p s m args meth c RX1 cX1_product 6 none) (hA : ∀ q, s.heap.size ≤ q → A q) (hK : va_K D vwCl (tyB ck) s) (hX : XT s) (fa : NI) (x1 : Int64) (x3 : Int64) (ls : Array Slot) (H : Heap) (locs : List Loc) (u : NI) (hP : va_P D vwCl (wB ck ad fa) H) (hD : va_D A (wB ck ad fa)) (hS : va_S A s.heap H locs) (hl : lv_has ls 6 [(0, .ref (ad 0)), (1, .long x1), (3, .long x3)]) (h : jX1_product fa x1 x3 = some u) : W p l e (rmz 1 25) s m args below meth c H locs 0 0 (MQ below (HQ D A (wB ck ad u) none) args s 0 0 A) (F0 m 0 ls []) := by
  obtain ⟨hx, hb, hml, hown, hg, hr, hlocks⟩ := id C
  unfold jX1_product at h
  refine lv_aload_n hx hb dX1_product_0 rfl (lv_at hl 0 rfl) ?_
  refine lv_lconst (v := 0) hx hb dX1_product_1 (by decide) ?_
  obtain ⟨fa_1, h_r_1, h⟩ := of_bind h
  refine callB C hK hX hP hD hS hA (cX1_set_met l ck ad _ _ _ h_r_1) vc_X1_set tw_452 (by decide) rfl hl.1 (rest := []) rfl (Nat.le_of_ble_eq_true rfl) (by decide) dX1_product_2 (fun H locs hP hD hS => ?_)
  have hP : va_P D vwCl (wB ck ad fa_1) H := hP
  have hD : va_D A (wB ck ad fa_1) := hD
  refine W.eq (g2 := F0 m 5 ls []) rfl ?_
  refine lv_bipush (v := 60) hx hb dX1_product_5 (by decide) ?_
  refine lv_istore (lv' := [(5, .int 60), (0, .ref (ad 0)), (1, .long x1), (3, .long x3)]) hx hb dX1_product_7 hl (by decide) rfl (fun ls hl => ?_)
  exact wX1_product_L9 C hA hK hX FU _ _ _ _ _ _ _ _ hP hD hS (lv_sub hl [1, 2, 3, 0] rfl) h
theorem vc_X1_product : VC RX1 yX1_product cX1_product 6 none 2 := ⟨tw_449, tw_450, tw_3, tw_451, by decide +kernel⟩
theorem cX1_product_met (l : Launch) (ck : Nat → ClassId) (ad : Nat → Nat) (fa : NI) (x1 : Int64) (x3 : Int64) (u : NI) (h : jX1_product fa x1 x3 = some u) : HM l yX1_product cX1_product 6 none (rmz 1 25) [.ref (ad 0), .long x1, .long x3] (tyB ck) (wB ck ad fa) none (wB ck ad u) :=
  hm_of (own := RX1) (by decide +kernel) rfl (Nat.le_of_ble_eq_true rfl) (fun D A p e s m below meth c ls C hA hK hX hP hD hS hl => wX1_product_0 C hA hK hX fa x1 x3 ls _ _ u hP hD hS hl h)

/-! RealDeskModel$Big.places(I)J -/
def jX1_places_L6 : Nat → NI → Int32 → Int64 → Int32 → Option (Int64 × NI)
  | 0, _, _, _, _ => none
  | k + 1, fa, x1, x2, x4 => (if x4 < 0 then some (x2, fa) else (b2 (jX1_bit fa (x1 + x4)) fun r_1 fa_1 => jX1_places_L6 k fa_1 x1 ((2 * x2) + (if r_1 = 0 then 0 else 1 : Int64)) (x4 + (-1))))
set_option maxHeartbeats 4000000 in
set_option maxRecDepth 100000 in
theorem wX1_places_L6 {p : Program} {l : Launch} {e : Env} {s : State} {m : MethodId} {args : Array Value} {below : List Frame} {meth : Method} {c : Code} {D : va_G} {A : Nat → Prop} {ck : Nat → ClassId} {ad : Nat → Nat} (C : CX p s m args meth c RX1 cX1_places 5 (some .long)) (hA : ∀ q, s.heap.size ≤ q → A q) (hK : va_K D vwCl (tyB ck) s) (hX : XT s) : ∀ (k : Nat) (fa : NI) (x1 : Int32) (x2 : Int64) (x4 : Int32) (ls : Array Slot) (H : Heap) (locs : List Loc) (u : Int64 × NI), va_P D vwCl (wB ck ad fa) H → va_D A (wB ck ad fa) → va_S A s.heap H locs → lv_has ls 5 [(0, .ref (ad 0)), (1, .int x1), (2, .long x2), (4, .int x4)] → jX1_places_L6 k fa x1 x2 x4 = some u → W p l e (rmz 1 21) s m args below meth c H locs 0 0 (MQ below (HQ D A (wB ck ad u.2) (some (.long u.1))) args s 0 0 A) (F0 m 6 ls []) := by
  obtain ⟨hx, hb, hml, hown, hg, hr, hlocks⟩ := id C
  intro k
  induction k with
  | zero => intro fa x1 x2 x4 ls H locs u hP hD hS hl h; cases h
  | succ k ih =>
    intro fa x1 x2 x4 ls H locs u hP hD hS hl h
    unfold jX1_places_L6 at h
    refine lv_iload hx hb dX1_places_6 (lv_at hl 3 rfl) ?_
    refine lv_if_lt (tgt := 40) hx hb dX1_places_8 (by decide) (fun c_1 => ?_) (fun c_1 => ?_)
    · rw [if_pos c_1] at h
      refine lv_lload_n hx hb dX1_places_40 rfl (lv_at hl 2 rfl) ?_
      cases h
      exact W.lret hx hb hr (fun t ht _ => ⟨rfl, by rw [ht]; exact hP, hD, hS.F ht⟩) hS.2.2 dX1_places_41
    · rw [if_neg c_1] at h
      refine lv_ldc2 hx hb hown (hg _ tw_391) dX1_places_11 ?_
      refine lv_lload_n hx hb dX1_places_14 rfl (lv_at hl 2 rfl) ?_
      refine lv_lmul hx hb dX1_places_15 ?_
      refine lv_aload_n hx hb dX1_places_16 rfl (lv_at hl 0 rfl) ?_
      refine lv_iload_n hx hb dX1_places_17 rfl (lv_at hl 1 rfl) ?_
      refine lv_iload hx hb dX1_places_18 (lv_at hl 3 rfl) ?_
      refine lv_iadd hx hb dX1_places_20 ?_
      obtain ⟨r_1, fa_1, h_r_1, h⟩ := of_b2 h
      refine callB C hK hX hP hD hS hA (cX1_bit_met l ck ad _ _ _ h_r_1) vc_X1_bit tw_383 (by decide) rfl hl.1 (rest := [.long (2 * x2)]) rfl (Nat.le_of_ble_eq_true rfl) (by decide) dX1_places_21 (fun H locs hP hD hS => ?_)
      have hP : va_P D vwCl (wB ck ad fa_1) H := hP
      have hD : va_D A (wB ck ad fa_1) := hD
      refine W.eq (g2 := F0 m 24 ls [.int r_1, .long (2 * x2)]) rfl ?_
      refine rg_l (pj := 32) (v := (if r_1 = 0 then 0 else 1 : Int64)) (ls := ls) (rest := [.long (2 * x2)]) (fun kJ => ?_) ?_
      · refine lv_if_eq (tgt := 31) hx hb dX1_places_24 (by decide) (fun c_2 => ?_) (fun c_2 => ?_)
        · refine lv_lconst (v := 0) hx hb dX1_places_31 (by decide) ?_
          exact kJ _ (by rw [if_pos c_2])
        · refine lv_lconst (v := 1) hx hb dX1_places_27 (by decide) ?_
          refine lv_goto (tgt := 32) hx hb dX1_places_28 (by decide) ?_
          exact kJ _ (by rw [if_neg c_2])
      refine lv_ladd hx hb dX1_places_32 ?_
      refine lv_lstore_n (lv' := [(2, .long ((2 * x2) + (if r_1 = 0 then 0 else 1 : Int64))), (0, .ref (ad 0)), (1, .int x1), (4, .int x4)]) hx hb dX1_places_33 rfl hl (by decide) rfl (fun ls hl => ?_)
      refine lv_iinc (v := x4 + (-1)) (lv' := [(4, .int (x4 + (-1))), (2, .long ((2 * x2) + (if r_1 = 0 then 0 else 1 : Int64))), (0, .ref (ad 0)), (1, .int x1)]) hx hb dX1_places_34 hl (k := 3) rfl rfl (by decide) rfl (fun ls hl => ?_)
      refine lv_goto (tgt := 6) hx hb dX1_places_37 (by decide) ?_
      exact ih _ _ _ _ _ _ _ _ hP hD hS (lv_sub hl [2, 3, 1, 0] rfl) h
def jX1_places (fa : NI) (x1 : Int32) : Option (Int64 × NI) := jX1_places_L6 FU fa x1 0 52
set_option maxHeartbeats 4000000 in
set_option maxRecDepth 100000 in
theorem wX1_places_0 {p : Program} {l : Launch} {e : Env} {s : State} {m : MethodId} {args : Array Value} {below : List Frame} {meth : Method} {c : Code} {D : va_G} {A : Nat → Prop} {ck : Nat → ClassId} {ad : Nat → Nat} (C : CX p s m args meth c RX1 cX1_places 5 (some .long)) (hA : ∀ q, s.heap.size ≤ q → A q) (hK : va_K D vwCl (tyB ck) s) (hX : XT s) (fa : NI) (x1 : Int32) (ls : Array Slot) (H : Heap) (locs : List Loc) (u : Int64 × NI) (hP : va_P D vwCl (wB ck ad fa) H) (hD : va_D A (wB ck ad fa)) (hS : va_S A s.heap H locs) (hl : lv_has ls 5 [(0, .ref (ad 0)), (1, .int x1)]) (h : jX1_places fa x1 = some u) : W p l e (rmz 1 21) s m args below meth c H locs 0 0 (MQ below (HQ D A (wB ck ad u.2) (some (.long u.1))) args s 0 0 A) (F0 m 0 ls []) := by
  obtain ⟨hx, hb, hml, hown, hg, hr, hlocks⟩ := id C
  unfold jX1_places at h
  refine lv_lconst (v := 0) hx hb dX1_places_0 (by decide) ?_
  refine lv_lstore_n (lv' := [(2, .long 0), (0, .ref (ad 0)), (1, .int x1)]) hx hb dX1_places_1 rfl hl (by decide) rfl (fun ls hl => ?_)
  refine lv_bipush (v := 52) hx hb dX1_places_2 (by decide) ?_
  refine lv_istore (lv' := [(4, .int 52), (2, .long 0), (0, .ref (ad 0)), (1, .int x1)]) hx hb dX1_places_4 hl (by decide) rfl (fun ls hl => ?_)
  exact wX1_places_L6 C hA hK hX FU _ _ _ _ _ _ _ _ hP hD hS (lv_sub hl [2, 3, 1, 0] rfl) h
theorem vc_X1_places : VC RX1 yX1_places cX1_places 5 (some .long) 1 := ⟨tw_388, tw_389, tw_3, tw_390, by decide +kernel⟩
theorem cX1_places_met (l : Launch) (ck : Nat → ClassId) (ad : Nat → Nat) (fa : NI) (x1 : Int32) (u : Int64 × NI) (h : jX1_places fa x1 = some u) : HM l yX1_places cX1_places 5 (some .long) (rmz 1 21) [.ref (ad 0), .int x1] (tyB ck) (wB ck ad fa) (some (.long u.1)) (wB ck ad u.2) :=
  hm_of (own := RX1) (by decide +kernel) rfl (Nat.le_of_ble_eq_true rfl) (fun D A p e s m below meth c ls C hA hK hX hP hD hS hl => wX1_places_0 C hA hK hX fa x1 ls _ _ u hP hD hS hl h)

/-! RealDeskModel$Big.hasBelow(I)Z -/
def jX1_hasBelow_L4 : Nat → NI → Int32 → Int32 → Int32 → Option (Int32 × NI)
  | 0, _, _, _, _ => none
  | k + 1, fa, x1, x2, x3 => (if x1 ≤ x3 then (if bz x2 = true then some (x2, fa) else none) else (if x2 = 0 then (b2 (jX1_bit fa x3) fun r_1 fa_1 => jX1_hasBelow_L4 k fa_1 x1 r_1 (x3 + 1)) else (if bz x2 = true then some (x2, fa) else none)))
set_option maxHeartbeats 4000000 in
set_option maxRecDepth 100000 in
theorem wX1_hasBelow_L4 {p : Program} {l : Launch} {e : Env} {s : State} {m : MethodId} {args : Array Value} {below : List Frame} {meth : Method} {c : Code} {D : va_G} {A : Nat → Prop} {ck : Nat → ClassId} {ad : Nat → Nat} (C : CX p s m args meth c RX1 cX1_hasBelow 4 (some .boolean)) (hA : ∀ q, s.heap.size ≤ q → A q) (hK : va_K D vwCl (tyB ck) s) (hX : XT s) : ∀ (k : Nat) (fa : NI) (x1 : Int32) (x2 : Int32) (x3 : Int32) (ls : Array Slot) (H : Heap) (locs : List Loc) (u : Int32 × NI), va_P D vwCl (wB ck ad fa) H → va_D A (wB ck ad fa) → va_S A s.heap H locs → lv_has ls 4 [(0, .ref (ad 0)), (1, .int x1), (2, .int x2), (3, .int x3)] → jX1_hasBelow_L4 k fa x1 x2 x3 = some u → W p l e (rmz 1 21) s m args below meth c H locs 0 0 (MQ below (HQ D A (wB ck ad u.2) (some (.int u.1))) args s 0 0 A) (F0 m 4 ls []) := by
  obtain ⟨hx, hb, hml, hown, hg, hr, hlocks⟩ := id C
  intro k
  induction k with
  | zero => intro fa x1 x2 x3 ls H locs u hP hD hS hl h; cases h
  | succ k ih =>
    intro fa x1 x2 x3 ls H locs u hP hD hS hl h
    unfold jX1_hasBelow_L4 at h
    refine lv_iload_n hx hb dX1_hasBelow_4 rfl (lv_at hl 3 rfl) ?_
    refine lv_iload_n hx hb dX1_hasBelow_5 rfl (lv_at hl 1 rfl) ?_
    refine lv_icmp_ge (tgt := 25) hx hb dX1_hasBelow_6 (by decide) (fun c_1 => ?_) (fun c_1 => ?_)
    · rw [if_pos c_1] at h
      refine lv_iload_n hx hb dX1_hasBelow_25 rfl (lv_at hl 2 rfl) ?_
      obtain ⟨z_26, h⟩ := of_ite h
      cases h
      exact W.zret hx hb hr (bz_n z_26) (fun t ht _ => ⟨rfl, by rw [ht]; exact hP, hD, hS.F ht⟩) hS.2.2 dX1_hasBelow_26
    · rw [if_neg c_1] at h
      refine lv_iload_n hx hb dX1_hasBelow_9 rfl (lv_at hl 2 rfl) ?_
      refine lv_if_ne (tgt := 25) hx hb dX1_hasBelow_10 (by decide) (fun c_2 => ?_) (fun c_2 => ?_)
      · rw [if_neg c_2] at h
        refine lv_iload_n hx hb dX1_hasBelow_25 rfl (lv_at hl 2 rfl) ?_
        obtain ⟨z_26, h⟩ := of_ite h
        cases h
        exact W.zret hx hb hr (bz_n z_26) (fun t ht _ => ⟨rfl, by rw [ht]; exact hP, hD, hS.F ht⟩) hS.2.2 dX1_hasBelow_26
      · rw [if_pos c_2] at h
        refine lv_aload_n hx hb dX1_hasBelow_13 rfl (lv_at hl 0 rfl) ?_
        refine lv_iload_n hx hb dX1_hasBelow_14 rfl (lv_at hl 3 rfl) ?_
        obtain ⟨r_1, fa_1, h_r_1, h⟩ := of_b2 h
        refine callB C hK hX hP hD hS hA (cX1_bit_met l ck ad _ _ _ h_r_1) vc_X1_bit tw_383 (by decide) rfl hl.1 (rest := []) rfl (Nat.le_of_ble_eq_true rfl) (by decide) dX1_hasBelow_15 (fun H locs hP hD hS => ?_)
        have hP : va_P D vwCl (wB ck ad fa_1) H := hP
        have hD : va_D A (wB ck ad fa_1) := hD
        refine W.eq (g2 := F0 m 18 ls [.int r_1]) rfl ?_
        refine lv_istore_n (lv' := [(2, .int r_1), (0, .ref (ad 0)), (1, .int x1), (3, .int x3)]) hx hb dX1_hasBelow_18 rfl hl (by decide) rfl (fun ls hl => ?_)
        refine lv_iinc (v := x3 + 1) (lv' := [(3, .int (x3 + 1)), (2, .int r_1), (0, .ref (ad 0)), (1, .int x1)]) hx hb dX1_hasBelow_19 hl (k := 3) rfl rfl (by decide) rfl (fun ls hl => ?_)
        refine lv_goto (tgt := 4) hx hb dX1_hasBelow_22 (by decide) ?_
        exact ih _ _ _ _ _ _ _ _ hP hD hS (lv_sub hl [2, 3, 1, 0] rfl) h
def jX1_hasBelow (fa : NI) (x1 : Int32) : Option (Int32 × NI) := jX1_hasBelow_L4 FU fa x1 0 0
set_option maxHeartbeats 4000000 in
set_option maxRecDepth 100000 in
theorem wX1_hasBelow_0 {p : Program} {l : Launch} {e : Env} {s : State} {m : MethodId} {args : Array Value} {below : List Frame} {meth : Method} {c : Code} {D : va_G} {A : Nat → Prop} {ck : Nat → ClassId} {ad : Nat → Nat} (C : CX p s m args meth c RX1 cX1_hasBelow 4 (some .boolean)) (hA : ∀ q, s.heap.size ≤ q → A q) (hK : va_K D vwCl (tyB ck) s) (hX : XT s) (fa : NI) (x1 : Int32) (ls : Array Slot) (H : Heap) (locs : List Loc) (u : Int32 × NI) (hP : va_P D vwCl (wB ck ad fa) H) (hD : va_D A (wB ck ad fa)) (hS : va_S A s.heap H locs) (hl : lv_has ls 4 [(0, .ref (ad 0)), (1, .int x1)]) (h : jX1_hasBelow fa x1 = some u) : W p l e (rmz 1 21) s m args below meth c H locs 0 0 (MQ below (HQ D A (wB ck ad u.2) (some (.int u.1))) args s 0 0 A) (F0 m 0 ls []) := by
  obtain ⟨hx, hb, hml, hown, hg, hr, hlocks⟩ := id C
  unfold jX1_hasBelow at h
  refine lv_iconst (v := 0) hx hb dX1_hasBelow_0 (by decide) ?_
  refine lv_istore_n (lv' := [(2, .int 0), (0, .ref (ad 0)), (1, .int x1)]) hx hb dX1_hasBelow_1 rfl hl (by decide) rfl (fun ls hl => ?_)
  refine lv_iconst (v := 0) hx hb dX1_hasBelow_2 (by decide) ?_
  refine lv_istore_n (lv' := [(3, .int 0), (2, .int 0), (0, .ref (ad 0)), (1, .int x1)]) hx hb dX1_hasBelow_3 rfl hl (by decide) rfl (fun ls hl => ?_)
  exact wX1_hasBelow_L4 C hA hK hX FU _ _ _ _ _ _ _ _ hP hD hS (lv_sub hl [2, 3, 1, 0] rfl) h
theorem vc_X1_hasBelow : VC RX1 yX1_hasBelow cX1_hasBelow 4 (some .boolean) 1 := ⟨tw_393, tw_394, tw_3, tw_395, by decide +kernel⟩
theorem cX1_hasBelow_met (l : Launch) (ck : Nat → ClassId) (ad : Nat → Nat) (fa : NI) (x1 : Int32) (u : Int32 × NI) (h : jX1_hasBelow fa x1 = some u) : HM l yX1_hasBelow cX1_hasBelow 4 (some .boolean) (rmz 1 21) [.ref (ad 0), .int x1] (tyB ck) (wB ck ad fa) (some (.int u.1)) (wB ck ad u.2) :=
  hm_of (own := RX1) (by decide +kernel) rfl (Nat.le_of_ble_eq_true rfl) (fun D A p e s m below meth c ls C hA hK hX hP hD hS hl => wX1_hasBelow_0 C hA hK hX fa x1 ls _ _ u hP hD hS hl h)
end
