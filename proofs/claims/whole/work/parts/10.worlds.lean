/-! the worlds: a Big (obj, parts), two of them, the model (8 cells), the desk (2 cells); ad: addresses, ck: the array classes (int, long, boolean, double) -/
abbrev NI : Type := Nat → Int32
abbrev NL : Type := Nat → Int64
abbrev MS : Type := Int32 × NI × NL × NI × Int32 × Int64 × Int32 × NI × NI
abbrev tyB (ck : Nat → ClassId) : List (ClassId × FieldType) := [(ck 0, .int)]
abbrev tyM (ck : Nat → ClassId) : List (ClassId × FieldType) := [(ck 0, .int), (ck 1, .long), (ck 2, .boolean)]
abbrev tyD (ck : Nat → ClassId) : List (ClassId × FieldType) := [(ck 1, .long)]
abbrev wB (ck : Nat → ClassId) (ad : Nat → Nat) (fa : NI) : va_W := [(ad 0, .inr (1, [.ref (ad 1)])), (ad 1, .inl (ck 0, 140, .inl fa))]
abbrev wBB (ck : Nat → ClassId) (ad : Nat → Nat) (fa fb : NI) : va_W := [(ad 0, .inr (1, [.ref (ad 1)])), (ad 1, .inl (ck 0, 140, .inl fa)), (ad 2, .inr (1, [.ref (ad 3)])), (ad 3, .inl (ck 0, 140, .inl fb))]
abbrev wM (ck : Nat → ClassId) (ad : Nat → Nat) (th : Int32) (mi : NI) (di : NL) (po : NI) (be : Int32) (mm : Int64) (ee : Int32) (fa fb : NI) : va_W :=
  [(ad 0, .inr (2, [.int th, .ref (ad 1), .ref (ad 2), .ref (ad 3), .int be, .long mm, .int ee, .ref (ad 4), .ref (ad 6)])), (ad 1, .inl (ck 2, 16, .inl mi)), (ad 2, .inl (ck 1, 16, .inr (.inl di))), (ad 3, .inl (ck 0, 16, .inl po)),
   (ad 4, .inr (1, [.ref (ad 5)])), (ad 5, .inl (ck 0, 140, .inl fa)), (ad 6, .inr (1, [.ref (ad 7)])), (ad 7, .inl (ck 0, 140, .inl fb))]
abbrev wD (ck : Nat → ClassId) (ad : Nat → Nat) (g : NL) : va_W := [(ad 0, .inr (0, [.ref (ad 1)])), (ad 1, .inl (ck 1, 16, .inr (.inl g)))]
def b2 {α β γ : Type} (o : Option (α × β)) (f : α → β → Option γ) : Option γ := o.bind (fun q => f q.1 q.2)
theorem of_b2 {α β γ : Type} {o : Option (α × β)} {f : α → β → Option γ} {r : γ} (h : b2 o f = some r) : ∃ a b, o = some (a, b) ∧ f a b = some r := by
  obtain ⟨⟨a, b⟩, h1, h2⟩ := of_bind h
  exact ⟨a, b, h1, h2⟩
def b3 {α β γ δ : Type} (o : Option (α × β × γ)) (f : α → β → γ → Option δ) : Option δ := o.bind (fun q => f q.1 q.2.1 q.2.2)
theorem of_b3 {α β γ δ : Type} {o : Option (α × β × γ)} {f : α → β → γ → Option δ} {r : δ} (h : b3 o f = some r) : ∃ a b c, o = some (a, b, c) ∧ f a b c = some r := by
  obtain ⟨⟨a, b, c⟩, h1, h2⟩ := of_bind h
  exact ⟨a, b, c, h1, h2⟩
def bM {α γ : Type} (o : Option (α × MS)) (f : α → Int32 → NI → NL → NI → Int32 → Int64 → Int32 → NI → NI → Option γ) : Option γ := o.bind (fun q => f q.1 q.2.1 q.2.2.1 q.2.2.2.1 q.2.2.2.2.1 q.2.2.2.2.2.1 q.2.2.2.2.2.2.1 q.2.2.2.2.2.2.2.1 q.2.2.2.2.2.2.2.2.1 q.2.2.2.2.2.2.2.2.2)
theorem of_bM {α γ : Type} {o : Option (α × MS)} {f : α → Int32 → NI → NL → NI → Int32 → Int64 → Int32 → NI → NI → Option γ} {r : γ} (h : bM o f = some r) : ∃ a th mi di po be mm ee fa fb, o = some (a, th, mi, di, po, be, mm, ee, fa, fb) ∧ f a th mi di po be mm ee fa fb = some r := by
  obtain ⟨⟨a, th, mi, di, po, be, mm, ee, fa, fb⟩, h1, h2⟩ := of_bind h
  exact ⟨a, th, mi, di, po, be, mm, ee, fa, fb, h1, h2⟩
def bMv {γ : Type} (o : Option MS) (f : Int32 → NI → NL → NI → Int32 → Int64 → Int32 → NI → NI → Option γ) : Option γ := o.bind (fun q => f q.1 q.2.1 q.2.2.1 q.2.2.2.1 q.2.2.2.2.1 q.2.2.2.2.2.1 q.2.2.2.2.2.2.1 q.2.2.2.2.2.2.2.1 q.2.2.2.2.2.2.2.2)
theorem of_bMv {γ : Type} {o : Option MS} {f : Int32 → NI → NL → NI → Int32 → Int64 → Int32 → NI → NI → Option γ} {r : γ} (h : bMv o f = some r) : ∃ th mi di po be mm ee fa fb, o = some (th, mi, di, po, be, mm, ee, fa, fb) ∧ f th mi di po be mm ee fa fb = some r := by
  obtain ⟨⟨th, mi, di, po, be, mm, ee, fa, fb⟩, h1, h2⟩ := of_bind h
  exact ⟨th, mi, di, po, be, mm, ee, fa, fb, h1, h2⟩
theorem bz_0 : bz 0 = true := rfl
theorem bz_1 : bz 1 = true := rfl
theorem bz_ite {c : Prop} [Decidable c] {a b : Int32} (ha : bz a = true) (hb : bz b = true) : bz (if c then a else b) = true := by
  split <;> assumption
section WC
variable {p : Program} {l : Launch} {e : Env} {R : Room} {s : State} {m : MethodId} {args : Array Value} {below : List Frame} {meth : Method} {c : Code} {H : Heap} {locs : List Loc} {cells slots : Nat} {Q : State → Prop}
variable {own : String} {cc : ByteArray} {nL : Nat} {ret0 : Option FieldType} {pc : Nat} {ls : Array Slot} {rest : List Value} {D : va_G} {A : Nat → Prop} {ck : Nat → ClassId} {ad : Nat → Nat}
variable {y : MethodName} {bytes : ByteArray} {maxL n idx : Nat} {ret : Option FieldType} {rm : Room} {As : List Value} {v : Option Value} {st0 : List Value}
theorem callB {fa fa' : NI} (C : CX p s m args meth c own cc nL ret0) (hK : va_K D vwCl (tyB ck) s) (hX : XT s) (hP : va_P D vwCl (wB ck ad fa) H) (hD : va_D A (wB ck ad fa)) (hS : va_S A s.heap H locs) (hA : ∀ q, s.heap.size ≤ q → A q)
    (hM : HM l y bytes maxL ret rm (.ref (ad 0) :: As) (tyB ck) (wB ck ad fa) v (wB ck ad fa')) (hV : VC RX1 y bytes maxL ret n) (hl : Cond.methodLink own idx y ∈ gtbl)
    (hRm : (rm.frames + 1 ≤ R.frames ∧ 8 + (maxL + 11) + rm.locals ≤ R.locals) ∧ rm.cells = 0 ∧ rm.slots = 0) (hna : As.length = n) (hsz : ls.size = nL) (hst : st0 = As.reverse ++ .ref (ad 0) :: rest) (hW : (rest.map fun v => v.category).sum ≤ 8) (hc : cells ≤ R.cells ∧ slots ≤ R.slots) (hd : decode cc pc = .ok (.invokevirtual idx, 3))
    (k : ∀ (H1 : Heap) (locs1 : List Loc), va_P D vwCl (wB ck ad fa') H1 → va_D A (wB ck ad fa') → va_S A s.heap H1 locs1 → W p l e R s m args below meth c H1 locs1 cells slots Q (F0 m (pc + 3) ls (v.toList ++ rest))) : W p l e R s m args below meth c H locs cells slots Q (F0 m pc ls st0) :=
  hcallV (wr := []) C hK hX hP hD hS hA hM hV hl [0, 1] [] [0, 1] [0] rfl rfl rfl rfl rfl (by decide) rfl rfl rfl rfl (q0 := 0) (ci := 1) rfl rfl rfl hRm hna hsz hst hW hc hd k
theorem callD {g g' : NL} (C : CX p s m args meth c own cc nL ret0) (hK : va_K D vwCl (tyD ck) s) (hX : XT s) (hP : va_P D vwCl (wD ck ad g) H) (hD : va_D A (wD ck ad g)) (hS : va_S A s.heap H locs) (hA : ∀ q, s.heap.size ≤ q → A q)
    (hM : HM l y bytes maxL ret rm (.ref (ad 0) :: As) (tyD ck) (wD ck ad g) v (wD ck ad g')) (hV : VC RX0 y bytes maxL ret n) (hl : Cond.methodLink own idx y ∈ gtbl)
    (hRm : (rm.frames + 1 ≤ R.frames ∧ 8 + (maxL + 11) + rm.locals ≤ R.locals) ∧ rm.cells = 0 ∧ rm.slots = 0) (hna : As.length = n) (hsz : ls.size = nL) (hst : st0 = As.reverse ++ .ref (ad 0) :: rest) (hW : (rest.map fun v => v.category).sum ≤ 8) (hc : cells ≤ R.cells ∧ slots ≤ R.slots) (hd : decode cc pc = .ok (.invokevirtual idx, 3))
    (k : ∀ (H1 : Heap) (locs1 : List Loc), va_P D vwCl (wD ck ad g') H1 → va_D A (wD ck ad g') → va_S A s.heap H1 locs1 → W p l e R s m args below meth c H1 locs1 cells slots Q (F0 m (pc + 3) ls (v.toList ++ rest))) : W p l e R s m args below meth c H locs cells slots Q (F0 m pc ls st0) :=
  hcallV (wr := []) C hK hX hP hD hS hA hM hV hl [0, 1] [] [0, 1] [0] rfl rfl rfl rfl rfl (by decide) rfl rfl rfl rfl (q0 := 0) (ci := 0) rfl rfl rfl hRm hna hsz hst hW hc hd k
variable {th : Int32} {mi : NI} {di : NL} {po : NI} {be : Int32} {mm : Int64} {ee : Int32} {fa fb : NI}
theorem callMM {th' : Int32} {mi' : NI} {di' : NL} {po' : NI} {be' : Int32} {mm' : Int64} {ee' : Int32} {fa' fb' : NI} (C : CX p s m args meth c own cc nL ret0) (hK : va_K D vwCl (tyM ck) s) (hX : XT s) (hP : va_P D vwCl (wM ck ad th mi di po be mm ee fa fb) H) (hD : va_D A (wM ck ad th mi di po be mm ee fa fb)) (hS : va_S A s.heap H locs) (hA : ∀ q, s.heap.size ≤ q → A q)
    (hM : HM l y bytes maxL ret rm (.ref (ad 0) :: As) (tyM ck) (wM ck ad th mi di po be mm ee fa fb) v (wM ck ad th' mi' di' po' be' mm' ee' fa' fb')) (hV : VC RX2 y bytes maxL ret n) (hl : Cond.methodLink own idx y ∈ gtbl)
    (hRm : (rm.frames + 1 ≤ R.frames ∧ 8 + (maxL + 11) + rm.locals ≤ R.locals) ∧ rm.cells = 0 ∧ rm.slots = 0) (hna : As.length = n) (hsz : ls.size = nL) (hst : st0 = As.reverse ++ .ref (ad 0) :: rest) (hW : (rest.map fun v => v.category).sum ≤ 8) (hc : cells ≤ R.cells ∧ slots ≤ R.slots) (hd : decode cc pc = .ok (.invokevirtual idx, 3))
    (k : ∀ (H1 : Heap) (locs1 : List Loc), va_P D vwCl (wM ck ad th' mi' di' po' be' mm' ee' fa' fb') H1 → va_D A (wM ck ad th' mi' di' po' be' mm' ee' fa' fb') → va_S A s.heap H1 locs1 → W p l e R s m args below meth c H1 locs1 cells slots Q (F0 m (pc + 3) ls (v.toList ++ rest))) : W p l e R s m args below meth c H locs cells slots Q (F0 m pc ls st0) :=
  hcallV (wr := []) C hK hX hP hD hS hA hM hV hl [0, 1, 2, 3, 4, 5, 6, 7] [] [0, 1, 2, 3, 4, 5, 6, 7] [0, 1, 2] rfl rfl rfl rfl rfl (by decide) rfl rfl rfl rfl (q0 := 0) (ci := 2) rfl rfl rfl hRm hna hsz hst hW hc hd k
theorem callMa {fa' : NI} (C : CX p s m args meth c own cc nL ret0) (hK : va_K D vwCl (tyM ck) s) (hX : XT s) (hP : va_P D vwCl (wM ck ad th mi di po be mm ee fa fb) H) (hD : va_D A (wM ck ad th mi di po be mm ee fa fb)) (hS : va_S A s.heap H locs) (hA : ∀ q, s.heap.size ≤ q → A q)
    (hM : HM l y bytes maxL ret rm (.ref (ad 4) :: As) (tyB ck) (wB ck (fun i => ad (i + 4)) fa) v (wB ck (fun i => ad (i + 4)) fa')) (hV : VC RX1 y bytes maxL ret n) (hl : Cond.methodLink own idx y ∈ gtbl)
    (hRm : (rm.frames + 1 ≤ R.frames ∧ 8 + (maxL + 11) + rm.locals ≤ R.locals) ∧ rm.cells = 0 ∧ rm.slots = 0) (hna : As.length = n) (hsz : ls.size = nL) (hst : st0 = As.reverse ++ .ref (ad 4) :: rest) (hW : (rest.map fun v => v.category).sum ≤ 8) (hc : cells ≤ R.cells ∧ slots ≤ R.slots) (hd : decode cc pc = .ok (.invokevirtual idx, 3))
    (k : ∀ (H1 : Heap) (locs1 : List Loc), va_P D vwCl (wM ck ad th mi di po be mm ee fa' fb) H1 → va_D A (wM ck ad th mi di po be mm ee fa' fb) → va_S A s.heap H1 locs1 → W p l e R s m args below meth c H1 locs1 cells slots Q (F0 m (pc + 3) ls (v.toList ++ rest))) : W p l e R s m args below meth c H locs cells slots Q (F0 m pc ls st0) :=
  hcallV (wr := [(ad 0, .inr (2, [.int th, .ref (ad 1), .ref (ad 2), .ref (ad 3), .int be, .long mm, .int ee, .ref (ad 4), .ref (ad 6)])), (ad 1, .inl (ck 2, 16, .inl mi)), (ad 2, .inl (ck 1, 16, .inr (.inl di))), (ad 3, .inl (ck 0, 16, .inl po)), (ad 6, .inr (1, [.ref (ad 7)])), (ad 7, .inl (ck 0, 140, .inl fb))])
    C hK hX hP hD hS hA hM hV hl [4, 5] [0, 1, 2, 3, 6, 7] [0, 1, 2, 3, 6, 7, 4, 5] [0] rfl rfl rfl rfl rfl (by decide) rfl rfl rfl rfl (q0 := 4) (ci := 1) rfl rfl rfl hRm hna hsz hst hW hc hd k
theorem callMb {fb' : NI} (C : CX p s m args meth c own cc nL ret0) (hK : va_K D vwCl (tyM ck) s) (hX : XT s) (hP : va_P D vwCl (wM ck ad th mi di po be mm ee fa fb) H) (hD : va_D A (wM ck ad th mi di po be mm ee fa fb)) (hS : va_S A s.heap H locs) (hA : ∀ q, s.heap.size ≤ q → A q)
    (hM : HM l y bytes maxL ret rm (.ref (ad 6) :: As) (tyB ck) (wB ck (fun i => ad (i + 6)) fb) v (wB ck (fun i => ad (i + 6)) fb')) (hV : VC RX1 y bytes maxL ret n) (hl : Cond.methodLink own idx y ∈ gtbl)
    (hRm : (rm.frames + 1 ≤ R.frames ∧ 8 + (maxL + 11) + rm.locals ≤ R.locals) ∧ rm.cells = 0 ∧ rm.slots = 0) (hna : As.length = n) (hsz : ls.size = nL) (hst : st0 = As.reverse ++ .ref (ad 6) :: rest) (hW : (rest.map fun v => v.category).sum ≤ 8) (hc : cells ≤ R.cells ∧ slots ≤ R.slots) (hd : decode cc pc = .ok (.invokevirtual idx, 3))
    (k : ∀ (H1 : Heap) (locs1 : List Loc), va_P D vwCl (wM ck ad th mi di po be mm ee fa fb') H1 → va_D A (wM ck ad th mi di po be mm ee fa fb') → va_S A s.heap H1 locs1 → W p l e R s m args below meth c H1 locs1 cells slots Q (F0 m (pc + 3) ls (v.toList ++ rest))) : W p l e R s m args below meth c H locs cells slots Q (F0 m pc ls st0) :=
  hcallV (wr := [(ad 0, .inr (2, [.int th, .ref (ad 1), .ref (ad 2), .ref (ad 3), .int be, .long mm, .int ee, .ref (ad 4), .ref (ad 6)])), (ad 1, .inl (ck 2, 16, .inl mi)), (ad 2, .inl (ck 1, 16, .inr (.inl di))), (ad 3, .inl (ck 0, 16, .inl po)), (ad 4, .inr (1, [.ref (ad 5)])), (ad 5, .inl (ck 0, 140, .inl fa))])
    C hK hX hP hD hS hA hM hV hl [6, 7] [0, 1, 2, 3, 4, 5] [0, 1, 2, 3, 4, 5, 6, 7] [0] rfl rfl rfl rfl rfl (by decide) rfl rfl rfl rfl (q0 := 6) (ci := 1) rfl rfl rfl hRm hna hsz hst hW hc hd k
theorem callMab {fa' fb' : NI} (C : CX p s m args meth c own cc nL ret0) (hK : va_K D vwCl (tyM ck) s) (hX : XT s) (hP : va_P D vwCl (wM ck ad th mi di po be mm ee fa fb) H) (hD : va_D A (wM ck ad th mi di po be mm ee fa fb)) (hS : va_S A s.heap H locs) (hA : ∀ q, s.heap.size ≤ q → A q)
    (hM : HM l y bytes maxL ret rm (.ref (ad 4) :: As) (tyB ck) (wBB ck (fun i => ad (i + 4)) fa fb) v (wBB ck (fun i => ad (i + 4)) fa' fb')) (hV : VC RX1 y bytes maxL ret n) (hl : Cond.methodLink own idx y ∈ gtbl)
    (hRm : (rm.frames + 1 ≤ R.frames ∧ 8 + (maxL + 11) + rm.locals ≤ R.locals) ∧ rm.cells = 0 ∧ rm.slots = 0) (hna : As.length = n) (hsz : ls.size = nL) (hst : st0 = As.reverse ++ .ref (ad 4) :: rest) (hW : (rest.map fun v => v.category).sum ≤ 8) (hc : cells ≤ R.cells ∧ slots ≤ R.slots) (hd : decode cc pc = .ok (.invokevirtual idx, 3))
    (k : ∀ (H1 : Heap) (locs1 : List Loc), va_P D vwCl (wM ck ad th mi di po be mm ee fa' fb') H1 → va_D A (wM ck ad th mi di po be mm ee fa' fb') → va_S A s.heap H1 locs1 → W p l e R s m args below meth c H1 locs1 cells slots Q (F0 m (pc + 3) ls (v.toList ++ rest))) : W p l e R s m args below meth c H locs cells slots Q (F0 m pc ls st0) :=
  hcallV (wr := [(ad 0, .inr (2, [.int th, .ref (ad 1), .ref (ad 2), .ref (ad 3), .int be, .long mm, .int ee, .ref (ad 4), .ref (ad 6)])), (ad 1, .inl (ck 2, 16, .inl mi)), (ad 2, .inl (ck 1, 16, .inr (.inl di))), (ad 3, .inl (ck 0, 16, .inl po))])
    C hK hX hP hD hS hA hM hV hl [4, 5, 6, 7] [0, 1, 2, 3] [0, 1, 2, 3, 4, 5, 6, 7] [0] rfl rfl rfl rfl rfl (by decide) rfl rfl rfl rfl (q0 := 4) (ci := 1) rfl rfl rfl hRm hna hsz hst hW hc hd k
end WC
