/-! what the law's loop asks of the mathematics: from a desk and a model that stand for the same numbers, each call gives the same on both sides -/
def Rel1 (g : Int64) (mi : Int32) (di : Int64) (po : Int32) : Prop :=
  (mi = 0 ∨ mi = 1) ∧ 0 ≤ di.toInt ∧ di.toInt < 2 ^ 53 ∧ -1074 ≤ po.toInt ∧ po.toInt ≤ 971 ∧ (2 ^ 52 ≤ di.toInt ∨ po.toInt = -1074) ∧ (mi = 1 → 0 < di.toInt) ∧
    g.toInt = (if mi = 1 then -1 else 1) * ((po.toInt + 1074) * 2 ^ 52 + di.toInt)
def Rel (g : NL) (mi : NI) (di : NL) (po : NI) : Prop := ∀ r : Nat, r < 16 → Rel1 (g r) (mi r) (di r) (po r)
def OKn {α : Type} (jx : Option (α × NL)) (jm : Option (α × MS)) : Prop :=
  ∃ (r : α) (g' : NL) (mi' : NI) (di' : NL) (po' : NI) (be' : Int32) (mm' : Int64) (ee' : Int32) (fa' fb' : NI), jx = some (r, g') ∧ jm = some (r, 0, mi', di', po', be', mm', ee', fa', fb') ∧ Rel g' mi' di' po'
def OKv (jx : Option (UInt64 × NL)) (jm : Option (UInt64 × MS)) : Prop :=
  ∃ (r : UInt64) (g' : NL) (mi' : NI) (di' : NL) (po' : NI) (be' : Int32) (mm' : Int64) (ee' : Int32) (fa' fb' : NI), jx = some (r, g') ∧ jm = some (r, 0, mi', di', po', be', mm', ee', fa', fb') ∧ Rel g' mi' di' po' ∧ Op.cmpValue (FP.dcmp r r) .l = 0
def OKt {α : Type} (tx : Option Nat) (jm : Option (α × MS)) (g : NL) (k : Nat) (kk : Int32) : Prop :=
  ∃ (r : α) (mi' : NI) (di' : NL) (po' : NI) (be' : Int32) (mm' : Int64) (ee' : Int32) (fa' fb' : NI), tx = some k ∧ jm = some (r, kk, mi', di', po', be', mm', ee', fa', fb') ∧ Rel g mi' di' po'
theorem ok_set (g : NL) (th : Int32) (mi : NI) (di : NL) (po : NI) (be : Int32) (mm : Int64) (ee : Int32) (fa fb : NI) (x1 : Int32) (x2 : Int64) (x4 : Int32) (hR : Rel g mi di po) : OKn (jX0_set g x1 x2 x4) (jX2_set th mi di po be mm ee fa fb x1 x2 x4) ∨ OKt (tX0_set g x1 x2 x4) (jX2_set th mi di po be mm ee fa fb x1 x2 x4) g 1 1 := by
  sorry
theorem ok_combine (g : NL) (th : Int32) (mi : NI) (di : NL) (po : NI) (be : Int32) (mm : Int64) (ee : Int32) (fa fb : NI) (x1 : Int32) (x2 : Int32) (x3 : Int32) (x4 : Int32) (hR : Rel g mi di po) : OKn (jX0_combine g x1 x2 x3 x4) (jX2_combine th mi di po be mm ee fa fb x1 x2 x3 x4) ∨ OKt (tX0_combine g x1 x2 x3 x4) (jX2_combine th mi di po be mm ee fa fb x1 x2 x3 x4) g 1 1 := by
  sorry
theorem ok_change (g : NL) (th : Int32) (mi : NI) (di : NL) (po : NI) (be : Int32) (mm : Int64) (ee : Int32) (fa fb : NI) (x1 : Int32) (x2 : Int32) (x3 : Int32) (hR : Rel g mi di po) : OKn (jX0_change g x1 x2 x3) (jX2_change th mi di po be mm ee fa fb x1 x2 x3) ∨ OKt (tX0_change g x1 x2 x3) (jX2_change th mi di po be mm ee fa fb x1 x2 x3) g 1 1 := by
  sorry
theorem ok_power (g : NL) (th : Int32) (mi : NI) (di : NL) (po : NI) (be : Int32) (mm : Int64) (ee : Int32) (fa fb : NI) (x1 : Int32) (x2 : Int32) (x3 : Int32) (hR : Rel g mi di po) : OKn (jX0_power g x1 x2 x3) (jX2_power th mi di po be mm ee fa fb x1 x2 x3) ∨ OKt (tX0_power g x1 x2 x3) (jX2_power th mi di po be mm ee fa fb x1 x2 x3) g 1 1 := by
  sorry
theorem ok_order (g : NL) (th : Int32) (mi : NI) (di : NL) (po : NI) (be : Int32) (mm : Int64) (ee : Int32) (fa fb : NI) (x1 : Int32) (x2 : Int32) (hR : Rel g mi di po) : OKn (jX0_order g x1 x2) (jX2_order th mi di po be mm ee fa fb x1 x2) ∨ OKt (tX0_order g x1 x2) (jX2_order th mi di po be mm ee fa fb x1 x2) g 1 1 := by
  sorry
theorem ok_digits (g : NL) (th : Int32) (mi : NI) (di : NL) (po : NI) (be : Int32) (mm : Int64) (ee : Int32) (fa fb : NI) (x1 : Int32) (hR : Rel g mi di po) : OKn (jX0_digits g x1) (jX2_digits th mi di po be mm ee fa fb x1) ∨ OKt (tX0_digits g x1) (jX2_digits th mi di po be mm ee fa fb x1) g 1 1 := by
  sorry
theorem ok_exponent (g : NL) (th : Int32) (mi : NI) (di : NL) (po : NI) (be : Int32) (mm : Int64) (ee : Int32) (fa fb : NI) (x1 : Int32) (hR : Rel g mi di po) : OKn (jX0_exponent g x1) (jX2_exponent th mi di po be mm ee fa fb x1) ∨ OKt (tX0_exponent g x1) (jX2_exponent th mi di po be mm ee fa fb x1) g 1 1 := by
  sorry
theorem ok_value (g : NL) (th : Int32) (mi : NI) (di : NL) (po : NI) (be : Int32) (mm : Int64) (ee : Int32) (fa fb : NI) (x1 : Int32) (hR : Rel g mi di po) : OKv (jX0_value g x1) (jX2_value th mi di po be mm ee fa fb x1) ∨ OKt (tX0_value g x1) (jX2_value th mi di po be mm ee fa fb x1) g 1 1 := by
  sorry
theorem ok_whole (g : NL) (th : Int32) (mi : NI) (di : NL) (po : NI) (be : Int32) (mm : Int64) (ee : Int32) (fa fb : NI) (x1 : Int32) (hR : Rel g mi di po) : OKn (jX0_whole g x1) (jX2_whole th mi di po be mm ee fa fb x1) ∨ OKt (tX0_whole g x1) (jX2_whole th mi di po be mm ee fa fb x1) g 1 1 ∨ OKt (tX0_whole g x1) (jX2_whole th mi di po be mm ee fa fb x1) g 2 2 := by
  sorry
