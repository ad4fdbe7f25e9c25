/-! what is still owed of the mathematics -/
theorem ok_change (g : NL) (th : Int32) (mi : NI) (di : NL) (po : NI) (be : Int32) (mm : Int64) (ee : Int32) (fa fb : NI) (x1 : Int32) (x2 : Int32) (x3 : Int32) (hR : Rel g mi di po) : OKn (jX0_change g x1 x2 x3) (jX2_change th mi di po be mm ee fa fb x1 x2 x3) ∨ OKt (tX0_change g x1 x2 x3) (jX2_change th mi di po be mm ee fa fb x1 x2 x3) g 1 1 := by
  sorry
theorem ok_value (g : NL) (th : Int32) (mi : NI) (di : NL) (po : NI) (be : Int32) (mm : Int64) (ee : Int32) (fa fb : NI) (x1 : Int32) (hR : Rel g mi di po) : OKv (jX0_value g x1) (jX2_value th mi di po be mm ee fa fb x1) ∨ OKt (tX0_value g x1) (jX2_value th mi di po be mm ee fa fb x1) g 1 1 := by
  sorry
