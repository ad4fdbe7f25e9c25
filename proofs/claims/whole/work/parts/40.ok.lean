/-! what is still owed of the mathematics -/
theorem ok_value (g : NL) (th : Int32) (mi : NI) (di : NL) (po : NI) (be : Int32) (mm : Int64) (ee : Int32) (fa fb : NI) (x1 : Int32) (hR : Rel g mi di po) : OKv (jX0_value g x1) (jX2_value th mi di po be mm ee fa fb x1) ∨ OKt (tX0_value g x1) (jX2_value th mi di po be mm ee fa fb x1) g 1 1 := by
  sorry
