/-! the invariant, and that every call keeps it (under way) -/
def Inv0 : Nat → CS → RS → Prop := fun _ _ _ => True
theorem step_ok : StepOK Inv0 := sorry
theorem inv_0 : Inv0 0 cs0 rs0 := trivial
