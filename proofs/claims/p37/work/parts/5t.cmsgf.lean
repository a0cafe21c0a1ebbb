/-! ===== message: the reference's own ===== -/
def fmg (f : Nat) : Prop := f = 0 ∨ f = 7 ∨ f = 9 ∨ f = 44
