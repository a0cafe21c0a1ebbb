/-! ===== message: the reference's loop ===== -/
def fml (f : Nat) : Prop := f = 44 ∨ f = 9
