/-! ===== decode: the reference ===== -/
def fdc (f : Nat) : Prop := f = 0 ∨ f = 7
