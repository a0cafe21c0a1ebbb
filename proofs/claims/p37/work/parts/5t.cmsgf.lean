/-! ===== message: the reference's own ===== -/
def fmg (f : Nat) : Prop := f = 0 ∨ f = 7 ∨ f = 9 ∨ f = 44
def omg (k : Nat) : Prop := k = 719 ∨ k = 742 ∨ k = 743 ∨ k = 744 ∨ k = 745
