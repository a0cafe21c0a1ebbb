/-! ===== message: the reference's loop ===== -/
def fml (f : Nat) : Prop := f = 44 ∨ f = 9
def oml (k : Nat) : Prop := k = 719 ∨ k = 742 ∨ k = 743 ∨ k = 744
