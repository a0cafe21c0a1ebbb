/-! ===== the reference's passes, transliterate ===== -/
def fps (f : Nat) : Prop := f = 11 ∨ f = 39
