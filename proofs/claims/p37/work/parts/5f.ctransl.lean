/-! ===== the reference's transliterate ===== -/
def ftl (f : Nat) : Prop := f = 0 ∨ f = 11 ∨ f = 12 ∨ f = 39
