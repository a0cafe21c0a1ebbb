/-! ===== the reference's transliterate ===== -/
def ftl (f : Nat) : Prop := f = 0 ∨ f = 11 ∨ f = 12 ∨ f = 39
def otl (k : Nat) : Prop := k = 720 ∨ k = 741 ∨ k = 716 ∨ k = 717
