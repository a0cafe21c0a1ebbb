/-! ===== orders: the reference ===== -/
def kyf (f : Nat) : Prop := f = 11 ∨ f = 12 ∨ f = 29
section
variable {w0 : Wd} {tab : Nat → Int} {n : Int32} {zs : List Int} {Q : Int32 → Wd → Prop} {rc : Int32 × Int32 × Wd → Option (Int32 × Wd)}
end
def cpf (f : Nat) : Prop := f = 0 ∨ f = 11 ∨ f = 12 ∨ f = 29
def kef (f : Nat) : Prop := f = 0 ∨ f = 11 ∨ f = 12 ∨ f = 29
