/-! ===== patterns: the reference matches ===== -/
/-- a row of marks says so -/
def mrk (w : Wd) (o : Nat) (b : Nat → Prop) : Prop := ∀ k : Nat, k ≤ 40 → (w.1 o k = 1 ∧ b k) ∨ (w.1 o k = 0 ∧ ¬ b k)
section
variable {w0 : Wd} {tab : Nat → Int} {txt : Nat → List Int} {P : List PC} {s : Int32} {a : Nat} {rc : Int32 × Int32 × Wd → Option (Int32 × Wd)} {Q : Int32 → Wd → Prop}
end
