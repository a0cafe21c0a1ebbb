/-! ===== patterns: the reference matches ===== -/
/-- a row of marks says so -/
def mrk (w : Wd) (o : Nat) (b : Nat → Prop) : Prop := ∀ k : Nat, k ≤ 40 → (w.1 o k = 1 ∧ b k) ∨ (w.1 o k = 0 ∧ ¬ b k)
theorem L739 : LEN 739 = 41 ∧ LEN 740 = 41 := by decide +kernel
def omt (w w' : Wd) : Prop := oc (fun k => k = 739 ∨ k = 740) w w'
theorem omt_patA {w w' : Wd} {P : List PC} (h : omt w w') (hA : patA w P) : patA w' P := fun i hi => by
  rw [h.1 737 (by decide), h.1 736 (by decide), h.1 738 (by decide)]; exact hA i hi
section
variable {w0 : Wd} {tab : Nat → Int} {txt : Nat → List Int} {P : List PC} {s : Int32} {a : Nat} {rc : Int32 × Int32 × Wd → Option (Int32 × Wd)} {Q : Int32 → Wd → Prop}
end
/-- the pattern that the reference has, if it has one -/
def hasR (w : Wd) (o : Option (List PC)) : Prop := match o with
  | none => (w.1 713 31).toInt = 0
  | some l => (w.1 713 31).toInt = 1 ∧ patR w l ∧ pok l
