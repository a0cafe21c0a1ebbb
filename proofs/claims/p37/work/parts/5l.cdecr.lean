/-! ===== decode: the reference ===== -/
def stF (s : Nat) (pre : List Int) (w u : Wd) : Prop := rcg (fun _ => False) (fun k => k = 716) w u ∧ (∀ j : Nat, j < pre.length → (u.1 716 (40 * s + j)).toInt = gt pre j) ∧ ∀ j : Nat, ¬ (40 * s ≤ j ∧ j < 40 * s + 40) → u.1 716 j = w.1 716 j
def fdc (f : Nat) : Prop := f = 0 ∨ f = 7
def rdc (k : Nat) : Prop := k = 716 ∨ k = 717
