/-! ===== message: the reference's helpers ===== -/
theorem cpp_len {out : List Int} {x : Int} (h : out.length ≤ 200) : (cpp out x).length ≤ 200 := by
  unfold cpp
  by_cases c : out.length < 200
  · rw [if_pos c, List.length_append, List.length_singleton]; omega
  · rw [if_neg c]; exact h
theorem cps_len : ∀ (l : List Int) (out : List Int), out.length ≤ 200 → (cps out l).length ≤ 200 := by
  intro l
  induction l with
  | nil => intro out h; exact h
  | cons x l ih => intro out h; exact ih _ (cpp_len h)
def f9 (f : Nat) : Prop := f = 9
theorem p10_pos (j : Nat) : (0 : Int) < 10 ^ j := Int.pow_pos (by decide)
def f44 (f : Nat) : Prop := f = 44
