/-! ===== transliterate: the reference ===== -/
theorem L741 : LEN 741 = 40 := by decide +kernel
/-- what has come out of a pass -/
def r74 (w : Wd) (d : List Int) : Prop := (w.1 713 39).toInt = d.length ∧ ∀ k : Nat, k < d.length → (w.1 741 k).toInt = gt d k
