/-! ===== message: the reference's helpers ===== -/
theorem cpp_len {out : List Int} {x : Int} (h : out.length ≤ 200) : (cpp out x).length ≤ 200 := by
  unfold cpp
  by_cases c : out.length < 200
  · rw [if_pos c, List.length_append, List.length_singleton]; omega
  · rw [if_neg c]; exact h
theorem cps_len : ∀ (l : List Int) (out : List Int), out.length ≤ 200 → (cps out l).length ≤ 200 := by
  intro l
  induction l with
  | nil => intro out h; exact h
  | cons x l ih => intro out h; exact ih _ (cpp_len h)
def f9 (f : Nat) : Prop := f = 9
def o719 (k : Nat) : Prop := k = 719
theorem p10_pos (j : Nat) : (0 : Int) < 10 ^ j := Int.pow_pos (by decide)
/-- the choices that are open, as the reference keeps them -/
def RS (w : Wd) : List Fch → Prop
  | [] => True
  | f :: st => ((w.1 742 (st.length + 1)).toInt = f.1 ∧ w.1 743 (st.length + 1) = bo f.2.1 ∧ w.1 744 (st.length + 1) = bo f.2.2 ∧ 0 ≤ f.1 ∧ f.1 < 4) ∧ RS w st
theorem RS_fr {w w' : Wd} : ∀ {st : List Fch}, RS w st → (∀ j : Nat, 1 ≤ j → j ≤ st.length → w'.1 742 j = w.1 742 j ∧ w'.1 743 j = w.1 743 j ∧ w'.1 744 j = w.1 744 j) → RS w' st := by
  intro st
  induction st with
  | nil => intro _ _; exact trivial
  | cons f st ih =>
    intro h hj
    have J := hj (st.length + 1) (by omega) (by rw [List.length_cons]; omega)
    refine ⟨?_, ih h.2 (fun j h1 h2 => hj j h1 (by rw [List.length_cons]; omega))⟩
    rw [J.1, J.2.1, J.2.2]; exact h.1
theorem RS_drop {w : Wd} : ∀ {st : List Fch} (k : Nat), RS w st → RS w (st.drop k) := by
  intro st
  induction st with
  | nil => intro k h; rw [List.drop_nil]; exact h
  | cons f st ih =>
    intro k h
    cases k with
    | zero => exact h
    | succ k => exact ih k h.2
theorem L74 : LEN 742 = 7 ∧ LEN 743 = 7 ∧ LEN 744 = 7 ∧ LEN 745 = 4 := by decide +kernel
/-- the numbers, as the reference keeps them -/
def nmr (w : Wd) (nums : List Int) : Prop := ∀ k : Nat, k < 4 → (w.1 745 k).toInt = gt nums k
def f44 (f : Nat) : Prop := f = 44
def o434 (k : Nat) : Prop := k = 743 ∨ k = 744
