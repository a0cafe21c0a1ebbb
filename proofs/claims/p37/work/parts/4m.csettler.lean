/-! ===== directions: the reference settles partners and others ===== -/
section
variable {w0 : Wd} {P : List Int} {n : Nat} {cl : Nat → Int}
end
theorem ah_run {f : Nat → Int} {o : Int} {k : Nat} : ∀ j : Nat, k ≤ j → (∀ i, k ≤ i → i < j → f i = 3) → ah f o j = ah f o k := by
  intro j
  induction j with
  | zero => intro h _; rw [show k = 0 by omega]
  | succ j ih =>
    intro h hf
    by_cases e : k = j + 1
    · rw [e]
    · rw [ah_s, if_pos (plw_3.mpr (hf j (by omega) (by omega)))]
      exact ih (by omega) (fun i h1 h2 => hf i h1 (by omega))
theorem bhn_run {f : Nat → Int} {o : Int} {m to : Nat} (ht : to ≤ m) : ∀ d : Nat, d ≤ to → (∀ i, to - d ≤ i → i < to → f i = 3) → bhn f o m (m - (to - d)) = bhn f o m (m - to) := by
  intro d
  induction d with
  | zero => intro _ _; rw [Nat.sub_zero]
  | succ d ih =>
    intro h hf
    rw [show m - (to - (d + 1)) = m - (to - d) + 1 by omega, bhn_s (j := to - (d + 1)) (by omega), if_pos (plw_3.mpr (hf _ (Nat.le_refl _) (by omega)))]
    exact ih (by omega) (fun i h1 h2 => hf i (by omega) h2)
