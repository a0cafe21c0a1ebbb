/-! ===== the reference joins ===== -/
theorem gt_erase {xs : List Int} {p k : Nat} : gt (xs.eraseIdx p) k = if k < p then gt xs k else gt xs (k + 1 : Nat) := by
  rw [gt_nat, List.getD_eq_getElem?_getD, List.getElem?_eraseIdx]
  by_cases c : k < p
  · rw [if_pos c, if_pos c, gt_nat, List.getD_eq_getElem?_getD]
  · rw [if_neg c, if_neg c, gt_nat, List.getD_eq_getElem?_getD]
