/-! ===== the reference folds ===== -/
theorem gt_2 {A B : List Int} {x : Int} : gt (A ++ x :: B) (A.length : Nat) = x := by
  rw [gt_app_r (Nat.le_refl _), Nat.sub_self]; rfl
theorem set_2 {A B : List Int} {x y : Int} : (A ++ x :: B).set A.length y = A ++ y :: B := by
  rw [List.set_append_right _ _ (Nat.le_refl _), Nat.sub_self]; rfl
theorem dbl_2 {A B : List Int} {x y z : Int} : dbl (A ++ x :: B) A.length y z = A ++ y :: z :: B := by
  unfold dbl
  rw [List.take_left, List.drop_append, List.drop_of_length_le (by omega), show A.length + 1 - A.length = 1 by omega]
  rfl
