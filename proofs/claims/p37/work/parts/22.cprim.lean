/-! ===== small functions of the class and of the reference, as equations ===== -/
def zo (p : Prop) [Decidable p] : Int32 := if p then 1 else 0
theorem zo_0 (p : Prop) [Decidable p] : (zo p = 0) ↔ ¬ p := by
  unfold zo; by_cases h : p
  · rw [if_pos h]; exact ⟨fun e => absurd e (by decide), fun n => (n h).elim⟩
  · rw [if_neg h]; exact ⟨fun _ => h, fun _ => rfl⟩
theorem zo_n0 (p : Prop) [Decidable p] : (¬ zo p = 0) ↔ p := by rw [zo_0]; exact Decidable.not_not
theorem zo_T {p : Prop} [Decidable p] (h : p) : zo p = 1 := if_pos h
theorem zo_F {p : Prop} [Decidable p] (h : ¬ p) : zo p = 0 := if_neg h
theorem bd_r {R R2 : Type} (r : R) (w : Wd) (k : R → Wd → Option R2) : bd (some (r, w)) k = k r w := rfl
theorem bdx_r {R R2 : Type} (r : R) (w : Wd) (k : R → Wd → Option ((Nat ⊕ R2) × Wd)) : bdx (some (.inr r, w)) k = k r w := rfl
theorem bdx_l {R R2 : Type} (e : Nat) (w : Wd) (k : R → Wd → Option ((Nat ⊕ R2) × Wd)) : bdx (some (.inl e, w)) k = some (.inl e, w) := rfl
theorem bdq_n {R2 : Type} (w : Wd) (k0 : Wd → Option R2) (k1 : Nat → Wd → Option R2) : bdq (some (none, w)) k0 k1 = k0 w := rfl
theorem bdq_s {R2 : Type} (r : Nat) (w : Wd) (k0 : Wd → Option R2) (k1 : Nat → Wd → Option R2) : bdq (some (some r, w)) k0 k1 = k1 r w := rfl
theorem bdx_c {R R2 : Type} (c : Prop) [Decidable c] (r : R) (e : Nat) (w : Wd) (k : R → Wd → Option ((Nat ⊕ R2) × Wd)) : bdx (some (if c then .inr r else .inl e, w)) k = if c then k r w else some (.inl e, w) := by
  by_cases h : c
  · rw [if_pos h, if_pos h]; rfl
  · rw [if_neg h, if_neg h]; rfl
theorem ite_zo {Z : Type} (p : Prop) [Decidable p] (a b : Z) : (if zo p = 0 then a else b) = if p then b else a := by
  by_cases h : p
  · rw [if_pos h, zo_T h, if_neg (by decide)]
  · rw [if_neg h, zo_F h, if_pos rfl]
theorem e_isWithin (a b c : Int32) (w : Wd) : f_X10_isWithin a b c w = some (zo (b.toInt ≤ a.toInt ∧ a.toInt ≤ c.toInt), w) := by
  unfold f_X10_isWithin
  simp only [Int32.lt_iff_toInt_lt]
  by_cases h1 : a.toInt < b.toInt
  · rw [if_pos h1, zo_F (by omega)]
  · rw [if_neg h1]
    by_cases h2 : c.toInt < a.toInt
    · rw [if_pos h2, zo_F (by omega)]
    · rw [if_neg h2, zo_T (by omega)]
theorem e_isLetter (a : Int32) (w : Wd) : f_X10_isLetter a w = some (zo (0 ≤ a.toInt ∧ a.toInt ≤ 95), w) := by
  unfold f_X10_isLetter; rw [e_isWithin, bd_r]; rfl
theorem e_isNumber (a : Int32) (w : Wd) : f_X10_isNumber a w = some (zo (0 ≤ a.toInt ∧ a.toInt ≤ 999999), w) := by
  unfold f_X10_isNumber; rw [e_isWithin, bd_r]; rfl
theorem e_isRange (a b : Int32) (w : Wd) : f_X10_isRange a b w = some (zo (0 ≤ a.toInt ∧ a.toInt ≤ 99 ∧ a.toInt ≤ b.toInt ∧ b.toInt ≤ 99), w) := by
  unfold f_X10_isRange
  rw [e_isWithin, bd_r, ite_zo, e_isWithin, bd_r, ite_zo]
  have h9 : (99 : Int32).toInt = 99 := by decide
  have h0 := L01.1
  by_cases h1 : (0 : Int32).toInt ≤ a.toInt ∧ a.toInt ≤ (99 : Int32).toInt
  · rw [if_pos h1]
    by_cases h2 : a.toInt ≤ b.toInt ∧ b.toInt ≤ (99 : Int32).toInt
    · rw [if_pos h2, zo_T (by omega)]
    · rw [if_neg h2, zo_F (by omega)]
  · rw [if_neg h1, zo_F (by omega)]
theorem e_checkArgument (p : Prop) [Decidable p] (w : Wd) : f_X10_checkArgument (zo p) w = some (if p then .inr () else .inl 2, w) := by
  unfold f_X10_checkArgument; rw [ite_zo]
  by_cases h : p
  · rw [if_pos h, if_pos h]
  · rw [if_neg h, if_neg h]
theorem e_checkLetter (a : Int32) (w : Wd) : f_X10_checkLetter a w = some (if 0 ≤ a.toInt ∧ a.toInt ≤ 95 then .inr () else .inl 1, w) := by
  unfold f_X10_checkLetter; rw [e_isLetter, bd_r, ite_zo]
  by_cases h : 0 ≤ a.toInt ∧ a.toInt ≤ 95
  · rw [if_pos h, if_pos h]
  · rw [if_neg h, if_neg h]
theorem e_checkPlace (a n : Int32) (w : Wd) : f_X10_checkPlace a n w = some (if 0 ≤ a.toInt ∧ a.toInt < n.toInt then .inr () else .inl 1, w) := by
  unfold f_X10_checkPlace f_X10_checkPlace_9
  simp only [Int32.lt_iff_toInt_lt]
  have h0 := L01.1
  by_cases h1 : a.toInt < (0 : Int32).toInt
  · rw [if_pos h1, if_neg (by omega)]
  · rw [if_neg h1]
    by_cases h2 : a.toInt < n.toInt
    · rw [if_pos h2, if_pos (by omega)]
    · rw [if_neg h2, if_neg (by omega)]
theorem e_checkForm (p : Prop) [Decidable p] (w : Wd) : f_X10_checkForm (zo p) w = some (if p then .inr () else .inl 3, w) := by
  unfold f_X10_checkForm; rw [ite_zo]
  by_cases h : p
  · rw [if_pos h, if_pos h]
  · rw [if_neg h, if_neg h]
theorem e_checkWeights (a b c : Int32) (w : Wd) : f_X10_checkWeights a b c w = some (if (0 ≤ a.toInt ∧ a.toInt ≤ 99) ∧ (0 ≤ b.toInt ∧ b.toInt ≤ 9) ∧ (0 ≤ c.toInt ∧ c.toInt ≤ 9) then .inr () else .inl 2, w) := by
  unfold f_X10_checkWeights f_X10_checkWeights_34 f_X10_checkWeights_35
  have h1' : (1 : Int32) = zo True := rfl
  have h0' : (0 : Int32) = zo False := rfl
  have e0 : f_X10_checkArgument (0 : Int32) = fun w => some (.inl 2, w) := rfl
  have e1 : f_X10_checkArgument (1 : Int32) = fun w => some (.inr (), w) := rfl
  have h9 : (99 : Int32).toInt = 99 := by decide
  have h8 : (9 : Int32).toInt = 9 := by decide
  have h0 := L01.1
  simp only [e_isWithin, bd_r, ite_zo, e0, e1, bdx_r, bdx_l, h9, h8, h0]
  by_cases ha : 0 ≤ a.toInt ∧ a.toInt ≤ 99
  · by_cases hb : 0 ≤ b.toInt ∧ b.toInt ≤ 9
    · by_cases hc : 0 ≤ c.toInt ∧ c.toInt ≤ 9
      · rw [if_pos ha, if_pos hb, if_pos hc, if_pos ⟨ha, hb, hc⟩]
      · rw [if_pos ha, if_pos hb, if_neg hc, if_neg (fun h => hc h.2.2)]
    · rw [if_pos ha, if_neg hb, if_neg (fun h => hb h.2.1)]
  · rw [if_neg ha, if_neg (fun h => ha h.1)]
theorem LENs : LEN 622 = 6 ∧ LEN 125 = 4 ∧ True := by decide +kernel
theorem LENr : LEN 624 = 40 ∧ LEN 626 = 40 ∧ LEN 628 = 40 ∧ LEN 630 = 40 ∧ LEN 632 = 40 ∧ LEN 634 = 40 ∧ LEN 636 = 160 ∧ LEN 638 = 200 ∧ LEN 641 = 81 ∧ LEN 643 = 2 ∧ LEN 645 = 80 ∧ LEN 647 = 80 ∧ LEN 649 = 40 ∧ LEN 652 = 40 ∧ LEN 654 = 41 ∧ LEN 656 = 41 ∧ LEN 658 = 41 ∧ LEN 660 = 40 ∧ LEN 662 = 40 ∧ LEN 664 = 40 ∧ LEN 666 = 40 ∧ LEN 668 = 40 ∧ LEN 670 = 40 ∧ LEN 672 = 40 ∧ LEN 676 = 8 ∧ LEN 678 = 8 ∧ LEN 680 = 8 ∧ LEN 682 = 96 ∧ LEN 685 = 8 ∧ LEN 687 = 8 ∧ LEN 689 = 8 ∧ LEN 691 = 96 ∧ LEN 694 = 4 ∧ LEN 696 = 4 ∧ LEN 698 = 200 ∧ LEN 700 = 80 ∧ LEN 702 = 80 ∧ LEN 704 = 80 ∧ LEN 706 = 80 ∧ LEN 708 = 242 ∧ LEN 710 = 40 ∧ LEN 712 = 40 := by decide +kernel
theorem RV_622 : ∀ i, i < 6 → RV 622 i = 623 + 2 * i := by decide +kernel
theorem RV_125 : ∀ i, i < 4 → RV 125 i = 126 + 124 * i := by decide +kernel
theorem e_textOf (a : Int32) (w : Wd) : f_X10_textOf a w = some (if 0 ≤ a.toInt ∧ a.toInt ≤ 5 then .inr (623 + 2 * a.toInt.toNat) else .inl 1, w) := by
  unfold f_X10_textOf f_X10_textOf_13 ard
  rw [LENs.1]
  simp only [Int32.lt_iff_toInt_lt]
  have h6 : (Int32.ofNat 6).toInt = 6 := by decide
  have h0 := L01.1
  by_cases h1 : a.toInt < (0 : Int32).toInt
  · rw [if_pos h1, if_neg (by omega)]
  · rw [if_neg h1]
    by_cases h2 : a.toInt < (Int32.ofNat 6).toInt
    · rw [if_pos h2, if_pos (inb_iff.mpr (by omega)), if_pos (by omega), show a.toNatClampNeg = a.toInt.toNat from rfl, RV_622 _ (by omega)]
    · rw [if_neg h2, if_neg (by omega)]
/-! the class's cells -/
theorem e_cell {q : Nat} {v d : Int32} {w : Wd} (hl : LEN q < 2147483648) (h0 : 0 ≤ v.toInt) (h1 : v.toInt < LEN q) : f_X10_cellOf q v d w = some (w.1 q v.toInt.toNat, w) := by
  unfold f_X10_cellOf ald
  simp only [Int32.lt_iff_toInt_lt]
  have l0 := L01.1
  rw [if_neg (by omega), if_pos (by rw [i_ofNat hl]; exact h1), if_pos (inb_iff.mpr ⟨h0, h1⟩)]
  rfl
theorem e_cell_out {q : Nat} {v d : Int32} {w : Wd} (hl : LEN q < 2147483648) (h : v.toInt < 0 ∨ LEN q ≤ v.toInt) : f_X10_cellOf q v d w = some (d, w) := by
  unfold f_X10_cellOf
  simp only [Int32.lt_iff_toInt_lt]
  have l0 := L01.1
  by_cases h0 : v.toInt < 0
  · rw [if_pos (by omega)]
  · rw [if_neg (by omega), if_neg (by rw [i_ofNat hl]; omega)]
theorem e_setCell {q : Nat} {v x : Int32} {w : Wd} (hl : LEN q < 2147483648) (h0 : 0 ≤ v.toInt) (h1 : v.toInt < LEN q) : f_X10_setCell q v x w = some ((), setI w q v.toInt.toNat x) := by
  unfold f_X10_setCell ast
  simp only [Int32.lt_iff_toInt_lt, Int32.le_iff_toInt_le]
  have l0 := L01.1
  rw [if_neg (by omega), if_neg (by rw [i_ofNat hl]; omega), if_pos (inb_iff.mpr ⟨h0, h1⟩)]
  rfl

