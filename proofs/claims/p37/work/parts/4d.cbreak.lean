/-! ===== breaks ===== -/
def bad_w (x : Int) : Prop := ¬ (0 ≤ x ∧ x ≤ 2)
def bad_s1 (x : Int) : Prop := ¬ (0 ≤ x ∧ x ≤ 5)
theorem k_breaks {w : Wd} {tab : Nat → Int} {txt : Nat → List Int} {s x : Int32} (hk : tok tab) (h : trel w 1 tab) (ho : okall w) (hx : ctx w txt) (hkx : xok txt) :
    Wp (f_X10_breaks s x w) (fun r w' => w = w' ∧ ((bad_s1 s.toInt ∧ r = .inl 1) ∨ (¬ bad_s1 s.toInt ∧ bad_w x.toInt ∧ r = .inl 2) ∨
      (¬ bad_s1 s.toInt ∧ ¬ bad_w x.toInt ∧ ∃ m : Int64, r = .inr m ∧ bits m (fun k => 0 < k ∧ k < (txt s.toInt.toNat).length ∧ brk tab (txt s.toInt.toNat) x.toInt k)))) := by
  have L := LIT
  unfold f_X10_breaks f_X10_breaks_43
  simp only [e_textOf, e_isWithin, bd_r, e_checkArgument, bdx_c]
  refine wp_if (fun hs => ?_) (fun hs => wp_ret ⟨rfl, Or.inl ⟨hs, rfl⟩⟩)
  have nb1 : ¬ bad_s1 s.toInt := fun q => q hs
  rw [L.1, L.2.2.2.1]
  refine wp_if (fun hw => ?_) (fun hw => wp_ret ⟨rfl, Or.inr (Or.inl ⟨nb1, hw, rfl⟩)⟩)
  have nb2 : ¬ bad_w x.toInt := fun q => q hw
  have hsN := slot_lt hs
  have K := slot_kd _ hsN
  have Y : lok40 (txt s.toInt.toNat) := hkx _ hsN
  refine wp_ifeq (fun q => ?_) (fun q => ?_)
  · refine wp_bd (s_clusterBreaks h (ho _ K.1) (by rw [hx _ hsN]; exact Y)) ?_
    rintro m _ ⟨rfl, hm⟩
    rw [hx _ hsN] at hm
    refine wp_ret ⟨rfl, Or.inr (Or.inr ⟨nb1, nb2, m, rfl, fun k hk => ?_⟩)⟩
    rw [hm k hk]
    constructor
    · rintro ⟨a, b, c⟩; exact ⟨a, b, c, Or.inl (by omega)⟩
    · rintro ⟨a, b, c, _⟩; exact ⟨a, b, c⟩
  · have go : ∀ f : Int32, (f.toInt = 0 ∧ x.toInt = 1) ∨ (f.toInt = 1 ∧ x.toInt = 2) → Wp (bd (f_X0_wordBreaks (623 + 2 * s.toInt.toNat) f w) (fun y2 w1 => some ((Sum.inr y2 : Nat ⊕ Int64), w1))) (fun r w' => w = w' ∧ ((bad_s1 s.toInt ∧ r = .inl 1) ∨ (¬ bad_s1 s.toInt ∧ bad_w x.toInt ∧ r = .inl 2) ∨
      (¬ bad_s1 s.toInt ∧ ¬ bad_w x.toInt ∧ ∃ m : Int64, r = .inr m ∧ bits m (fun k => 0 < k ∧ k < (txt s.toInt.toNat).length ∧ brk tab (txt s.toInt.toNat) x.toInt k)))) := by
      intro f hf
      refine wp_bd (s_wordBreaks hk h ho K.1 (hx _ hsN) Y hf) ?_
      rintro m _ ⟨rfl, hm⟩
      exact wp_ret ⟨rfl, Or.inr (Or.inr ⟨nb1, nb2, m, rfl, hm⟩)⟩
    exact wp_ifeq (fun q2 => go 1 (Or.inr ⟨L.2.1, by omega⟩)) (fun q2 => go 0 (Or.inl ⟨L.1, by omega⟩))
def brkI (what a b v : Int) : Prop := what = 0 ∨ (wbk a b v ∧ (what = 1 ∨ lbk a b))
