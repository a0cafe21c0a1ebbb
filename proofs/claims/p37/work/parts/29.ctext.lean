/-! ===== texts: put, clear, at ===== -/
/-- the class's texts, the reference's -/
def ctx (w : Wd) (txt : Nat → List Int) : Prop := ∀ s, s < 6 → rl w (623 + 2 * s) = txt s
def xok (txt : Nat → List Int) : Prop := ∀ s, s < 6 → (txt s).length ≤ 40 ∧ ∀ x ∈ txt s, 0 ≤ x ∧ x ≤ 95
theorem slot_kd : ∀ s, s < 6 → KD (623 + 2 * s) = 7 ∧ LEN (623 + 2 * s + 1) = 40 := by decide +kernel
theorem ctx_ok {w : Wd} (ho : okall w) {s : Nat} (hs : s < 6) : okr w (623 + 2 * s) := ho _ (slot_kd s hs).1
theorem ctx_fr {w w' : Wd} {txt : Nat → List Int} (h : ctx w txt) (hk : ∀ k, 623 ≤ k → k < 635 → w'.1 k = w.1 k) : ctx w' txt := by
  intro s hs
  rw [rl_fr (hk _ (by omega) (by omega)) (hk _ (by omega) (by omega))]
  exact h s hs
theorem xok_gt {txt : Nat → List Int} (h : xok txt) {s : Nat} (hs : s < 6) {k : Int} (h0 : 0 ≤ k) (hk : k < (txt s).length) : 0 ≤ gt (txt s) k ∧ gt (txt s) k ≤ 95 := by
  rw [gt_in h0, List.getD_eq_getElem?_getD, List.getElem?_eq_getElem (by omega)]
  exact (h s hs).2 _ (List.getElem_mem _)
def xset (txt : Nat → List Int) (s : Nat) (l : List Int) : Nat → List Int := fun k => if k = s then l else txt k
theorem xset_ok {txt : Nat → List Int} {s : Nat} {l : List Int} (h : xok txt) (h1 : l.length ≤ 40) (h2 : ∀ x ∈ l, 0 ≤ x ∧ x ≤ 95) : xok (xset txt s l) := by
  intro k hk
  unfold xset
  by_cases e : k = s
  · rw [if_pos e]; exact ⟨h1, h2⟩
  · rw [if_neg e]; exact h k hk
theorem ctx_rs {w w' : Wd} {txt : Nat → List Int} {s : Nat} {l : List Int} (hs : s < 6) (h : ctx w txt) (hr : rs w w' (623 + 2 * s) l) : ctx w' (xset txt s l) := by
  intro k hk
  unfold xset
  by_cases e : k = s
  · rw [if_pos e, e]; exact rs_l hr
  · rw [if_neg e, rs_rl hr (slot_kd k hk).1 (by omega)]; exact h k hk
/-- cells of the class's texts -/
def xin (k : Nat) : Prop := 623 ≤ k ∧ k < 635
theorem oc_xin {w w' : Wd} {s : Nat} {l : List Int} (hs : s < 6) (hr : rs w w' (623 + 2 * s) l) : oc xin w w' := oc_rs hr (by unfold xin; omega) (by unfold xin; omega)
def bad_slot (s : Int) : Prop := ¬ (0 ≤ s ∧ s ≤ 5)
theorem k_put {w : Wd} {txt : Nat → List Int} {s l : Int32} (ho : okall w) (hx : ctx w txt) (hk : xok txt) :
    Wp (f_X10_put s l w) (fun r w' => ((bad_slot s.toInt ∨ badL l.toInt) ∧ r = .inl 1 ∧ w' = w) ∨ (¬ (bad_slot s.toInt ∨ badL l.toInt) ∧ (txt s.toInt.toNat).length = 40 ∧ r = .inl 3 ∧ w' = w) ∨
      (¬ (bad_slot s.toInt ∨ badL l.toInt) ∧ (txt s.toInt.toNat).length ≠ 40 ∧ (∃ x : Int32, r = .inr x ∧ x.toInt = (txt s.toInt.toNat).length + 1) ∧ ctx w' (xset txt s.toInt.toNat (txt s.toInt.toNat ++ [l.toInt])) ∧ okall w' ∧ oc xin w w')) := by
  have L := LIT
  unfold f_X10_put
  simp only [e_textOf, e_checkLetter, bdx_c]
  refine wp_if (fun hs => ?_) (fun hs => wp_ret (Or.inl ⟨Or.inl hs, rfl, rfl⟩))
  refine wp_if (fun hl => ?_) (fun hl => wp_ret (Or.inl ⟨Or.inr hl, rfl, rfl⟩))
  have nb : ¬ (bad_slot s.toInt ∨ badL l.toInt) := fun q => q.elim (fun q => q hs) (fun q => q hl)
  have hsN : s.toInt.toNat < 6 := by omega
  have o1 := ctx_ok ho hsN
  have S := slot_kd _ hsN
  have X := hx _ hsN
  have Y := (hk _ hsN).1
  by_cases full : (txt s.toInt.toNat).length = 40
  · refine wp_bd (s_add_full o1 (by rw [X, S.2, full]; omega)) ?_
    rintro _ _ ⟨rfl, rfl⟩
    exact wp_ifeq (fun _ => wp_ret (Or.inr (Or.inl ⟨nb, full, rfl, rfl⟩))) (fun q => by omega)
  · refine wp_bd (s_add o1 (by rw [X, S.2]; omega)) ?_
    rintro _ w1 ⟨rfl, h1⟩
    refine wp_ifeq (fun q => by omega) (fun q => ?_)
    refine wp_bd (s_size (rs_okr h1 o1)) ?_
    rintro x _ ⟨rfl, hx1⟩
    rw [rs_l h1, X, List.length_append, List.length_singleton] at hx1
    rw [X] at h1
    exact wp_ret (Or.inr (Or.inr ⟨nb, full, ⟨x, rfl, by omega⟩, ctx_rs hsN hx h1, okall_rs ho h1, oc_xin hsN h1⟩))
theorem k_clear {w : Wd} {txt : Nat → List Int} {s : Int32} (ho : okall w) (hx : ctx w txt) :
    Wp (f_X10_clear s w) (fun r w' => (bad_slot s.toInt ∧ r = .inl 1 ∧ w' = w) ∨ (¬ bad_slot s.toInt ∧ (∃ x : Int32, r = .inr x ∧ x.toInt = (txt s.toInt.toNat).length) ∧ ctx w' (xset txt s.toInt.toNat []) ∧ okall w' ∧ oc xin w w')) := by
  unfold f_X10_clear
  simp only [e_textOf, bdx_c]
  refine wp_if (fun hs => ?_) (fun hs => wp_ret (Or.inl ⟨hs, rfl, rfl⟩))
  have hsN : s.toInt.toNat < 6 := by omega
  have o1 := ctx_ok ho hsN
  refine wp_bd (s_size o1) ?_
  rintro x _ ⟨rfl, hx1⟩
  refine wp_bd (s_cut0 o1) ?_
  rintro _ w1 h1
  rw [hx _ hsN] at hx1
  exact wp_ret (Or.inr ⟨fun q => q hs, ⟨x, rfl, hx1⟩, ctx_rs hsN hx h1, okall_rs ho h1, oc_xin hsN h1⟩)
def bad_at (txt : Nat → List Int) (s p : Int) : Prop := ¬ ((0 ≤ s ∧ s ≤ 5) ∧ -1 ≤ p ∧ p ≤ (txt s.toNat).length - 1)
def at_val (txt : Nat → List Int) (s p : Int) : Int := if p = -1 then (txt s.toNat).length else gt (txt s.toNat) p
theorem k_at {w : Wd} {txt : Nat → List Int} {s p : Int32} (ho : okall w) (hx : ctx w txt) :
    Wp (f_X10_at s p w) (fun r w' => w' = w ∧ ((bad_at txt s.toInt p.toInt ∧ r = .inl 1) ∨ (¬ bad_at txt s.toInt p.toInt ∧ ∃ x : Int32, r = .inr x ∧ x.toInt = at_val txt s.toInt p.toInt))) := by
  have L := LIT
  unfold f_X10_at bad_at at_val
  simp only [e_textOf, bdx_c]
  refine wp_if (fun hs => ?_) (fun hs => wp_ret ⟨rfl, Or.inl ⟨fun q => hs q.1, rfl⟩⟩)
  have hsN : s.toInt.toNat < 6 := by omega
  have o1 := ctx_ok ho hsN
  have X := hx _ hsN
  refine wp_ifeq (fun q => ?_) (fun q => ?_)
  · refine wp_bd (s_size o1) ?_
    rintro x _ ⟨rfl, hx1⟩
    refine wp_ret ⟨rfl, Or.inr ⟨fun q => q ⟨hs, by omega, by omega⟩, x, rfl, ?_⟩⟩
    rw [if_pos (by omega), hx1, X]
  · refine wp_bd (s_size o1) ?_
    rintro x _ ⟨rfl, hx1⟩
    rw [X] at hx1
    simp only [e_checkPlace, bdx_c]
    refine wp_if (fun hp => ?_) (fun hp => wp_ret ⟨rfl, Or.inl ⟨fun q2 => hp (by omega), rfl⟩⟩)
    refine wp_bd (s_get o1) ?_
    rintro y _ ⟨rfl, hy⟩
    refine wp_ret ⟨rfl, Or.inr ⟨fun q2 => q2 ⟨hs, by omega, by omega⟩, y, rfl, ?_⟩⟩
    rw [if_neg (by omega), hy, X]
/-! the reference's -/
theorem i_40 {s k : Int32} (hs : 0 ≤ s.toInt ∧ s.toInt ≤ 5) (hk : 0 ≤ k.toInt ∧ k.toInt ≤ 1000) : ((40 : Int32) * s + k).toInt = 40 * s.toInt + k.toInt := by
  have hm : ((40 : Int32) * s).toInt = 40 * s.toInt := i_mul' (by decide) (by omega)
  rw [i_add (by omega), hm]
