/-! ===== find, the reference's ===== -/
theorem slc_len {l : List Int} {p e : Int} : (slc l p e).length ≤ l.length := by
  unfold slc
  rw [List.length_take, List.length_drop]; omega
theorem slc_let {l : List Int} {p e : Int} (h : lets l) : lets (slc l p e) := fun x hx => h x (List.mem_of_mem_drop (List.mem_of_mem_take hx))
theorem fl_slc {tab : Nat → Int} {l : List Int} {p e : Int} : (fl tab (slc l p e)).length ≤ (fl tab l).length := by
  have e1 : l = l.take p.toNat ++ (slc l p e ++ (l.drop p.toNat).drop (e - p).toNat) := by
    unfold slc
    rw [List.take_append_drop, List.take_append_drop]
  have e2 : (fl tab l).length = (fl tab (l.take p.toNat)).length + ((fl tab (slc l p e)).length + (fl tab ((l.drop p.toNat).drop (e - p).toNat)).length) := by
    rw [← List.length_append, ← List.length_append, ← fl_app, ← fl_app, ← e1]
  omega
theorem fsp2 {tab : Nat → Int} {xs : List Int} : (∃ ys, fsp tab 2 xs = some ys) ↔ ¬ 80 < (fl tab xs).length := by
  unfold fsp
  rw [if_pos rfl]
  by_cases c : (fl tab xs).length ≤ 80
  · rw [if_pos c]; exact ⟨fun _ => by omega, fun _ => ⟨_, rfl⟩⟩
  · rw [if_neg c]; exact ⟨(fun hq => by obtain ⟨_, q⟩ := hq; cases q), fun q => absurd (by omega) c⟩
theorem fsp2_eq {tab : Nat → Int} {xs ys : List Int} (h : fsp tab 2 xs = some ys) : ys = fo tab xs ∧ (fl tab xs).length ≤ 80 := by
  unfold fsp at h
  rw [if_pos rfl] at h
  by_cases c : (fl tab xs).length ≤ 80
  · rw [if_pos c] at h; exact ⟨(Option.some.inj h).symm, c⟩
  · rw [if_neg c] at h; cases h
