/-! ===== directions: the reference lays levels ===== -/
def oLv (w w' : Wd) : Prop := oc (fun k => k = 722 ∨ k = 724 ∨ k = 727 ∨ k = 731 ∨ k = 732) w w'
theorem oLv_7 {w w' : Wd} (h : o724 w w') : oLv w w' := oc_mono h (fun k q => Or.inr (Or.inl q))
theorem oLv_3 {w w' : Wd} (h : o732 w w') : oLv w w' := oc_mono h (fun k q => q.elim (fun z => Or.inr (Or.inr (Or.inl z))) (fun z => Or.inr (Or.inr (Or.inr (Or.inr z)))))
/-- what is found of levels, in the reference -/
def fndR (w : Wd) (tab : Nat → Int) (l : List Int) (st : FSt) (F : Int) : Prop := ∀ p : Nat, p < l.length → gt st.2.1 p < F → (w.1 722 p).toInt = LV tab l st p
theorem frR_o {w w' : Wd} {st : FSt} {k : Nat} (h : oLv w w') (hR : frR w st k) : frR w' st k := by
  unfold frR
  rw [h.1 713 (by omega), h.1 723 (by omega), h.1 728 (by omega), h.1 729 (by omega), h.1 730 (by omega)]
  exact hR
section
variable {w0 : Wd} {tab : Nat → Int} {txt : Nat → List Int} {s : Int32} {rc : Int32 × Int32 × Wd → Option (Unit × Wd)} {Q : Unit → Wd → Prop} {st : FSt}
end
def lrg (w w' : Wd) : Prop := rcg (fun f => f = 21) (fun k => 722 ≤ k ∧ k ≤ 732) w w'
theorem lrg_o {w w' : Wd} (h : oLv w w') : lrg w w' := ⟨fun k _ hk => h.1 k (by omega), fun f _ => by rw [h.1 713 (by omega)], h.2⟩
def lrf (w w' : Wd) : Prop := rcg (fun f => f = 0 ∨ f = 21) (fun k => 722 ≤ k ∧ k ≤ 732) w w'
theorem lrf_0 {w w' : Wd} {v : Int32} (h : lrg (setI w 713 0 v) w') : lrf w w' ∧ w'.1 713 0 = v := by
  refine ⟨rcg_tr (rcg_fld (Or.inl rfl)) (rcg_mono h (fun f q => Or.inr q) (fun k q => q)), ?_⟩
  rw [h.2.1 0 (by decide), setI_at, if_pos ⟨rfl, rfl⟩]
theorem th0_v (w : Wd) (v : Int32) : (setI w 713 0 v).1 713 0 = v := by rw [setI_at, if_pos ⟨rfl, rfl⟩]
