/-! ===== the reference splits and sorts ===== -/
theorem dbl_split {tab : Nat → Int} (hk : tok tab) {ys : List Int} (hl : lets ys) {k : Nat} (hkn : k < ys.length) (hs : ¬ s1 tab (gt ys k) < 0) :
    (dbl ys k (s1 tab (gt ys k)) (s2 tab (gt ys k))).take k ++ xls tab ((dbl ys k (s1 tab (gt ys k)) (s2 tab (gt ys k))).drop k) = ys.take k ++ xls tab (ys.drop k) ∧ lets (dbl ys k (s1 tab (gt ys k)) (s2 tab (gt ys k))) := by
  have lx := lets_gt hl (k := (k : Int)) (by omega) (by omega)
  have S := s12 hk lx
  have e : ys.drop k = gt ys k :: ys.drop (k + 1) := by rw [gt_getElem hkn, List.getElem_cons_drop]
  have lt' : (ys.take k).length = k := by rw [List.length_take]; omega
  constructor
  · unfold dbl
    rw [List.take_append_of_le_length (by omega), List.take_of_length_le (by omega), List.drop_append_of_le_length (by omega), List.drop_of_length_le (by omega), List.nil_append, e, xls_cons, xls_cons, xls_cons, xl_2 hk lx hs, List.append_assoc]
  · unfold dbl
    refine lets_app.mpr ⟨fun z hz => hl z (List.mem_of_mem_take hz), lets_cons.mpr ⟨by omega, lets_cons.mpr ⟨by omega, fun z hz => hl z (List.mem_of_mem_drop hz)⟩⟩⟩
