/-! ===== patterns: the reference reads ===== -/
def spt (w w' : Wd) (p : Int) : Prop := rcg (fun f => f = 44) (fun _ => False) w w' ∧ (w'.1 713 44).toInt = p
theorem spt_set {w : Wd} {v : Int32} : spt w (setI w 713 44 v) v.toInt := ⟨rcg_fld rfl, by rw [setI_at, if_pos ⟨rfl, rfl⟩]⟩
theorem spt_tr {w w1 w2 : Wd} {p q : Int} (h : spt w w1 p) (g : spt w1 w2 q) : spt w w2 q := ⟨rcg_tr h.1 g.1, g.2⟩
theorem tp_gt {tp : List Int} (hb : tpok tp) (i : Int) : -1 ≤ gt tp i ∧ gt tp i ≤ 255 := by
  by_cases h : 0 ≤ i ∧ i < tp.length
  · rw [gt_in h.1, List.getD_eq_getElem?_getD, List.getElem?_eq_getElem (by omega)]
    have := hb.2 _ (List.getElem_mem (l := tp) (n := i.toNat) (by omega))
    show -1 ≤ tp[i.toNat] ∧ tp[i.toNat] ≤ 255
    omega
  · rw [gt_out (by omega)]; omega
/-- what the reference keeps of a pattern -/
def pg (l : List PC) (i : Nat) : PC := l.getD i (0, 0, 0)
theorem pg_snoc {l : List PC} {x : PC} {i : Nat} (h : i ≤ l.length) : pg (l ++ [x]) i = if i = l.length then x else pg l i := by
  unfold pg
  rw [List.getD_eq_getElem?_getD, List.getD_eq_getElem?_getD]
  by_cases e : i = l.length
  · rw [if_pos e, e, List.getElem?_append_right (Nat.le_refl _), Nat.sub_self]; rfl
  · rw [if_neg e, List.getElem?_append_left (by omega)]
