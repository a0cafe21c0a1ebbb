/-! ===== patterns: the reference reads ===== -/
def spt (w w' : Wd) (p : Int) : Prop := rcg (fun f => f = 44) (fun _ => False) w w' ∧ (w'.1 713 44).toInt = p
theorem spt_set {w : Wd} {v : Int32} : spt w (setI w 713 44 v) v.toInt := ⟨rcg_fld rfl, by rw [setI_at, if_pos ⟨rfl, rfl⟩]⟩
theorem spt_tr {w w1 w2 : Wd} {p q : Int} (h : spt w w1 p) (g : spt w1 w2 q) : spt w w2 q := ⟨rcg_tr h.1 g.1, g.2⟩
theorem rta_fr {w w' : Wd} {tp : List Int} (h : rta w tp) (h7 : w'.1 713 7 = w.1 713 7) (h8 : w'.1 718 = w.1 718) : rta w' tp := by
  refine ⟨by rw [h7]; exact h.1, ?_⟩
  have e : sg w' 718 0 tp.length = sg w 718 0 tp.length := sg_ext (fun i _ => by rw [h8])
  rw [e]; exact h.2
theorem spt_t {w w' : Wd} {p : Int} {tp : List Int} (h : spt w w' p) (ht : rta w tp) : rta w' tp := rta_fr ht (h.1.2.1 7 (by decide)) (h.1.1 718 (by decide) (by simp))
theorem rta_gt {w : Wd} {tp : List Int} (h : rta w tp) {k : Nat} (hk : k < tp.length) : (w.1 718 k).toInt = gt tp k := by
  have e : (sg w 718 0 tp.length)[k]? = some (w.1 718 (0 + k)).toInt := sg_at hk
  rw [h.2, Nat.zero_add] at e
  rw [gt_nat, List.getD_eq_getElem?_getD, e]; rfl
theorem tp_gt {tp : List Int} (hb : tpok tp) (i : Int) : -1 ≤ gt tp i ∧ gt tp i ≤ 255 := by
  by_cases h : 0 ≤ i ∧ i < tp.length
  · rw [gt_in h.1, List.getD_eq_getElem?_getD, List.getElem?_eq_getElem (by omega)]
    have := hb.2 _ (List.getElem_mem (l := tp) (n := i.toNat) (by omega))
    show -1 ≤ tp[i.toNat] ∧ tp[i.toNat] ≤ 255
    omega
  · rw [gt_out (by omega)]; omega
/-- what the reference keeps of a pattern -/
def pg (l : List PC) (i : Nat) : PC := l.getD i (0, 0, 0)
def patA (w : Wd) (l : List PC) : Prop := ∀ i : Nat, i < l.length → (w.1 737 i).toInt = (pg l i).1 ∧ (w.1 736 i).toInt = (pg l i).2.1 ∧ (w.1 738 i).toInt = (pg l i).2.2
def patR (w : Wd) (l : List PC) : Prop := (w.1 713 32).toInt = l.length ∧ patA w l
theorem pg_snoc {l : List PC} {x : PC} {i : Nat} (h : i ≤ l.length) : pg (l ++ [x]) i = if i = l.length then x else pg l i := by
  unfold pg
  rw [List.getD_eq_getElem?_getD, List.getD_eq_getElem?_getD]
  by_cases e : i = l.length
  · rw [if_pos e, e, List.getElem?_append_right (Nat.le_refl _), Nat.sub_self]; rfl
  · rw [if_neg e, List.getElem?_append_left (by omega)]
theorem L736 : LEN 736 = 8 ∧ LEN 737 = 8 ∧ LEN 738 = 8 := by decide +kernel
/-- reading, kept or not -/
def rpf (kept : Prop) (w w' : Wd) : Prop := rcg (fun f => f = 44) (fun k => kept ∧ 736 ≤ k ∧ k ≤ 738) w w'
