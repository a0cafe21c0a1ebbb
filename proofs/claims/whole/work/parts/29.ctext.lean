/-! ===== texts: put, clear, at ===== -/
/-- the class's texts, the reference's -/
def ctx (w : Wd) (txt : Nat → List Int) : Prop := ∀ s, s < 6 → rl w (623 + 2 * s) = txt s
def rtx (w : Wd) (txt : Nat → List Int) : Prop := ∀ s, s < 6 → (w.1 717 s).toInt = (txt s).length ∧ sg w 716 (40 * s) (txt s).length = txt s
def xok (txt : Nat → List Int) : Prop := ∀ s, s < 6 → (txt s).length ≤ 40 ∧ ∀ x ∈ txt s, 0 ≤ x ∧ x ≤ 95
theorem slot_kd : ∀ s, s < 6 → KD (623 + 2 * s) = 7 ∧ LEN (623 + 2 * s + 1) = 40 := by decide +kernel
theorem ctx_ok {w : Wd} (ho : okall w) {s : Nat} (hs : s < 6) : okr w (623 + 2 * s) := ho _ (slot_kd s hs).1
theorem ctx_fr {w w' : Wd} {txt : Nat → List Int} (h : ctx w txt) (hk : ∀ k, 623 ≤ k → k < 635 → w'.1 k = w.1 k) : ctx w' txt := by
  intro s hs
  rw [rl_fr (hk _ (by omega) (by omega)) (hk _ (by omega) (by omega))]
  exact h s hs
theorem rtx_fr {w w' : Wd} {txt : Nat → List Int} (h : rtx w txt) (h6 : w'.1 716 = w.1 716) (h7 : w'.1 717 = w.1 717) : rtx w' txt := by
  intro s hs
  rw [h7]
  refine ⟨(h s hs).1, ?_⟩
  have := (h s hs).2
  unfold sg at this ⊢
  rw [h6]
  exact this
theorem rtx_at {w : Wd} {txt : Nat → List Int} (h : rtx w txt) {s : Nat} (hs : s < 6) {k : Nat} (hk : k < (txt s).length) : (w.1 716 (40 * s + k)).toInt = (txt s).getD k 0 ∧ gt (txt s) k = (txt s).getD k 0 := by
  have h2 := (h s hs).2
  have e : (txt s)[k]? = some (w.1 716 (40 * s + k)).toInt := by rw [← sg_at (w := w) (a := 716) (off := 40 * s) hk, h2]
  rw [gt_nat, List.getD_eq_getElem?_getD, List.getD_eq_getElem?_getD, e]
  exact ⟨rfl, rfl⟩
theorem rtx_gt {w : Wd} {txt : Nat → List Int} (h : rtx w txt) {s : Nat} (hs : s < 6) {k : Nat} (hk : k < (txt s).length) : (w.1 716 (40 * s + k)).toInt = gt (txt s) k := by
  rw [(rtx_at h hs hk).1, (rtx_at h hs hk).2]
theorem xok_gt {txt : Nat → List Int} (h : xok txt) {s : Nat} (hs : s < 6) {k : Int} (h0 : 0 ≤ k) (hk : k < (txt s).length) : 0 ≤ gt (txt s) k ∧ gt (txt s) k ≤ 95 := by
  rw [gt_in h0, List.getD_eq_getElem?_getD, List.getElem?_eq_getElem (by omega)]
  exact (h s hs).2 _ (List.getElem_mem _)
def xset (txt : Nat → List Int) (s : Nat) (l : List Int) : Nat → List Int := fun k => if k = s then l else txt k
theorem xset_ok {txt : Nat → List Int} {s : Nat} {l : List Int} (h : xok txt) (h1 : l.length ≤ 40) (h2 : ∀ x ∈ l, 0 ≤ x ∧ x ≤ 95) : xok (xset txt s l) := by
  intro k hk
  unfold xset
  by_cases e : k = s
  · rw [if_pos e]; exact ⟨h1, h2⟩
  · rw [if_neg e]; exact h k hk
theorem ctx_rs {w w' : Wd} {txt : Nat → List Int} {s : Nat} {l : List Int} (hs : s < 6) (h : ctx w txt) (hr : rs w w' (623 + 2 * s) l) : ctx w' (xset txt s l) := by
  intro k hk
  unfold xset
  by_cases e : k = s
  · rw [if_pos e, e]; exact rs_l hr
  · rw [if_neg e, rs_rl hr (slot_kd k hk).1 (by omega)]; exact h k hk
/-- cells of the class's texts -/
def xin (k : Nat) : Prop := 623 ≤ k ∧ k < 635
theorem oc_xin {w w' : Wd} {s : Nat} {l : List Int} (hs : s < 6) (hr : rs w w' (623 + 2 * s) l) : oc xin w w' := oc_rs hr (by unfold xin; omega) (by unfold xin; omega)
def bad_slot (s : Int) : Prop := ¬ (0 ≤ s ∧ s ≤ 5)
theorem k_put {w : Wd} {txt : Nat → List Int} {s l : Int32} (ho : okall w) (hx : ctx w txt) (hk : xok txt) :
    Wp (f_X10_put s l w) (fun r w' => ((bad_slot s.toInt ∨ badL l.toInt) ∧ r = .inl 1 ∧ w' = w) ∨ (¬ (bad_slot s.toInt ∨ badL l.toInt) ∧ (txt s.toInt.toNat).length = 40 ∧ r = .inl 3 ∧ w' = w) ∨
      (¬ (bad_slot s.toInt ∨ badL l.toInt) ∧ (txt s.toInt.toNat).length ≠ 40 ∧ (∃ x : Int32, r = .inr x ∧ x.toInt = (txt s.toInt.toNat).length + 1) ∧ ctx w' (xset txt s.toInt.toNat (txt s.toInt.toNat ++ [l.toInt])) ∧ okall w' ∧ oc xin w w')) := by
  have L := LIT
  unfold f_X10_put
  simp only [e_textOf, e_checkLetter, bdx_c]
  refine wp_if (fun hs => ?_) (fun hs => wp_ret (Or.inl ⟨Or.inl hs, rfl, rfl⟩))
  refine wp_if (fun hl => ?_) (fun hl => wp_ret (Or.inl ⟨Or.inr hl, rfl, rfl⟩))
  have nb : ¬ (bad_slot s.toInt ∨ badL l.toInt) := fun q => q.elim (fun q => q hs) (fun q => q hl)
  have hsN : s.toInt.toNat < 6 := by omega
  have o1 := ctx_ok ho hsN
  have S := slot_kd _ hsN
  have X := hx _ hsN
  have Y := (hk _ hsN).1
  by_cases full : (txt s.toInt.toNat).length = 40
  · refine wp_bd (s_add_full o1 (by rw [X, S.2, full]; omega)) ?_
    rintro _ _ ⟨rfl, rfl⟩
    exact wp_ifeq (fun _ => wp_ret (Or.inr (Or.inl ⟨nb, full, rfl, rfl⟩))) (fun q => by omega)
  · refine wp_bd (s_add o1 (by rw [X, S.2]; omega)) ?_
    rintro _ w1 ⟨rfl, h1⟩
    refine wp_ifeq (fun q => by omega) (fun q => ?_)
    refine wp_bd (s_size (rs_okr h1 o1)) ?_
    rintro x _ ⟨rfl, hx1⟩
    rw [rs_l h1, X, List.length_append, List.length_singleton] at hx1
    rw [X] at h1
    exact wp_ret (Or.inr (Or.inr ⟨nb, full, ⟨x, rfl, by omega⟩, ctx_rs hsN hx h1, okall_rs ho h1, oc_xin hsN h1⟩))
theorem k_clear {w : Wd} {txt : Nat → List Int} {s : Int32} (ho : okall w) (hx : ctx w txt) :
    Wp (f_X10_clear s w) (fun r w' => (bad_slot s.toInt ∧ r = .inl 1 ∧ w' = w) ∨ (¬ bad_slot s.toInt ∧ (∃ x : Int32, r = .inr x ∧ x.toInt = (txt s.toInt.toNat).length) ∧ ctx w' (xset txt s.toInt.toNat []) ∧ okall w' ∧ oc xin w w')) := by
  unfold f_X10_clear
  simp only [e_textOf, bdx_c]
  refine wp_if (fun hs => ?_) (fun hs => wp_ret (Or.inl ⟨hs, rfl, rfl⟩))
  have hsN : s.toInt.toNat < 6 := by omega
  have o1 := ctx_ok ho hsN
  refine wp_bd (s_size o1) ?_
  rintro x _ ⟨rfl, hx1⟩
  refine wp_bd (s_cut0 o1) ?_
  rintro _ w1 h1
  rw [hx _ hsN] at hx1
  exact wp_ret (Or.inr ⟨fun q => q hs, ⟨x, rfl, hx1⟩, ctx_rs hsN hx h1, okall_rs ho h1, oc_xin hsN h1⟩)
def bad_at (txt : Nat → List Int) (s p : Int) : Prop := ¬ ((0 ≤ s ∧ s ≤ 5) ∧ -1 ≤ p ∧ p ≤ (txt s.toNat).length - 1)
def at_val (txt : Nat → List Int) (s p : Int) : Int := if p = -1 then (txt s.toNat).length else gt (txt s.toNat) p
theorem k_at {w : Wd} {txt : Nat → List Int} {s p : Int32} (ho : okall w) (hx : ctx w txt) :
    Wp (f_X10_at s p w) (fun r w' => w' = w ∧ ((bad_at txt s.toInt p.toInt ∧ r = .inl 1) ∨ (¬ bad_at txt s.toInt p.toInt ∧ ∃ x : Int32, r = .inr x ∧ x.toInt = at_val txt s.toInt p.toInt))) := by
  have L := LIT
  unfold f_X10_at bad_at at_val
  simp only [e_textOf, bdx_c]
  refine wp_if (fun hs => ?_) (fun hs => wp_ret ⟨rfl, Or.inl ⟨fun q => hs q.1, rfl⟩⟩)
  have hsN : s.toInt.toNat < 6 := by omega
  have o1 := ctx_ok ho hsN
  have X := hx _ hsN
  refine wp_ifeq (fun q => ?_) (fun q => ?_)
  · refine wp_bd (s_size o1) ?_
    rintro x _ ⟨rfl, hx1⟩
    refine wp_ret ⟨rfl, Or.inr ⟨fun q => q ⟨hs, by omega, by omega⟩, x, rfl, ?_⟩⟩
    rw [if_pos (by omega), hx1, X]
  · refine wp_bd (s_size o1) ?_
    rintro x _ ⟨rfl, hx1⟩
    rw [X] at hx1
    simp only [e_checkPlace, bdx_c]
    refine wp_if (fun hp => ?_) (fun hp => wp_ret ⟨rfl, Or.inl ⟨fun q2 => hp (by omega), rfl⟩⟩)
    refine wp_bd (s_get o1) ?_
    rintro y _ ⟨rfl, hy⟩
    refine wp_ret ⟨rfl, Or.inr ⟨fun q2 => q2 ⟨hs, by omega, by omega⟩, y, rfl, ?_⟩⟩
    rw [if_neg (by omega), hy, X]
/-! the reference's -/
def rxs : Nat → Prop := fun k => k = 716 ∨ k = 717
theorem s_len {R : Type} {w : Wd} {txt : Nat → List Int} {s : Int32} {k : Int32 → Option (R × Wd)} {Q : R → Wd → Prop} (hx : rtx w txt) (hs : 0 ≤ s.toInt ∧ s.toInt ≤ 5) (h : ∀ x : Int32, x.toInt = (txt s.toInt.toNat).length → Wp (k x) Q) : Wp (ald w 717 s k) Q :=
  wp_ald (by have := LENs.2.2.2.2.2.1; omega) (h _ (hx _ (by omega)).1)
theorem s_let {w : Wd} {txt : Nat → List Int} {s k : Int32} (hx : rtx w txt) (hs : 0 ≤ s.toInt ∧ s.toInt ≤ 5) (hk : 0 ≤ k.toInt ∧ k.toInt < (txt s.toInt.toNat).length) (h40 : (txt s.toInt.toNat).length ≤ 40) : Wp (f_X11_letterAt s k w) (fun x w' => w = w' ∧ x.toInt = gt (txt s.toInt.toNat) k.toInt) := by
  refine (s_letterAt hs.1 hs.2 ⟨hk.1, by omega⟩).mono ?_
  rintro x w' ⟨rfl, hx1⟩
  refine ⟨rfl, ?_⟩
  have := rtx_gt hx (s := s.toInt.toNat) (by omega) (k := k.toInt.toNat) (by omega)
  rw [hx1, this]
  congr 1
  omega
theorem i_40 {s k : Int32} (hs : 0 ≤ s.toInt ∧ s.toInt ≤ 5) (hk : 0 ≤ k.toInt ∧ k.toInt ≤ 1000) : ((40 : Int32) * s + k).toInt = 40 * s.toInt + k.toInt := by
  have hm : ((40 : Int32) * s).toInt = 40 * s.toInt := i_mul' (by decide) (by omega)
  rw [i_add (by omega), hm]
theorem r_put {w : Wd} {txt : Nat → List Int} {s l : Int32} (hx : rtx w txt) (hk : xok txt) :
    Wp (f_X11_put s l w) (fun r w' => rcg (fun f => f = 0) rxs w w' ∧ (((bad_slot s.toInt ∨ badL l.toInt) ∧ (w'.1 713 0).toInt = 1 ∧ rtx w' txt) ∨ (¬ (bad_slot s.toInt ∨ badL l.toInt) ∧ (txt s.toInt.toNat).length = 40 ∧ (w'.1 713 0).toInt = 2 ∧ rtx w' txt) ∨
      (¬ (bad_slot s.toInt ∨ badL l.toInt) ∧ (txt s.toInt.toNat).length ≠ 40 ∧ (w'.1 713 0).toInt = 0 ∧ r.toInt = (txt s.toInt.toNat).length + 1 ∧ rtx w' (xset txt s.toInt.toNat (txt s.toInt.toNat ++ [l.toInt]))))) := by
  have L := LIT
  have fr : ∀ x, rtx (setI w 713 0 x) txt := fun x => rtx_fr hx (by funext b; rw [setI_at, if_neg (by omega)]) (by funext b; rw [setI_at, if_neg (by omega)])
  unfold f_X11_put f_X11_put_18 f_X11_put_19 f_X11_put_45
  simp only [e_isSlot, e_isLetterR, e_holds, bd_r, ite_zo, c01, if_true, if_false]
  refine wp_if (fun hs => ?_) (fun hs => wp_ret ⟨rcg_fld rfl, Or.inl ⟨Or.inl hs, by rw [th_at]; exact L.2.1, fr 1⟩⟩)
  refine wp_if (fun hl => ?_) (fun hl => wp_ret ⟨rcg_fld rfl, Or.inl ⟨Or.inr hl, by rw [th_at]; exact L.2.1, fr 1⟩⟩)
  have nb : ¬ (bad_slot s.toInt ∨ badL l.toInt) := fun q => q.elim (fun q => q hs) (fun q => q hl)
  have hsN : s.toInt.toNat < 6 := by omega
  have Y := (hk _ hsN).1
  refine s_len hx hs (fun x hx1 => ?_)
  refine wp_ifeq (fun q => wp_ret ⟨rcg_fld rfl, Or.inr (Or.inl ⟨nb, by omega, by rw [th_at]; exact L.2.2.2.1, fr 2⟩)⟩) (fun q => ?_)
  refine s_len (fr 0) hs (fun x hx1 => ?_)
  have a1 := i_40 hs (k := x) (by omega)
  have h7 : LEN 717 = 6 := LENs.2.2.2.2.2.1
  refine wp_ast (by have := LENs.2.2.2.2.1; omega) (wp_ald (by omega) (wp_ast (by omega) (wp_ald (by omega) ?_)))
  have e1 : (setI (setI w 713 0 0) 716 ((40 : Int32) * s + x).toInt.toNat l).1 717 s.toInt.toNat = w.1 717 s.toInt.toNat := by rw [setI_at, if_neg (by omega), setI_at, if_neg (by omega)]
  have e2 := (hx _ hsN).1
  have s1 : (w.1 717 s.toInt.toNat + 1).toInt = (txt s.toInt.toNat).length + 1 := by rw [i_add (by omega), L.2.1, e2]
  rw [e1]
  refine wp_ret ⟨rcg_tr (rcg_tr (rcg_fld rfl) (rcg_set (by decide) (Or.inl rfl))) (rcg_set (by decide) (Or.inr rfl)), Or.inr (Or.inr ⟨nb, by omega, ?_, ?_, ?_⟩)⟩
  · rw [setI_at, if_neg (by omega), setI_at, if_neg (by omega), th_at]; exact L.1
  · rw [setI_at, if_pos ⟨rfl, rfl⟩]; exact s1
  · intro k hk6
    have hh := hx k hk6
    have kk := (hk k hk6).1
    unfold xset
    by_cases e : k = s.toInt.toNat
    · rw [if_pos e, List.length_append, List.length_singleton, setI_at, if_pos ⟨rfl, e⟩, s1]
      refine ⟨by omega, ?_⟩
      rw [sg_snoc]
      subst e
      refine congr (congrArg HAppend.hAppend ?_) (congrArg (fun z => [z]) ?_)
      · rw [sg_setI_out (by omega), sg_setI_out (by omega), sg_setI_out (by omega)]
        exact hh.2
      · rw [setI_at, if_neg (by omega), setI_at, if_pos ⟨rfl, by omega⟩]
    · rw [if_neg e, setI_at, if_neg (fun q => e q.2), setI_at, if_neg (by omega), setI_at, if_neg (by omega)]
      refine ⟨hh.1, ?_⟩
      rw [sg_setI_out (by omega), sg_setI_out (by omega), sg_setI_out (by omega)]
      exact hh.2
theorem r_clear {w : Wd} {txt : Nat → List Int} {s : Int32} (hx : rtx w txt) :
    Wp (f_X11_clear s w) (fun r w' => rcg (fun f => f = 0) rxs w w' ∧ ((bad_slot s.toInt ∧ (w'.1 713 0).toInt = 1 ∧ rtx w' txt) ∨ (¬ bad_slot s.toInt ∧ (w'.1 713 0).toInt = 0 ∧ r.toInt = (txt s.toInt.toNat).length ∧ rtx w' (xset txt s.toInt.toNat [])))) := by
  have L := LIT
  have fr : ∀ x, rtx (setI w 713 0 x) txt := fun x => rtx_fr hx (by funext b; rw [setI_at, if_neg (by omega)]) (by funext b; rw [setI_at, if_neg (by omega)])
  unfold f_X11_clear f_X11_clear_13
  simp only [e_isSlot, e_holds, bd_r, ite_zo, c01, if_true, if_false]
  refine wp_if (fun hs => ?_) (fun hs => wp_ret ⟨rcg_fld rfl, Or.inl ⟨hs, by rw [th_at]; exact L.2.1, fr 1⟩⟩)
  have h7 : LEN 717 = 6 := LENs.2.2.2.2.2.1
  refine s_len (fr 0) hs (fun x hx1 => wp_ast (by omega) (wp_ret ⟨rcg_tr (rcg_fld rfl) (rcg_set (by decide) (Or.inr rfl)), Or.inr ⟨fun q => q hs, ?_, hx1, fun k hk6 => ?_⟩⟩))
  · rw [setI_at, if_neg (by omega), th_at]; exact L.1
  · have hh := hx k hk6
    unfold xset
    by_cases e : k = s.toInt.toNat
    · rw [if_pos e, setI_at, if_pos ⟨rfl, e⟩]
      exact ⟨L.1, rfl⟩
    · rw [if_neg e, setI_at, if_neg (fun q => e q.2), setI_at, if_neg (by omega)]
      refine ⟨hh.1, ?_⟩
      rw [sg_setI_out (by omega), sg_setI_out (by omega)]
      exact hh.2
theorem r_at {w : Wd} {txt : Nat → List Int} {s p : Int32} (hx : rtx w txt) (hk : xok txt) :
    Wp (f_X11_at s p w) (fun r w' => rcg (fun f => f = 0) (fun _ => False) w w' ∧ ((bad_at txt s.toInt p.toInt ∧ (w'.1 713 0).toInt = 1) ∨ (¬ bad_at txt s.toInt p.toInt ∧ (w'.1 713 0).toInt = 0 ∧ r.toInt = at_val txt s.toInt p.toInt))) := by
  have L := LIT
  have fr : ∀ x, rtx (setI w 713 0 x) txt := fun x => rtx_fr hx (by funext b; rw [setI_at, if_neg (by omega)]) (by funext b; rw [setI_at, if_neg (by omega)])
  unfold f_X11_at f_X11_at_27 f_X11_at_28 f_X11_at_39 bad_at at_val
  simp only [e_isSlot, e_in, e_holds, bd_r, ite_zo, c01, if_true, if_false]
  have bad := fun (q : ¬ ((0 ≤ s.toInt ∧ s.toInt ≤ 5) ∧ -1 ≤ p.toInt ∧ p.toInt ≤ (txt s.toInt.toNat).length - 1)) => wp_ret (r := (0 : Int32)) (w := setI w 713 0 1) (Q := fun r w' => rcg (fun f => f = 0) (fun _ => False) w w' ∧ (((¬ ((0 ≤ s.toInt ∧ s.toInt ≤ 5) ∧ -1 ≤ p.toInt ∧ p.toInt ≤ (txt s.toInt.toNat).length - 1)) ∧ (w'.1 713 0).toInt = 1) ∨ (¬ ¬ ((0 ≤ s.toInt ∧ s.toInt ≤ 5) ∧ -1 ≤ p.toInt ∧ p.toInt ≤ (txt s.toInt.toNat).length - 1) ∧ (w'.1 713 0).toInt = 0 ∧ r.toInt = if p.toInt = -1 then ((txt s.toInt.toNat).length : Int) else gt (txt s.toInt.toNat) p.toInt))) ⟨rcg_fld rfl, Or.inl ⟨q, by rw [th_at]; exact L.2.1⟩⟩
  refine wp_if (fun hs => ?_) (fun hs => bad (fun q => hs q.1))
  have Y := (hk _ (show s.toInt.toNat < 6 by omega)).1
  refine s_len hx hs (fun x hx1 => ?_)
  have x1 : (x - 1).toInt = x.toInt - 1 := by rw [i_sub (by omega), L.2.1]
  refine wp_if (fun hp => ?_) (fun hp => bad (fun q => hp (by omega)))
  refine wp_ifeq (fun q => ?_) (fun q => ?_)
  · refine s_len (fr 0) hs (fun y hy => wp_ret ⟨rcg_fld rfl, Or.inr ⟨fun q2 => q2 ⟨hs, by omega, by omega⟩, by rw [th_at]; exact L.1, ?_⟩⟩)
    rw [if_pos (by omega), hy]
  · refine wp_bd (s_let (fr 0) hs (by omega) Y) ?_
    rintro y _ ⟨rfl, hy⟩
    refine wp_ret ⟨rcg_fld rfl, Or.inr ⟨fun q2 => q2 ⟨hs, by omega, by omega⟩, by rw [th_at]; exact L.1, ?_⟩⟩
    rw [if_neg (by omega), hy]
