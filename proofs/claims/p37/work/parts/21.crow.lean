/-! ===== rows ===== -/
theorem row_facts : ∀ o, KD o = 7 → o + 1 < 713 ∧ LEN (o + 1) ≤ 242 ∧ KD (o + 1) = 20 := by
  have h : (List.range 713).all (fun o => decide (KD o = 7 → o + 1 < 713 ∧ LEN (o + 1) ≤ 242 ∧ KD (o + 1) = 20)) = true := by decide +kernel
  intro o ho
  exact of_decide_eq_true (List.all_eq_true.mp h o (List.mem_range.mpr (KD_lt ho (by omega)))) ho
def rl (w : Wd) (o : Nat) : List Int := sg w (o + 1) 0 (w.1 o 1).toInt.toNat
def okr (w : Wd) (o : Nat) : Prop := KD o = 7 ∧ 0 ≤ (w.1 o 1).toInt ∧ (w.1 o 1).toInt ≤ LEN (o + 1)
/-- from w to w' only the row o has changed; it is l now -/
def rs (w w' : Wd) (o : Nat) (l : List Int) : Prop := (∀ k, k ≠ o → k ≠ o + 1 → w'.1 k = w.1 k) ∧ w'.2 = w.2 ∧ rl w' o = l ∧ okr w' o
theorem okr_len {w : Wd} {o : Nat} (h : okr w o) : LEN (o + 1) ≤ 242 := (row_facts o h.1).2.1
theorem rl_len {w : Wd} {o : Nat} (h : okr w o) : ((rl w o).length : Int) = (w.1 o 1).toInt := by
  unfold rl; rw [sg_len]; have := h.2.1; omega
theorem rl_le {w : Wd} {o : Nat} (h : okr w o) : (rl w o).length ≤ LEN (o + 1) := by
  have h1 := rl_len h; have h2 := h.2.2; omega
theorem row_ne {o k : Nat} (ho : KD o = 7) (hk : KD k = 7) : k ≠ o + 1 := by
  rintro rfl
  rw [(row_facts o ho).2.2] at hk
  omega
theorem rs_okr {w w' : Wd} {o k : Nat} {l : List Int} (h : rs w w' o l) (hk : okr w k) : okr w' k := by
  by_cases e : k = o
  · subst e; exact h.2.2.2
  · unfold okr
    rw [h.1 k e (row_ne h.2.2.2.1 hk.1)]
    exact hk
theorem rs_rl {w w' : Wd} {o k : Nat} {l : List Int} (h : rs w w' o l) (hk : KD k = 7) (e : k ≠ o) : rl w' k = rl w k := by
  unfold rl
  rw [h.1 k e (row_ne h.2.2.2.1 hk)]
  apply sg_ext
  intro i _
  rw [h.1 (k + 1) (row_ne hk h.2.2.2.1).symm (by omega)]
theorem rs_ob {w w' : Wd} {o k : Nat} {l : List Int} (h : rs w w' o l) (hk : k ≠ o) (hk1 : k ≠ o + 1) : w'.1 k = w.1 k := h.1 k hk hk1
theorem rs_l {w w' : Wd} {o : Nat} {l : List Int} (h : rs w w' o l) : rl w' o = l := h.2.2.1
theorem rs_rf {w : Wd} {o : Nat} (h : okr w o) : rs w w o (rl w o) := ⟨fun _ _ _ => rfl, rfl, rfl, h⟩
theorem rs_tr {w w1 w2 : Wd} {o : Nat} {l l2 : List Int} (h : rs w w1 o l) (h2 : rs w1 w2 o l2) : rs w w2 o l2 :=
  ⟨fun k a b => (h2.1 k a b).trans (h.1 k a b), h2.2.1.trans h.2.1, h2.2.2.1, h2.2.2.2⟩
theorem rl_gt {w : Wd} {o : Nat} (h : okr w o) {i : Int} (h0 : 0 ≤ i) (h1 : i < (w.1 o 1).toInt) : gt (rl w o) i = (w.1 (o + 1) i.toNat).toInt := by
  rw [gt_in h0]
  unfold rl
  rw [sg_getD (by omega), Nat.zero_add]
theorem s_size {w : Wd} {o : Nat} (h : okr w o) : Wp (f_X7_size o w) (fun x w' => w = w' ∧ x.toInt = (rl w o).length) :=
  wp_ret ⟨rfl, (rl_len h).symm⟩
theorem s_get {w : Wd} {o : Nat} {i : Int32} (h : okr w o) : Wp (f_X7_get o i w) (fun x w' => w = w' ∧ x.toInt = gt (rl w o) i.toInt) := by
  have hl := rl_len h
  have h4 := okr_len h
  have hc := h.2.1
  have hc2 := h.2.2
  have l0 := L01
  have hn : (Int32.ofNat (LEN (o + 1))).toInt = LEN (o + 1) := i_ofNat (by omega)
  unfold f_X7_get
  refine wp_iflt (fun q => wp_ret ⟨rfl, ?_⟩) (fun q1 => wp_ifle (fun q => wp_ret ⟨rfl, ?_⟩) (fun q2 => wp_iflt (fun q3 => wp_ald ?_ (wp_ret ⟨rfl, ?_⟩)) (fun q3 => ?_)))
  · rw [gt_out (by omega)]; exact l0.2.2
  · rw [gt_out (by omega)]; exact l0.2.2
  · omega
  · rw [rl_gt h (by omega) (by omega)]
  · omega
theorem s_add {w : Wd} {o : Nat} {x : Int32} (h : okr w o) (hlt : (rl w o).length < LEN (o + 1)) : Wp (f_X7_add o x w) (fun r w' => r = 1 ∧ rs w w' o (rl w o ++ [x.toInt])) := by
  have hl := rl_len h
  have h4 := okr_len h
  have hc := h.2.1
  have hc2 := h.2.2
  have l0 := L01
  have hn : (Int32.ofNat (LEN (o + 1))).toInt = LEN (o + 1) := i_ofNat (by omega)
  have hs : (w.1 o 1 + 1).toInt = (w.1 o 1).toInt + 1 := by rw [i_add (by omega), l0.2.1]
  unfold f_X7_add
  refine wp_iflt (fun q => by omega) (fun q1 => wp_iflt (fun q2 => wp_ast (by omega) (wp_wr (wp_ret ⟨rfl, ?_⟩))) (fun q2 => by omega))
  have e1 : (setI w (o + 1) (w.1 o 1).toInt.toNat x).1 o 1 = w.1 o 1 := by rw [setI_at, if_neg (by omega)]
  rw [e1]
  refine ⟨fun k hk hk1 => ?_, rfl, ?_, ?_⟩
  · funext j
    rw [setI_at, if_neg (by omega), setI_at, if_neg (by omega)]
  · unfold rl
    rw [setI_at, if_pos ⟨rfl, rfl⟩, hs, show ((w.1 o 1).toInt + 1).toNat = (w.1 o 1).toInt.toNat + 1 by omega, sg_snoc]
    congr 1
    · apply sg_ext
      intro i hi
      rw [setI_at, if_neg (by omega), setI_at, if_neg (by omega)]
    · rw [setI_at, if_neg (by omega), setI_at, if_pos ⟨rfl, by omega⟩]
  · refine ⟨h.1, ?_, ?_⟩
    · rw [setI_at, if_pos ⟨rfl, rfl⟩, hs]; omega
    · rw [setI_at, if_pos ⟨rfl, rfl⟩, hs]; omega
theorem s_add_full {w : Wd} {o : Nat} {x : Int32} (h : okr w o) (hlt : LEN (o + 1) ≤ (rl w o).length) : Wp (f_X7_add o x w) (fun r w' => r = 0 ∧ w = w') := by
  have hl := rl_len h
  have h4 := okr_len h
  have hc := h.2.1
  have l0 := L01
  have hn : (Int32.ofNat (LEN (o + 1))).toInt = LEN (o + 1) := i_ofNat (by omega)
  unfold f_X7_add
  exact wp_iflt (fun q => by omega) (fun q1 => wp_iflt (fun q2 => by omega) (fun q2 => wp_ret ⟨rfl, rfl⟩))
theorem s_cutTo {w : Wd} {o : Nat} {i : Int32} (h : okr w o) (hi : 0 ≤ i.toInt) : Wp (f_X7_cutTo o i w) (fun _ w' => rs w w' o ((rl w o).take i.toInt.toNat)) := by
  have hl := rl_len h
  have hc := h.2.1
  have hc2 := h.2.2
  have l0 := L01
  unfold f_X7_cutTo
  refine wp_iflt (fun q => by omega) (fun q1 => wp_ifle (fun q2 => wp_ret ?_) (fun q2 => wp_wr (wp_ret ?_)))
  · rw [List.take_of_length_le (by omega)]
    exact rs_rf h
  · refine ⟨fun k hk hk1 => ?_, rfl, ?_, ?_⟩
    · funext j
      rw [setI_at, if_neg (by omega)]
    · unfold rl
      rw [sg_take _ _ _ (by omega), setI_at, if_pos ⟨rfl, rfl⟩]
      apply sg_ext
      intro j hj
      rw [setI_at, if_neg (by omega)]
    · refine ⟨h.1, ?_, ?_⟩
      · rw [setI_at, if_pos ⟨rfl, rfl⟩]; omega
      · rw [setI_at, if_pos ⟨rfl, rfl⟩]; omega
/-- made empty -/
theorem s_cut0 {w : Wd} {o : Nat} (h : okr w o) : Wp (f_X7_cutTo o 0 w) (fun _ w' => rs w w' o []) :=
  (s_cutTo h (by decide)).mono (fun _ _ q => q)
theorem s_cut_neg {w : Wd} {o : Nat} {i : Int32} (hi : i.toInt < 0) : Wp (f_X7_cutTo o i w) (fun _ w' => w = w') := by
  have l0 := L01
  unfold f_X7_cutTo
  exact wp_iflt (fun q => wp_ret rfl) (fun q1 => by omega)
theorem s_removeLast {w : Wd} {o : Nat} (h : okr w o) : Wp (f_X7_removeLast o w) (fun x w' => rs w w' o (rl w o).dropLast ∧ x.toInt = gt (rl w o) ((rl w o).length - 1)) := by
  have hl := rl_len h
  have hc := h.2.1
  have hc2 := h.2.2
  have h4 := okr_len h
  have l0 := L01
  have hs : (w.1 o 1 - 1).toInt = (w.1 o 1).toInt - 1 := by rw [i_sub (by omega), l0.2.1]
  unfold f_X7_removeLast
  refine wp_bd (s_get h) ?_
  rintro x _ ⟨rfl, hx⟩
  rw [hs, ← hl] at hx
  by_cases q : (w.1 o 1).toInt = 0
  · refine wp_bd (s_cut_neg (by omega)) ?_
    rintro _ _ rfl
    refine wp_ret ⟨?_, hx⟩
    have e : rl w o = [] := List.eq_nil_of_length_eq_zero (by omega)
    have := rs_rf h
    rw [e] at this ⊢
    exact this
  · refine wp_bd (s_cutTo h (by omega)) ?_
    rintro _ w1 h1
    refine wp_ret ⟨?_, hx⟩
    rw [List.dropLast_eq_take]
    rw [hs] at h1
    rwa [show ((w.1 o 1).toInt - 1).toNat = (rl w o).length - 1 by omega] at h1
theorem s_set {w : Wd} {o : Nat} {i x : Int32} (h : okr w o) : Wp (f_X7_set o i x w) (fun _ w' => rs w w' o (if 0 ≤ i.toInt then (rl w o).set i.toInt.toNat x.toInt else rl w o)) := by
  have hl := rl_len h
  have h4 := okr_len h
  have hc := h.2.1
  have hc2 := h.2.2
  have l0 := L01
  have hn : (Int32.ofNat (LEN (o + 1))).toInt = LEN (o + 1) := i_ofNat (by omega)
  unfold f_X7_set
  refine wp_iflt (fun q => wp_ret ?_) (fun q1 => wp_ifle (fun q2 => wp_ret ?_) (fun q2 => wp_ifle (fun q3 => by omega) (fun q3 => wp_ast (by omega) (wp_ret ?_))))
  · rw [if_neg (by omega)]; exact rs_rf h
  · rw [if_pos (by omega), List.set_eq_of_length_le (by omega)]; exact rs_rf h
  · rw [if_pos (by omega)]
    have e1 : (setI w (o + 1) i.toInt.toNat x).1 o = w.1 o := by funext j; rw [setI_at, if_neg (by omega)]
    refine ⟨fun k hk hk1 => ?_, rfl, ?_, ?_⟩
    · funext j
      rw [setI_at, if_neg (by omega)]
    · unfold rl
      rw [e1]
      have := sg_set (w := w) (a := o + 1) (off := 0) (n := (w.1 o 1).toInt.toNat) (j := i.toInt.toNat) (v := x) (by omega)
      rwa [Nat.zero_add] at this
    · unfold okr
      rw [e1]
      exact h
theorem s_set_in {w : Wd} {o : Nat} {i x : Int32} (h : okr w o) (hi : 0 ≤ i.toInt) : Wp (f_X7_set o i x w) (fun _ w' => rs w w' o ((rl w o).set i.toInt.toNat x.toInt)) :=
  (s_set h).mono (fun _ _ q => by rwa [if_pos hi] at q)
/-- a row is begun anew -/
theorem rs_empty {w : Wd} {o : Nat} (h : okr w o) : rs w (setI w o 1 0) o [] := by
  refine ⟨fun k hk hk1 => ?_, rfl, ?_, h.1, ?_, ?_⟩
  · funext j; rw [setI_at, if_neg (by omega)]
  · unfold rl; rw [setI_at, if_pos ⟨rfl, rfl⟩]; rfl
  · rw [setI_at, if_pos ⟨rfl, rfl⟩]; decide
  · rw [setI_at, if_pos ⟨rfl, rfl⟩, L01.1]; omega
theorem FUv : FU = 100000 := rfl
theorem s_takeOver {w : Wd} {o o' : Nat} (h : okr w o) (h' : okr w o') (hle : (rl w o').length ≤ LEN (o + 1)) : Wp (f_X7_takeOver o o' w) (fun _ w' => rs w w' o (rl w o')) := by
  have l0 := L01
  unfold f_X7_takeOver
  refine wp_if (fun e => wp_ret (by subst e; exact rs_rf h)) (fun e => wp_wr ?_)
  have h0 := rs_empty h
  have hl := rl_len h'
  have hb := okr_len h
  unfold f_X7_takeOver_13
  refine wp_loop (fun (σ : Nat × Nat × Int32 × Wd) => σ.1 = o ∧ σ.2.1 = o' ∧ 0 ≤ σ.2.2.1.toInt ∧ σ.2.2.1.toInt ≤ (rl w o').length ∧ rs w σ.2.2.2 o ((rl w o').take σ.2.2.1.toInt.toNat)) (fun (σ : Nat × Nat × Int32 × Wd) => (rl w o').length - σ.2.2.1.toInt.toNat) ?_ FU _ ⟨rfl, rfl, by show 0 ≤ (0 : Int32).toInt; omega, by show (0 : Int32).toInt ≤ _; omega, by show rs w _ o ((rl w o').take (0 : Int32).toInt.toNat); rw [l0.1]; exact h0⟩ (by rw [FUv]; show (rl w o').length - _ < _; omega)
  rintro rc ⟨a, b, i, w1⟩ ⟨e1, e2, hi0, hi1, hr⟩ ih
  dsimp only at e1 e2 hi0 hi1 hr
  subst e1; subst e2
  have hk : rl w1 b = rl w b := rs_rl hr h'.1 e
  have hok := rs_okr hr h'
  have hl1 := rl_len hok
  rw [hk] at hl1
  show Wp (g_X7_takeOver_13 rc a b i w1) _
  unfold g_X7_takeOver_13
  refine wp_ifle (fun q => wp_ret ?_) (fun q => ?_)
  · rwa [List.take_of_length_le (by omega)] at hr
  · refine wp_bd (s_get hok) ?_
    rintro x _ ⟨rfl, hx⟩
    have hla : (rl w1 a).length = i.toInt.toNat := by rw [rs_l hr, List.length_take]; omega
    refine wp_bd (s_add (rs_okr hr h) (by omega)) ?_
    rintro r w2 ⟨rfl, hr2⟩
    refine wp_add (by omega) (fun z hz => ?_)
    refine ih (a, b, z, w2) ⟨rfl, rfl, by dsimp only; omega, by dsimp only; omega, ?_⟩ (by dsimp only; omega)
    dsimp only
    have h3 := rs_tr hr hr2
    rw [rs_l hr, hx, hk, gt_in hi0] at h3
    rw [show z.toInt.toNat = i.toInt.toNat + 1 by omega]
    rwa [List.getD_eq_getElem?_getD, List.getElem?_eq_getElem (by omega), Option.getD_some, List.take_append_getElem (by omega)] at h3
/-- a row stands in another one at a place -/
def hld (l part : List Int) (i : Int) : Prop := 0 ≤ i ∧ i + part.length ≤ l.length ∧ ∀ k : Nat, k < part.length → gt l (i + k) = gt part k
theorem s_holds {w : Wd} {o p : Nat} {i : Int32} (h : okr w o) (hp : okr w p) : Wp (f_X7_holds o p i w) (fun r w' => w = w' ∧ ((r = 1 ∧ hld (rl w o) (rl w p) i.toInt) ∨ (r = 0 ∧ ¬ hld (rl w o) (rl w p) i.toInt))) := by
  have l0 := L01
  have hl := rl_len h
  have hlp := rl_len hp
  have hb := okr_len h
  have hbp := okr_len hp
  have hc := h.2
  have hcp := hp.2
  have hi := i_rng i
  unfold f_X7_holds
  refine wp_iflt (fun q => wp_ret ⟨rfl, Or.inr ⟨rfl, fun k => ?_⟩⟩) (fun q1 => ?_)
  · have := k.1; omega
  have hs : (w.1 o 1 - i).toInt = (w.1 o 1).toInt - i.toInt := i_sub (by omega)
  refine wp_ifle (fun q2 => ?_) (fun q2 => wp_ret ⟨rfl, Or.inr ⟨rfl, fun k => ?_⟩⟩)
  · unfold f_X7_holds_21
    refine wp_loop (fun (σ : Nat × Nat × Int32 × Int32 × Wd) => σ.1 = o ∧ σ.2.1 = p ∧ σ.2.2.1 = i ∧ σ.2.2.2.2 = w ∧ 0 ≤ σ.2.2.2.1.toInt ∧ σ.2.2.2.1.toInt ≤ (rl w p).length ∧ ∀ k : Nat, k < σ.2.2.2.1.toInt → gt (rl w o) (i.toInt + k) = gt (rl w p) k) (fun (σ : Nat × Nat × Int32 × Int32 × Wd) => (rl w p).length - σ.2.2.2.1.toInt.toNat) ?_ FU _ ⟨rfl, rfl, rfl, rfl, by show 0 ≤ (0 : Int32).toInt; omega, by show (0 : Int32).toInt ≤ _; omega, fun k hk => by have : (k : Int) < (0 : Int32).toInt := hk; omega⟩ (by rw [FUv]; show (rl w p).length - _ < _; omega)
    rintro rc ⟨a, b, j, k, w1⟩ ⟨e1, e2, e3, e4, hk0, hk1, hr⟩ ih
    dsimp only at e1 e2 e3 e4 hk0 hk1 hr
    subst e1; subst e2; subst e3; subst e4
    show Wp (g_X7_holds_21 rc a b j k w1) _
    unfold g_X7_holds_21
    refine wp_ifle (fun q => wp_ret ⟨rfl, Or.inl ⟨rfl, by omega, by omega, fun n hn => hr n (by omega)⟩⟩) (fun q => ?_)
    have hjk : (j + k).toInt = j.toInt + k.toInt := i_add (by omega)
    refine wp_bd (s_get h) ?_
    rintro x _ ⟨rfl, hx⟩
    refine wp_bd (s_get hp) ?_
    rintro y _ ⟨rfl, hy⟩
    have hkn : ((k.toInt.toNat : Nat) : Int) = k.toInt := by omega
    refine wp_ifeq (fun q2 => ?_) (fun q2 => wp_ret ⟨rfl, Or.inr ⟨rfl, fun n => ?_⟩⟩)
    · refine wp_add (by omega) (fun z hz => ?_)
      refine ih (a, b, j, z, w1) ⟨rfl, rfl, rfl, rfl, by dsimp only; omega, by dsimp only; omega, fun n hn => ?_⟩ (by dsimp only; omega)
      dsimp only at hn
      by_cases e : (n : Int) = k.toInt
      · rw [e, ← hjk, ← hx, ← hy]; exact q2
      · exact hr n (by omega)
    · have := n.2.2 k.toInt.toNat (by omega)
      rw [hkn, ← hjk, ← hx, ← hy] at this
      exact q2 this
  · have := k.2.1; omega
theorem hld_all {l part : List Int} (h : l.length = part.length) : hld l part 0 ↔ l = part := by
  constructor
  · intro k
    apply List.ext_getElem?
    intro i
    rcases Nat.lt_or_ge i part.length with q | q
    · have := k.2.2 i q
      rw [Int.zero_add, gt_nat, gt_nat, List.getD_eq_getElem?_getD, List.getD_eq_getElem?_getD, List.getElem?_eq_getElem (by omega), List.getElem?_eq_getElem (by omega)] at this
      rw [List.getElem?_eq_getElem (by omega), List.getElem?_eq_getElem (by omega)]
      exact congrArg some this
    · rw [List.getElem?_eq_none (by omega), List.getElem?_eq_none (by omega)]
  · rintro rfl
    exact ⟨by omega, by omega, fun k _ => by rw [Int.zero_add]⟩
theorem s_isLike {w : Wd} {o p : Nat} (h : okr w o) (hp : okr w p) : Wp (f_X7_isLike o p w) (fun r w' => w = w' ∧ ((r = 1 ∧ rl w o = rl w p) ∨ (r = 0 ∧ rl w o ≠ rl w p))) := by
  have hl := rl_len h
  have hlp := rl_len hp
  have l0 := L01
  unfold f_X7_isLike
  refine wp_ifeq (fun q => ?_) (fun q => wp_ret ⟨rfl, Or.inr ⟨rfl, fun e => ?_⟩⟩)
  · refine wp_bd (s_holds h hp) ?_
    have e : (rl w o).length = (rl w p).length := by omega
    rintro r _ ⟨rfl, ⟨rfl, hh⟩ | ⟨rfl, hh⟩⟩
    · rw [l0.1, hld_all e] at hh
      rw [if_neg (by decide)]
      exact wp_ret ⟨rfl, Or.inl ⟨rfl, hh⟩⟩
    · rw [l0.1, hld_all e] at hh
      rw [if_pos rfl]
      exact wp_ret ⟨rfl, Or.inr ⟨rfl, hh⟩⟩
  · rw [e] at hl; omega
theorem s_placeOf {w : Wd} {o : Nat} {c : Int32} (h : okr w o) : Wp (f_X7_placeOf o c w) (fun r w' => w = w' ∧ ((0 ≤ r.toInt ∧ r.toInt < (rl w o).length ∧ gt (rl w o) r.toInt = c.toInt ∧ ∀ k : Nat, k < r.toInt → gt (rl w o) k ≠ c.toInt) ∨ (r.toInt = -1 ∧ ∀ k : Nat, k < (rl w o).length → gt (rl w o) k ≠ c.toInt))) := by
  have hl := rl_len h
  have hb := okr_len h
  have hc := h.2
  have l0 := L01
  unfold f_X7_placeOf f_X7_placeOf_2
  refine wp_loop (fun (σ : Nat × Int32 × Int32 × Wd) => σ.1 = o ∧ σ.2.1 = c ∧ σ.2.2.2 = w ∧ 0 ≤ σ.2.2.1.toInt ∧ σ.2.2.1.toInt ≤ (rl w o).length ∧ ∀ k : Nat, k < σ.2.2.1.toInt → gt (rl w o) k ≠ c.toInt) (fun (σ : Nat × Int32 × Int32 × Wd) => (rl w o).length - σ.2.2.1.toInt.toNat) ?_ FU _ ⟨rfl, rfl, rfl, by show 0 ≤ (0 : Int32).toInt; omega, by show (0 : Int32).toInt ≤ _; omega, fun k hk => by have : (k : Int) < (0 : Int32).toInt := hk; omega⟩ (by rw [FUv]; show (rl w o).length - _ < _; omega)
  rintro rc ⟨a, b, j, w1⟩ ⟨e1, e2, e3, hk0, hk1, hr⟩ ih
  dsimp only at e1 e2 e3 hk0 hk1 hr
  subst e1; subst e2; subst e3
  show Wp (g_X7_placeOf_2 rc a b j w1) _
  unfold g_X7_placeOf_2
  refine wp_ifle (fun q => wp_ret ⟨rfl, Or.inr ⟨l0.2.2, fun k hk => hr k (by omega)⟩⟩) (fun q => ?_)
  refine wp_bd (s_get h) ?_
  rintro x _ ⟨rfl, hx⟩
  refine wp_ifeq (fun q2 => wp_ret ⟨rfl, Or.inl ⟨hk0, by omega, by rw [← hx]; exact q2, hr⟩⟩) (fun q2 => ?_)
  refine wp_add (by omega) (fun z hz => ?_)
  refine ih (a, b, z, w1) ⟨rfl, rfl, rfl, by dsimp only; omega, by dsimp only; omega, fun n hn => ?_⟩ (by dsimp only; omega)
  dsimp only at hn
  by_cases e : (n : Int) = j.toInt
  · rw [e, ← hx]; exact q2
  · exact hr n (by omega)
theorem s_refill {w : Wd} {o : Nat} {c n : Int32} (h : okr w o) (h0 : 0 ≤ n.toInt) (hn : n.toInt ≤ LEN (o + 1)) : Wp (f_X7_refill o c n w) (fun _ w' => rs w w' o (List.replicate n.toInt.toNat c.toInt)) := by
  have l0 := L01
  have hb := okr_len h
  unfold f_X7_refill
  refine wp_wr ?_
  unfold f_X7_refill_7
  refine wp_loop (fun (σ : Nat × Int32 × Int32 × Int32 × Wd) => σ.1 = o ∧ σ.2.1 = c ∧ σ.2.2.1 = n ∧ 0 ≤ σ.2.2.2.1.toInt ∧ σ.2.2.2.1.toInt ≤ n.toInt ∧ rs w σ.2.2.2.2 o (List.replicate σ.2.2.2.1.toInt.toNat c.toInt)) (fun (σ : Nat × Int32 × Int32 × Int32 × Wd) => n.toInt.toNat - σ.2.2.2.1.toInt.toNat) ?_ FU _ ⟨rfl, rfl, rfl, by show 0 ≤ (0 : Int32).toInt; omega, by show (0 : Int32).toInt ≤ _; omega, by show rs w _ o (List.replicate (0 : Int32).toInt.toNat _); rw [l0.1]; exact rs_empty h⟩ (by rw [FUv]; show n.toInt.toNat - _ < _; omega)
  rintro rc ⟨a, b, d, j, w1⟩ ⟨e1, e2, e3, hk0, hk1, hr⟩ ih
  dsimp only at e1 e2 e3 hk0 hk1 hr
  subst e1; subst e2; subst e3
  show Wp (g_X7_refill_7 rc a b d j w1) _
  unfold g_X7_refill_7
  refine wp_ifle (fun q => wp_ret ?_) (fun q => ?_)
  · rwa [show j.toInt.toNat = d.toInt.toNat by omega] at hr
  · have hla : (rl w1 a).length = j.toInt.toNat := by rw [rs_l hr, List.length_replicate]
    refine wp_bd (s_add (rs_okr hr h) (by omega)) ?_
    rintro r w2 ⟨rfl, hr2⟩
    refine wp_add (by omega) (fun z hz => ?_)
    refine ih (a, b, d, z, w2) ⟨rfl, rfl, rfl, by dsimp only; omega, by dsimp only; omega, ?_⟩ (by dsimp only; omega)
    dsimp only
    have h3 := rs_tr hr hr2
    rw [rs_l hr, ← List.replicate_succ'] at h3
    rwa [show z.toInt.toNat = j.toInt.toNat + 1 by omega]
/-- a piece turned around -/
def trn (l : List Int) (from_ to_ : Int) (k : Nat) : Int := if from_ ≤ k ∧ k ≤ to_ then gt l (from_ + to_ - k) else gt l k
theorem gt_set {l : List Int} {i : Nat} {x : Int} {k : Int} (hk : 0 ≤ k) (hi : i < l.length) : gt (l.set i x) k = if k = i then x else gt l k := by
  rw [gt_in hk, gt_in hk, List.getD_eq_getElem?_getD, List.getD_eq_getElem?_getD, List.getElem?_set]
  by_cases e : k = i
  · rw [if_pos e, if_pos (by omega), if_pos hi]; rfl
  · rw [if_neg e, if_neg (by omega)]
theorem s_turn {w : Wd} {o : Nat} {i j : Int32} (h : okr w o) (hi : 0 ≤ i.toInt) (hj : j.toInt < (rl w o).length) : Wp (f_X7_turn o i j w) (fun _ w' => ∃ l', rs w w' o l' ∧ l'.length = (rl w o).length ∧ ∀ k : Nat, gt l' k = trn (rl w o) i.toInt j.toInt k) := by
  have l0 := L01
  have hb := okr_len h
  have hc := h.2
  have hl := rl_len h
  have hjr := i_rng j
  have hir := i_rng i
  unfold f_X7_turn f_X7_turn_5
  refine wp_loop (fun (σ : Nat × Int32 × Int32 × Wd) => σ.1 = o ∧ i.toInt ≤ σ.2.1.toInt ∧ σ.2.1.toInt + σ.2.2.1.toInt = i.toInt + j.toInt ∧ ∃ l', rs w σ.2.2.2 o l' ∧ l'.length = (rl w o).length ∧ ∀ k : Nat, gt l' k = if σ.2.1.toInt ≤ k ∧ k ≤ σ.2.2.1.toInt then gt (rl w o) k else trn (rl w o) i.toInt j.toInt k) (fun (σ : Nat × Int32 × Int32 × Wd) => (σ.2.2.1.toInt - σ.2.1.toInt + 1).toNat) ?_ FU _ ⟨rfl, by dsimp only; omega, by dsimp only, _, rs_rf h, rfl, fun k => ?_⟩ (by rw [FUv]; dsimp only; omega)
  · rintro rc ⟨a, p, q, w1⟩ ⟨e1, h1, h2, l', hr, hlen, hg⟩ ih
    dsimp only at e1 h1 h2 hr hlen hg
    subst e1
    show Wp (g_X7_turn_5 rc a p q w1) _
    unfold g_X7_turn_5
    have hok := rs_okr hr h
    have hl1 := rs_l hr
    refine wp_ifle (fun q1 => wp_ret ⟨l', hr, hlen, fun k => ?_⟩) (fun q1 => ?_)
    · rw [hg]
      by_cases c : p.toInt ≤ k ∧ k ≤ q.toInt
      · rw [if_pos c]
        unfold trn
        rw [if_pos (by omega)]
        congr 1
        omega
      · rw [if_neg c]
    · refine wp_bd (s_get hok) ?_
      rintro x _ ⟨rfl, hx⟩
      refine wp_bd (s_get hok) ?_
      rintro y _ ⟨rfl, hy⟩
      refine wp_bd (s_set_in hok (by omega)) ?_
      rintro _ w2 hr2
      refine wp_bd (s_set_in (rs_okr hr2 hok) (by omega)) ?_
      rintro _ w3 hr3
      refine wp_add (by omega) (fun z hz => ?_)
      refine wp_add (by omega) (fun z2 hz2 => ?_)
      rw [rs_l hr2] at hr3
      rw [hl1] at hr3 hx hy
      refine ih (a, z, z2, w3) ⟨rfl, by dsimp only; omega, by dsimp only; omega, _, rs_tr hr (rs_tr hr2 hr3), by rw [List.length_set, List.length_set]; exact hlen, fun k => ?_⟩ (by dsimp only; omega)
      dsimp only
      have hxk : x.toInt = gt (rl w a) p.toInt := by
        have := hg p.toInt.toNat
        rw [show ((p.toInt.toNat : Nat) : Int) = p.toInt by omega, if_pos (by omega)] at this
        rw [hx, this]
      have hyk : y.toInt = gt (rl w a) q.toInt := by
        have := hg q.toInt.toNat
        rw [show ((q.toInt.toNat : Nat) : Int) = q.toInt by omega, if_pos (by omega)] at this
        rw [hy, this]
      rw [gt_set (by omega) (by rw [List.length_set]; omega), gt_set (by omega) (by omega), hg]
      by_cases c1 : (k : Int) = q.toInt
      · rw [if_pos (by omega), if_neg (by omega)]
        unfold trn
        rw [if_pos (by omega), hxk]
        congr 1
        omega
      · rw [if_neg (by omega)]
        by_cases c2 : (k : Int) = p.toInt
        · rw [if_pos (by omega), if_neg (by omega)]
          unfold trn
          rw [if_pos (by omega), hyk]
          congr 1
          omega
        · rw [if_neg (by omega)]
          by_cases c3 : p.toInt ≤ k ∧ k ≤ q.toInt
          · rw [if_pos c3, if_pos (by omega)]
          · rw [if_neg c3, if_neg (by omega)]
  · dsimp only
    by_cases c : i.toInt ≤ k ∧ k ≤ j.toInt
    · rw [if_pos c]
    · rw [if_neg c]
      unfold trn
      rw [if_neg c]

