/-! ===== form, looksLike ===== -/
def scr (k : Nat) : Prop := (639 ≤ k ∧ k < 674) ∨ (692 ≤ k ∧ k < 713)
theorem oc_scr {w w' : Wd} {into : Nat} (h : oc (fcl2 into) w w') (hi : 692 ≤ into ∧ into < 712) : oc scr w w' := oc_mono h (fun k hk => by unfold fcl2 at hk; unfold scr; omega)
theorem row_wide : (KD 699 = 7 ∧ LEN (699 + 1) = 80) ∧ (KD 701 = 7 ∧ LEN (701 + 1) = 80) := by decide +kernel
theorem slot_lt {s : Int32} (hs : 0 ≤ s.toInt ∧ s.toInt ≤ 5) : s.toInt.toNat < 6 := by omega
def bad_two (a b : Int) : Prop := ¬ ((0 ≤ a ∧ a ≤ 5) ∧ (0 ≤ b ∧ b ≤ 5))
def bad_f (f : Int) : Prop := ¬ (0 ≤ f ∧ f ≤ 3)
/-- a form that can be put into a slot -/
def okf (o : Option (List Int)) (ys : List Int) : Prop := o = some ys ∧ ys.length ≤ 40
theorem k_form {w : Wd} {tab : Nat → Int} {txt : Nat → List Int} {s f t : Int32} (hk : tok tab) (h : trel w 1 tab) (ho : okall w) (hx : ctx w txt) (hkx : xok txt) :
    Wp (f_X10_form s f t w) (fun r w' => okall w' ∧ trel w' 1 tab ∧ oc (fun k => scr k ∨ xin k) w w' ∧
      ((bad_two s.toInt t.toInt ∧ r = .inl 1 ∧ ctx w' txt) ∨ (¬ bad_two s.toInt t.toInt ∧ bad_f f.toInt ∧ r = .inl 2 ∧ ctx w' txt) ∨
      (¬ bad_two s.toInt t.toInt ∧ ¬ bad_f f.toInt ∧ (∀ ys, ¬ okf (fsp tab f.toInt (txt s.toInt.toNat)) ys) ∧ r = .inl 3 ∧ ctx w' txt) ∨
      (¬ bad_two s.toInt t.toInt ∧ ¬ bad_f f.toInt ∧ ∃ ys, okf (fsp tab f.toInt (txt s.toInt.toNat)) ys ∧ (∃ x : Int32, r = .inr x ∧ x.toInt = ys.length) ∧ ctx w' (xset txt t.toInt.toNat ys)))) := by
  have L := LIT
  have e40 : (40 : Int32).toInt = 40 := by decide
  unfold f_X10_form f_X10_form_56 f_X10_form_57
  simp only [e_textOf, e_isWithin, bd_r, e_checkArgument, bdx_c]
  refine wp_if (fun hs => ?_) (fun hs => wp_ret ⟨ho, h, oc_rf, Or.inl ⟨fun q => hs q.1, rfl, hx⟩⟩)
  refine wp_if (fun hT => ?_) (fun hT => wp_ret ⟨ho, h, oc_rf, Or.inl ⟨fun q => hT q.2, rfl, hx⟩⟩)
  have nb1 : ¬ bad_two s.toInt t.toInt := fun q => q ⟨hs, hT⟩
  rw [L.1, L.2.2.2.2.1]
  refine wp_if (fun hf => ?_) (fun hf => wp_ret ⟨ho, h, oc_rf, Or.inr (Or.inl ⟨nb1, hf, rfl, hx⟩)⟩)
  have nb2 : ¬ bad_f f.toInt := fun q => q hf
  have hsN := slot_lt hs
  have hTN := slot_lt hT
  have Y := hkx _ hsN
  refine wp_bd (s_formInto (into := 699) hk h ho (slot_kd _ hsN).1 row_wide.1.1 (by omega) (by omega) row_wide.1.2 (hx _ hsN) Y.2 Y.1 hf) ?_
  rintro r w1 ⟨ok1, t1, oc1, hr⟩
  have oc1' := oc_scr oc1 (by omega)
  have cx1 : ctx w1 txt := ctx_fr hx (fun k a b => oc1'.1 k (by unfold scr; omega))
  have oc1s : oc (fun k => scr k ∨ xin k) w w1 := oc_mono oc1' (fun k q => Or.inl q)
  have e0 : f_X10_checkForm (0 : Int32) = fun w => some (.inl 3, w) := rfl
  have e1 : f_X10_checkForm (1 : Int32) = fun w => some (.inr (), w) := rfl
  simp only [e0, e1, bdx_l, bdx_r]
  rcases hr with ⟨rfl, ys, hys, hrl⟩ | ⟨rfl, hno⟩
  · refine wp_ifeq (fun q => by omega) (fun _ => ?_)
    refine wp_bd (s_size (ok1 _ row_wide.1.1)) ?_
    rintro n _ ⟨rfl, hn⟩
    rw [hrl] at hn
    refine wp_iflt (fun q => wp_ret ⟨ok1, t1, oc1s, Or.inr (Or.inr (Or.inl ⟨nb1, nb2, fun zs hz => ?_, rfl, cx1⟩))⟩) (fun q => ?_)
    · have := hz.1; rw [hys] at this; cases this
      have := hz.2; omega
    · have KT := slot_kd _ hTN
      refine wp_bd (s_takeOver (ok1 _ KT.1) (ok1 _ row_wide.1.1) (by rw [hrl, KT.2]; omega)) ?_
      rintro _ w2 h2
      rw [hrl] at h2
      refine wp_bd (s_size (okall_rs ok1 h2 _ KT.1)) ?_
      rintro x _ ⟨rfl, hx2⟩
      rw [rs_l h2] at hx2
      refine wp_ret ⟨okall_rs ok1 h2, trel_rs hk t1 h2 (by omega), oc_tr oc1s (oc_mono (oc_xin hTN h2) (fun k q => Or.inr q)), Or.inr (Or.inr (Or.inr ⟨nb1, nb2, ys, ⟨hys, by omega⟩, ⟨x, rfl, hx2⟩, ctx_rs hTN cx1 h2⟩))⟩
  · refine wp_ifeq (fun _ => wp_ret ⟨ok1, t1, oc1s, Or.inr (Or.inr (Or.inl ⟨nb1, nb2, fun zs hz => ?_, rfl, cx1⟩))⟩) (fun q => by omega)
    have := hz.1; rw [hno] at this; cases this
def lsp (tab : Nat → Int) (xs ys : List Int) (r : Int) : Prop := ∃ a b, fsp tab 3 xs = some a ∧ fsp tab 3 ys = some b ∧ r = if a = b then 1 else 0
theorem k_looksLike {w : Wd} {tab : Nat → Int} {txt : Nat → List Int} {s t : Int32} (hk : tok tab) (h : trel w 1 tab) (ho : okall w) (hx : ctx w txt) (hkx : xok txt) :
    Wp (f_X10_looksLike s t w) (fun r w' => okall w' ∧ trel w' 1 tab ∧ oc scr w w' ∧
      ((bad_two s.toInt t.toInt ∧ r = .inl 1) ∨ (¬ bad_two s.toInt t.toInt ∧ (fsp tab 3 (txt s.toInt.toNat) = none ∨ fsp tab 3 (txt t.toInt.toNat) = none) ∧ r = .inl 3) ∨
      (¬ bad_two s.toInt t.toInt ∧ ∃ x : Int32, r = .inr x ∧ lsp tab (txt s.toInt.toNat) (txt t.toInt.toNat) x.toInt))) := by
  have L := LIT
  unfold f_X10_looksLike f_X10_looksLike_48 f_X10_looksLike_49
  simp only [e_textOf, bdx_c]
  refine wp_if (fun hs => ?_) (fun hs => wp_ret ⟨ho, h, oc_rf, Or.inl ⟨fun q => hs q.1, rfl⟩⟩)
  refine wp_if (fun hT => ?_) (fun hT => wp_ret ⟨ho, h, oc_rf, Or.inl ⟨fun q => hT q.2, rfl⟩⟩)
  have nb1 : ¬ bad_two s.toInt t.toInt := fun q => q ⟨hs, hT⟩
  have hsN := slot_lt hs
  have hTN := slot_lt hT
  have Y := hkx _ hsN
  have Z := hkx _ hTN
  have e0 : f_X10_checkForm (0 : Int32) = fun w => some (.inl 3, w) := rfl
  have e1 : f_X10_checkForm (1 : Int32) = fun w => some (.inr (), w) := rfl
  simp only [e0, e1, bdx_l, bdx_r]
  refine wp_bd (s_skeletonInto (into := 699) hk h ho (slot_kd _ hsN).1 row_wide.1.1 (by omega) (by omega) row_wide.1.2 (hx _ hsN) Y.2 Y.1) ?_
  rintro r w1 ⟨ok1, t1, oc1, hr⟩
  have oc1' := oc_scr oc1 (by omega)
  have cx1 : ctx w1 txt := ctx_fr hx (fun k a b => oc1'.1 k (by unfold scr; omega))
  rcases hr with ⟨rfl, a, ha, hra⟩ | ⟨rfl, hno⟩
  · refine wp_ifeq (fun q => by omega) (fun _ => ?_)
    refine wp_bd (s_skeletonInto (into := 701) hk t1 ok1 (slot_kd _ hTN).1 row_wide.2.1 (by omega) (by omega) row_wide.2.2 (cx1 _ hTN) Z.2 Z.1) ?_
    rintro r2 w2 ⟨ok2, t2, oc2, hr2⟩
    have oc2' := oc_tr oc1' (oc_scr oc2 (by omega))
    rcases hr2 with ⟨rfl, b, hb, hrb⟩ | ⟨rfl, hno⟩
    · refine wp_ifeq (fun q => by omega) (fun _ => ?_)
      have ra : rl w2 699 = a := by rw [rl_fr (oc2.1 699 (by unfold fcl2; omega)) (oc2.1 (699 + 1) (by unfold fcl2; omega)), hra]
      refine wp_bd (s_isLike (ok2 _ row_wide.1.1) (ok2 _ row_wide.2.1)) ?_
      rintro x _ ⟨rfl, hxx⟩
      rw [ra, hrb] at hxx
      refine wp_ret ⟨ok2, t2, oc2', Or.inr (Or.inr ⟨nb1, x, rfl, a, b, ha, hb, ?_⟩)⟩
      rcases hxx with ⟨rfl, e⟩ | ⟨rfl, e⟩
      · rw [if_pos e]; exact L.2.1
      · rw [if_neg e]; exact L.1
    · exact wp_ifeq (fun _ => wp_ret ⟨ok2, t2, oc2', Or.inr (Or.inl ⟨nb1, Or.inr hno, rfl⟩)⟩) (fun q => by omega)
  · exact wp_ifeq (fun _ => wp_ret ⟨ok1, t1, oc1', Or.inr (Or.inl ⟨nb1, Or.inl hno, rfl⟩)⟩) (fun q => by omega)
/-! the reference's -/
def fwk (f : Nat) : Prop := f = 0 ∨ f = 11 ∨ f = 12 ∨ f = 14
