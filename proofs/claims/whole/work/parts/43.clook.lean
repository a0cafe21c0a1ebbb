/-! ===== form, looksLike ===== -/
def scr (k : Nat) : Prop := (639 ≤ k ∧ k < 674) ∨ (692 ≤ k ∧ k < 713)
theorem oc_scr {w w' : Wd} {into : Nat} (h : oc (fcl2 into) w w') (hi : 692 ≤ into ∧ into < 712) : oc scr w w' := oc_mono h (fun k hk => by unfold fcl2 at hk; unfold scr; omega)
theorem row_wide : (KD 699 = 7 ∧ LEN (699 + 1) = 80) ∧ (KD 701 = 7 ∧ LEN (701 + 1) = 80) := by decide +kernel
theorem slot_lt {s : Int32} (hs : 0 ≤ s.toInt ∧ s.toInt ≤ 5) : s.toInt.toNat < 6 := by omega
def bad_two (a b : Int) : Prop := ¬ ((0 ≤ a ∧ a ≤ 5) ∧ (0 ≤ b ∧ b ≤ 5))
def bad_f (f : Int) : Prop := ¬ (0 ≤ f ∧ f ≤ 3)
/-- a form that can be put into a slot -/
def okf (o : Option (List Int)) (ys : List Int) : Prop := o = some ys ∧ ys.length ≤ 40
theorem k_form {w : Wd} {tab : Nat → Int} {txt : Nat → List Int} {s f t : Int32} (hk : tok tab) (h : trel w 1 tab) (ho : okall w) (hx : ctx w txt) (hkx : xok txt) :
    Wp (f_X10_form s f t w) (fun r w' => okall w' ∧ trel w' 1 tab ∧ oc (fun k => scr k ∨ xin k) w w' ∧
      ((bad_two s.toInt t.toInt ∧ r = .inl 1 ∧ ctx w' txt) ∨ (¬ bad_two s.toInt t.toInt ∧ bad_f f.toInt ∧ r = .inl 2 ∧ ctx w' txt) ∨
      (¬ bad_two s.toInt t.toInt ∧ ¬ bad_f f.toInt ∧ (∀ ys, ¬ okf (fsp tab f.toInt (txt s.toInt.toNat)) ys) ∧ r = .inl 3 ∧ ctx w' txt) ∨
      (¬ bad_two s.toInt t.toInt ∧ ¬ bad_f f.toInt ∧ ∃ ys, okf (fsp tab f.toInt (txt s.toInt.toNat)) ys ∧ (∃ x : Int32, r = .inr x ∧ x.toInt = ys.length) ∧ ctx w' (xset txt t.toInt.toNat ys)))) := by
  have L := LIT
  have e40 : (40 : Int32).toInt = 40 := by decide
  unfold f_X10_form f_X10_form_56 f_X10_form_57
  simp only [e_textOf, e_isWithin, bd_r, e_checkArgument, bdx_c]
  refine wp_if (fun hs => ?_) (fun hs => wp_ret ⟨ho, h, oc_rf, Or.inl ⟨fun q => hs q.1, rfl, hx⟩⟩)
  refine wp_if (fun hT => ?_) (fun hT => wp_ret ⟨ho, h, oc_rf, Or.inl ⟨fun q => hT q.2, rfl, hx⟩⟩)
  have nb1 : ¬ bad_two s.toInt t.toInt := fun q => q ⟨hs, hT⟩
  rw [L.1, L.2.2.2.2.1]
  refine wp_if (fun hf => ?_) (fun hf => wp_ret ⟨ho, h, oc_rf, Or.inr (Or.inl ⟨nb1, hf, rfl, hx⟩)⟩)
  have nb2 : ¬ bad_f f.toInt := fun q => q hf
  have hsN := slot_lt hs
  have hTN := slot_lt hT
  have Y := hkx _ hsN
  refine wp_bd (s_formInto (into := 699) hk h ho (slot_kd _ hsN).1 row_wide.1.1 (by omega) (by omega) row_wide.1.2 (hx _ hsN) Y.2 Y.1 hf) ?_
  rintro r w1 ⟨ok1, t1, oc1, hr⟩
  have oc1' := oc_scr oc1 (by omega)
  have cx1 : ctx w1 txt := ctx_fr hx (fun k a b => oc1'.1 k (by unfold scr; omega))
  have oc1s : oc (fun k => scr k ∨ xin k) w w1 := oc_mono oc1' (fun k q => Or.inl q)
  have e0 : f_X10_checkForm (0 : Int32) = fun w => some (.inl 3, w) := rfl
  have e1 : f_X10_checkForm (1 : Int32) = fun w => some (.inr (), w) := rfl
  simp only [e0, e1, bdx_l, bdx_r]
  rcases hr with ⟨rfl, ys, hys, hrl⟩ | ⟨rfl, hno⟩
  · refine wp_ifeq (fun q => by omega) (fun _ => ?_)
    refine wp_bd (s_size (ok1 _ row_wide.1.1)) ?_
    rintro n _ ⟨rfl, hn⟩
    rw [hrl] at hn
    refine wp_iflt (fun q => wp_ret ⟨ok1, t1, oc1s, Or.inr (Or.inr (Or.inl ⟨nb1, nb2, fun zs hz => ?_, rfl, cx1⟩))⟩) (fun q => ?_)
    · have := hz.1; rw [hys] at this; cases this
      have := hz.2; omega
    · have KT := slot_kd _ hTN
      refine wp_bd (s_takeOver (ok1 _ KT.1) (ok1 _ row_wide.1.1) (by rw [hrl, KT.2]; omega)) ?_
      rintro _ w2 h2
      rw [hrl] at h2
      refine wp_bd (s_size (okall_rs ok1 h2 _ KT.1)) ?_
      rintro x _ ⟨rfl, hx2⟩
      rw [rs_l h2] at hx2
      refine wp_ret ⟨okall_rs ok1 h2, trel_rs hk t1 h2 (by omega), oc_tr oc1s (oc_mono (oc_xin hTN h2) (fun k q => Or.inr q)), Or.inr (Or.inr (Or.inr ⟨nb1, nb2, ys, ⟨hys, by omega⟩, ⟨x, rfl, hx2⟩, ctx_rs hTN cx1 h2⟩))⟩
  · refine wp_ifeq (fun _ => wp_ret ⟨ok1, t1, oc1s, Or.inr (Or.inr (Or.inl ⟨nb1, nb2, fun zs hz => ?_, rfl, cx1⟩))⟩) (fun q => by omega)
    have := hz.1; rw [hno] at this; cases this
def lsp (tab : Nat → Int) (xs ys : List Int) (r : Int) : Prop := ∃ a b, fsp tab 3 xs = some a ∧ fsp tab 3 ys = some b ∧ r = if a = b then 1 else 0
theorem k_looksLike {w : Wd} {tab : Nat → Int} {txt : Nat → List Int} {s t : Int32} (hk : tok tab) (h : trel w 1 tab) (ho : okall w) (hx : ctx w txt) (hkx : xok txt) :
    Wp (f_X10_looksLike s t w) (fun r w' => okall w' ∧ trel w' 1 tab ∧ oc scr w w' ∧
      ((bad_two s.toInt t.toInt ∧ r = .inl 1) ∨ (¬ bad_two s.toInt t.toInt ∧ (fsp tab 3 (txt s.toInt.toNat) = none ∨ fsp tab 3 (txt t.toInt.toNat) = none) ∧ r = .inl 3) ∨
      (¬ bad_two s.toInt t.toInt ∧ ∃ x : Int32, r = .inr x ∧ lsp tab (txt s.toInt.toNat) (txt t.toInt.toNat) x.toInt))) := by
  have L := LIT
  unfold f_X10_looksLike f_X10_looksLike_48 f_X10_looksLike_49
  simp only [e_textOf, bdx_c]
  refine wp_if (fun hs => ?_) (fun hs => wp_ret ⟨ho, h, oc_rf, Or.inl ⟨fun q => hs q.1, rfl⟩⟩)
  refine wp_if (fun hT => ?_) (fun hT => wp_ret ⟨ho, h, oc_rf, Or.inl ⟨fun q => hT q.2, rfl⟩⟩)
  have nb1 : ¬ bad_two s.toInt t.toInt := fun q => q ⟨hs, hT⟩
  have hsN := slot_lt hs
  have hTN := slot_lt hT
  have Y := hkx _ hsN
  have Z := hkx _ hTN
  have e0 : f_X10_checkForm (0 : Int32) = fun w => some (.inl 3, w) := rfl
  have e1 : f_X10_checkForm (1 : Int32) = fun w => some (.inr (), w) := rfl
  simp only [e0, e1, bdx_l, bdx_r]
  refine wp_bd (s_skeletonInto (into := 699) hk h ho (slot_kd _ hsN).1 row_wide.1.1 (by omega) (by omega) row_wide.1.2 (hx _ hsN) Y.2 Y.1) ?_
  rintro r w1 ⟨ok1, t1, oc1, hr⟩
  have oc1' := oc_scr oc1 (by omega)
  have cx1 : ctx w1 txt := ctx_fr hx (fun k a b => oc1'.1 k (by unfold scr; omega))
  rcases hr with ⟨rfl, a, ha, hra⟩ | ⟨rfl, hno⟩
  · refine wp_ifeq (fun q => by omega) (fun _ => ?_)
    refine wp_bd (s_skeletonInto (into := 701) hk t1 ok1 (slot_kd _ hTN).1 row_wide.2.1 (by omega) (by omega) row_wide.2.2 (cx1 _ hTN) Z.2 Z.1) ?_
    rintro r2 w2 ⟨ok2, t2, oc2, hr2⟩
    have oc2' := oc_tr oc1' (oc_scr oc2 (by omega))
    rcases hr2 with ⟨rfl, b, hb, hrb⟩ | ⟨rfl, hno⟩
    · refine wp_ifeq (fun q => by omega) (fun _ => ?_)
      have ra : rl w2 699 = a := by rw [rl_fr (oc2.1 699 (by unfold fcl2; omega)) (oc2.1 (699 + 1) (by unfold fcl2; omega)), hra]
      refine wp_bd (s_isLike (ok2 _ row_wide.1.1) (ok2 _ row_wide.2.1)) ?_
      rintro x _ ⟨rfl, hxx⟩
      rw [ra, hrb] at hxx
      refine wp_ret ⟨ok2, t2, oc2', Or.inr (Or.inr ⟨nb1, x, rfl, a, b, ha, hb, ?_⟩)⟩
      rcases hxx with ⟨rfl, e⟩ | ⟨rfl, e⟩
      · rw [if_pos e]; exact L.2.1
      · rw [if_neg e]; exact L.1
    · exact wp_ifeq (fun _ => wp_ret ⟨ok2, t2, oc2', Or.inr (Or.inl ⟨nb1, Or.inr hno, rfl⟩)⟩) (fun q => by omega)
  · exact wp_ifeq (fun _ => wp_ret ⟨ok1, t1, oc1', Or.inr (Or.inl ⟨nb1, Or.inl hno, rfl⟩)⟩) (fun q => by omega)
/-! the reference's -/
def fwk (f : Nat) : Prop := f = 0 ∨ f = 11 ∨ f = 12 ∨ f = 14
def owk (k : Nat) : Prop := k = 720 ∨ k = 721 ∨ k = 716 ∨ k = 717
theorem rcg_wk2 {w w' : Wd} (h : rcg wkf wko w w') : rcg fwk owk w w' :=
  rcg_mono h (fun k hk => hk.elim (fun e => Or.inr (Or.inl e)) (fun e => Or.inr (Or.inr (Or.inl e)))) (fun k hk => Or.inl hk)
theorem r_form {w : Wd} {tab : Nat → Int} {txt : Nat → List Int} {s f t : Int32} (hk : tok tab) (ht : rtab w = tab) (hx : rtx w txt) (hkx : xok txt) :
    Wp (f_X11_form s f t w) (fun r w' => rcg fwk owk w w' ∧ ((bad_two s.toInt t.toInt ∧ (w'.1 713 0).toInt = 1 ∧ rtx w' txt) ∨ (¬ bad_two s.toInt t.toInt ∧ bad_f f.toInt ∧ (w'.1 713 0).toInt = 2 ∧ rtx w' txt) ∨
      (¬ bad_two s.toInt t.toInt ∧ ¬ bad_f f.toInt ∧ (∀ ys, ¬ okf (fsp tab f.toInt (txt s.toInt.toNat)) ys) ∧ (w'.1 713 0).toInt = 3 ∧ rtx w' txt) ∨
      (¬ bad_two s.toInt t.toInt ∧ ¬ bad_f f.toInt ∧ (w'.1 713 0).toInt = 0 ∧ ∃ ys, okf (fsp tab f.toInt (txt s.toInt.toNat)) ys ∧ r.toInt = ys.length ∧ rtx w' (xset txt t.toInt.toNat ys)))) := by
  have L := LIT
  have e40 : (40 : Int32).toInt = 40 := by decide
  unfold f_X11_form f_X11_form_18 f_X11_form_19 f_X11_form_39 f_X11_form_40 f_X11_form_69 f_X11_form_70 f_X11_form_101
  simp only [e_in, e_isSlot, e_holds, bd_r, ite_zo, c01, if_true, if_false]
  have fr : ∀ (u : Wd) x, rtx u txt → rtx (setI u 713 0 x) txt := fun u x hu => rtx_fr hu (by funext b; rw [setI_at, if_neg (by omega)]) (by funext b; rw [setI_at, if_neg (by omega)])
  have thu : ∀ (u : Wd) (x : Int32), (setI u 713 0 x).1 713 0 = x := fun u x => by rw [setI_at, if_pos (by decide)]
  refine wp_if (fun hs => ?_) (fun hs => wp_ret ⟨rcg_fld (Or.inl rfl), Or.inl ⟨fun q => hs q.1, by rw [thu]; exact L.2.1, fr w 1 hx⟩⟩)
  refine wp_if (fun hT => ?_) (fun hT => wp_ret ⟨rcg_fld (Or.inl rfl), Or.inl ⟨fun q => hT q.2, by rw [thu]; exact L.2.1, fr w 1 hx⟩⟩)
  have nb1 : ¬ bad_two s.toInt t.toInt := fun q => q ⟨hs, hT⟩
  rw [L.1, L.2.2.2.2.1]
  refine wp_if (fun hf => ?_) (fun hf => wp_ret ⟨rcg_fld (Or.inl rfl), Or.inr (Or.inl ⟨nb1, hf, by rw [thu]; exact L.2.2.2.1, fr w 2 hx⟩)⟩)
  have nb2 : ¬ bad_f f.toInt := fun q => q hf
  refine wp_bd (s_formed hk ht hx hkx hs hf) ?_
  rintro x1 w1 ⟨r1, hr⟩
  have x1r := rtx_wk hx r1
  have no : (∀ ys, ¬ okf (fsp tab f.toInt (txt s.toInt.toNat)) ys) → Wp (some ((0 : Int32), setI w1 713 0 3)) (fun r w' => rcg fwk owk w w' ∧ ((bad_two s.toInt t.toInt ∧ (w'.1 713 0).toInt = 1 ∧ rtx w' txt) ∨ (¬ bad_two s.toInt t.toInt ∧ bad_f f.toInt ∧ (w'.1 713 0).toInt = 2 ∧ rtx w' txt) ∨
      (¬ bad_two s.toInt t.toInt ∧ ¬ bad_f f.toInt ∧ (∀ ys, ¬ okf (fsp tab f.toInt (txt s.toInt.toNat)) ys) ∧ (w'.1 713 0).toInt = 3 ∧ rtx w' txt) ∨
      (¬ bad_two s.toInt t.toInt ∧ ¬ bad_f f.toInt ∧ (w'.1 713 0).toInt = 0 ∧ ∃ ys, okf (fsp tab f.toInt (txt s.toInt.toNat)) ys ∧ r.toInt = ys.length ∧ rtx w' (xset txt t.toInt.toNat ys)))) :=
    fun hno => wp_ret ⟨rcg_tr (rcg_wk2 r1) (rcg_fld (Or.inl rfl)), Or.inr (Or.inr (Or.inl ⟨nb1, nb2, hno, by rw [thu]; exact L.2.2.2.2.1, fr w1 3 x1r⟩))⟩
  rcases hr with ⟨rfl, ys, hys, hw⟩ | ⟨rfl, hno⟩
  · refine wp_ifeq (fun q => by omega) (fun _ => wp_iflt (fun q => no (fun zs hz => ?_)) (fun q => ?_))
    · rw [hw.1] at q
      have := hz.1; rw [hys] at this; cases this
      have := hz.2; omega
    · rw [hw.1] at q
      have e11 : (setI w1 713 0 0).1 713 11 = w1.1 713 11 := by rw [setI_at, if_neg (by omega)]
      rw [e11]
      have h7 : LEN 717 = 6 := LENs.2.2.2.2.2.1
      have h6 : LEN 716 = 240 := LENs.2.2.2.2.1
      refine wp_ast (by omega) ?_
      have hTN := slot_lt hT
      have Yt := hkx _ hTN
      have R2 : rcg fwk owk w (setI (setI w1 713 0 0) 717 t.toInt.toNat (w1.1 713 11)) := rcg_tr (rcg_tr (rcg_wk2 r1) (rcg_fld (Or.inl rfl))) (rcg_set (by decide) (Or.inr (Or.inr (Or.inr rfl))))
      have W2 : rwk (setI (setI w1 713 0 0) 717 t.toInt.toNat (w1.1 713 11)) ys := rwk_fr hw (by rw [setI_at, if_neg (by omega), e11]) (by funext b; rw [setI_at, if_neg (by omega), setI_at, if_neg (by omega)])
      have Z2 : ((setI (setI w1 713 0 0) 717 t.toInt.toNat (w1.1 713 11)).1 713 0).toInt = 0 := by rw [setI_at, if_neg (by omega), thu]; exact L.1
      have X2 : ∀ k, k < 6 → (k ≠ t.toInt.toNat → ((setI (setI w1 713 0 0) 717 t.toInt.toNat (w1.1 713 11)).1 717 k).toInt = (txt k).length) ∧ (k = t.toInt.toNat → ((setI (setI w1 713 0 0) 717 t.toInt.toNat (w1.1 713 11)).1 717 k).toInt = ys.length) := by
        intro k hk6
        refine ⟨fun e => ?_, fun e => ?_⟩
        · rw [setI_at, if_neg (fun q => e q.2), setI_at, if_neg (by omega)]; exact (x1r k hk6).1
        · rw [setI_at, if_pos ⟨rfl, e⟩]; exact hw.1
      have S2 : ∀ k, k < 6 → ∀ j : Nat, j < (txt k).length → ((setI (setI w1 713 0 0) 717 t.toInt.toNat (w1.1 713 11)).1 716 (40 * k + j)).toInt = gt (txt k) j := fun k hk6 j hj => by
        rw [setI_at, if_neg (by omega), setI_at, if_neg (by omega)]; exact rtx_gt x1r hk6 hj
      generalize setI (setI w1 713 0 0) 717 t.toInt.toNat (w1.1 713 11) = W at *
      unfold f_X11_form_122
      refine wp_loop (fun (σ : Int32 × Int32 × Wd) => σ.1 = t ∧ 0 ≤ σ.2.1.toInt ∧ σ.2.1.toInt ≤ ys.length ∧ rcg fwk owk w σ.2.2 ∧ rwk σ.2.2 ys ∧ (σ.2.2.1 713 0).toInt = 0 ∧ σ.2.2.1 717 = W.1 717 ∧ (∀ k, k < 6 → k ≠ t.toInt.toNat → ∀ j : Nat, j < (txt k).length → (σ.2.2.1 716 (40 * k + j)).toInt = gt (txt k) j) ∧ (∀ j : Nat, j < σ.2.1.toInt → (σ.2.2.1 716 (40 * t.toInt.toNat + j)).toInt = gt ys j)) (fun (σ : Int32 × Int32 × Wd) => ys.length - σ.2.1.toInt.toNat) ?_ FU _
        ⟨rfl, by dsimp only; omega, by dsimp only; omega, R2, W2, Z2, rfl, fun k hk6 _ => S2 k hk6, fun j hj => by dsimp only at hj; omega⟩ (by rw [FUv]; dsimp only; omega)
      rintro rc ⟨t', k, u⟩ ⟨e1, g0, g1, hr, hw2, hz, h717, hoth, hg⟩ ih
      dsimp only at e1 g0 g1 hr hw2 hz h717 hoth hg
      subst e1
      show Wp (g_X11_form_122 rc t' k u) _
      unfold g_X11_form_122
      refine wp_ifle (fun q2 => ?_) (fun q2 => ?_)
      · rw [hw2.1] at q2
        refine wp_ret ⟨hr, Or.inr (Or.inr (Or.inr ⟨nb1, nb2, hz, ys, ⟨hys, by omega⟩, hw2.1, fun m hm => ?_⟩))⟩
        unfold xset
        rw [h717]
        by_cases e : m = t'.toInt.toNat
        · rw [if_pos e]
          refine ⟨(X2 m hm).2 e, ?_⟩
          refine gt_ext (sg_len _ _ _ _) (fun j hj => ?_)
          rw [sg_len] at hj
          rw [gt_nat, sg_getD hj, e]
          exact hg j (by omega)
        · rw [if_neg e]
          refine ⟨(X2 m hm).1 e, ?_⟩
          refine gt_ext (sg_len _ _ _ _) (fun j hj => ?_)
          rw [sg_len] at hj
          rw [gt_nat, sg_getD hj]
          exact hoth m hm e j hj
      · rw [hw2.1] at q2
        have a1 := i_40 hT (k := k) (by omega)
        refine wp_ald (by rw [L720]; omega) (wp_ast (by omega) (wp_add (by omega) (fun z hz2 => ?_)))
        have vx : (u.1 720 k.toInt.toNat).toInt = gt ys (k.toInt.toNat : Nat) := rwk_at hw2 (by omega)
        refine ih (t', z, _) ⟨rfl, by dsimp only; omega, by dsimp only; omega, rcg_tr hr (rcg_set (by decide) (Or.inr (Or.inr (Or.inl rfl)))), rwk_fr hw2 (by rw [setI_at, if_neg (by omega)]) (by funext b; rw [setI_at, if_neg (by omega)]), by dsimp only; rw [setI_at, if_neg (by omega)]; exact hz, by dsimp only; rw [← h717]; funext b; rw [setI_at, if_neg (by omega)], fun m hm e j hj => ?_, fun j hj => ?_⟩ (by dsimp only; omega)
        · dsimp only
          have := (hkx m hm).1
          rw [setI_at, if_neg (by omega)]; exact hoth m hm e j hj
        · dsimp only at hj ⊢
          rw [setI_at]
          by_cases c : j = k.toInt.toNat
          · rw [if_pos ⟨rfl, by omega⟩, vx, c]
          · rw [if_neg (by omega)]; exact hg j (by omega)
  · refine wp_ifeq (fun _ => no (fun zs hz => ?_)) (fun q => by omega)
    have := hz.1; rw [hno] at this; cases this
/-- the row that is put aside -/
def ras (w : Wd) (xs : List Int) : Prop := (w.1 713 14).toInt = xs.length ∧ ∀ k : Nat, k < xs.length → (w.1 721 k).toInt = gt xs k
theorem L721 : LEN 721 = 100 := LENs.2.2.2.2.2.2.2.2.2.1
theorem s_putsAside {w : Wd} {xs : List Int} (h : rwk w xs) (h80 : xs.length ≤ 80) : Wp (f_X11_putsAside w) (fun _ w' => rcg (fun f => f = 14) (fun k => k = 721) w w' ∧ ras w' xs) := by
  have L := LIT
  unfold f_X11_putsAside wr
  unfold f_X11_putsAside_10
  refine wp_loop (fun (σ : Int32 × Wd) => 0 ≤ σ.1.toInt ∧ σ.1.toInt ≤ xs.length ∧ rcg (fun f => f = 14) (fun k => k = 721) w σ.2 ∧ (σ.2.1 713 14).toInt = xs.length ∧ ∀ k : Nat, k < σ.1.toInt → (σ.2.1 721 k).toInt = gt xs k) (fun (σ : Int32 × Wd) => xs.length - σ.1.toInt.toNat) ?_ FU _
    ⟨by dsimp only; omega, by dsimp only; omega, rcg_fld rfl, by dsimp only; rw [setI_at, if_pos (by decide)]; exact h.1, fun k hk => by dsimp only at hk; omega⟩ (by rw [FUv]; dsimp only; omega)
  rintro rc ⟨k, u⟩ ⟨g0, g1, hr, hn, hg⟩ ih
  dsimp only at g0 g1 hr hn hg
  show Wp (g_X11_putsAside_10 rc k u) _
  unfold g_X11_putsAside_10
  have hw : rwk u xs := rwk_fr h (hr.2.1 11 (by decide)) (hr.1 720 (by decide) (by decide))
  refine wp_ifle (fun q => wp_ret ⟨hr, hn, fun j hj => hg j (by rw [hw.1] at q; omega)⟩) (fun q => ?_)
  rw [hw.1] at q
  refine wp_ald (by rw [L720]; omega) (wp_ast (by rw [L721]; omega) (wp_add (by omega) (fun z hz => ?_)))
  refine ih (z, _) ⟨by dsimp only; omega, by dsimp only; omega, rcg_tr hr (rcg_set (by decide) rfl), by dsimp only; rw [setI_at, if_neg (by omega)]; exact hn, fun j hj => ?_⟩ (by dsimp only; omega)
  dsimp only at hj ⊢
  rw [setI_at]
  by_cases c : j = k.toInt.toNat
  · rw [if_pos ⟨rfl, c⟩, rwk_at hw (by omega), c]
  · rw [if_neg (fun q => c q.2)]; exact hg j (by omega)
theorem s_isAside {w : Wd} {xs ys : List Int} (h : rwk w xs) (ha : ras w ys) (h80 : xs.length ≤ 80) : Wp (f_X11_isAside w) (fun r w' => w = w' ∧ ((r = 1 ∧ xs = ys) ∨ (r = 0 ∧ xs ≠ ys))) := by
  have L := LIT
  unfold f_X11_isAside f_X11_isAside_16
  have loop : ∀ x : Int32, (x = 1 ∧ xs.length = ys.length) ∨ (x = 0 ∧ xs ≠ ys) → Wp (f_X11_isAside_19 x 0 w) (fun r w' => w = w' ∧ ((r = 1 ∧ xs = ys) ∨ (r = 0 ∧ xs ≠ ys))) := by
    intro x hx
    unfold f_X11_isAside_19
    refine wp_loop (fun (σ : Int32 × Int32 × Wd) => σ.2.2 = w ∧ 0 ≤ σ.2.1.toInt ∧ σ.2.1.toInt ≤ xs.length ∧ ((σ.1 = 1 ∧ xs.length = ys.length ∧ ∀ k : Nat, k < σ.2.1.toInt → gt xs k = gt ys k) ∨ (σ.1 = 0 ∧ xs ≠ ys))) (fun (σ : Int32 × Int32 × Wd) => xs.length - σ.2.1.toInt.toNat) ?_ FU _
      ⟨rfl, by dsimp only; omega, by dsimp only; omega, hx.elim (fun q => Or.inl ⟨q.1, q.2, fun k hk => by dsimp only at hk; omega⟩) Or.inr⟩ (by rw [FUv]; dsimp only; omega)
    rintro rc ⟨m, k, u⟩ ⟨e1, g0, g1, hm⟩ ih
    dsimp only at e1 g0 g1 hm
    subst e1
    show Wp (g_X11_isAside_19 rc m k u) _
    unfold g_X11_isAside_19
    refine wp_ifle (fun q => ?_) (fun q => ?_)
    · rw [h.1] at q
      rcases hm with ⟨rfl, e, g⟩ | ⟨rfl, e⟩
      · exact wp_ret ⟨rfl, Or.inl ⟨rfl, gt_ext e (fun j hj => g j (by omega))⟩⟩
      · exact wp_ret ⟨rfl, Or.inr ⟨rfl, e⟩⟩
    · rw [h.1] at q
      rcases hm with ⟨rfl, e, g⟩ | ⟨rfl, e⟩
      · refine wp_ifeq (fun q2 => by omega) (fun _ => ?_)
        refine wp_ald (by rw [L720]; omega) (wp_ald (by rw [L721]; omega) ?_)
        have v1 := rwk_at h (k := k.toInt.toNat) (by omega)
        have v2 := ha.2 k.toInt.toNat (by omega)
        refine wp_ifeq (fun q3 => wp_add (by omega) (fun z hz => ?_)) (fun q3 => wp_add (by omega) (fun z hz => ?_))
        · refine ih (1, z, u) ⟨rfl, by dsimp only; omega, by dsimp only; omega, Or.inl ⟨rfl, e, fun j hj => ?_⟩⟩ (by dsimp only; omega)
          dsimp only at hj
          by_cases c : j = k.toInt.toNat
          · rw [c]; omega
          · exact g j (by omega)
        · refine ih (0, z, u) ⟨rfl, by dsimp only; omega, by dsimp only; omega, Or.inr ⟨rfl, fun c => q3 ?_⟩⟩ (by dsimp only; omega)
          rw [v1, v2, c]
      · exact wp_ifeq (fun _ => wp_ret ⟨rfl, Or.inr ⟨rfl, e⟩⟩) (fun q2 => by omega)
  refine wp_ifeq (fun q => loop 1 (Or.inl ⟨rfl, ?_⟩)) (fun q => loop 0 (Or.inr ⟨rfl, fun c => q ?_⟩))
  · rw [ha.1, h.1] at q; omega
  · rw [ha.1, h.1, c]
theorem r_looksLike {w : Wd} {tab : Nat → Int} {txt : Nat → List Int} {s t : Int32} (hk : tok tab) (ht : rtab w = tab) (hx : rtx w txt) (hkx : xok txt) :
    Wp (f_X11_looksLike s t w) (fun r w' => rcg fwk (fun k => k = 720 ∨ k = 721) w w' ∧ ((bad_two s.toInt t.toInt ∧ (w'.1 713 0).toInt = 1) ∨ (¬ bad_two s.toInt t.toInt ∧ (fsp tab 3 (txt s.toInt.toNat) = none ∨ fsp tab 3 (txt t.toInt.toNat) = none) ∧ (w'.1 713 0).toInt = 2) ∨
      (¬ bad_two s.toInt t.toInt ∧ (w'.1 713 0).toInt = 0 ∧ lsp tab (txt s.toInt.toNat) (txt t.toInt.toNat) r.toInt))) := by
  have L := LIT
  unfold f_X11_looksLike f_X11_looksLike_18 f_X11_looksLike_19 f_X11_looksLike_37 f_X11_looksLike_38 f_X11_looksLike_57 f_X11_looksLike_76
  simp only [e_isSlot, e_holds, bd_r, ite_zo, c01, if_true, if_false]
  have thu : ∀ (u : Wd) (x : Int32), (setI u 713 0 x).1 713 0 = x := fun u x => by rw [setI_at, if_pos (by decide)]
  refine wp_if (fun hs => ?_) (fun hs => wp_ret ⟨rcg_fld (Or.inl rfl), Or.inl ⟨fun q => hs q.1, by rw [thu]; exact L.2.1⟩⟩)
  refine wp_if (fun hT => ?_) (fun hT => wp_ret ⟨rcg_fld (Or.inl rfl), Or.inl ⟨fun q => hT q.2, by rw [thu]; exact L.2.1⟩⟩)
  have nb1 : ¬ bad_two s.toInt t.toInt := fun q => q ⟨hs, hT⟩
  have up : ∀ {u v : Wd}, rcg wkf wko u v → rcg fwk (fun k => k = 720 ∨ k = 721) u v := fun hr => rcg_mono hr (fun k hk => hk.elim (fun e => Or.inr (Or.inl e)) (fun e => Or.inr (Or.inr (Or.inl e)))) (fun k hk => Or.inl hk)
  have e3 : (3 : Int32).toInt = 3 := by decide
  refine wp_bd (s_formed (f := 3) hk ht hx hkx hs (by omega)) ?_
  rintro x1 w1 ⟨r1, hr⟩
  rw [e3] at hr
  rcases hr with ⟨rfl, a, ha, hw⟩ | ⟨rfl, hno⟩
  · refine wp_ifeq (fun q => by omega) (fun _ => ?_)
    have A := fsp_ok hk (hkx _ (slot_lt hs)).2 ha
    refine wp_bd (s_putsAside hw A.2) ?_
    rintro _ w2 ⟨r2, as2⟩
    have R2 : rcg fwk (fun k => k = 720 ∨ k = 721) w w2 := rcg_tr (up r1) (rcg_mono r2 (fun k hk => Or.inr (Or.inr (Or.inr hk))) (fun k hk => Or.inr hk))
    have x2 : rtx w2 txt := rtx_fr (rtx_wk hx r1) (r2.1 716 (by decide) (by decide)) (r2.1 717 (by decide) (by decide))
    have t2 : rtab w2 = tab := by rw [rtab_fr (r2.1 714 (by decide) (by decide)), rtab_wk r1, ht]
    refine wp_bd (s_formed (f := 3) hk t2 x2 hkx hT (by omega)) ?_
    rintro x3 w3 ⟨r3, hr3⟩
    rw [e3] at hr3
    have R3 := rcg_tr R2 (up r3)
    rcases hr3 with ⟨rfl, b, hb, hw3⟩ | ⟨rfl, hno⟩
    · refine wp_ifeq (fun q => by omega) (fun _ => ?_)
      have B := fsp_ok hk (hkx _ (slot_lt hT)).2 hb
      have as3 : ras (setI w3 713 0 0) a := by
        refine ⟨?_, fun k hk => ?_⟩
        · rw [setI_at, if_neg (by omega), r3.2.1 14 (by unfold wkf; omega)]; exact as2.1
        · rw [setI_at, if_neg (by omega), r3.1 721 (by decide) (by unfold wko; decide)]; exact as2.2 k hk
      have hw4 : rwk (setI w3 713 0 0) b := rwk_fr hw3 (by rw [setI_at, if_neg (by omega)]) (by funext c; rw [setI_at, if_neg (by omega)])
      refine wp_bd (s_isAside hw4 as3 B.2) ?_
      rintro y _ ⟨rfl, hy⟩
      have R4 : rcg fwk (fun k => k = 720 ∨ k = 721) w (setI w3 713 0 0) := rcg_tr R3 (rcg_fld (Or.inl rfl))
      rcases hy with ⟨rfl, e⟩ | ⟨rfl, e⟩
      · exact wp_ifeq (fun q => by omega) (fun _ => wp_ret ⟨R4, Or.inr (Or.inr ⟨nb1, by rw [thu]; exact L.1, a, b, ha, hb, by rw [if_pos e.symm]; exact L.2.1⟩)⟩)
      · exact wp_ifeq (fun _ => wp_ret ⟨R4, Or.inr (Or.inr ⟨nb1, by rw [thu]; exact L.1, a, b, ha, hb, by rw [if_neg (fun q => e q.symm)]; exact L.1⟩)⟩) (fun q => by omega)
    · exact wp_ifeq (fun _ => wp_ret ⟨rcg_tr R3 (rcg_fld (Or.inl rfl)), Or.inr (Or.inl ⟨nb1, Or.inr hno, by rw [thu]; exact L.2.2.2.1⟩)⟩) (fun q => by omega)
  · exact wp_ifeq (fun _ => wp_ret ⟨rcg_tr (up r1) (rcg_fld (Or.inl rfl)), Or.inr (Or.inl ⟨nb1, Or.inl hno, by rw [thu]; exact L.2.2.2.1⟩)⟩) (fun q => by omega)
