/-! ===== find, the reference's ===== -/
theorem ras_wk {w w' : Wd} {ys : List Int} (h : ras w ys) (hr : rcg wkf wko w w') : ras w' ys := by
  refine ⟨?_, fun k hk => ?_⟩
  · rw [hr.2.1 14 (by unfold wkf; omega)]; exact h.1
  · rw [hr.1 721 (by decide) (by unfold wko; decide)]; exact h.2 k hk
theorem slc_len {l : List Int} {p e : Int} : (slc l p e).length ≤ l.length := by
  unfold slc
  rw [List.length_take, List.length_drop]; omega
theorem slc_let {l : List Int} {p e : Int} (h : lets l) : lets (slc l p e) := fun x hx => h x (List.mem_of_mem_drop (List.mem_of_mem_take hx))
theorem fl_slc {tab : Nat → Int} {l : List Int} {p e : Int} : (fl tab (slc l p e)).length ≤ (fl tab l).length := by
  have e1 : l = l.take p.toNat ++ (slc l p e ++ (l.drop p.toNat).drop (e - p).toNat) := by
    unfold slc
    rw [List.take_append_drop, List.take_append_drop]
  have e2 : (fl tab l).length = (fl tab (l.take p.toNat)).length + ((fl tab (slc l p e)).length + (fl tab ((l.drop p.toNat).drop (e - p).toNat)).length) := by
    rw [← List.length_append, ← List.length_append, ← fl_app, ← fl_app, ← e1]
  omega
theorem s_finds17 {w : Wd} {tab : Nat → Int} {txt : Nat → List Int} {ys : List Int} {v p : Int32} {A : Int} (hk : tok tab) (ht : rtab w = tab) (hx : rtx w txt) (hkx : xok txt) (hv : 0 ≤ v.toInt ∧ v.toInt ≤ 5) (hfl : (fl tab (txt v.toInt.toNat)).length ≤ 80) (ha : ras w ys)
    (hp : 0 ≤ p.toInt ∧ p.toInt < (txt v.toInt.toNat).length) (rc2 : Int32 × Int32 × Wd → Option (Int32 × Wd))
    (hn : ¬ (icl tab (txt v.toInt.toNat) p.toInt ∧ eF tab (txt v.toInt.toNat) ys p.toInt 50 (p.toInt + 1) ≠ -1) → ∀ (z : Int32) (u : Wd), z.toInt = p.toInt + 1 → rcg wkf wko w u → Wp (rc2 (v, z, u)) (fun r w' => rcg wkf wko w w' ∧ r.toInt = A))
    (hg : icl tab (txt v.toInt.toNat) p.toInt ∧ eF tab (txt v.toInt.toNat) ys p.toInt 50 (p.toInt + 1) ≠ -1 → A = 100 * p.toInt + eF tab (txt v.toInt.toNat) ys p.toInt 50 (p.toInt + 1))
    {i : Int32} {u0 : Wd} (hi : i.toInt = p.toInt + 1) (h0 : rcg wkf wko w u0) :
    Wp (f_X11_finds_17 rc2 v p i u0) (fun r w' => rcg wkf wko w w' ∧ r.toInt = A) := by
  have L := LIT
  have h100 : (100 : Int32).toInt = 100 := by decide
  have Y := hkx _ (slot_lt hv)
  have h40 := Y.1
  unfold f_X11_finds_17
  rw [FUv]
  refine wp_loop (fun σ : Int32 × Int32 × Int32 × Wd => σ.1 = v ∧ σ.2.1 = p ∧ rcg wkf wko w σ.2.2.2 ∧ p.toInt < σ.2.2.1.toInt ∧ σ.2.2.1.toInt ≤ (txt v.toInt.toNat).length + 1 ∧ ∃ k : Nat, eF tab (txt v.toInt.toNat) ys p.toInt k σ.2.2.1.toInt = eF tab (txt v.toInt.toNat) ys p.toInt 50 (p.toInt + 1) ∧ 42 - σ.2.2.1.toInt ≤ k)
    (fun σ => (42 - σ.2.2.1.toInt).toNat) ?_ 100000 _ ⟨rfl, rfl, h0, by dsimp only; omega, by dsimp only; omega, 50, by dsimp only; rw [hi], by dsimp only; omega⟩ (by dsimp only; omega)
  rintro rc ⟨v', p', j, u⟩ ⟨rfl, rfl, hu, hj, hj2, k, hk1, hk2⟩ ih
  dsimp only at hj hj2 hk1 hk2 hu hv hp hfl h40 Y hn hg ⊢
  unfold g_X11_finds_17
  have tu : rtab u = tab := (rtab_wk hu).trans ht
  have xu : rtx u txt := rtx_wk hx hu
  refine s_len xu hv (fun n hn1 => ?_)
  refine wp_iflt (fun q => wp_add (by omega) (fun z hz => hn (fun c => c.2 ?_) z u (by omega) hu)) (fun q => ?_)
  · rw [← hk1, eF_out (by omega)]
  obtain ⟨k', rfl⟩ : ∃ k', k = k' + 1 := ⟨k - 1, by omega⟩
  rw [eF_in (by omega)] at hk1
  refine wp_bd (r_isCluster tu xu hkx hv (by omega)) ?_
  rintro x _ ⟨rfl, rfl⟩
  rw [ite_zo]
  refine wp_if (fun c => ?_) (fun c => wp_add (by omega) (fun z hz => hn (fun q2 => c q2.1) z _ (by omega) hu))
  refine wp_bd (r_isEdge tu xu hkx hv (by omega)) ?_
  rintro x _ ⟨rfl, rfl⟩
  rw [ite_zo]
  have next : ∀ w1 : Wd, rcg wkf wko w w1 → ¬ fit tab (txt v'.toInt.toNat) ys p'.toInt j.toInt → ∀ y : Int32, y.toInt = j.toInt + (1 : Int32).toInt → Wp (rc (v', p', y, w1)) (fun r w' => rcg wkf wko w w' ∧ r.toInt = A) := by
    intro w1 hw1 nf y hy2
    rw [if_neg nf] at hk1
    have hy3 : y.toInt = j.toInt + 1 := by omega
    exact ih (v', p', y, w1) ⟨rfl, rfl, hw1, by dsimp only; omega, by dsimp only; omega, k', by dsimp only; rw [hy3]; exact hk1, by dsimp only; omega⟩ (by dsimp only; omega)
  refine wp_if (fun c2 => ?_) (fun c2 => wp_add (by omega) (fun y hy => next _ hu (fun f => c2 f.1) y hy))
  refine wp_bd (s_loads xu hkx hv (a := p') (b := j) (by omega) (by omega)) ?_
  rintro _ w1 ⟨r1, hw1, z1⟩
  have R1 := rcg_tr hu r1
  refine wp_bd (s_folds (xs := slc (txt v'.toInt.toNat) p'.toInt j.toInt) hk ((rtab_wk R1).trans ht) hw1 (slc_let Y.2) (Nat.le_trans slc_len h40) z1) ?_
  rintro _ w2 ⟨r2, h2⟩
  have R2 := rcg_tr R1 r2
  have fs := fl_slc (tab := tab) (l := txt v'.toInt.toNat) (p := p'.toInt) (e := j.toInt)
  rcases h2 with ⟨_, _, hw2⟩ | ⟨bad, _⟩
  · refine wp_bd (s_isAside hw2 (ras_wk ha R2) (Nat.le_trans (unm_len ..) (Nat.le_trans fs hfl))) ?_
    rintro x _ ⟨rfl, hy⟩
    rcases hy with ⟨rfl, e⟩ | ⟨rfl, e⟩
    · refine wp_ifeq (fun q => by omega) (fun _ => wp_ret ⟨R2, ?_⟩)
      rw [if_pos ⟨c2, e⟩] at hk1
      have m1 : ((100 : Int32) * p').toInt = 100 * p'.toInt := i_mul' h100 (by omega)
      rw [i_add (by omega), m1, hg ⟨c, by omega⟩, ← hk1]
    · exact wp_ifeq (fun _ => wp_add (by omega) (fun y hy => next _ R2 (fun f => e f.2) y hy)) (fun q => by omega)
  · omega
theorem s_finds {w : Wd} {tab : Nat → Int} {txt : Nat → List Int} {ys : List Int} {v p : Int32} (hk : tok tab) (ht : rtab w = tab) (hx : rtx w txt) (hkx : xok txt) (hv : 0 ≤ v.toInt ∧ v.toInt ≤ 5) (hfl : (fl tab (txt v.toInt.toNat)).length ≤ 80) (ha : ras w ys) (hp : 0 ≤ p.toInt ∧ p.toInt ≤ 40) :
    Wp (f_X11_finds v p w) (fun r w' => rcg wkf wko w w' ∧ r.toInt = fd tab (txt v.toInt.toNat) ys 50 p.toInt) := by
  have L := LIT
  have Y := hkx _ (slot_lt hv)
  have h40 := Y.1
  unfold f_X11_finds f_X11_finds_2
  rw [FUv]
  refine wp_loop (fun σ : Int32 × Int32 × Wd => σ.1 = v ∧ rcg wkf wko w σ.2.2 ∧ 0 ≤ σ.2.1.toInt ∧ σ.2.1.toInt ≤ 40 ∧ ∃ k : Nat, fd tab (txt v.toInt.toNat) ys k σ.2.1.toInt = fd tab (txt v.toInt.toNat) ys 50 p.toInt ∧ 42 - σ.2.1.toInt ≤ k)
    (fun σ => (42 - σ.2.1.toInt).toNat) ?_ 100000 _ ⟨rfl, rcg_rf, by dsimp only; omega, by dsimp only; omega, 50, rfl, by dsimp only; omega⟩ (by dsimp only; omega)
  rintro rc ⟨v', j, u⟩ ⟨rfl, hu, hj, hj2, k, hk1, hk2⟩ ih
  dsimp only at hj hj2 hk1 hk2 hu hv hfl h40 Y ⊢
  unfold g_X11_finds_2
  have xu : rtx u txt := rtx_wk hx hu
  refine s_len xu hv (fun n hn1 => ?_)
  refine wp_ifle (fun q => wp_ret ⟨hu, by rw [← hk1, fd_out (by omega)]; exact L.2.2.1⟩) (fun q => ?_)
  obtain ⟨k', rfl⟩ : ∃ k', k = k' + 1 := ⟨k - 1, by omega⟩
  rw [fd_in (by omega)] at hk1
  refine wp_add (by omega) (fun z hz => ?_)
  refine s_finds17 hk ht hx hkx hv hfl ha (by omega) rc (fun nf z2 u2 hz2 hu2 => ?_) (fun yes => ?_) (by omega) hu
  · rw [if_neg nf] at hk1
    exact ih (v', z2, u2) ⟨rfl, hu2, by dsimp only; omega, by dsimp only; omega, k', by dsimp only; rw [hz2]; exact hk1, by dsimp only; omega⟩ (by dsimp only; omega)
  · rw [if_pos yes] at hk1
    exact hk1.symm
theorem fsp2 {tab : Nat → Int} {xs : List Int} : (∃ ys, fsp tab 2 xs = some ys) ↔ ¬ 80 < (fl tab xs).length := by
  unfold fsp
  rw [if_pos rfl]
  by_cases c : (fl tab xs).length ≤ 80
  · rw [if_pos c]; exact ⟨fun _ => by omega, fun _ => ⟨_, rfl⟩⟩
  · rw [if_neg c]; exact ⟨(fun hq => by obtain ⟨_, q⟩ := hq; cases q), fun q => absurd (by omega) c⟩
theorem fsp2_eq {tab : Nat → Int} {xs ys : List Int} (h : fsp tab 2 xs = some ys) : ys = fo tab xs ∧ (fl tab xs).length ≤ 80 := by
  unfold fsp at h
  rw [if_pos rfl] at h
  by_cases c : (fl tab xs).length ≤ 80
  · rw [if_pos c] at h; exact ⟨(Option.some.inj h).symm, c⟩
  · rw [if_neg c] at h; cases h
theorem r_find {w : Wd} {tab : Nat → Int} {txt : Nat → List Int} {s t p : Int32} (hk : tok tab) (ht : rtab w = tab) (hx : rtx w txt) (hkx : xok txt) :
    Wp (f_X11_find s t p w) (fun r w' => rcg fwk (fun k => k = 720 ∨ k = 721) w w' ∧
      ((bad_two s.toInt t.toInt ∧ (w'.1 713 0).toInt = 1) ∨ (¬ bad_two s.toInt t.toInt ∧ bad_from p.toInt ∧ (w'.1 713 0).toInt = 2) ∨
      (¬ bad_two s.toInt t.toInt ∧ ¬ bad_from p.toInt ∧ (80 < (fl tab (txt s.toInt.toNat)).length ∨ 80 < (fl tab (txt t.toInt.toNat)).length) ∧ (w'.1 713 0).toInt = 3) ∨
      (¬ bad_two s.toInt t.toInt ∧ ¬ bad_from p.toInt ∧ ¬ (80 < (fl tab (txt s.toInt.toNat)).length ∨ 80 < (fl tab (txt t.toInt.toNat)).length) ∧ (w'.1 713 0).toInt = 0 ∧ r.toInt = fdr tab (txt s.toInt.toNat) (txt t.toInt.toNat) p.toInt))) := by
  have L := LIT
  have e40 : (40 : Int32).toInt = 40 := by decide
  have e2 : (2 : Int32).toInt = 2 := by decide
  have thu : ∀ (u : Wd) (x : Int32), (setI u 713 0 x).1 713 0 = x := fun u x => by rw [setI_at, if_pos (by decide)]
  have n1 : ¬ ((1 : Int32) = 0) := by decide
  have n2 : ¬ ((2 : Int32) = 0) := by decide
  have n3 : ¬ ((3 : Int32) = 0) := by decide
  unfold f_X11_find f_X11_find_18 f_X11_find_19 f_X11_find_40 f_X11_find_41 f_X11_find_70 f_X11_find_71 f_X11_find_102
  simp only [e_isSlot, e_in, e_holds, bd_r, ite_zo, n1, n2, n3, L.1, e40, if_true, if_false]
  have bad1 : bad_two s.toInt t.toInt → Wp (some ((0 : Int32), setI w 713 0 1)) (fun r w' => rcg fwk (fun k => k = 720 ∨ k = 721) w w' ∧
      ((bad_two s.toInt t.toInt ∧ (w'.1 713 0).toInt = 1) ∨ (¬ bad_two s.toInt t.toInt ∧ bad_from p.toInt ∧ (w'.1 713 0).toInt = 2) ∨
      (¬ bad_two s.toInt t.toInt ∧ ¬ bad_from p.toInt ∧ (80 < (fl tab (txt s.toInt.toNat)).length ∨ 80 < (fl tab (txt t.toInt.toNat)).length) ∧ (w'.1 713 0).toInt = 3) ∨
      (¬ bad_two s.toInt t.toInt ∧ ¬ bad_from p.toInt ∧ ¬ (80 < (fl tab (txt s.toInt.toNat)).length ∨ 80 < (fl tab (txt t.toInt.toNat)).length) ∧ (w'.1 713 0).toInt = 0 ∧ r.toInt = fdr tab (txt s.toInt.toNat) (txt t.toInt.toNat) p.toInt))) :=
    fun q => wp_ret ⟨rcg_fld (Or.inl rfl), Or.inl ⟨q, by rw [thu]; exact L.2.1⟩⟩
  refine wp_if (fun hs => ?_) (fun hs => bad1 (fun q => hs q.1))
  refine wp_if (fun hT => ?_) (fun hT => bad1 (fun q => hT q.2))
  have nb1 : ¬ bad_two s.toInt t.toInt := fun q => q ⟨hs, hT⟩
  refine wp_if (fun hf => ?_) (fun hf => wp_ret ⟨rcg_fld (Or.inl rfl), Or.inr (Or.inl ⟨nb1, hf, by rw [thu]; exact e2⟩)⟩)
  have nb2 : ¬ bad_from p.toInt := fun q => q hf
  have up : ∀ {u v : Wd}, rcg wkf wko u v → rcg fwk (fun k => k = 720 ∨ k = 721) u v := fun hr => rcg_mono hr (fun k hk => hk.elim (fun e => Or.inr (Or.inl e)) (fun e => Or.inr (Or.inr (Or.inl e)))) (fun k hk => Or.inl hk)
  refine wp_bd (s_formed (f := 2) hk ht hx hkx hs (by omega)) ?_
  rintro x1 w1 ⟨r1, hr⟩
  rw [e2] at hr
  rcases hr with ⟨rfl, a, hA, hw⟩ | ⟨rfl, hno⟩
  · refine wp_ifeq (fun q => by omega) (fun _ => ?_)
    have sA := fsp2_eq hA
    have t1 : rtab w1 = tab := (rtab_wk r1).trans ht
    have x1 : rtx w1 txt := rtx_wk hx r1
    refine wp_bd (s_formed (f := 2) hk t1 x1 hkx hT (by omega)) ?_
    rintro x2 w2 ⟨r2, hr2⟩
    rw [e2] at hr2
    have R2 := rcg_tr r1 r2
    rcases hr2 with ⟨rfl, b, hB, hw2⟩ | ⟨rfl, hno⟩
    · refine wp_ifeq (fun q => by omega) (fun _ => ?_)
      have sB := fsp2_eq hB
      have nb3 : ¬ (80 < (fl tab (txt s.toInt.toNat)).length ∨ 80 < (fl tab (txt t.toInt.toNat)).length) := by omega
      have R3 : rcg fwk (fun k => k = 720 ∨ k = 721) w (setI w2 713 0 0) := rcg_tr (up R2) (rcg_fld (Or.inl rfl))
      have hw3 : rwk (setI w2 713 0 0) b := rwk_fr hw2 (by rw [setI_at, if_neg (by omega)]) (by funext c; rw [setI_at, if_neg (by omega)])
      have lb : b.length ≤ 80 := by rw [sB.1]; exact Nat.le_trans (unm_len ..) sB.2
      refine wp_bd (s_putsAside hw3 lb) ?_
      rintro _ w4 ⟨r4, as4⟩
      have R4 : rcg fwk (fun k => k = 720 ∨ k = 721) w w4 := rcg_tr R3 (rcg_mono r4 (fun k hk => Or.inr (Or.inr (Or.inr hk))) (fun k hk => Or.inr hk))
      have th4 : w4.1 713 0 = 0 := by rw [r4.2.1 0 (by omega), thu]
      refine wp_ifeq (fun q => wp_ret ⟨R4, Or.inr (Or.inr (Or.inr ⟨nb1, nb2, nb3, by rw [th4]; exact L.1, ?_⟩))⟩) (fun q => ?_)
      · have l0 : b.length = 0 := by have := as4.1; omega
        unfold fdr
        rw [← sB.1, if_pos (List.length_eq_zero_iff.mp l0)]
        exact L.2.2.1
      · have x4 : rtx w4 txt := rtx_fr hx (R4.1 716 (by decide) (by decide)) (R4.1 717 (by decide) (by decide))
        have t4 : rtab w4 = tab := (rtab_fr (w := w) (w' := w4) (R4.1 714 (by decide) (by decide))).trans ht
        refine wp_bd (s_finds hk t4 x4 hkx hs sA.2 as4 hf) ?_
        rintro z w5 ⟨r5, hz⟩
        refine wp_ret ⟨rcg_tr R4 (up r5), Or.inr (Or.inr (Or.inr ⟨nb1, nb2, nb3, by rw [r5.2.1 0 (by unfold wkf; omega), th4]; exact L.1, ?_⟩))⟩
        have ne : b ≠ [] := fun e => q (by have := as4.1; rw [e] at this; exact this.trans L.1.symm)
        unfold fdr
        rw [← sB.1, if_neg ne]
        exact hz
    · exact wp_ifeq (fun _ => wp_ret ⟨rcg_tr (up R2) (rcg_fld (Or.inl rfl)), Or.inr (Or.inr (Or.inl ⟨nb1, nb2, Or.inr (Decidable.byContradiction (fun q => by obtain ⟨_, e⟩ := fsp2.mpr q; rw [hno] at e; cases e)), by rw [thu]; exact L.2.2.2.2.1⟩))⟩) (fun q => by omega)
  · exact wp_ifeq (fun _ => wp_ret ⟨rcg_tr (up r1) (rcg_fld (Or.inl rfl)), Or.inr (Or.inr (Or.inl ⟨nb1, nb2, Or.inl (Decidable.byContradiction (fun q => by obtain ⟨_, e⟩ := fsp2.mpr q; rw [hno] at e; cases e)), by rw [thu]; exact L.2.2.2.2.1⟩))⟩) (fun q => by omega)
