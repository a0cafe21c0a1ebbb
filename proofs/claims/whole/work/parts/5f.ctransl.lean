/-! ===== the reference's transliterate ===== -/
def ftl (f : Nat) : Prop := f = 0 ∨ f = 11 ∨ f = 12 ∨ f = 39
def otl (k : Nat) : Prop := k = 720 ∨ k = 741 ∨ k = 716 ∨ k = 717
theorem s_transliterated {w : Wd} {tab : Nat → Int} {txt : Nat → List Int} {s b : Int32} (hk : tok tab) (ht : rtab w = tab) (hx : rtx w txt) (hkx : xok txt) (hs : 0 ≤ s.toInt ∧ s.toInt ≤ 5) :
    Wp (f_X11_transliterated s b w) (fun r w' => rcg (fun f => f = 11 ∨ f = 12 ∨ f = 39) ops w w' ∧ ((r = 1 ∧ ∃ ys, tra tab b.toInt (txt s.toInt.toNat) = some ys ∧ rwk w' ys) ∨ (r = 0 ∧ tra tab b.toInt (txt s.toInt.toNat) = none))) := by
  have L := LIT
  have Y := hkx _ (slot_lt hs)
  unfold f_X11_transliterated
  refine s_len hx hs (fun n hn => ?_)
  refine wp_bd (s_loads hx hkx hs (by omega) (by omega)) ?_
  rintro _ w1 ⟨r1, hw1, -⟩
  rw [L.1, Int.sub_zero, hn, show Int.toNat 0 = 0 from rfl, List.drop_zero, Int.toNat_natCast, List.take_length] at hw1
  have r1' : rcg (fun f => f = 11 ∨ f = 12 ∨ f = 39) ops w w1 := rcg_mono r1 (fun _ q => q.elim Or.inl (fun e => Or.inr (Or.inl e))) (fun _ q => Or.inl q)
  have t1 : rtab w1 = tab := by rw [rtab_wk r1]; exact ht
  have pm : ∀ u u2, rcg fps ops u u2 → rcg (fun f => f = 11 ∨ f = 12 ∨ f = 39) ops u u2 := fun u u2 h => rcg_mono h (fun _ q => q.elim Or.inl (fun e => Or.inr (Or.inr e))) (fun _ q => q)
  have tp : ∀ u u2, rcg fps ops u u2 → rtab u2 = rtab u := fun u u2 h => rtab_fr (h.1 714 (by decide) (by unfold ops; decide))
  have two : ∀ f1 f2 : Int32, f1.toInt = (if b.toInt = 0 then 0 else 1) → f2.toInt = 1 - f1.toInt → Wp (bd (f_X11_passes f1 b w1) (fun x2 w1 => (if x2 = 0 then some ((0 : Int32), w1) else bd (f_X11_passes f2 b w1) (fun x2 w1 => (if x2 = 0 then some ((0 : Int32), w1) else some ((1 : Int32), w1)))))) (fun r w' => rcg (fun f => f = 11 ∨ f = 12 ∨ f = 39) ops w w' ∧ ((r = 1 ∧ ∃ ys, tra tab b.toInt (txt s.toInt.toNat) = some ys ∧ rwk w' ys) ∨ (r = 0 ∧ tra tab b.toInt (txt s.toInt.toNat) = none))) := by
    intro f1 f2 h1 h2
    have T : tra tab b.toInt (txt s.toInt.toNat) = (ps1 tab f1.toInt b.toInt (txt s.toInt.toNat) 42 0 []).bind (fun m => ps1 tab (1 - f1.toInt) b.toInt m 42 0 []) := by unfold tra; rw [h1]
    refine wp_bd (s_passes (pass := f1) (b := b) hk t1 hw1 Y.1) ?_
    rintro x w2 ⟨r2, hx2⟩
    rcases hx2 with ⟨rfl, m, hm, hw2⟩ | ⟨rfl, hm⟩
    · refine wp_ifeq (fun q => by omega) (fun _ => ?_)
      rw [hm, Option.bind_some] at T
      have M := ps1_ok hk Y.2 _ _ _ _ (by omega) (Nat.zero_le _) (fun x q => (List.not_mem_nil q).elim) hm
      refine wp_bd (s_passes (pass := f2) (b := b) hk ((tp _ _ r2).trans t1) hw2 M.1) ?_
      rintro x3 w3 ⟨r3, hx3⟩
      rw [h2, ← T] at hx3
      have R3 := rcg_tr r1' (rcg_tr (pm _ _ r2) (pm _ _ r3))
      rcases hx3 with ⟨rfl, ys, hy, hw3⟩ | ⟨rfl, hy⟩
      · exact wp_ifeq (fun q => by omega) (fun _ => wp_ret ⟨R3, Or.inl ⟨rfl, ys, hy, hw3⟩⟩)
      · exact wp_ifeq (fun _ => wp_ret ⟨R3, Or.inr ⟨rfl, hy⟩⟩) (fun q => by omega)
    · rw [hm] at T
      exact wp_ifeq (fun _ => wp_ret ⟨rcg_tr r1' (pm _ _ r2), Or.inr ⟨rfl, T⟩⟩) (fun q => by omega)
  unfold f_X11_transliterated_22 f_X11_transliterated_39
  by_cases c : b = 0
  · have cb : b.toInt = 0 := by rw [c]; exact L.1
    have T2 := two 0 1 (by rw [if_pos cb]; exact L.1) (by omega)
    simp only [if_pos c] at T2 ⊢
    exact T2
  · have cb : ¬ b.toInt = 0 := fun q => c (i_eq.mpr (by rw [q]; exact L.1.symm))
    have T2 := two 1 0 (by rw [if_neg cb]; exact L.2.1) (by omega)
    simp only [if_neg c] at T2 ⊢
    exact T2
theorem r_transliterate {w : Wd} {tab : Nat → Int} {txt : Nat → List Int} {s t b : Int32} (hk : tok tab) (ht : rtab w = tab) (hx : rtx w txt) (hkx : xok txt) :
    Wp (f_X11_transliterate s t b w) (fun r w' => rcg ftl otl w w' ∧ ((bad_two s.toInt t.toInt ∧ (w'.1 713 0).toInt = 1 ∧ rtx w' txt) ∨ (¬ bad_two s.toInt t.toInt ∧ tra tab b.toInt (txt s.toInt.toNat) = none ∧ (w'.1 713 0).toInt = 2 ∧ rtx w' txt) ∨
      (¬ bad_two s.toInt t.toInt ∧ (w'.1 713 0).toInt = 0 ∧ ∃ ys, tra tab b.toInt (txt s.toInt.toNat) = some ys ∧ r.toInt = ys.length ∧ rtx w' (xset txt t.toInt.toNat ys)))) := by
  have L := LIT
  have e40 : (40 : Int32).toInt = 40 := by decide
  unfold f_X11_transliterate f_X11_transliterate_18 f_X11_transliterate_19 f_X11_transliterate_39 f_X11_transliterate_40 f_X11_transliterate_62
  simp only [e_isSlot, e_holds, bd_r, ite_zo, c01, if_true, if_false]
  have fr : ∀ (u : Wd) x, rtx u txt → rtx (setI u 713 0 x) txt := fun u x hu => rtx_fr hu (by funext b; rw [setI_at, if_neg (by omega)]) (by funext b; rw [setI_at, if_neg (by omega)])
  have thu : ∀ (u : Wd) (x : Int32), (setI u 713 0 x).1 713 0 = x := fun u x => by rw [setI_at, if_pos (by decide)]
  refine wp_if (fun hs => ?_) (fun hs => wp_ret ⟨rcg_fld (Or.inl rfl), Or.inl ⟨fun q => hs q.1, by rw [thu]; exact L.2.1, fr w 1 hx⟩⟩)
  refine wp_if (fun hT => ?_) (fun hT => wp_ret ⟨rcg_fld (Or.inl rfl), Or.inl ⟨fun q => hT q.2, by rw [thu]; exact L.2.1, fr w 1 hx⟩⟩)
  have nb1 : ¬ bad_two s.toInt t.toInt := fun q => q ⟨hs, hT⟩
  refine wp_bd (s_transliterated (b := b) hk ht hx hkx hs) ?_
  rintro x1 w1 ⟨r1, hr⟩
  have x1r : rtx w1 txt := rtx_fr hx (r1.1 716 (by decide) (by unfold ops; decide)) (r1.1 717 (by decide) (by unfold ops; decide))
  have r1' : rcg ftl otl w w1 := rcg_mono r1 (fun _ q => Or.inr q) (fun _ q => q.elim Or.inl (fun e => Or.inr (Or.inl e)))
  rcases hr with ⟨rfl, ys, hys, hw⟩ | ⟨rfl, hno⟩
  · refine wp_ifeq (fun q => by omega) (fun _ => ?_)
    have y40 : ys.length ≤ 40 := (tra_ok hk (hkx _ (slot_lt hs)).2 hys).1
    have e11 : (setI w1 713 0 0).1 713 11 = w1.1 713 11 := by rw [setI_at, if_neg (by omega)]
    rw [e11]
    have h7 : LEN 717 = 6 := LENs.2.2.2.2.2.1
    have h6 : LEN 716 = 240 := LENs.2.2.2.2.1
    refine wp_ast (by omega) ?_
    have hTN := slot_lt hT
    have Yt := hkx _ hTN
    have R2 : rcg ftl otl w (setI (setI w1 713 0 0) 717 t.toInt.toNat (w1.1 713 11)) := rcg_tr (rcg_tr r1' (rcg_fld (Or.inl rfl))) (rcg_set (by decide) (Or.inr (Or.inr (Or.inr rfl))))
    have W2 : rwk (setI (setI w1 713 0 0) 717 t.toInt.toNat (w1.1 713 11)) ys := rwk_fr hw (by rw [setI_at, if_neg (by omega), e11]) (by funext b; rw [setI_at, if_neg (by omega), setI_at, if_neg (by omega)])
    have Z2 : ((setI (setI w1 713 0 0) 717 t.toInt.toNat (w1.1 713 11)).1 713 0).toInt = 0 := by rw [setI_at, if_neg (by omega), thu]; exact L.1
    have X2 : ∀ k, k < 6 → (k ≠ t.toInt.toNat → ((setI (setI w1 713 0 0) 717 t.toInt.toNat (w1.1 713 11)).1 717 k).toInt = (txt k).length) ∧ (k = t.toInt.toNat → ((setI (setI w1 713 0 0) 717 t.toInt.toNat (w1.1 713 11)).1 717 k).toInt = ys.length) := by
      intro k hk6
      refine ⟨fun e => ?_, fun e => ?_⟩
      · rw [setI_at, if_neg (fun q => e q.2), setI_at, if_neg (by omega)]; exact (x1r k hk6).1
      · rw [setI_at, if_pos ⟨rfl, e⟩]; exact hw.1
    have S2 : ∀ k, k < 6 → ∀ j : Nat, j < (txt k).length → ((setI (setI w1 713 0 0) 717 t.toInt.toNat (w1.1 713 11)).1 716 (40 * k + j)).toInt = gt (txt k) j := fun k hk6 j hj => by
      rw [setI_at, if_neg (by omega), setI_at, if_neg (by omega)]; exact rtx_gt x1r hk6 hj
    generalize setI (setI w1 713 0 0) 717 t.toInt.toNat (w1.1 713 11) = W at *
    unfold f_X11_transliterate_83
    refine wp_loop (fun (σ : Int32 × Int32 × Wd) => σ.1 = t ∧ 0 ≤ σ.2.1.toInt ∧ σ.2.1.toInt ≤ ys.length ∧ rcg ftl otl w σ.2.2 ∧ rwk σ.2.2 ys ∧ (σ.2.2.1 713 0).toInt = 0 ∧ σ.2.2.1 717 = W.1 717 ∧ (∀ k, k < 6 → k ≠ t.toInt.toNat → ∀ j : Nat, j < (txt k).length → (σ.2.2.1 716 (40 * k + j)).toInt = gt (txt k) j) ∧ (∀ j : Nat, j < σ.2.1.toInt → (σ.2.2.1 716 (40 * t.toInt.toNat + j)).toInt = gt ys j)) (fun (σ : Int32 × Int32 × Wd) => ys.length - σ.2.1.toInt.toNat) ?_ FU _
      ⟨rfl, by dsimp only; omega, by dsimp only; omega, R2, W2, Z2, rfl, fun k hk6 _ => S2 k hk6, fun j hj => by dsimp only at hj; omega⟩ (by rw [FUv]; dsimp only; omega)
    rintro rc ⟨t', k, u⟩ ⟨e1, g0, g1, hr, hw2, hz, h717, hoth, hg⟩ ih
    dsimp only at e1 g0 g1 hr hw2 hz h717 hoth hg
    subst e1
    show Wp (g_X11_transliterate_83 rc t' k u) _
    unfold g_X11_transliterate_83
    refine wp_ifle (fun q2 => ?_) (fun q2 => ?_)
    · rw [hw2.1] at q2
      refine wp_ret ⟨hr, Or.inr (Or.inr ⟨nb1, hz, ys, hys, hw2.1, fun m hm => ?_⟩)⟩
      unfold xset
      rw [h717]
      by_cases e : m = t'.toInt.toNat
      · rw [if_pos e]
        refine ⟨(X2 m hm).2 e, ?_⟩
        refine gt_ext (sg_len _ _ _ _) (fun j hj => ?_)
        rw [sg_len] at hj
        rw [gt_nat, sg_getD hj, e]
        exact hg j (by omega)
      · rw [if_neg e]
        refine ⟨(X2 m hm).1 e, ?_⟩
        refine gt_ext (sg_len _ _ _ _) (fun j hj => ?_)
        rw [sg_len] at hj
        rw [gt_nat, sg_getD hj]
        exact hoth m hm e j hj
    · rw [hw2.1] at q2
      have a1 := i_40 hT (k := k) (by omega)
      refine wp_ald (by rw [L720]; omega) (wp_ast (by omega) (wp_add (by omega) (fun z hz2 => ?_)))
      have vx : (u.1 720 k.toInt.toNat).toInt = gt ys (k.toInt.toNat : Nat) := rwk_at hw2 (by omega)
      refine ih (t', z, _) ⟨rfl, by dsimp only; omega, by dsimp only; omega, rcg_tr hr (rcg_set (by decide) (Or.inr (Or.inr (Or.inl rfl)))), rwk_fr hw2 (by rw [setI_at, if_neg (by omega)]) (by funext b; rw [setI_at, if_neg (by omega)]), by dsimp only; rw [setI_at, if_neg (by omega)]; exact hz, by dsimp only; rw [← h717]; funext b; rw [setI_at, if_neg (by omega)], fun m hm e j hj => ?_, fun j hj => ?_⟩ (by dsimp only; omega)
      · dsimp only
        have := (hkx m hm).1
        rw [setI_at, if_neg (by omega)]; exact hoth m hm e j hj
      · dsimp only at hj ⊢
        rw [setI_at]
        by_cases c : j = k.toInt.toNat
        · rw [if_pos ⟨rfl, by omega⟩, vx, c]
        · rw [if_neg (by omega)]; exact hg j (by omega)
  · exact wp_ifeq (fun _ => wp_ret ⟨rcg_tr r1' (rcg_fld (Or.inl rfl)), Or.inr (Or.inl ⟨nb1, hno, by rw [thu]; exact L.2.2.2.1, fr w1 2 x1r⟩)⟩) (fun q => by omega)
