/-! ===== the reference folds ===== -/
theorem gt_2 {A B : List Int} {x : Int} : gt (A ++ x :: B) (A.length : Nat) = x := by
  rw [gt_app_r (Nat.le_refl _), Nat.sub_self]; rfl
theorem set_2 {A B : List Int} {x y : Int} : (A ++ x :: B).set A.length y = A ++ y :: B := by
  rw [List.set_append_right _ _ (Nat.le_refl _), Nat.sub_self]; rfl
theorem dbl_2 {A B : List Int} {x y z : Int} : dbl (A ++ x :: B) A.length y z = A ++ y :: z :: B := by
  unfold dbl
  rw [List.take_left, List.drop_append, List.drop_of_length_le (by omega), show A.length + 1 - A.length = 1 by omega]
  rfl
def fldout (tab : Nat → Int) (w : Wd) (xs : List Int) (w' : Wd) : Prop := rcg wkf wko w w' ∧ (((fl tab xs).length ≤ 80 ∧ (w'.1 713 12).toInt = 0 ∧ rwk w' (fo tab xs)) ∨ (80 < (fl tab xs).length ∧ (w'.1 713 12).toInt = 1))
theorem s_folds {w : Wd} {tab : Nat → Int} {xs : List Int} (hk : tok tab) (ht : rtab w = tab) (h : rwk w xs) (hl : lets xs) (h40 : xs.length ≤ 40) (h0 : (w.1 713 12).toInt = 0) : Wp (f_X11_folds w) (fun _ => fldout tab w xs) := by
  have L := LIT
  unfold f_X11_folds f_X11_folds_2
  refine wp_loop (fun (σ : Int32 × Wd) => rcg wkf wko w σ.2 ∧ (σ.2.1 713 12).toInt = 0 ∧ ∃ i : Nat, i ≤ xs.length ∧ rwk σ.2 (caps tab (xs.take i) ++ xs.drop i) ∧ σ.1.toInt = (caps tab (xs.take i)).length) (fun (σ : Int32 × Wd) => (σ.2.1 713 11).toInt.toNat - σ.1.toInt.toNat) ?_ FU _
    ⟨rcg_rf, h0, 0, by omega, h, by dsimp only; rw [L.1]; rfl⟩ (by rw [FUv]; dsimp only; rw [h.1]; omega)
  rintro rc ⟨k, u⟩ ⟨hr, hz, i, hi, hw, hkk⟩ ih
  dsimp only at hr hz hw hkk
  show Wp (g_X11_folds_2 rc k u) _
  have tu : rtab u = tab := by rw [rtab_wk hr, ht]
  have CL := caps_let hk (xs := xs.take i) (fun z hz => hl z (List.mem_of_mem_take hz))
  rw [List.length_take] at CL
  have letW : lets (caps tab (xs.take i) ++ xs.drop i) := lets_app.mpr ⟨CL.1, fun z hz => hl z (List.mem_of_mem_drop hz)⟩
  have lenW : (caps tab (xs.take i) ++ xs.drop i).length = (caps tab (xs.take i)).length + (xs.length - i) := by rw [List.length_append, List.length_drop]
  unfold g_X11_folds_2
  refine wp_ifle (fun q => ?_) (fun q => ?_)
  · -- all capitals are laid
    rw [hw.1] at q
    have : i = xs.length := by omega
    subst this
    rw [List.take_length, List.drop_length, List.append_nil] at hw
    have CL2 := caps_let hk hl
    refine wp_bd (s_splitsAll hk tu hw CL2.1 (by omega) hz) ?_
    rintro _ v ⟨rv, hv⟩
    have rv2 : rcg wkf wko w v := rcg_tr hr rv
    have tv : rtab v = tab := by rw [rtab_wk rv2, ht]
    rcases hv with ⟨v1, v2, v3⟩ | ⟨v1, v2⟩
    · have e1 : unm tab (srt tab (xls tab (caps tab xs))) = fo tab xs := by rw [srt_unm]; rfl
      have letZ : lets (srt tab (xls tab (caps tab xs))) := srt_let (xls_let hk CL2.1)
      have lenZ : (srt tab (xls tab (caps tab xs))).length ≤ 80 := by rw [srt_len]; exact v1
      have v1' : (fl tab xs).length ≤ 80 := v1
      generalize srt tab (xls tab (caps tab xs)) = zs at *
      unfold f_X11_folds_88
      refine wp_loop (fun (σ : Int32 × Int32 × Wd) => rcg wkf wko w σ.2.2 ∧ (σ.2.2.1 713 12).toInt = 0 ∧ 0 ≤ σ.2.1.toInt ∧ σ.2.1.toInt ≤ zs.length ∧ σ.1.toInt = (unm tab (zs.take σ.2.1.toInt.toNat)).length ∧ ∃ ys, rwk σ.2.2 ys ∧ ys.length = zs.length ∧ lets ys ∧ (∀ n : Nat, n < (unm tab (zs.take σ.2.1.toInt.toNat)).length → gt ys n = gt (unm tab (zs.take σ.2.1.toInt.toNat)) n) ∧ (∀ n : Nat, σ.2.1.toInt ≤ n → n < zs.length → gt ys n = gt zs n)) (fun (σ : Int32 × Int32 × Wd) => zs.length - σ.2.1.toInt.toNat) ?_ FU _
        ⟨rv2, v2, by dsimp only; omega, by dsimp only; omega, by dsimp only; rw [L.1]; rfl, zs, v3, rfl, letZ, fun n hn => by dsimp only at hn; rw [L.1] at hn; exact absurd hn (Nat.not_lt_zero _), fun n _ _ => rfl⟩ (by rw [FUv]; dsimp only; omega)
      rintro rc2 ⟨lf, j, u2⟩ ⟨r2, z2, hj0, hj1, hlf, ys, hy, hlen, hly, hg1, hg2⟩ ih2
      dsimp only at r2 z2 hj0 hj1 hlf hy hg1 hg2
      show Wp (g_X11_folds_88 rc2 lf j u2) _
      have tu2 : rtab u2 = tab := by rw [rtab_wk r2, ht]
      have ul := unm_len tab (zs.take j.toInt.toNat)
      rw [List.length_take] at ul
      unfold g_X11_folds_88
      refine wp_ifle (fun q2 => ?_) (fun q2 => wp_ifeq (fun q3 => ?_) (fun q3 => by omega))
      · rw [hy.1] at q2
        unfold f_X11_folds_143 wr
        have jz : zs.take j.toInt.toNat = zs := List.take_of_length_le (by omega)
        rw [jz, e1] at hlf hg1
        have ulz := unm_len tab zs
        rw [e1] at ulz
        refine wp_ret ⟨rcg_tr r2 (rcg_fld (Or.inl rfl)), Or.inl ⟨v1', by rw [setI_at, if_neg (by omega)]; exact z2, rwk_mk (by rw [setI_at, if_pos ⟨rfl, rfl⟩]; exact hlf) (fun n hn => ?_)⟩⟩
        rw [setI_at, if_neg (by omega), rwk_at hy (by omega), hg1 n hn]
      · rw [hy.1] at q2
        have lt' : lf.toInt.toNat = (unm tab (zs.take j.toInt.toNat)).length := by omega
        refine wp_ald (by rw [L720]; omega) (wp_ast (by rw [L720]; omega) ?_)
        have vx : (u2.1 720 j.toInt.toNat).toInt = gt zs (j.toInt.toNat : Nat) := by rw [rwk_at hy (by omega), hg2 _ (by omega) (by omega)]
        have lx := lets_gt letZ (k := ((j.toInt.toNat : Nat) : Int)) (by omega) (by omega)
        have K1 := rwk_set hy (k := lf.toInt.toNat) (by omega) (u2.1 720 j.toInt.toNat)
        rw [vx] at K1
        have g1 : gt (ys.set lf.toInt.toNat (gt zs (j.toInt.toNat : Nat))) ((j.toInt.toNat : Nat) : Int) = gt zs (j.toInt.toNat : Nat) := by
          rw [gt_setn (by omega)]
          by_cases c : j.toInt.toNat = lf.toInt.toNat
          · rw [if_pos c]
          · rw [if_neg c, hg2 _ (by omega) (by omega)]
        have rset : rcg wkf wko w (setI u2 720 lf.toInt.toNat (u2.1 720 j.toInt.toNat)) := rcg_tr r2 (rcg_set (by decide) rfl)
        have tk := take_succ_gt (xs := zs) (n := j.toInt.toNat) (by omega)
        refine s_wof (K := fun _ x5 w4 => if x5 = 0 then f_X11_folds_135 rc2 j lf 1 w4 else f_X11_folds_135 rc2 j lf 0 w4) K1 (lets_set hly lx) (by rw [List.length_set]; omega) (by rw [List.length_set]; omega) (by omega) (fun a ja ha la hja => ?_)
        have hja' : ja.toInt = jo tab a.toInt := by rw [hja, rtab_wk rset, ht, L.1]; rfl
        have g2 : gt (ys.set lf.toInt.toNat (gt zs (j.toInt.toNat : Nat))) j.toInt = gt zs (j.toInt.toNat : Nat) :=
          (congrArg (gt (ys.set lf.toInt.toNat (gt zs (j.toInt.toNat : Nat)))) (show j.toInt = ((j.toInt.toNat : Nat) : Int) by omega)).trans g1
        rw [g2] at ha
        unfold f_X11_folds_135
        have step : ∀ d : Int32, (d = 1 ∧ jo tab a.toInt = 0) ∨ (d = 0 ∧ jo tab a.toInt ≠ 0) → Wp (lt (lf + d) fun x1 => lt (j + 1) fun x2 => rc2 (x1, x2, setI u2 720 lf.toInt.toNat (u2.1 720 j.toInt.toNat))) (fun _ => fldout tab w xs) := by
          intro d hd
          have ue : unm tab (zs.take (j.toInt.toNat + 1)) = if jo tab a.toInt = 0 then unm tab (zs.take j.toInt.toNat) ++ [a.toInt] else unm tab (zs.take j.toInt.toNat) := by
            rw [tk, unm_app, ← ha]
            unfold unm
            by_cases c : jo tab a.toInt = 0
            · rw [if_pos c, List.filter_cons_of_pos (by simp [c])]; rfl
            · rw [if_neg c, List.filter_cons_of_neg (by simp [c]), List.filter_nil, List.append_nil]
          have dl : d.toInt = if jo tab a.toInt = 0 then 1 else 0 := by
            rcases hd with ⟨rfl, c⟩ | ⟨rfl, c⟩
            · rw [if_pos c]; exact L.2.1
            · rw [if_neg c]; exact L.1
          refine wp_add (by omega) (fun l2 hl2 => wp_add (by omega) (fun j2 hj2 => ?_))
          refine ih2 (l2, j2, _) ⟨rset, by dsimp only; rw [setI_at, if_neg (by omega)]; exact z2, by dsimp only; omega, by dsimp only; omega, ?_, _, K1, by rw [List.length_set]; exact hlen, lets_set hly lx, ?_, ?_⟩ (by dsimp only; omega)
          · dsimp only
            rw [show j2.toInt.toNat = j.toInt.toNat + 1 by omega, ue]
            by_cases c : jo tab a.toInt = 0
            · rw [if_pos c] at dl ⊢
              rw [List.length_append, List.length_singleton]; omega
            · rw [if_neg c] at dl ⊢
              omega
          · dsimp only
            rw [show j2.toInt.toNat = j.toInt.toNat + 1 by omega, ue]
            intro n hn
            rw [gt_setn (by omega)]
            by_cases c : jo tab a.toInt = 0
            · rw [if_pos c] at hn ⊢
              rw [List.length_append, List.length_singleton] at hn
              by_cases e : n = lf.toInt.toNat
              · rw [if_pos e, e, lt', gt_2, ha]
              · rw [if_neg e, gt_app_l (by omega), hg1 n (by omega)]
            · rw [if_neg c] at hn ⊢
              rw [if_neg (by omega), hg1 n hn]
          · dsimp only
            intro n hn hn2
            rw [gt_setn (by omega), if_neg (by omega), hg2 n (by omega) hn2]
        exact wp_ifeq (fun q4 => step 1 (Or.inl ⟨rfl, by omega⟩)) (fun q4 => step 0 (Or.inr ⟨rfl, by omega⟩))
    · -- too long: nothing is looked at any more
      unfold f_X11_folds_88
      rw [show FU = 99999 + 1 from rfl]
      show Wp (g_X11_folds_88 _ 0 0 v) _
      unfold g_X11_folds_88
      have fin : Wp (f_X11_folds_143 0 v) (fun _ => fldout tab w xs) := by
        unfold f_X11_folds_143 wr
        exact wp_ret ⟨rcg_tr rv2 (rcg_fld (Or.inl rfl)), Or.inr ⟨v1, by rw [setI_at, if_neg (by omega)]; exact v2⟩⟩
      exact wp_ifle (fun _ => fin) (fun _ => wp_ifeq (fun q => by omega) (fun _ => fin))
  · rw [hw.1] at q
    have il : i < xs.length := by omega
    have dr : xs.drop i = gt xs (i : Nat) :: xs.drop (i + 1) := by rw [gt_getElem il, List.getElem_cons_drop]
    have cs := caps_snoc (tab := tab) il
    have lx := lets_gt hl (k := ((i : Nat) : Int)) (by omega) (by omega)
    have C := c12 hk lx
    generalize hA : caps tab (xs.take i) = A at *
    generalize hx : gt xs (i : Nat) = x at *
    rw [dr] at hw letW lenW
    have kn : k.toInt = ((A.length : Nat) : Int) := hkk
    have kt : k.toInt.toNat = A.length := by omega
    have step : ∀ (W : Wd) (B : List Int) (k2 : Int32), rcg wkf wko w W → (W.1 713 12).toInt = 0 → rwk W (A ++ B ++ xs.drop (i + 1)) → cap tab x = B → k2.toInt = k.toInt + B.length → Wp (rc (k2, W)) (fun _ => fldout tab w xs) := by
      intro W B k2 rW zW hW hB hk2
      refine ih (k2, W) ⟨rW, zW, i + 1, by omega, ?_, ?_⟩ ?_
      · dsimp only; rw [cs, hB]; exact hW
      · dsimp only; rw [cs, hB, List.length_append]; omega
      · dsimp only
        have := (cap_let hk lx).2
        rw [hB] at this
        rw [hW.1, hw.1, List.length_append, List.length_append, lenW, List.length_drop]
        omega
    refine s_wof (K := fun _ x4 w3 => ald w3 720 k fun x5 => bd (f_X11_of x5 7 w3) fun x7 w6 => if x4 ≤ 0 then f_X11_folds_61 rc k x4 w6 else if x7 ≤ 0 then f_X11_folds_61 rc k x4 w6 else bd (f_X11_doubles k (x4 - 1) (x7 - 1) w6) fun _ w8 => lt (k + 1) fun x9 => lt (x9 + 1) fun x10 => rc (x10, w8)) hw letW (by omega) (by omega) (by omega) (fun a a6 ha la ha6 => ?_)
    rw [kn, gt_2] at ha
    rw [tu, show (6 : Int32).toInt.toNat = 6 from by decide, ha] at ha6
    have c1v : c1 tab x = a6.toInt - 1 := by rw [ha6]; rfl
    refine s_wof (K := fun _ x7 w6 => if a6 ≤ 0 then f_X11_folds_61 rc k a6 w6 else if x7 ≤ 0 then f_X11_folds_61 rc k a6 w6 else bd (f_X11_doubles k (a6 - 1) (x7 - 1) w6) fun _ w8 => lt (k + 1) fun x9 => lt (x9 + 1) fun x10 => rc (x10, w8)) hw letW (by omega) (by omega) (by omega) (fun b b7 hb lb hb7 => ?_)
    rw [kn, gt_2] at hb
    rw [tu, show (7 : Int32).toInt.toNat = 7 from by decide, hb] at hb7
    have c2v : c2 tab x = b7.toInt - 1 := by rw [hb7]; rfl
    unfold f_X11_folds_61
    have one : a6.toInt ≤ 0 → Wp (lt (k + 1) fun x1 => rc (x1, u)) (fun _ => fldout tab w xs) := by
      intro q1
      refine wp_add (by omega) (fun z hz2 => step u [x] z hr hz ?_ ?_ ?_)
      · rw [List.append_assoc]; exact hw
      · unfold cap; rw [if_pos (by omega)]
      · rw [List.length_singleton]; omega
    refine wp_ifle (fun q1 => wp_ifle (fun _ => one (by omega)) (fun q2 => by omega)) (fun q1 => wp_ifle (fun q2 => wp_ifle (fun q3 => by omega) (fun q3 => ?_)) (fun q2 => ?_))
    · have v1 : (a6 - 1).toInt = c1 tab x := by rw [i_sub (by omega), L.2.1, c1v]
      refine wp_ast (by rw [L720]; omega) (wp_add (by omega) (fun z hz2 => ?_))
      have K1 := rwk_set hw (k := k.toInt.toNat) (by omega) (a6 - 1)
      rw [kt, set_2, v1] at K1
      rw [kt]
      refine step _ [c1 tab x] z (rcg_tr hr (rcg_set (by decide) rfl)) (by rw [setI_at, if_neg (by omega)]; exact hz) ?_ ?_ ?_
      · rw [List.append_assoc]; exact K1
      · unfold cap; rw [if_neg (by omega), if_pos (by omega)]
      · rw [List.length_singleton]; omega
    · have v1 : (a6 - 1).toInt = c1 tab x := by rw [i_sub (by omega), L.2.1, c1v]
      have v2 : (b7 - 1).toInt = c2 tab x := by rw [i_sub (by omega), L.2.1, c2v]
      refine wp_bd (s_doubles hw (by omega) (by omega)) ?_
      rintro _ w8 ⟨r8, y8, z8⟩
      rw [kt, dbl_2, v1, v2] at y8
      refine wp_add (by omega) (fun z hz2 => wp_add (by omega) (fun z2 hz3 => ?_))
      refine step w8 [c1 tab x, c2 tab x] z2 (rcg_tr hr r8) ?_ ?_ ?_ ?_
      · rw [z8, if_pos ⟨hz, by omega⟩]
      · rw [List.append_assoc]; exact y8
      · unfold cap; rw [if_neg (by omega), if_neg (by omega)]
      · rw [show ([c1 tab x, c2 tab x].length : Nat) = 2 from rfl]; omega
