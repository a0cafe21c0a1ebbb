/-! ===== message: the reference's own ===== -/
def fmg (f : Nat) : Prop := f = 0 ∨ f = 7 ∨ f = 9 ∨ f = 44
def omg (k : Nat) : Prop := k = 719 ∨ k = 742 ∨ k = 743 ∨ k = 744 ∨ k = 745
theorem r_message {w : Wd} {tab : Nat → Int} {tp : List Int} {n a b c d : Int32} (hk : tok tab) (hT : rtab w = tab) (ht : rta w tp) (hb : tpok tp) :
    Wp (f_X11_message n a b c d w) (fun r w' => rcg fmg omg w w' ∧ ((bad_lang n.toInt ∧ (w'.1 713 0).toInt = 1 ∧ rta w' tp ∧ w'.1 713 9 = w.1 713 9 ∧ w'.1 719 = w.1 719) ∨ (¬ bad_lang n.toInt ∧ bad_nums a.toInt b.toInt c.toInt d.toInt ∧ (w'.1 713 0).toInt = 2 ∧ rta w' tp ∧ w'.1 713 9 = w.1 713 9 ∧ w'.1 719 = w.1 719) ∨
      (¬ bad_lang n.toInt ∧ ¬ bad_nums a.toInt b.toInt c.toInt d.toInt ∧ msg tab n.toInt.toNat [a.toInt, b.toInt, c.toInt, d.toInt] tp = none ∧ (w'.1 713 0).toInt = 3 ∧ rta w' [] ∧ w'.1 713 9 = w.1 713 9 ∧ w'.1 719 = w.1 719) ∨
      (¬ bad_lang n.toInt ∧ ¬ bad_nums a.toInt b.toInt c.toInt d.toInt ∧ ∃ os, msg tab n.toInt.toNat [a.toInt, b.toInt, c.toInt, d.toInt] tp = some os ∧ (w'.1 713 0).toInt = 0 ∧ r.toInt = os.length ∧ rta w' [] ∧ rou w' os))) := by
  have L := LIT
  have l4 := L74
  have e9 : (999999 : Int32).toInt = 999999 := by decide
  have rta_nil : ∀ u : Wd, rta (setI u 713 7 0) [] := fun u => ⟨by rw [setI_at, if_pos ⟨rfl, rfl⟩]; exact L.1, rfl⟩
  have rta_fr : ∀ (u u' : Wd) (t : List Int), rta u t → u'.1 713 7 = u.1 713 7 → u'.1 718 = u.1 718 → rta u' t := fun u u' t h h1 h2 => ⟨by rw [h1]; exact h.1, (sg_ext (fun i _ => by rw [h2])).trans h.2⟩
  unfold f_X11_message f_X11_message_50 f_X11_message_51 f_X11_message_75 f_X11_message_139 f_X11_message_155
  simp only [e_in, e_isLanguage, e_holds, bd_r, ite_zo, c01, if_true, if_false]
  rw [L.1, e9]
  have thu : ∀ (u : Wd) (x : Int32), (setI u 713 0 x).1 713 0 = x := fun u x => by rw [setI_at, if_pos (by decide)]
  have early : ∀ x : Int32, rta (setI w 713 0 x) tp ∧ (setI w 713 0 x).1 713 9 = w.1 713 9 ∧ (setI w 713 0 x).1 719 = w.1 719 := fun x =>
    ⟨rta_fr _ _ _ ht (by rw [setI_at, if_neg (by omega)]) (by funext k; rw [setI_at, if_neg (by omega)]), by rw [setI_at, if_neg (by omega)], by funext k; rw [setI_at, if_neg (by omega)]⟩
  have bad : bad_nums a.toInt b.toInt c.toInt d.toInt → Wp (if 0 ≤ n.toInt ∧ n.toInt ≤ 1 then some ((0 : Int32), setI w 713 0 2) else some ((0 : Int32), setI w 713 0 1)) (fun r w' => rcg fmg omg w w' ∧ ((bad_lang n.toInt ∧ (w'.1 713 0).toInt = 1 ∧ rta w' tp ∧ w'.1 713 9 = w.1 713 9 ∧ w'.1 719 = w.1 719) ∨ (¬ bad_lang n.toInt ∧ bad_nums a.toInt b.toInt c.toInt d.toInt ∧ (w'.1 713 0).toInt = 2 ∧ rta w' tp ∧ w'.1 713 9 = w.1 713 9 ∧ w'.1 719 = w.1 719) ∨
      (¬ bad_lang n.toInt ∧ ¬ bad_nums a.toInt b.toInt c.toInt d.toInt ∧ msg tab n.toInt.toNat [a.toInt, b.toInt, c.toInt, d.toInt] tp = none ∧ (w'.1 713 0).toInt = 3 ∧ rta w' [] ∧ w'.1 713 9 = w.1 713 9 ∧ w'.1 719 = w.1 719) ∨
      (¬ bad_lang n.toInt ∧ ¬ bad_nums a.toInt b.toInt c.toInt d.toInt ∧ ∃ os, msg tab n.toInt.toNat [a.toInt, b.toInt, c.toInt, d.toInt] tp = some os ∧ (w'.1 713 0).toInt = 0 ∧ r.toInt = os.length ∧ rta w' [] ∧ rou w' os))) := by
    intro q
    refine wp_if (fun hl => wp_ret ⟨rcg_fld (Or.inl rfl), Or.inr (Or.inl ⟨fun z => z hl, q, by rw [thu]; exact L.2.2.2.1, early 2⟩)⟩) (fun hl => wp_ret ⟨rcg_fld (Or.inl rfl), Or.inl ⟨hl, by rw [thu]; exact L.2.1, early 1⟩⟩)
  refine wp_if (fun ha => ?_) (fun ha => bad (fun q => ha q.1))
  refine wp_if (fun hb2 => ?_) (fun hb2 => bad (fun q => hb2 q.2.1))
  refine wp_if (fun hc => ?_) (fun hc => bad (fun q => hc q.2.2.1))
  refine wp_if (fun hd => ?_) (fun hd => bad (fun q => hd q.2.2.2))
  have nn : ¬ bad_nums a.toInt b.toInt c.toInt d.toInt := fun q => q ⟨ha, hb2, hc, hd⟩
  refine wp_if (fun hn => ?_) (fun hn => wp_ret ⟨rcg_fld (Or.inl rfl), Or.inl ⟨hn, by rw [thu]; exact L.2.1, early 1⟩⟩)
  have nl : ¬ bad_lang n.toInt := fun q => q hn
  refine wp_ast (by rw [l4.2.2.2, L.1]; omega) (wp_ast (by rw [l4.2.2.2, L.2.1]; omega) (wp_ast (by rw [l4.2.2.2, L.2.2.2.1]; omega) (wp_ast (by rw [l4.2.2.2, L.2.2.2.2.1]; omega) ?_)))
  rw [L.1, L.2.1, L.2.2.2.1, L.2.2.2.2.1, show Int.toNat 0 = 0 from rfl, show Int.toNat 1 = 1 from rfl, show Int.toNat 2 = 2 from rfl, show Int.toNat 3 = 3 from rfl]
  have R1 : rcg fmg omg w (setI (setI (setI (setI (setI w 713 0 0) 745 0 a) 745 1 b) 745 2 c) 745 3 d) :=
    rcg_tr (rcg_tr (rcg_tr (rcg_tr (rcg_fld (Or.inl rfl)) (rcg_set (by decide) (Or.inr (Or.inr (Or.inr (Or.inr rfl)))))) (rcg_set (by decide) (Or.inr (Or.inr (Or.inr (Or.inr rfl)))))) (rcg_set (by decide) (Or.inr (Or.inr (Or.inr (Or.inr rfl)))))) (rcg_set (by decide) (Or.inr (Or.inr (Or.inr (Or.inr rfl)))))
  have F : ∀ k, k ≠ 713 → k ≠ 745 → (setI (setI (setI (setI (setI w 713 0 0) 745 0 a) 745 1 b) 745 2 c) 745 3 d).1 k = w.1 k := fun k h1 h2 => by
    funext j; rw [setI_at, if_neg (fun z => h2 z.1), setI_at, if_neg (fun z => h2 z.1), setI_at, if_neg (fun z => h2 z.1), setI_at, if_neg (fun z => h2 z.1), setI_at, if_neg (fun z => h1 z.1)]
  have F3 : ∀ f, f ≠ 0 → (setI (setI (setI (setI (setI w 713 0 0) 745 0 a) 745 1 b) 745 2 c) 745 3 d).1 713 f = w.1 713 f := fun f h => by
    rw [setI_at, if_neg (by omega), setI_at, if_neg (by omega), setI_at, if_neg (by omega), setI_at, if_neg (by omega), setI_at, if_neg (fun z => h z.2)]
  have Z1 : ((setI (setI (setI (setI (setI w 713 0 0) 745 0 a) 745 1 b) 745 2 c) 745 3 d).1 713 0).toInt = 0 := by
    rw [setI_at, if_neg (by omega), setI_at, if_neg (by omega), setI_at, if_neg (by omega), setI_at, if_neg (by omega), thu]; exact L.1
  have N1 : nmr (setI (setI (setI (setI (setI w 713 0 0) 745 0 a) 745 1 b) 745 2 c) 745 3 d) [a.toInt, b.toInt, c.toInt, d.toInt] := by
    intro k hk4
    have cs : k = 0 ∨ k = 1 ∨ k = 2 ∨ k = 3 := by omega
    rcases cs with rfl | rfl | rfl | rfl
    · rw [setI_at, if_neg (by omega), setI_at, if_neg (by omega), setI_at, if_neg (by omega), setI_at, if_pos ⟨rfl, rfl⟩]; rfl
    · rw [setI_at, if_neg (by omega), setI_at, if_neg (by omega), setI_at, if_pos ⟨rfl, rfl⟩]; rfl
    · rw [setI_at, if_neg (by omega), setI_at, if_pos ⟨rfl, rfl⟩]; rfl
    · rw [setI_at, if_pos ⟨rfl, rfl⟩]; rfl
  generalize setI (setI (setI (setI (setI w 713 0 0) 745 0 a) 745 1 b) 745 2 c) 745 3 d = u at *
  have hr : ∀ k : Int, 0 ≤ k → k < 4 → 0 ≤ gt [a.toInt, b.toInt, c.toInt, d.toInt] k ∧ gt [a.toInt, b.toInt, c.toInt, d.toInt] k ≤ 999999 := fun k h0 h4 => four (P := fun x _ => 0 ≤ x ∧ x ≤ 999999) (x := 0) (y := 0) (z := 0) (v := 0) ha hb2 hc hd k h0 h4
  have Tu : rtab u = tab := by rw [rtab_fr (F 714 (by decide) (by decide))]; exact hT
  have tu : rta u tp := rta_fr _ _ _ ht (F3 7 (by decide)) (F 718 (by decide) (by decide))
  have M : ∀ u1 u2, rcg fml oml u1 u2 → rcg fmg omg u1 u2 := fun u1 u2 h => rcg_mono h (fun _ q => q.elim (fun e => Or.inr (Or.inr (Or.inr e))) (fun e => Or.inr (Or.inr (Or.inl e)))) (fun _ q => q.elim Or.inl (fun q => q.elim (fun e => Or.inr (Or.inl e)) (fun q => q.elim (fun e => Or.inr (Or.inr (Or.inl e))) (fun e => Or.inr (Or.inr (Or.inr (Or.inl e)))))))
  refine wp_bd (s_readsMessage (b := (0 : Int32)) (out0 := []) hk Tu tu hb hn N1 hr (Or.inl L.1)) ?_
  rintro x u1 ⟨r1, n1, hres⟩
  have n1' := n1 L.1
  have Z2 : (u1.1 713 0).toInt = 0 := by rw [r1.2.1 0 (by unfold fml; decide)]; exact Z1
  have o9 : u1.1 713 9 = w.1 713 9 := n1'.1.trans (F3 9 (by decide))
  have o19 : u1.1 719 = w.1 719 := n1'.2.trans (F 719 (by decide) (by decide))
  rcases hres with ⟨rfl, hm⟩ | ⟨rfl, os, hm, -⟩
  · refine wp_ifeq (fun _ => ?_) (fun z => absurd rfl z)
    refine wp_wr (wp_ifeq (fun _ => wp_ret ⟨rcg_tr R1 (rcg_tr (M _ _ r1) (rcg_tr (rcg_fld (Or.inr (Or.inl rfl))) (rcg_fld (Or.inl rfl)))), Or.inr (Or.inr (Or.inl ⟨nl, nn, hm, by rw [thu]; exact L.2.2.2.2.1, ?_, ?_, ?_⟩))⟩) (fun z => absurd rfl z))
    · exact rta_fr _ _ _ (rta_nil u1) (by rw [setI_at, if_neg (by omega)]) (by funext k; rw [setI_at, if_neg (by omega)])
    · rw [setI_at, if_neg (by omega), setI_at, if_neg (by omega)]; exact o9
    · funext k; rw [setI_at, if_neg (by omega), setI_at, if_neg (by omega)]; exact congrFun o19 k
  · refine wp_ifeq (fun z => absurd z (by decide)) (fun _ => wp_wr ?_)
    have r2 : rcg fmg omg w (setI u1 713 9 0) := rcg_tr R1 (rcg_tr (M _ _ r1) (rcg_fld (Or.inr (Or.inr (Or.inl rfl)))))
    have T2 : rtab (setI u1 713 9 0) = tab := by
      rw [rtab_fr (w := u) (by funext k; rw [setI_at, if_neg (by omega), r1.1 714 (by decide) (by unfold oml; decide)])]; exact Tu
    have t2 : rta (setI u1 713 9 0) tp := rta_fr _ _ _ tu (by rw [setI_at, if_neg (by omega), r1.2.1 7 (by unfold fml; decide)]) (by funext k; rw [setI_at, if_neg (by omega), r1.1 718 (by decide) (by unfold oml; decide)])
    have N2 : nmr (setI u1 713 9 0) [a.toInt, b.toInt, c.toInt, d.toInt] := fun k h => by rw [setI_at, if_neg (by omega), r1.1 745 (by decide) (by unfold oml; decide)]; exact N1 k h
    have O2 : rou (setI u1 713 9 0) [] := ⟨by rw [setI_at, if_pos ⟨rfl, rfl⟩]; exact L.1, fun k hk2 => absurd hk2 (Nat.not_lt_zero _)⟩
    have Z3 : ((setI u1 713 9 0).1 713 0).toInt = 0 := by rw [setI_at, if_neg (by omega)]; exact Z2
    generalize setI u1 713 9 0 = u2 at *
    refine wp_bd (s_readsMessage (b := (1 : Int32)) (out0 := []) hk T2 t2 hb hn N2 hr (Or.inr ⟨L.2.1, O2, Nat.zero_le _⟩)) ?_
    rintro y u3 ⟨r3, -, hres2⟩
    rcases hres2 with ⟨rfl, hm2⟩ | ⟨rfl, os2, hm2, ho2⟩
    · rw [hm] at hm2; cases hm2
    · refine wp_wr (wp_ifeq (fun z => absurd z (by decide)) (fun _ => ?_))
      have O3 := ho2 L.2.1
      refine wp_ret ⟨rcg_tr r2 (rcg_tr (M _ _ r3) (rcg_tr (rcg_fld (Or.inr (Or.inl rfl))) (rcg_fld (Or.inl rfl)))), Or.inr (Or.inr (Or.inr ⟨nl, nn, os2, hm2, by rw [thu]; exact L.1, ?_, ?_, ?_⟩))⟩
      · rw [setI_at, if_neg (by omega), setI_at, if_neg (by omega)]; exact O3.1
      · exact rta_fr _ _ _ (rta_nil u3) (by rw [setI_at, if_neg (by omega)]) (by funext k; rw [setI_at, if_neg (by omega)])
      · exact ⟨by rw [setI_at, if_neg (by omega), setI_at, if_neg (by omega)]; exact O3.1, fun k hk2 => by rw [setI_at, if_neg (by omega), setI_at, if_neg (by omega)]; exact O3.2 k hk2⟩
