/-! ===== contract (reference), plural ===== -/
theorem r_contract {w : Wd} {n a b f s t : Int32} (hk : tok (rtab w)) :
    Wp (f_X11_contract n a b f s t w) (fun r w' => rcg (fun f => f = 0) (fun k => k = 714) w w' ∧
      ((bad_c1 n.toInt a.toInt b.toInt ∧ (w'.1 713 0).toInt = 1 ∧ rtab w' = rtab w) ∨ (¬ bad_c1 n.toInt a.toInt b.toInt ∧ bad_w2 f.toInt s.toInt t.toInt ∧ (w'.1 713 0).toInt = 2 ∧ rtab w' = rtab w) ∨
      (¬ bad_c1 n.toInt a.toInt b.toInt ∧ ¬ bad_w2 f.toInt s.toInt t.toInt ∧ bad_c3 (rtab w) n.toInt.toNat a.toInt b.toInt ∧ (w'.1 713 0).toInt = 3 ∧ rtab w' = rtab w) ∨
      (¬ bad_c1 n.toInt a.toInt b.toInt ∧ ¬ bad_w2 f.toInt s.toInt t.toInt ∧ (w'.1 713 0).toInt = 0 ∧ ∃ (i : Nat) (d : Int), conP (rtab w) n.toInt.toNat a.toInt b.toInt i d ∧ r.toInt = rtab w (1440 + n.toInt.toNat) + d ∧ rtab w' = tcon (rtab w) n.toInt.toNat i d a.toInt b.toInt f.toInt s.toInt t.toInt))) := by
  have L := LIT
  unfold f_X11_contract f_X11_contract_25 f_X11_contract_26 f_X11_contract_49 f_X11_contract_50 f_X11_contract_68 f_X11_contract_114 f_X11_contract_115
  simp only [e_isLanguage, e_isLetterR, e_areWeights, e_holds, bd_r, ite_zo, c01, if_true, if_false]
  have bad1 : bad_c1 n.toInt a.toInt b.toInt → Wp (some ((0 : Int32), setI w 713 0 1)) (fun r w' => rcg (fun f => f = 0) (fun k => k = 714) w w' ∧
      ((bad_c1 n.toInt a.toInt b.toInt ∧ (w'.1 713 0).toInt = 1 ∧ rtab w' = rtab w) ∨ (¬ bad_c1 n.toInt a.toInt b.toInt ∧ bad_w2 f.toInt s.toInt t.toInt ∧ (w'.1 713 0).toInt = 2 ∧ rtab w' = rtab w) ∨
      (¬ bad_c1 n.toInt a.toInt b.toInt ∧ ¬ bad_w2 f.toInt s.toInt t.toInt ∧ bad_c3 (rtab w) n.toInt.toNat a.toInt b.toInt ∧ (w'.1 713 0).toInt = 3 ∧ rtab w' = rtab w) ∨
      (¬ bad_c1 n.toInt a.toInt b.toInt ∧ ¬ bad_w2 f.toInt s.toInt t.toInt ∧ (w'.1 713 0).toInt = 0 ∧ ∃ (i : Nat) (d : Int), conP (rtab w) n.toInt.toNat a.toInt b.toInt i d ∧ r.toInt = rtab w (1440 + n.toInt.toNat) + d ∧ rtab w' = tcon (rtab w) n.toInt.toNat i d a.toInt b.toInt f.toInt s.toInt t.toInt))) :=
    fun q => wp_ret ⟨rcg_fld rfl, Or.inl ⟨q, by rw [th_at]; exact L.2.1, rtab_o (by decide)⟩⟩
  have c1m : ((-1 : Int32) = -1) = True := by decide
  by_cases hn : 0 ≤ n.toInt ∧ n.toInt ≤ 1
  · by_cases ha : 0 ≤ a.toInt ∧ a.toInt ≤ 95
    · by_cases hb : 0 ≤ b.toInt ∧ b.toInt ≤ 95
      · have nb1 : ¬ bad_c1 n.toInt a.toInt b.toInt := fun q => q ⟨hn, ha, hb⟩
        simp only [if_pos hn, if_pos ha, if_pos hb]
        by_cases hw : (0 ≤ f.toInt ∧ f.toInt ≤ 99) ∧ (0 ≤ s.toInt ∧ s.toInt ≤ 9) ∧ (0 ≤ t.toInt ∧ t.toInt ≤ 9)
        · have nb2 : ¬ bad_w2 f.toInt s.toInt t.toInt := fun q => q hw
          simp only [if_pos hw]
          have e1 : (1440 : Int32).toInt = 1440 := by decide
          have e2 : (1442 : Int32).toInt = 1442 := by decide
          have hL := LENs.2.2.1
          have m1 : ((6 : Int32) * n).toInt = 6 * n.toInt := i_mul' (by decide) (by omega)
          have ac : ((1440 : Int32) + n).toInt = 1440 + n.toInt := by rw [i_add (by omega), e1]
          have acn : ((1440 : Int32) + n).toInt.toNat = 1440 + n.toInt.toNat := by rw [ac]; omega
          have K := hk.2.1 n.toInt.toNat (by omega)
          have cnt : ∀ w1 : Wd, (w1.1 714 ((1440 : Int32) + n).toInt.toNat).toInt = rtab w1 (1440 + n.toInt.toNat) := by
            intro w1; unfold rtab; rw [acn]
          have hn2 : n.toInt.toNat < 2 := by omega
          have fin : ∀ (at_ x1 dd : Int32) (i : Nat) (d : Int), conP (rtab w) n.toInt.toNat a.toInt b.toInt i d → at_.toInt = 1442 + 5 * (6 * n.toInt + i) → dd.toInt = d → x1.toInt = rtab w (1440 + n.toInt.toNat) →
              Wp (f_X11_contract_179 n a b f s t at_ 714 ((1440 : Int32) + n) x1 dd (setI w 713 0 0)) (fun r w' => rcg (fun f => f = 0) (fun k => k = 714) w w' ∧
      ((bad_c1 n.toInt a.toInt b.toInt ∧ (w'.1 713 0).toInt = 1 ∧ rtab w' = rtab w) ∨ (¬ bad_c1 n.toInt a.toInt b.toInt ∧ bad_w2 f.toInt s.toInt t.toInt ∧ (w'.1 713 0).toInt = 2 ∧ rtab w' = rtab w) ∨
      (¬ bad_c1 n.toInt a.toInt b.toInt ∧ ¬ bad_w2 f.toInt s.toInt t.toInt ∧ bad_c3 (rtab w) n.toInt.toNat a.toInt b.toInt ∧ (w'.1 713 0).toInt = 3 ∧ rtab w' = rtab w) ∨
      (¬ bad_c1 n.toInt a.toInt b.toInt ∧ ¬ bad_w2 f.toInt s.toInt t.toInt ∧ (w'.1 713 0).toInt = 0 ∧ ∃ (i : Nat) (d : Int), conP (rtab w) n.toInt.toNat a.toInt b.toInt i d ∧ r.toInt = rtab w (1440 + n.toInt.toNat) + d ∧ rtab w' = tcon (rtab w) n.toInt.toNat i d a.toInt b.toInt f.toInt s.toInt t.toInt))) := by
            intro at_ x1 dd i d hP hat hdd hx1
            have ip : (i : Int) < 6 := by rcases hP with h | h <;> omega
            have dp : 0 ≤ d ∧ d ≤ 1 := by rcases hP with h | h <;> omega
            unfold f_X11_contract_179
            have xs : (x1 + dd).toInt = rtab w (1440 + n.toInt.toNat) + d := by rw [i_add (by omega), hx1, hdd]
            have at1 : (at_ + 1).toInt = at_.toInt + 1 := by rw [i_add (by omega), L.2.1]
            have at2 : (at_ + 2).toInt = at_.toInt + 2 := by rw [i_add (by omega), L.2.2.2.1]
            have atn : at_.toInt.toNat = 1442 + 5 * (6 * n.toInt.toNat + i) := by omega
            refine wp_ast (by omega) (wp_ast (by omega) (wp_ast (by omega) (wp_bd (s_weighs (by omega) (by omega)) ?_)))
            rintro _ w2 ⟨hr, ht⟩
            have hr2 : rcg (fun f => f = 0) (fun k => k = 714) w w2 := rcg_tr (rcg_tr (rcg_tr (rcg_tr (rcg_fld rfl) (rcg_set (by decide) rfl)) (rcg_set (by decide) rfl)) (rcg_set (by decide) rfl)) (rcg_mono hr (fun _ q => q.elim) (fun _ q => q))
            have ht2 : rtab w2 = tcon (rtab w) n.toInt.toNat i d a.toInt b.toInt f.toInt s.toInt t.toInt := by
              rw [ht, rtab_set, rtab_set, rtab_set, rtab_o (by decide), acn, xs, at2, at1, show (at_.toInt + 1).toNat = 1442 + 5 * (6 * n.toInt.toNat + i) + 1 by omega, show (at_.toInt + 2).toNat = 1442 + 5 * (6 * n.toInt.toNat + i) + 2 by omega, atn]
              rfl
            refine wp_ald (by omega) (wp_ret ⟨hr2, Or.inr (Or.inr (Or.inr ⟨nb1, nb2, ?_, i, d, hP, ?_, ht2⟩))⟩)
            · rw [hr.2.1 0 (fun q => q)]
              rw [setI_at, if_neg (by omega), setI_at, if_neg (by omega), setI_at, if_neg (by omega), th_at]
              exact L.1
            · rw [cnt, ht2, tcon_c hn2]
          have fin2 : ∀ (x at_ : Int32) (i : Nat) (d : Int), conP (rtab w) n.toInt.toNat a.toInt b.toInt i d → at_.toInt = 1442 + 5 * (6 * n.toInt + i) → (d = 1 → x.toInt = -1) → (d = 0 → x.toInt ≠ -1) →
              Wp (f_X11_contract_155 n a b f s t x at_ (setI w 713 0 0)) (fun r w' => rcg (fun f => f = 0) (fun k => k = 714) w w' ∧
      ((bad_c1 n.toInt a.toInt b.toInt ∧ (w'.1 713 0).toInt = 1 ∧ rtab w' = rtab w) ∨ (¬ bad_c1 n.toInt a.toInt b.toInt ∧ bad_w2 f.toInt s.toInt t.toInt ∧ (w'.1 713 0).toInt = 2 ∧ rtab w' = rtab w) ∨
      (¬ bad_c1 n.toInt a.toInt b.toInt ∧ ¬ bad_w2 f.toInt s.toInt t.toInt ∧ bad_c3 (rtab w) n.toInt.toNat a.toInt b.toInt ∧ (w'.1 713 0).toInt = 3 ∧ rtab w' = rtab w) ∨
      (¬ bad_c1 n.toInt a.toInt b.toInt ∧ ¬ bad_w2 f.toInt s.toInt t.toInt ∧ (w'.1 713 0).toInt = 0 ∧ ∃ (i : Nat) (d : Int), conP (rtab w) n.toInt.toNat a.toInt b.toInt i d ∧ r.toInt = rtab w (1440 + n.toInt.toNat) + d ∧ rtab w' = tcon (rtab w) n.toInt.toNat i d a.toInt b.toInt f.toInt s.toInt t.toInt))) := by
            intro x at_ i d hP hat h1 h0
            unfold f_X11_contract_155
            have cz : ((setI w 713 0 0).1 714 ((1440 : Int32) + n).toInt.toNat).toInt = rtab w (1440 + n.toInt.toNat) := by rw [cnt, rtab_o (by decide)]
            refine wp_ald (by omega) (wp_ifeq (fun q => ?_) (fun q => ?_))
            · rcases hP with h | h
              · exact absurd (by omega) (h0 h.1)
              · exact fin at_ _ 1 i d (Or.inr h) hat (by rw [h.1]; exact L.2.1) cz
            · rcases hP with h | h
              · exact fin at_ _ 0 i d (Or.inl h) hat (by rw [h.1]; exact L.1) cz
              · exact absurd (by rw [h1 h.1]; exact L.2.2.1.symm) q
          refine wp_bd (s_contraction hn hk) ?_
          rintro x _ ⟨rfl, ⟨hx, hno⟩ | ⟨i, hi, hm, hx⟩⟩
          · refine wp_ifeq (fun q => ?_) (fun q => by omega)
            refine wp_ald (by omega) (wp_ifeq (fun q2 => ?_) (fun q2 => ?_))
            · rw [cnt] at q2
              refine wp_ret ⟨rcg_fld rfl, Or.inr (Or.inr (Or.inl ⟨nb1, nb2, ⟨by omega, hno⟩, by rw [th_at]; exact L.2.2.2.2.1, rtab_o (by decide)⟩))⟩
            · rw [cnt] at q2
              have cz : ((setI w 713 0 0).1 714 ((1440 : Int32) + n).toInt.toNat).toInt = rtab w (1440 + n.toInt.toNat) := by rw [cnt, rtab_o (by decide)]
              refine wp_ifeq (fun q3 => ?_) (fun q3 => by omega)
              refine wp_ald (by omega) ?_
              generalize (setI w 713 0 0).1 714 ((1440 : Int32) + n).toInt.toNat = x3 at cz
              have m2 : ((6 : Int32) * n + x3).toInt = 6 * n.toInt + x3.toInt := by rw [i_add (by omega), m1]
              have m3 : ((5 : Int32) * ((6 : Int32) * n + x3)).toInt = 5 * (6 * n.toInt + x3.toInt) := by rw [i_mul' (n := 5) (by decide) (by omega), m2]
              have m4 : ((1442 : Int32) + (5 : Int32) * ((6 : Int32) * n + x3)).toInt = 1442 + 5 * (6 * n.toInt + x3.toInt) := by rw [i_add (by omega), m3, e2]
              exact fin2 x _ (rtab w (1440 + n.toInt.toNat)).toNat 1 (Or.inr ⟨rfl, by omega, by omega, hno⟩) (by rw [m4, cz]; omega) (fun _ => hx) (fun q => absurd q (by decide))
          · refine wp_ifeq (fun q => by omega) (fun q => ?_)
            refine wp_ifeq (fun q => by omega) (fun q => ?_)
            exact fin2 x x i 0 (Or.inl ⟨rfl, hi, hm⟩) hx (fun q => absurd q (by decide)) (fun _ => by omega)
        · simp only [if_neg hw]
          refine wp_bd (s_contraction hn hk) ?_
          rintro x _ ⟨rfl, hx⟩
          exact wp_ret ⟨rcg_fld rfl, Or.inr (Or.inl ⟨nb1, hw, by rw [th_at]; exact L.2.2.2.1, rtab_o (by decide)⟩)⟩
      · simp only [if_pos hn, if_pos ha, if_neg hb]
        exact bad1 (fun q => hb q.2.2)
    · simp only [if_pos hn, if_neg ha]
      exact bad1 (fun q => ha q.2.1)
  · simp only [if_neg hn]
    exact bad1 (fun q => hn q.1)
/-! plural -/
def tput (tab : Nat → Int) (a : Nat) (l : List Int) : Nat → Int := fun k => if a ≤ k ∧ k < a + l.length then l.getD (k - a) 0 else tab k
theorem tput_at (tab : Nat → Int) (a : Nat) (l : List Int) (k : Nat) : tput tab a l k = if a ≤ k ∧ k < a + l.length then l.getD (k - a) 0 else tab k := rfl
theorem tput_nil (tab : Nat → Int) (a : Nat) : tput tab a [] = tab := by
  funext k; rw [tput_at, if_neg (by simp only [List.length_nil]; omega)]
theorem tput_snoc (tab : Nat → Int) (a : Nat) (l : List Int) (x : Int) : tput tab a (l ++ [x]) = tset (tput tab a l) (a + l.length) x := by
  funext k
  rw [tset_at, tput_at, tput_at, List.length_append, List.length_singleton]
  by_cases h : k = a + l.length
  · rw [if_pos (by omega), if_pos h, List.getD_eq_getElem?_getD, List.getElem?_append_right (by omega), show k - a - l.length = 0 by omega]; rfl
  · rw [if_neg h]
    by_cases h2 : a ≤ k ∧ k < a + l.length
    · rw [if_pos (by omega), if_pos h2, List.getD_eq_getElem?_getD, List.getD_eq_getElem?_getD, List.getElem?_append_left (by omega)]
    · rw [if_neg (by omega), if_neg h2]
def plu7 (a b c d e f g : Int) : List Int := [a, b, c, d, e, f, g]
def tplu (tab : Nat → Int) (n : Nat) (l : List Int) : Nat → Int := tset (tput tab (1680 + 7 * (4 * n + (tab (1678 + n)).toNat)) l) (1678 + n) (tab (1678 + n) + 1)
def bad_p1 (n : Int) : Prop := ¬ (0 ≤ n ∧ n ≤ 1)
def bad_p2 (a b c d e f g : Int) : Prop := ¬ ((0 ≤ a ∧ a ≤ 2) ∧ (1 ≤ b ∧ b ≤ 100) ∧ (0 ≤ c ∧ c ≤ d ∧ d ≤ 99) ∧ ((e = 0 ∧ f = 0 ∧ g = 0) ∨ ((1 ≤ e ∧ e ≤ 100) ∧ 0 ≤ f ∧ f ≤ g ∧ g ≤ 99)))
def plu_res (tab : Nat → Int) (n : Nat) (b1 b2 : Prop) (l : List Int) (w : Wd) (r : Nat ⊕ Int32) (w' : Wd) : Prop :=
  (b1 ∧ r = .inl 1 ∧ w' = w) ∨ (¬ b1 ∧ b2 ∧ r = .inl 2 ∧ w' = w) ∨ (¬ b1 ∧ ¬ b2 ∧ tab (1678 + n) = 4 ∧ r = .inl 3 ∧ w' = w) ∨
  (¬ b1 ∧ ¬ b2 ∧ tab (1678 + n) ≠ 4 ∧ (∃ x : Int32, r = .inr x ∧ x.toInt = tab (1678 + n) + 1) ∧ trel w' 1 (tplu tab n l) ∧ okall w' ∧ oc tin w w')
theorem k_plural {w : Wd} {tab : Nat → Int} {n a b c d e f g : Int32} (hk : tok tab) (h : trel w 1 tab) (ho : okall w) :
    Wp (f_X10_plural n a b c d e f g w) (plu_res tab n.toInt.toNat (bad_p1 n.toInt) (bad_p2 a.toInt b.toInt c.toInt d.toInt e.toInt f.toInt g.toInt) (plu7 a.toInt b.toInt c.toInt d.toInt e.toInt f.toInt g.toInt) w) := by
  have L := LIT
  unfold f_X10_plural f_X10_plural_40 f_X10_plural_41 f_X10_plural_63 f_X10_plural_64 f_X10_plural_96 f_X10_plural_97
  have e0 : f_X10_checkArgument (0 : Int32) = fun w => some (.inl 2, w) := rfl
  have e1 : f_X10_checkArgument (1 : Int32) = fun w => some (.inr (), w) := rfl
  simp only [e_languageOf, e_checkLetter, e_isWithin, e_isRange, bdx_c, bd_r, ite_zo, e0, e1, c01, if_true, if_false, bdx_r, bdx_l]
  simp only [ICMP, L]
  refine wp_if (fun hn => ?_) (fun hn => wp_ret (Or.inl ⟨hn, rfl, rfl⟩))
  have nb1 : ¬ bad_p1 n.toInt := fun q => q hn
  generalize hN : n.toInt.toNat = N at *
  have hN2 : N < 2 := by omega
  have hL := lang_kd N hN2
  have F := lang_facts _ hL
  have U := h.2.1 N hN2
  rw [show 1 + 12 + 13 * N = 13 + 13 * N by omega] at U
  have K := hk.2.1 N hN2
  have bad : bad_p2 a.toInt b.toInt c.toInt d.toInt e.toInt f.toInt g.toInt → Wp (some (Sum.inl 2, w)) (plu_res tab N (bad_p1 n.toInt) (bad_p2 a.toInt b.toInt c.toInt d.toInt e.toInt f.toInt g.toInt) (plu7 a.toInt b.toInt c.toInt d.toInt e.toInt f.toInt g.toInt) w) :=
    fun q => wp_ret (Or.inr (Or.inl ⟨nb1, q, rfl, rfl⟩))
  have good : ¬ bad_p2 a.toInt b.toInt c.toInt d.toInt e.toInt f.toInt g.toInt → Wp (bdq (f_X2_nextPlural (13 + 13 * N) w) (fun w3 => some (Sum.inl 3, w3)) fun r2 w4 => bd (f_X6_tell r2 a b c d e f g w4) fun x w5 => bd (f_X2_countPlural (13 + 13 * N) w5) fun x7 w6 => some (Sum.inr x7, w6)) (plu_res tab N (bad_p1 n.toInt) (bad_p2 a.toInt b.toInt c.toInt d.toInt e.toInt f.toInt g.toInt) (plu7 a.toInt b.toInt c.toInt d.toInt e.toInt f.toInt g.toInt) w) := by
    intro nb2
    generalize hLL : 13 + 13 * N = LL at *
    obtain ⟨u1, u2, u3, u4, u5, u6⟩ := U
    have hl4 : (Int32.ofNat (LEN (LL + 8))).toInt = 4 := by rw [F.2.2.2.2.2.1]; decide
    unfold f_X2_nextPlural
    by_cases full : tab (1678 + N) = 4
    · refine wp_bdq (P := fun r w' => r = none ∧ w = w') (wp_iflt (fun q => by omega) (fun q => wp_iflt (fun q2 => by omega) (fun q2 => wp_ret ⟨rfl, rfl⟩))) ?_ ?_
      · rintro _ ⟨_, rfl⟩
        exact wp_ret (Or.inr (Or.inr (Or.inl ⟨nb1, nb2, full, rfl, rfl⟩)))
      · rintro r _ ⟨q, _⟩
        cases q
    · generalize hc : (tab (1678 + N)).toNat = C at *
      have hC : C < 4 := by omega
      refine wp_bdq (P := fun r w' => r = some (LL + 9 + C) ∧ w = w') (wp_iflt (fun q => by omega) (fun q => wp_iflt (fun q2 => wp_ard (by rw [F.2.2.2.2.2.1]; omega) (wp_ret ⟨?_, rfl⟩)) (fun q2 => by omega))) ?_ ?_
      · rw [show (w.1 LL 6).toInt.toNat = C by omega, (F.2.2.2.2.2.2 C hC).1]
      · rintro _ ⟨q, _⟩
        cases q
      · rintro r _ ⟨q, rfl⟩
        cases q
        have kr := (F.2.2.2.2.2.2 C hC).2
        unfold f_X6_tell f_X2_countPlural wr
        have x1 : (w.1 LL 6 + 1).toInt = tab (1678 + N) + 1 := by rw [i_add (by omega), L.2.1, u5]
        have e6 : (setI (setI (setI (setI (setI (setI (setI w (LL + 9 + C) 0 a) (LL + 9 + C) 1 b) (LL + 9 + C) 2 c) (LL + 9 + C) 3 d) (LL + 9 + C) 4 e) (LL + 9 + C) 5 f) (LL + 9 + C) 6 g).1 LL 6 = w.1 LL 6 := by
          simp only [setI_at]
          rw [if_neg (by omega), if_neg (by omega), if_neg (by omega), if_neg (by omega), if_neg (by omega), if_neg (by omega), if_neg (by omega)]
        simp only [bd_r, e6]
        refine wp_ret (Or.inr (Or.inr (Or.inr ⟨nb1, nb2, full, ⟨_, rfl, ?_⟩, good_U hN2 hk h (fun k q => ?_) rfl (fun i hi => ?_) ?_ ?_⟩)))
        · rw [setI_at, if_pos ⟨rfl, rfl⟩]; exact x1
        · funext m
          simp only [setI_at]
          rw [if_neg (by omega), if_neg (by omega), if_neg (by omega), if_neg (by omega), if_neg (by omega), if_neg (by omega), if_neg (by omega), if_neg (by omega)]
        · unfold uix at hi
          unfold tplu
          rw [tset_at, if_neg (by omega), tput_at, if_neg (by rw [show (plu7 a.toInt b.toInt c.toInt d.toInt e.toInt f.toInt g.toInt).length = 7 from rfl]; omega)]
        · have tin : ∀ k, ¬ (1680 + 7 * (4 * N + C) ≤ k ∧ k < 1680 + 7 * (4 * N + C) + 7) → k ≠ 1678 + N → tplu tab N (plu7 a.toInt b.toInt c.toInt d.toInt e.toInt f.toInt g.toInt) k = tab k := by
            intro k h1 h2
            unfold tplu
            rw [tset_at, if_neg h2, tput_at, hc, if_neg (by rw [show (plu7 a.toInt b.toInt c.toInt d.toInt e.toInt f.toInt g.toInt).length = 7 from rfl]; exact h1)]
          have tc : tplu tab N (plu7 a.toInt b.toInt c.toInt d.toInt e.toInt f.toInt g.toInt) (1678 + N) = tab (1678 + N) + 1 := by
            unfold tplu; rw [tset_at, if_pos rfl]
          have tv : ∀ j, j < 7 → tplu tab N (plu7 a.toInt b.toInt c.toInt d.toInt e.toInt f.toInt g.toInt) (1680 + 7 * (4 * N + C) + j) = (plu7 a.toInt b.toInt c.toInt d.toInt e.toInt f.toInt g.toInt).getD j 0 := by
            intro j hj
            unfold tplu
            rw [tset_at, if_neg (by omega), tput_at, hc, if_pos (by rw [show (plu7 a.toInt b.toInt c.toInt d.toInt e.toInt f.toInt g.toInt).length = 7 from rfl]; omega), show 1680 + 7 * (4 * N + C) + j - (1680 + 7 * (4 * N + C)) = j by omega]
          have rr : ∀ o, KD o = 7 → o = LL + 4 ∨ o = LL + 6 → rl (setI (setI (setI (setI (setI (setI (setI (setI w (LL + 9 + C) 0 a) (LL + 9 + C) 1 b) (LL + 9 + C) 2 c) (LL + 9 + C) 3 d) (LL + 9 + C) 4 e) (LL + 9 + C) 5 f) (LL + 9 + C) 6 g) LL 6 (w.1 LL 6 + 1)) o = rl w o := by
            intro o _ ho2
            refine rl_fr ?_ ?_
            · funext m
              simp only [setI_at]
              rw [if_neg (by omega), if_neg (by omega), if_neg (by omega), if_neg (by omega), if_neg (by omega), if_neg (by omega), if_neg (by omega), if_neg (by omega)]
            · funext m
              simp only [setI_at]
              rw [if_neg (by omega), if_neg (by omega), if_neg (by omega), if_neg (by omega), if_neg (by omega), if_neg (by omega), if_neg (by omega), if_neg (by omega)]
          rw [hLL]
          unfold urel
          rw [rr _ F.2.1 (Or.inl rfl), rr _ F.2.2.2.1 (Or.inr rfl), tc, tin (1440 + N) (by omega) (by omega)]
          refine ⟨fun u hu r hr => ?_, u2, u3, fun i hi => ?_, ?_, fun i hi k hk => ?_⟩
          · rw [tin _ (by omega) (by omega)]
            simp only [setI_at]
            rw [if_neg (by omega), if_neg (by omega), if_neg (by omega), if_neg (by omega), if_neg (by omega), if_neg (by omega), if_neg (by omega), if_neg (by omega)]
            exact u1 u hu r hr
          · obtain ⟨v1, v2, v3⟩ := u4 i hi
            rw [tin _ (by omega) (by omega), tin _ (by omega) (by omega)]
            refine ⟨v1, v2, fun r hr => ?_⟩
            rw [tin _ (by omega) (by omega)]
            simp only [setI_at]
            rw [if_neg (by omega), if_neg (by omega), if_neg (by omega), if_neg (by omega), if_neg (by omega), if_neg (by omega), if_neg (by omega), if_neg (by omega)]
            exact v3 r hr
          · rw [setI_at, if_pos ⟨rfl, rfl⟩]; exact x1
          · by_cases ic : i = C
            · subst ic
              rw [tv k hk]
              rcases (show k = 0 ∨ k = 1 ∨ k = 2 ∨ k = 3 ∨ k = 4 ∨ k = 5 ∨ k = 6 by omega) with rfl | rfl | rfl | rfl | rfl | rfl | rfl <;> simp [setI_at, plu7]
              rw [if_neg (by omega)]
            · rw [tin _ (by omega) (by omega)]
              simp only [setI_at]
              rw [if_neg (by omega), if_neg (by omega), if_neg (by omega), if_neg (by omega), if_neg (by omega), if_neg (by omega), if_neg (by omega), if_neg (by omega)]
              exact u6 i (by omega) k hk
        · have k6 : KD (LL + 9 + C) ≠ 7 := by omega
          exact okall_setI (okall_setI (okall_setI (okall_setI (okall_setI (okall_setI (okall_setI (okall_setI ho k6) k6) k6) k6) k6) k6) k6) (by omega)
  unfold bad_p2 at bad good ⊢
  repeat' (first | exact bad (by omega) | exact good (by omega) | refine wp_if (fun _ => ?_) (fun _ => ?_))
theorem r_plural {w : Wd} {n a b c d e f g : Int32} (hk : tok (rtab w)) :
    Wp (f_X11_plural n a b c d e f g w) (fun r w' => rcg (fun f => f = 0) (fun k => k = 714) w w' ∧
      ((bad_p1 n.toInt ∧ (w'.1 713 0).toInt = 1 ∧ rtab w' = rtab w) ∨ (¬ bad_p1 n.toInt ∧ bad_p2 a.toInt b.toInt c.toInt d.toInt e.toInt f.toInt g.toInt ∧ (w'.1 713 0).toInt = 2 ∧ rtab w' = rtab w) ∨
      (¬ bad_p1 n.toInt ∧ ¬ bad_p2 a.toInt b.toInt c.toInt d.toInt e.toInt f.toInt g.toInt ∧ rtab w (1678 + n.toInt.toNat) = 4 ∧ (w'.1 713 0).toInt = 3 ∧ rtab w' = rtab w) ∨
      (¬ bad_p1 n.toInt ∧ ¬ bad_p2 a.toInt b.toInt c.toInt d.toInt e.toInt f.toInt g.toInt ∧ rtab w (1678 + n.toInt.toNat) ≠ 4 ∧ (w'.1 713 0).toInt = 0 ∧ r.toInt = rtab w (1678 + n.toInt.toNat) + 1 ∧ rtab w' = tplu (rtab w) n.toInt.toNat (plu7 a.toInt b.toInt c.toInt d.toInt e.toInt f.toInt g.toInt)))) := by
  have L := LIT
  unfold f_X11_plural f_X11_plural_57 f_X11_plural_58 f_X11_plural_110 f_X11_plural_111 f_X11_plural_153
  simp only [e_in, e_isLanguage, e_holds, bd_r, ite_zo, c01, if_true, if_false]
  by_cases hn : 0 ≤ n.toInt ∧ n.toInt ≤ 1
  · have nb1 : ¬ bad_p1 n.toInt := fun q => q hn
    simp only [if_pos hn]
    have bad : bad_p2 a.toInt b.toInt c.toInt d.toInt e.toInt f.toInt g.toInt → Wp (some ((0 : Int32), setI w 713 0 2)) (fun r w' => rcg (fun f => f = 0) (fun k => k = 714) w w' ∧
      ((bad_p1 n.toInt ∧ (w'.1 713 0).toInt = 1 ∧ rtab w' = rtab w) ∨ (¬ bad_p1 n.toInt ∧ bad_p2 a.toInt b.toInt c.toInt d.toInt e.toInt f.toInt g.toInt ∧ (w'.1 713 0).toInt = 2 ∧ rtab w' = rtab w) ∨
      (¬ bad_p1 n.toInt ∧ ¬ bad_p2 a.toInt b.toInt c.toInt d.toInt e.toInt f.toInt g.toInt ∧ rtab w (1678 + n.toInt.toNat) = 4 ∧ (w'.1 713 0).toInt = 3 ∧ rtab w' = rtab w) ∨
      (¬ bad_p1 n.toInt ∧ ¬ bad_p2 a.toInt b.toInt c.toInt d.toInt e.toInt f.toInt g.toInt ∧ rtab w (1678 + n.toInt.toNat) ≠ 4 ∧ (w'.1 713 0).toInt = 0 ∧ r.toInt = rtab w (1678 + n.toInt.toNat) + 1 ∧ rtab w' = tplu (rtab w) n.toInt.toNat (plu7 a.toInt b.toInt c.toInt d.toInt e.toInt f.toInt g.toInt)))) :=
      fun q => wp_ret ⟨rcg_fld rfl, Or.inr (Or.inl ⟨nb1, q, by rw [th_at]; exact L.2.2.2.1, rtab_o (by decide)⟩)⟩
    have e1 : (1678 : Int32).toInt = 1678 := by decide
    have e2 : (1680 : Int32).toInt = 1680 := by decide
    have hL := LENs.2.2.1
    have K := hk.2.1 n.toInt.toNat (by omega)
    have ac : ((1678 : Int32) + n).toInt = 1678 + n.toInt := by rw [i_add (by omega), e1]
    have acn : ((1678 : Int32) + n).toInt.toNat = 1678 + n.toInt.toNat := by rw [ac]; omega
    have cnt : ∀ w1 : Wd, (w1.1 714 ((1678 : Int32) + n).toInt.toNat).toInt = rtab w1 (1678 + n.toInt.toNat) := by
      intro w1; unfold rtab; rw [acn]
    have cz : ((setI w 713 0 0).1 714 ((1678 : Int32) + n).toInt.toNat).toInt = rtab w (1678 + n.toInt.toNat) := by rw [cnt, rtab_o (by decide)]
    have m1 : ((4 : Int32) * n).toInt = 4 * n.toInt := i_mul' (by decide) (by omega)
    have good : ¬ bad_p2 a.toInt b.toInt c.toInt d.toInt e.toInt f.toInt g.toInt → Wp (ald w 714 (1678 + n) fun x3 => if x3 = 4 then some ((0 : Int32), setI w 713 0 3) else ald (setI w 713 0 0) 714 (1678 + n) fun x3 => lt (1680 + 7 * (4 * n + x3)) fun x4 => ast (setI w 713 0 0) 714 x4 a fun w5 => ast w5 714 (x4 + 1) b fun w6 => ast w6 714 (x4 + 2) c fun w7 => ast w7 714 (x4 + 3) d fun w8 => ast w8 714 (x4 + 4) e fun w9 => ast w9 714 (x4 + 5) f fun w10 => ast w10 714 (x4 + 6) g fun w11 => ald w11 714 (1678 + n) fun x12 => ast w11 714 (1678 + n) (x12 + 1) fun w13 => ald w13 714 (1678 + n) fun x14 => some (x14, w13)) (fun r w' => rcg (fun f => f = 0) (fun k => k = 714) w w' ∧
      ((bad_p1 n.toInt ∧ (w'.1 713 0).toInt = 1 ∧ rtab w' = rtab w) ∨ (¬ bad_p1 n.toInt ∧ bad_p2 a.toInt b.toInt c.toInt d.toInt e.toInt f.toInt g.toInt ∧ (w'.1 713 0).toInt = 2 ∧ rtab w' = rtab w) ∨
      (¬ bad_p1 n.toInt ∧ ¬ bad_p2 a.toInt b.toInt c.toInt d.toInt e.toInt f.toInt g.toInt ∧ rtab w (1678 + n.toInt.toNat) = 4 ∧ (w'.1 713 0).toInt = 3 ∧ rtab w' = rtab w) ∨
      (¬ bad_p1 n.toInt ∧ ¬ bad_p2 a.toInt b.toInt c.toInt d.toInt e.toInt f.toInt g.toInt ∧ rtab w (1678 + n.toInt.toNat) ≠ 4 ∧ (w'.1 713 0).toInt = 0 ∧ r.toInt = rtab w (1678 + n.toInt.toNat) + 1 ∧ rtab w' = tplu (rtab w) n.toInt.toNat (plu7 a.toInt b.toInt c.toInt d.toInt e.toInt f.toInt g.toInt)))) := by
      intro nb2
      refine wp_ald (by omega) (wp_ifeq (fun q => ?_) (fun q => ?_))
      · rw [cnt] at q
        exact wp_ret ⟨rcg_fld rfl, Or.inr (Or.inr (Or.inl ⟨nb1, nb2, by omega, by rw [th_at]; exact L.2.2.2.2.1, rtab_o (by decide)⟩))⟩
      · rw [cnt] at q
        refine wp_ald (by omega) ?_
        generalize (setI w 713 0 0).1 714 ((1678 : Int32) + n).toInt.toNat = x3 at cz
        refine wp_lt (fun x hx => ?_)
        have m2 : ((4 : Int32) * n + x3).toInt = 4 * n.toInt + x3.toInt := by rw [i_add (by omega), m1]
        have m3 : ((7 : Int32) * ((4 : Int32) * n + x3)).toInt = 7 * (4 * n.toInt + x3.toInt) := by rw [i_mul' (n := 7) (by decide) (by omega), m2]
        have hx0 : x.toInt = 1680 + 7 * (4 * n.toInt + x3.toInt) := by rw [hx, i_add (by omega), m3, e2]
        have y1 : (x + 1).toInt = x.toInt + 1 := by rw [i_add (by omega), L.2.1]
        have y2 : (x + 2).toInt = x.toInt + 2 := by rw [i_add (by omega), L.2.2.2.1]
        have y3 : (x + 3).toInt = x.toInt + 3 := by rw [i_add (by omega), L.2.2.2.2.1]
        have y4 : (x + 4).toInt = x.toInt + 4 := by rw [i_add (by omega), L.2.2.2.2.2.1]
        have y5 : (x + 5).toInt = x.toInt + 5 := by rw [i_add (by omega), L.2.2.2.2.2.2.1]
        have y6 : (x + 6).toInt = x.toInt + 6 := by rw [i_add (by omega), L.2.2.2.2.2.2.2.1]
        refine wp_ast (by omega) (wp_ast (by omega) (wp_ast (by omega) (wp_ast (by omega) (wp_ast (by omega) (wp_ast (by omega) (wp_ast (by omega) ?_))))))
        have hxn : x.toInt.toNat = 1680 + 7 * (4 * n.toInt.toNat + (rtab w (1678 + n.toInt.toNat)).toNat) := by omega
        have T0 : rtab (setI (setI (setI (setI (setI (setI (setI (setI w 713 0 0) 714 x.toInt.toNat a) 714 (x + 1).toInt.toNat b) 714 (x + 2).toInt.toNat c) 714 (x + 3).toInt.toNat d) 714 (x + 4).toInt.toNat e) 714 (x + 5).toInt.toNat f) 714 (x + 6).toInt.toNat g) = tput (rtab w) (1680 + 7 * (4 * n.toInt.toNat + (rtab w (1678 + n.toInt.toNat)).toNat)) (plu7 a.toInt b.toInt c.toInt d.toInt e.toInt f.toInt g.toInt) := by
          rw [rtab_set, rtab_set, rtab_set, rtab_set, rtab_set, rtab_set, rtab_set, rtab_o (by decide), y1, y2, y3, y4, y5, y6, show (x.toInt + 1).toNat = x.toInt.toNat + 1 by omega, show (x.toInt + 2).toNat = x.toInt.toNat + 2 by omega, show (x.toInt + 3).toNat = x.toInt.toNat + 3 by omega, show (x.toInt + 4).toNat = x.toInt.toNat + 4 by omega, show (x.toInt + 5).toNat = x.toInt.toNat + 5 by omega, show (x.toInt + 6).toNat = x.toInt.toNat + 6 by omega, hxn]
          unfold plu7
          rw [show [a.toInt, b.toInt, c.toInt, d.toInt, e.toInt, f.toInt, g.toInt] = (((((([] ++ [a.toInt]) ++ [b.toInt]) ++ [c.toInt]) ++ [d.toInt]) ++ [e.toInt]) ++ [f.toInt]) ++ [g.toInt] from rfl, tput_snoc, tput_snoc, tput_snoc, tput_snoc, tput_snoc, tput_snoc, tput_snoc, tput_nil]
          rfl
        have R0 : rcg (fun f => f = 0) (fun k => k = 714) w (setI (setI (setI (setI (setI (setI (setI (setI w 713 0 0) 714 x.toInt.toNat a) 714 (x + 1).toInt.toNat b) 714 (x + 2).toInt.toNat c) 714 (x + 3).toInt.toNat d) 714 (x + 4).toInt.toNat e) 714 (x + 5).toInt.toNat f) 714 (x + 6).toInt.toNat g) :=
          rcg_tr (rcg_tr (rcg_tr (rcg_tr (rcg_tr (rcg_tr (rcg_tr (rcg_fld rfl) (rcg_set (by decide) rfl)) (rcg_set (by decide) rfl)) (rcg_set (by decide) rfl)) (rcg_set (by decide) rfl)) (rcg_set (by decide) rfl)) (rcg_set (by decide) rfl)) (rcg_set (by decide) rfl)
        have Z0 : ((setI (setI (setI (setI (setI (setI (setI (setI w 713 0 0) 714 x.toInt.toNat a) 714 (x + 1).toInt.toNat b) 714 (x + 2).toInt.toNat c) 714 (x + 3).toInt.toNat d) 714 (x + 4).toInt.toNat e) 714 (x + 5).toInt.toNat f) 714 (x + 6).toInt.toNat g).1 713 0).toInt = 0 := by
          simp only [setI_at]
          rw [if_neg (by omega), if_neg (by omega), if_neg (by omega), if_neg (by omega), if_neg (by omega), if_neg (by omega), if_neg (by omega), if_pos (by decide)]
          exact L.1
        generalize (setI (setI (setI (setI (setI (setI (setI (setI w 713 0 0) 714 x.toInt.toNat a) 714 (x + 1).toInt.toNat b) 714 (x + 2).toInt.toNat c) 714 (x + 3).toInt.toNat d) 714 (x + 4).toInt.toNat e) 714 (x + 5).toInt.toNat f) 714 (x + 6).toInt.toNat g) = W at *
        have tc : rtab W (1678 + n.toInt.toNat) = rtab w (1678 + n.toInt.toNat) := by rw [T0, tput_at, if_neg (by omega)]
        refine wp_ald (by omega) (wp_ast (by omega) (wp_ald (by omega) ?_))
        have s1 : (W.1 714 ((1678 : Int32) + n).toInt.toNat + 1).toInt = rtab w (1678 + n.toInt.toNat) + 1 := by
          rw [i_add (by rw [cnt, tc]; omega), cnt, tc, L.2.1]
        refine wp_ret ⟨rcg_tr R0 (rcg_set (by decide) rfl), Or.inr (Or.inr (Or.inr ⟨nb1, nb2, by omega, ?_, ?_, ?_⟩))⟩
        · rw [setI_at, if_neg (by omega)]; exact Z0
        · rw [setI_at, if_pos ⟨rfl, rfl⟩]; exact s1
        · rw [rtab_set, s1, acn, T0]; rfl
    simp only [ICMP, L] at good ⊢
    unfold bad_p2 at bad good ⊢
    repeat' (first | exact bad (by omega) | exact good (by omega) | refine wp_if (fun _ => ?_) (fun _ => ?_))
  · have bad : Wp (some ((0 : Int32), setI w 713 0 1)) (fun r w' => rcg (fun f => f = 0) (fun k => k = 714) w w' ∧
      ((bad_p1 n.toInt ∧ (w'.1 713 0).toInt = 1 ∧ rtab w' = rtab w) ∨ (¬ bad_p1 n.toInt ∧ bad_p2 a.toInt b.toInt c.toInt d.toInt e.toInt f.toInt g.toInt ∧ (w'.1 713 0).toInt = 2 ∧ rtab w' = rtab w) ∨
      (¬ bad_p1 n.toInt ∧ ¬ bad_p2 a.toInt b.toInt c.toInt d.toInt e.toInt f.toInt g.toInt ∧ rtab w (1678 + n.toInt.toNat) = 4 ∧ (w'.1 713 0).toInt = 3 ∧ rtab w' = rtab w) ∨
      (¬ bad_p1 n.toInt ∧ ¬ bad_p2 a.toInt b.toInt c.toInt d.toInt e.toInt f.toInt g.toInt ∧ rtab w (1678 + n.toInt.toNat) ≠ 4 ∧ (w'.1 713 0).toInt = 0 ∧ r.toInt = rtab w (1678 + n.toInt.toNat) + 1 ∧ rtab w' = tplu (rtab w) n.toInt.toNat (plu7 a.toInt b.toInt c.toInt d.toInt e.toInt f.toInt g.toInt)))) :=
      wp_ret ⟨rcg_fld rfl, Or.inl ⟨hn, by rw [th_at]; exact L.2.1, rtab_o (by decide)⟩⟩
    simp only [if_neg hn]
    repeat' (first | exact bad | refine wp_if (fun _ => ?_) (fun _ => ?_))
