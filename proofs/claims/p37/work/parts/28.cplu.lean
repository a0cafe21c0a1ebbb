/-! ===== contract (reference), plural ===== -/
/-! plural -/
def tput (tab : Nat → Int) (a : Nat) (l : List Int) : Nat → Int := fun k => if a ≤ k ∧ k < a + l.length then l.getD (k - a) 0 else tab k
theorem tput_at (tab : Nat → Int) (a : Nat) (l : List Int) (k : Nat) : tput tab a l k = if a ≤ k ∧ k < a + l.length then l.getD (k - a) 0 else tab k := rfl
theorem tput_nil (tab : Nat → Int) (a : Nat) : tput tab a [] = tab := by
  funext k; rw [tput_at, if_neg (by simp only [List.length_nil]; omega)]
theorem tput_snoc (tab : Nat → Int) (a : Nat) (l : List Int) (x : Int) : tput tab a (l ++ [x]) = tset (tput tab a l) (a + l.length) x := by
  funext k
  rw [tset_at, tput_at, tput_at, List.length_append, List.length_singleton]
  by_cases h : k = a + l.length
  · rw [if_pos (by omega), if_pos h, List.getD_eq_getElem?_getD, List.getElem?_append_right (by omega), show k - a - l.length = 0 by omega]; rfl
  · rw [if_neg h]
    by_cases h2 : a ≤ k ∧ k < a + l.length
    · rw [if_pos (by omega), if_pos h2, List.getD_eq_getElem?_getD, List.getD_eq_getElem?_getD, List.getElem?_append_left (by omega)]
    · rw [if_neg (by omega), if_neg h2]
def plu7 (a b c d e f g : Int) : List Int := [a, b, c, d, e, f, g]
def tplu (tab : Nat → Int) (n : Nat) (l : List Int) : Nat → Int := tset (tput tab (1680 + 7 * (4 * n + (tab (1678 + n)).toNat)) l) (1678 + n) (tab (1678 + n) + 1)
def bad_p1 (n : Int) : Prop := ¬ (0 ≤ n ∧ n ≤ 1)
def bad_p2 (a b c d e f g : Int) : Prop := ¬ ((0 ≤ a ∧ a ≤ 2) ∧ (1 ≤ b ∧ b ≤ 100) ∧ (0 ≤ c ∧ c ≤ d ∧ d ≤ 99) ∧ ((e = 0 ∧ f = 0 ∧ g = 0) ∨ ((1 ≤ e ∧ e ≤ 100) ∧ 0 ≤ f ∧ f ≤ g ∧ g ≤ 99)))
def plu_res (tab : Nat → Int) (n : Nat) (b1 b2 : Prop) (l : List Int) (w : Wd) (r : Nat ⊕ Int32) (w' : Wd) : Prop :=
  (b1 ∧ r = .inl 1 ∧ w' = w) ∨ (¬ b1 ∧ b2 ∧ r = .inl 2 ∧ w' = w) ∨ (¬ b1 ∧ ¬ b2 ∧ tab (1678 + n) = 4 ∧ r = .inl 3 ∧ w' = w) ∨
  (¬ b1 ∧ ¬ b2 ∧ tab (1678 + n) ≠ 4 ∧ (∃ x : Int32, r = .inr x ∧ x.toInt = tab (1678 + n) + 1) ∧ trel w' 1 (tplu tab n l) ∧ okall w' ∧ oc tin w w')
theorem k_plural {w : Wd} {tab : Nat → Int} {n a b c d e f g : Int32} (hk : tok tab) (h : trel w 1 tab) (ho : okall w) :
    Wp (f_X10_plural n a b c d e f g w) (plu_res tab n.toInt.toNat (bad_p1 n.toInt) (bad_p2 a.toInt b.toInt c.toInt d.toInt e.toInt f.toInt g.toInt) (plu7 a.toInt b.toInt c.toInt d.toInt e.toInt f.toInt g.toInt) w) := by
  have L := LIT
  unfold f_X10_plural f_X10_plural_40 f_X10_plural_41 f_X10_plural_63 f_X10_plural_64 f_X10_plural_96 f_X10_plural_97
  have e0 : f_X10_checkArgument (0 : Int32) = fun w => some (.inl 2, w) := rfl
  have e1 : f_X10_checkArgument (1 : Int32) = fun w => some (.inr (), w) := rfl
  simp only [e_languageOf, e_checkLetter, e_isWithin, e_isRange, bdx_c, bd_r, ite_zo, e0, e1, c01, if_true, if_false, bdx_r, bdx_l]
  simp only [ICMP, L]
  refine wp_if (fun hn => ?_) (fun hn => wp_ret (Or.inl ⟨hn, rfl, rfl⟩))
  have nb1 : ¬ bad_p1 n.toInt := fun q => q hn
  generalize hN : n.toInt.toNat = N at *
  have hN2 : N < 2 := by omega
  have hL := lang_kd N hN2
  have F := lang_facts _ hL
  have U := h.2.1 N hN2
  rw [show 1 + 12 + 13 * N = 13 + 13 * N by omega] at U
  have K := hk.2.1 N hN2
  have bad : bad_p2 a.toInt b.toInt c.toInt d.toInt e.toInt f.toInt g.toInt → Wp (some (Sum.inl 2, w)) (plu_res tab N (bad_p1 n.toInt) (bad_p2 a.toInt b.toInt c.toInt d.toInt e.toInt f.toInt g.toInt) (plu7 a.toInt b.toInt c.toInt d.toInt e.toInt f.toInt g.toInt) w) :=
    fun q => wp_ret (Or.inr (Or.inl ⟨nb1, q, rfl, rfl⟩))
  have good : ¬ bad_p2 a.toInt b.toInt c.toInt d.toInt e.toInt f.toInt g.toInt → Wp (bdq (f_X2_nextPlural (13 + 13 * N) w) (fun w3 => some (Sum.inl 3, w3)) fun r2 w4 => bd (f_X6_tell r2 a b c d e f g w4) fun x w5 => bd (f_X2_countPlural (13 + 13 * N) w5) fun x7 w6 => some (Sum.inr x7, w6)) (plu_res tab N (bad_p1 n.toInt) (bad_p2 a.toInt b.toInt c.toInt d.toInt e.toInt f.toInt g.toInt) (plu7 a.toInt b.toInt c.toInt d.toInt e.toInt f.toInt g.toInt) w) := by
    intro nb2
    generalize hLL : 13 + 13 * N = LL at *
    obtain ⟨u1, u2, u3, u4, u5, u6⟩ := U
    have hl4 : (Int32.ofNat (LEN (LL + 8))).toInt = 4 := by rw [F.2.2.2.2.2.1]; decide
    unfold f_X2_nextPlural
    by_cases full : tab (1678 + N) = 4
    · refine wp_bdq (P := fun r w' => r = none ∧ w = w') (wp_iflt (fun q => by omega) (fun q => wp_iflt (fun q2 => by omega) (fun q2 => wp_ret ⟨rfl, rfl⟩))) ?_ ?_
      · rintro _ ⟨_, rfl⟩
        exact wp_ret (Or.inr (Or.inr (Or.inl ⟨nb1, nb2, full, rfl, rfl⟩)))
      · rintro r _ ⟨q, _⟩
        cases q
    · generalize hc : (tab (1678 + N)).toNat = C at *
      have hC : C < 4 := by omega
      refine wp_bdq (P := fun r w' => r = some (LL + 9 + C) ∧ w = w') (wp_iflt (fun q => by omega) (fun q => wp_iflt (fun q2 => wp_ard (by rw [F.2.2.2.2.2.1]; omega) (wp_ret ⟨?_, rfl⟩)) (fun q2 => by omega))) ?_ ?_
      · rw [show (w.1 LL 6).toInt.toNat = C by omega, (F.2.2.2.2.2.2 C hC).1]
      · rintro _ ⟨q, _⟩
        cases q
      · rintro r _ ⟨q, rfl⟩
        cases q
        have kr := (F.2.2.2.2.2.2 C hC).2
        unfold f_X6_tell f_X2_countPlural wr
        have x1 : (w.1 LL 6 + 1).toInt = tab (1678 + N) + 1 := by rw [i_add (by omega), L.2.1, u5]
        have e6 : (setI (setI (setI (setI (setI (setI (setI w (LL + 9 + C) 0 a) (LL + 9 + C) 1 b) (LL + 9 + C) 2 c) (LL + 9 + C) 3 d) (LL + 9 + C) 4 e) (LL + 9 + C) 5 f) (LL + 9 + C) 6 g).1 LL 6 = w.1 LL 6 := by
          simp only [setI_at]
          rw [if_neg (by omega), if_neg (by omega), if_neg (by omega), if_neg (by omega), if_neg (by omega), if_neg (by omega), if_neg (by omega)]
        simp only [bd_r, e6]
        refine wp_ret (Or.inr (Or.inr (Or.inr ⟨nb1, nb2, full, ⟨_, rfl, ?_⟩, good_U hN2 hk h (fun k q => ?_) rfl (fun i hi => ?_) ?_ ?_⟩)))
        · rw [setI_at, if_pos ⟨rfl, rfl⟩]; exact x1
        · funext m
          simp only [setI_at]
          rw [if_neg (by omega), if_neg (by omega), if_neg (by omega), if_neg (by omega), if_neg (by omega), if_neg (by omega), if_neg (by omega), if_neg (by omega)]
        · unfold uix at hi
          unfold tplu
          rw [tset_at, if_neg (by omega), tput_at, if_neg (by rw [show (plu7 a.toInt b.toInt c.toInt d.toInt e.toInt f.toInt g.toInt).length = 7 from rfl]; omega)]
        · have tin : ∀ k, ¬ (1680 + 7 * (4 * N + C) ≤ k ∧ k < 1680 + 7 * (4 * N + C) + 7) → k ≠ 1678 + N → tplu tab N (plu7 a.toInt b.toInt c.toInt d.toInt e.toInt f.toInt g.toInt) k = tab k := by
            intro k h1 h2
            unfold tplu
            rw [tset_at, if_neg h2, tput_at, hc, if_neg (by rw [show (plu7 a.toInt b.toInt c.toInt d.toInt e.toInt f.toInt g.toInt).length = 7 from rfl]; exact h1)]
          have tc : tplu tab N (plu7 a.toInt b.toInt c.toInt d.toInt e.toInt f.toInt g.toInt) (1678 + N) = tab (1678 + N) + 1 := by
            unfold tplu; rw [tset_at, if_pos rfl]
          have tv : ∀ j, j < 7 → tplu tab N (plu7 a.toInt b.toInt c.toInt d.toInt e.toInt f.toInt g.toInt) (1680 + 7 * (4 * N + C) + j) = (plu7 a.toInt b.toInt c.toInt d.toInt e.toInt f.toInt g.toInt).getD j 0 := by
            intro j hj
            unfold tplu
            rw [tset_at, if_neg (by omega), tput_at, hc, if_pos (by rw [show (plu7 a.toInt b.toInt c.toInt d.toInt e.toInt f.toInt g.toInt).length = 7 from rfl]; omega), show 1680 + 7 * (4 * N + C) + j - (1680 + 7 * (4 * N + C)) = j by omega]
          have rr : ∀ o, KD o = 7 → o = LL + 4 ∨ o = LL + 6 → rl (setI (setI (setI (setI (setI (setI (setI (setI w (LL + 9 + C) 0 a) (LL + 9 + C) 1 b) (LL + 9 + C) 2 c) (LL + 9 + C) 3 d) (LL + 9 + C) 4 e) (LL + 9 + C) 5 f) (LL + 9 + C) 6 g) LL 6 (w.1 LL 6 + 1)) o = rl w o := by
            intro o _ ho2
            refine rl_fr ?_ ?_
            · funext m
              simp only [setI_at]
              rw [if_neg (by omega), if_neg (by omega), if_neg (by omega), if_neg (by omega), if_neg (by omega), if_neg (by omega), if_neg (by omega), if_neg (by omega)]
            · funext m
              simp only [setI_at]
              rw [if_neg (by omega), if_neg (by omega), if_neg (by omega), if_neg (by omega), if_neg (by omega), if_neg (by omega), if_neg (by omega), if_neg (by omega)]
          rw [hLL]
          unfold urel
          rw [rr _ F.2.1 (Or.inl rfl), rr _ F.2.2.2.1 (Or.inr rfl), tc, tin (1440 + N) (by omega) (by omega)]
          refine ⟨fun u hu r hr => ?_, u2, u3, fun i hi => ?_, ?_, fun i hi k hk => ?_⟩
          · rw [tin _ (by omega) (by omega)]
            simp only [setI_at]
            rw [if_neg (by omega), if_neg (by omega), if_neg (by omega), if_neg (by omega), if_neg (by omega), if_neg (by omega), if_neg (by omega), if_neg (by omega)]
            exact u1 u hu r hr
          · obtain ⟨v1, v2, v3⟩ := u4 i hi
            rw [tin _ (by omega) (by omega), tin _ (by omega) (by omega)]
            refine ⟨v1, v2, fun r hr => ?_⟩
            rw [tin _ (by omega) (by omega)]
            simp only [setI_at]
            rw [if_neg (by omega), if_neg (by omega), if_neg (by omega), if_neg (by omega), if_neg (by omega), if_neg (by omega), if_neg (by omega), if_neg (by omega)]
            exact v3 r hr
          · rw [setI_at, if_pos ⟨rfl, rfl⟩]; exact x1
          · by_cases ic : i = C
            · subst ic
              rw [tv k hk]
              rcases (show k = 0 ∨ k = 1 ∨ k = 2 ∨ k = 3 ∨ k = 4 ∨ k = 5 ∨ k = 6 by omega) with rfl | rfl | rfl | rfl | rfl | rfl | rfl <;> simp [setI_at, plu7]
              rw [if_neg (by omega)]
            · rw [tin _ (by omega) (by omega)]
              simp only [setI_at]
              rw [if_neg (by omega), if_neg (by omega), if_neg (by omega), if_neg (by omega), if_neg (by omega), if_neg (by omega), if_neg (by omega), if_neg (by omega)]
              exact u6 i (by omega) k hk
        · have k6 : KD (LL + 9 + C) ≠ 7 := by omega
          exact okall_setI (okall_setI (okall_setI (okall_setI (okall_setI (okall_setI (okall_setI (okall_setI ho k6) k6) k6) k6) k6) k6) k6) (by omega)
  unfold bad_p2 at bad good ⊢
  repeat' (first | exact bad (by omega) | exact good (by omega) | refine wp_if (fun _ => ?_) (fun _ => ?_))
