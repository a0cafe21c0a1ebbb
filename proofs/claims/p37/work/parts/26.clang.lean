/-! ===== weigh, contract, plural ===== -/
theorem e_languageOf (a : Int32) (w : Wd) : f_X10_languageOf a w = some (if 0 ≤ a.toInt ∧ a.toInt ≤ 1 then .inr (13 + 13 * a.toInt.toNat) else .inl 1, w) := by
  unfold f_X10_languageOf f_X9_languageAt ard
  have F := tab_facts 1 (by decide +kernel)
  rw [F.2.1]
  simp only [Int32.lt_iff_toInt_lt]
  have h6 : (Int32.ofNat 2).toInt = 2 := by decide
  have h0 := L01.1
  by_cases h1 : a.toInt < (0 : Int32).toInt
  · rw [if_pos h1, if_neg (by omega)]; rfl
  · rw [if_neg h1]
    by_cases h2 : a.toInt < (Int32.ofNat 2).toInt
    · rw [if_pos h2, if_pos (inb_iff.mpr (by omega)), if_pos (by omega), show a.toNatClampNeg = a.toInt.toNat from rfl, F.2.2.2.2.1 _ (by omega)]
      rfl
    · rw [if_neg h2, if_neg (by omega)]; rfl
theorem lang_kd (n : Nat) (hn : n < 2) : KD (13 + 13 * n) = 2 := by
  have := (tab_kinds 1 (by decide +kernel)).1 n hn
  simpa using this
/-- something was told of a language -/
theorem good_U {w w' : Wd} {tab tab' : Nat → Int} {n : Nat} (hn : n < 2) (hk : tok tab) (h : trel w 1 tab) (hob : ∀ k, ¬ (13 + 13 * n ≤ k ∧ k < 13 + 13 * n + 13) → w'.1 k = w.1 k) (h2 : w'.2 = w.2)
    (ht : ∀ i, ¬ uix n i → tab' i = tab i) (hu : urel w' (13 + 13 * n) tab' n) (hok : okall w') : trel w' 1 tab' ∧ okall w' ∧ oc tin w w' := by
  refine ⟨⟨fun l hl => lrel_fr (fun j hj => by rw [hob _ (by omega)]) (fun j hj => ht _ (by unfold uix; omega)) (h.1 l hl), fun m hm => ?_, trW_fr hk h (fun k a => hob k (by omega)) (fun i hi => ht i (by unfold uix; omega)), trR_fr hk h (fun k a => hob k (by omega)) (fun i hi => ht i (by unfold uix; omega))⟩, hok, fun k hk => hob k (fun q => hk (by unfold tin; omega)), h2⟩
  by_cases c : m = n
  · subst c; exact hu
  · exact urel_fr (hk.2.1 m hm).1 (hk.2.1 m hm).2.1 (fun k a b => hob k (by omega)) (fun i hi => ht i (by unfold uix at hi ⊢; omega)) (h.2.1 m hm)
def tw3 (tab : Nat → Int) (at_ : Nat) (f s t : Int) : Nat → Int := tset (tset (tset tab at_ f) (at_ + 1) s) (at_ + 2) t
theorem tw3_at {tab : Nat → Int} {at_ : Nat} {f s t : Int} (k : Nat) : tw3 tab at_ f s t k = if k = at_ then f else if k = at_ + 1 then s else if k = at_ + 2 then t else tab k := by
  unfold tw3
  simp only [tset_at]
  by_cases h1 : k = at_
  · rw [if_pos h1, if_neg (by omega), if_neg (by omega), if_pos h1]
  · rw [if_neg h1, if_neg h1]
    by_cases h2 : k = at_ + 1
    · rw [if_neg (by omega), if_pos h2, if_pos h2]
    · rw [if_neg h2, if_neg h2]
theorem s_weighUnit {w : Wd} {L : Nat} {u f s t : Int32} (hL : KD L = 2) (h0 : 0 ≤ u.toInt) (h1 : u.toInt < 102) :
    f_X2_weighUnit L u f s t w = some ((), setI (setI (setI w (L + 1) u.toInt.toNat f) (L + 2) u.toInt.toNat s) (L + 3) u.toInt.toNat t) := by
  have F := (lang_facts L hL).1
  have l1 : LEN (L + 1) = 102 := (F 0 (by omega)).2
  have l2 : LEN (L + 2) = 102 := (F 1 (by omega)).2
  have l3 : LEN (L + 3) = 102 := (F 2 (by omega)).2
  unfold f_X2_weighUnit
  rw [e_setCell (by omega) h0 (by omega), bd_r, e_setCell (by omega) h0 (by omega), bd_r, e_setCell (by omega) h0 (by omega), bd_r]
theorem lang_n7 {L : Nat} (hL : KD L = 2) (r : Nat) (hr : r < 3) : KD (L + 1 + r) ≠ 7 := by
  have := ((lang_facts L hL).1 r hr).1; omega
def bad_w1 (n l : Int) : Prop := ¬ ((0 ≤ n ∧ n ≤ 1) ∧ (0 ≤ l ∧ l ≤ 95))
def bad_w2 (f s t : Int) : Prop := ¬ ((0 ≤ f ∧ f ≤ 99) ∧ (0 ≤ s ∧ s ≤ 9) ∧ (0 ≤ t ∧ t ≤ 9))
theorem k_weigh {w : Wd} {tab : Nat → Int} {n l f s t : Int32} (hk : tok tab) (h : trel w 1 tab) (ho : okall w) :
    Wp (f_X10_weigh n l f s t w) (tout w (tw3 tab (864 + 3 * (96 * n.toInt.toNat + l.toInt.toNat)) f.toInt s.toInt t.toInt) (bad_w1 n.toInt l.toInt) (bad_w2 f.toInt s.toInt t.toInt) 2 (fun _ : Unit => True)) := by
  unfold f_X10_weigh
  simp only [e_languageOf, e_checkLetter, e_checkWeights, bdx_c]
  refine wp_if (fun hn => ?_) (fun hn => wp_ret (Or.inl ⟨fun q => hn q.1, rfl, rfl⟩))
  refine wp_if (fun hl => ?_) (fun hl => wp_ret (Or.inl ⟨fun q => hl q.2, rfl, rfl⟩))
  refine wp_if (fun hw => ?_) (fun hw => wp_ret (Or.inr (Or.inl ⟨fun q => q ⟨hn, hl⟩, hw, rfl, rfl⟩)))
  have hL := lang_kd n.toInt.toNat (by omega)
  rw [s_weighUnit hL hl.1 (by omega), bd_r]
  refine wp_ret (Or.inr (Or.inr ⟨fun q => q ⟨hn, hl⟩, fun q => q hw, ⟨(), rfl, trivial⟩, good_U (n := n.toInt.toNat) (by omega) hk h (fun k q => ?_) rfl (fun i hi => ?_) ?_ ?_⟩))
  · funext b
    simp only [setI_at]
    rw [if_neg (by omega), if_neg (by omega), if_neg (by omega)]
  · rw [tw3_at, if_neg (by unfold uix at hi; omega), if_neg (by unfold uix at hi; omega), if_neg (by unfold uix at hi; omega)]
  · generalize hN : n.toInt.toNat = N at *
    generalize hM : l.toInt.toNat = M at *
    have hN2 : N < 2 := by omega
    have hM2 : M < 96 := by omega
    have U := h.2.1 N hN2
    rw [show 1 + 12 + 13 * N = 13 + 13 * N by omega] at U
    obtain ⟨h1, h2, h3, h4, h5, h6⟩ := U
    have K := hk.2.1 N hN2
    have rr : ∀ o, KD o = 7 → rl (setI (setI (setI w (13 + 13 * N + 1) M f) (13 + 13 * N + 2) M s) (13 + 13 * N + 3) M t) o = rl w o := by
      intro o ho7
      have n0 := lang_n7 hL 0 (by omega)
      have n1 := lang_n7 hL 1 (by omega)
      have n2 := lang_n7 hL 2 (by omega)
      have f0 := row_facts o ho7
      refine rl_fr ?_ ?_
      · funext b
        rw [setI_at, if_neg (by rintro ⟨rfl, _⟩; exact n2 ho7), setI_at, if_neg (by rintro ⟨rfl, _⟩; exact n1 ho7), setI_at, if_neg (by rintro ⟨rfl, _⟩; exact n0 ho7)]
      · have e : ∀ r, r < 3 → o + 1 ≠ 13 + 13 * N + 1 + r := by
          intro r hr e
          have := ((lang_facts _ hL).1 r hr).2
          have e2 : LEN (o + 1) = 102 := by rw [e]; exact this
          have : ∀ k, KD k = 7 → LEN (k + 1) ≠ 102 := by
            have h : (List.range 713).all (fun o => decide (KD o = 7 → LEN (o + 1) ≠ 102)) = true := by decide +kernel
            intro o ho
            exact of_decide_eq_true (List.all_eq_true.mp h o (List.mem_range.mpr (KD_lt ho (by omega)))) ho
          exact this o ho7 e2
        funext b
        rw [setI_at, if_neg (fun q => e 2 (by omega) q.1), setI_at, if_neg (fun q => e 1 (by omega) q.1), setI_at, if_neg (fun q => e 0 (by omega) q.1)]
    have F := lang_facts _ hL
    refine ⟨fun u hu r hr => ?_, ?_, ?_, fun i hi => ?_, ?_, fun i hi g hg => ?_⟩
    · have hh := h1 u hu r hr
      rw [tw3_at]
      simp only [setI_at]
      by_cases c : u = M
      · subst c
        rcases (show r = 0 ∨ r = 1 ∨ r = 2 by omega) with rfl | rfl | rfl
        · rw [if_neg (by omega), if_neg (by omega), if_pos (by omega), if_pos (by omega)]
        · rw [if_neg (by omega), if_pos (by omega), if_neg (by omega), if_pos (by omega)]
        · rw [if_pos (by omega), if_neg (by omega), if_neg (by omega), if_pos (by omega)]
      · rw [if_neg (by omega), if_neg (by omega), if_neg (by omega), if_neg (by omega), if_neg (by omega), if_neg (by omega)]
        exact hh
    · rw [rr _ F.2.1, tw3_at, if_neg (by omega), if_neg (by omega), if_neg (by omega)]; exact h2
    · rw [rr _ F.2.2.2.1, tw3_at, if_neg (by omega), if_neg (by omega), if_neg (by omega)]; exact h3
    · rw [tw3_at, if_neg (by omega), if_neg (by omega), if_neg (by omega)] at hi
      obtain ⟨q1, q2, q3⟩ := h4 i hi
      rw [rr _ F.2.1, rr _ F.2.2.2.1, tw3_at, if_neg (by omega), if_neg (by omega), if_neg (by omega), tw3_at, if_neg (by omega), if_neg (by omega), if_neg (by omega)]
      refine ⟨q1, q2, fun r hr => ?_⟩
      rw [tw3_at, if_neg (by omega), if_neg (by omega), if_neg (by omega)]
      simp only [setI_at]
      rw [if_neg (by omega), if_neg (by omega), if_neg (by omega)]
      exact q3 r hr
    · rw [tw3_at, if_neg (by omega), if_neg (by omega), if_neg (by omega)]
      simp only [setI_at]
      rw [if_neg (by omega), if_neg (by omega), if_neg (by omega)]
      exact h5
    · rw [tw3_at, if_neg (by omega), if_neg (by omega), if_neg (by omega)] at hi
      rw [tw3_at, if_neg (by omega), if_neg (by omega), if_neg (by omega)]
      simp only [setI_at]
      rw [if_neg (by omega), if_neg (by omega), if_neg (by omega)]
      exact h6 i hi g hg
  · exact okall_setI (okall_setI (okall_setI ho (lang_n7 hL 0 (by omega))) (lang_n7 hL 1 (by omega))) (lang_n7 hL 2 (by omega))
