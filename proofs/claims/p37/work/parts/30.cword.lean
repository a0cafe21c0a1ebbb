/-! ===== addWord, addRule ===== -/
section
variable {w w' : Wd} {T : Nat} {tab tab' : Nat → Int}
theorem trW_fr2 (hk : tok tab) (h : trel w T tab) (h12 : w'.1 T 12 = w.1 T 12) (ho : ∀ k, (T + 39 ≤ k ∧ k < T + 51) → w'.1 k = w.1 k) (ht : ∀ i, 1502 ≤ i ∧ i < 1557 → tab' i = tab i) : (w'.1 T 12).toInt = tab' 1502 ∧ ∀ i : Nat, i < tab' 1502 → rl w' (T + 39 + 2 * i) = tl tab' (1503 + 9 * i + 1) (tab' (1503 + 9 * i)).toNat := by
  obtain ⟨k1, k2, k3⟩ := hk.2.2.1
  obtain ⟨h1, h2⟩ := h.2.2.1
  rw [h12, ht 1502 (by omega)]
  refine ⟨h1, fun i hi => ?_⟩
  have := k3 i hi
  rw [rl_fr (ho _ (by omega)) (ho _ (by omega)), ht (1503 + 9 * i) (by omega), tl_fr (tab := tab) (fun j hj => ht _ (by omega))]
  exact h2 i hi
theorem trR_fr2 (hk : tok tab) (h : trel w T tab) (h14 : w'.1 T 14 = w.1 T 14) (ho : ∀ k, (T + 52 ≤ k ∧ k < T + 124) → w'.1 k = w.1 k) (ht : ∀ i, 1557 ≤ i ∧ i < 1678 → tab' i = tab i) : (w'.1 T 14).toInt = tab' 1557 ∧ ∀ i : Nat, i < tab' 1557 → ruel w' (T + 52 + 9 * i) tab' i := by
  obtain ⟨k1, k2, k3⟩ := hk.2.2.2
  obtain ⟨h1, h2⟩ := h.2.2.2
  rw [h14, ht 1557 (by omega)]
  refine ⟨h1, fun i hi => ?_⟩
  exact ruel_fr (by omega) (k3 i hi) (fun k a b => ho k (by omega)) (fun j hj => ht j (by omega)) (h2 i hi)
end
theorem tl_tput {tab : Nat → Int} {a : Nat} {l : List Int} : tl (tput tab a l) a l.length = l := by
  apply List.ext_getElem?
  intro i
  rcases Nat.lt_or_ge i l.length with q | q
  · unfold tl
    rw [List.getElem?_map, List.getElem?_range q, List.getElem?_eq_getElem q]
    show some (tput tab a l (a + i)) = _
    rw [tput_at, if_pos (by omega), show a + i - a = i by omega, List.getD_eq_getElem?_getD, List.getElem?_eq_getElem q]
    rfl
  · rw [List.getElem?_eq_none (by rw [tl_len]; exact q), List.getElem?_eq_none q]
def tword (tab : Nat → Int) (l : List Int) : Nat → Int := tset (tput (tset tab (1503 + 9 * (tab 1502).toNat) l.length) (1503 + 9 * (tab 1502).toNat + 1) l) 1502 (tab 1502 + 1)
def bad_word (tab : Nat → Int) (l : List Int) : Prop := ¬ (1 ≤ l.length ∧ l.length ≤ 8) ∨ tab 1502 = 6
theorem k_addWord {w : Wd} {tab : Nat → Int} {txt : Nat → List Int} {s : Int32} (hk : tok tab) (h : trel w 1 tab) (ho : okall w) (hx : ctx w txt) :
    Wp (f_X10_addWord s w) (tout w (tword tab (txt s.toInt.toNat)) (bad_slot s.toInt) (bad_word tab (txt s.toInt.toNat)) 3 (fun x : Int32 => x.toInt = tab 1502 + 1)) := by
  have L := LIT
  unfold f_X10_addWord f_X10_addWord_30
  simp only [e_textOf, bdx_c]
  refine wp_if (fun hs => ?_) (fun hs => wp_ret (Or.inl ⟨hs, rfl, rfl⟩))
  have nb : ¬ bad_slot s.toInt := fun q => q hs
  have hsN : s.toInt.toNat < 6 := by omega
  have o1 := ctx_ok ho hsN
  have X := hx _ hsN
  generalize hl : txt s.toInt.toNat = l at *
  refine wp_bd (s_size o1) ?_
  rintro x _ ⟨rfl, hx1⟩
  rw [X] at hx1
  simp only [e_isWithin, bd_r, ite_zo]
  refine wp_if (fun h8 => ?_) (fun h8 => wp_ret (Or.inr (Or.inl ⟨nb, Or.inl (fun q => h8 (by omega)), rfl, rfl⟩)))
  have F := tab_facts 1 (by decide +kernel)
  have G := (tab_kinds 1 (by decide +kernel)).2.1
  obtain ⟨c1, c2⟩ := h.2.2.1
  obtain ⟨k1, k2, k3⟩ := hk.2.2.1
  unfold f_X9_takeWord
  have hl6 : (Int32.ofNat (LEN (1 + 38))).toInt = 6 := by rw [F.2.2.1]; decide
  by_cases full : tab 1502 = 6
  · refine wp_bd (wp_iflt (fun q => by omega) (fun q => wp_iflt (fun q2 => by omega) (fun q2 => wp_ret ?_))) (P := fun r w1 => r = 0 ∧ w = w1) ?_
    · exact ⟨rfl, rfl⟩
    · rintro _ _ ⟨rfl, rfl⟩
      exact wp_ifeq (fun _ => wp_ret (Or.inr (Or.inl ⟨nb, Or.inr full, rfl, rfl⟩))) (fun q => by omega)
  · generalize hc : (tab 1502).toNat = c at *
    have hc6 : c < 6 := by omega
    have Gc := G c hc6
    have er : RV (1 + 38) (w.1 1 12).toInt.toNat = 40 + 2 * c := by
      rw [show (w.1 1 12).toInt.toNat = c by omega, F.2.2.2.2.2.1 c hc6]
    have kr : KD (40 + 2 * c) = 7 := by have := Gc.1; rwa [show 1 + 39 + 2 * c = 40 + 2 * c by omega] at this
    have lr : LEN (40 + 2 * c + 1) = 8 := by have := Gc.2; rwa [show 1 + 40 + 2 * c = 40 + 2 * c + 1 by omega] at this
    refine wp_bd (P := fun r w2 => r = 1 ∧ ∃ w1, rs w w1 (40 + 2 * c) l ∧ w2 = setI w1 1 12 (w1.1 1 12 + 1)) (wp_iflt (fun q => by omega) (fun q => wp_iflt (fun q2 => wp_ard (by rw [F.2.2.1]; omega) ?_) (fun q2 => by omega))) ?_
    · rw [er]
      refine wp_bd (s_takeOver (ho _ kr) o1 (by rw [X, lr]; omega)) ?_
      rintro _ w1 h1
      rw [X] at h1
      exact wp_wr (wp_ret ⟨rfl, w1, h1, rfl⟩)
    · rintro _ _ ⟨rfl, w1, h1, rfl⟩
      refine wp_ifeq (fun q => by omega) (fun _ => ?_)
      unfold f_X9_wordCount
      have e12 : w1.1 1 = w.1 1 := rs_ob h1 (by omega) (by omega)
      have x1 : (w1.1 1 12 + 1).toInt = tab 1502 + 1 := by rw [e12, i_add (by omega), L.2.1, c1]
      rw [bd_r]
      have hob : ∀ k, k ≠ 1 → ¬ (k = 40 + 2 * c ∨ k = 40 + 2 * c + 1) → (setI w1 1 12 (w1.1 1 12 + 1)).1 k = w.1 k := by
        intro k hk1 hk2
        rw [← h1.1 k (by omega) (by omega)]
        funext b; rw [setI_at, if_neg (by omega)]
      have T1 : ∀ k, k < 1502 ∨ 1557 ≤ k → tword tab l k = tab k := by
        intro k hk
        unfold tword
        rw [hc, tset_at, if_neg (by omega), tput_at, if_neg (by omega), tset_at, if_neg (by omega)]
      have T2 : tword tab l 1502 = tab 1502 + 1 := by unfold tword; rw [tset_at, if_pos rfl]
      have T3 : ∀ i, i < c → ∀ j, j < 9 → tword tab l (1503 + 9 * i + j) = tab (1503 + 9 * i + j) := by
        intro i hi j hj
        unfold tword
        rw [hc, tset_at, if_neg (by omega), tput_at, if_neg (by omega), tset_at, if_neg (by omega)]
      have T4 : tword tab l (1503 + 9 * c) = l.length := by
        unfold tword
        rw [hc, tset_at, if_neg (by omega), tput_at, if_neg (by omega), tset_at, if_pos rfl]
      refine wp_ret (Or.inr (Or.inr ⟨nb, fun q => q.elim (fun q => q (by omega)) full, ⟨_, rfl, by rw [setI_at, if_pos ⟨rfl, rfl⟩]; exact x1⟩, ⟨?_, ?_, ?_, ?_⟩, okall_setI (okall_rs ho h1) (by decide +kernel), oc_tr (oc_rs h1 (by unfold tin; omega) (by unfold tin; omega)) (oc_setI (by unfold tin; omega))⟩))
      · exact fun l1 hl1 => lrel_fr (fun j hj => by rw [hob _ (by omega) (by omega)]) (fun j hj => T1 _ (by omega)) (h.1 l1 hl1)
      · exact trU_fr hk h (fun k a b => hob k (by omega) (by omega)) (fun i hi => T1 i (by omega))
      · rw [setI_at, if_pos ⟨rfl, rfl⟩, T2]
        refine ⟨x1, fun i hi => ?_⟩
        by_cases ic : i = c
        · subst ic
          rw [T4, Int.toNat_natCast]
          have : rl (setI w1 1 12 (w1.1 1 12 + 1)) (1 + 39 + 2 * i) = l := by
            rw [show 1 + 39 + 2 * i = 40 + 2 * i by omega, ← rs_l h1]
            refine rl_fr ?_ ?_
            · funext b; rw [setI_at, if_neg (by omega)]
            · funext b; rw [setI_at, if_neg (by omega)]
          rw [this]
          conv => lhs; rw [← tl_tput (tab := tset tab (1503 + 9 * i) l.length) (a := 1503 + 9 * i + 1) (l := l)]
          refine (tl_fr (fun j hj => ?_)).symm
          unfold tword
          rw [hc, tset_at, if_neg (by omega)]
        · have hic : i < c := by omega
          rw [rl_fr (hob _ (by omega) (by omega)) (hob _ (by omega) (by omega))]
          have e0 : tword tab l (1503 + 9 * i) = tab (1503 + 9 * i) := T3 i hic 0 (by omega)
          have := k3 i (by omega)
          rw [e0, tl_fr (tab := tab) (fun j hj => by rw [show 1503 + 9 * i + 1 + j = 1503 + 9 * i + (1 + j) by omega]; exact T3 i hic (1 + j) (by omega))]
          exact c2 i (by omega)
      · refine trR_fr2 hk h ?_ (fun k a => hob k (by omega) (by omega)) (fun i hi => T1 i (by omega))
        rw [setI_at, if_neg (by omega), e12]
/-! the reference's -/
theorem tput_take {tab : Nat → Int} {a : Nat} {l : List Int} {k : Nat} (hk : k < l.length) : tput tab a (l.take (k + 1)) = tset (tput tab a (l.take k)) (a + k) (l.getD k 0) := by
  have : l.take (k + 1) = l.take k ++ [l.getD k 0] := by
    rw [List.getD_eq_getElem?_getD, List.getElem?_eq_getElem hk, Option.getD_some, List.take_append_getElem hk]
  rw [this, tput_snoc, List.length_take, Nat.min_eq_left (by omega)]
