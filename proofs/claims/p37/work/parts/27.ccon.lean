/-! ===== contract ===== -/
def cm (tab : Nat → Int) (n : Nat) (a b : Int) (i : Nat) : Prop := tab (1442 + 5 * (6 * n + i)) = a ∧ tab (1442 + 5 * (6 * n + i) + 1) = b
theorem s_contractionOf {w : Wd} {L n : Nat} {tab : Nat → Int} {a b : Int32} (hn : n < 2) (hk : tok tab) (hu : urel w L tab n) (h4 : okr w (L + 4)) (h6 : okr w (L + 6)) :
    Wp (f_X2_contractionOf L a b w) (fun r w' => w = w' ∧ ((r.toInt = -1 ∧ ∀ i : Nat, i < tab (1440 + n) → ¬ cm tab n a.toInt b.toInt i) ∨ ∃ i : Nat, i < tab (1440 + n) ∧ cm tab n a.toInt b.toInt i ∧ r.toInt = 96 + i)) := by
  have l0 := LIT
  obtain ⟨u1, u2, u3, u4, u5, u6⟩ := hu
  have K := hk.2.1 n hn
  unfold f_X2_contractionOf f_X2_contractionOf_2
  refine wp_loop (fun (σ : Nat × Int32 × Int32 × Int32 × Wd) => σ.1 = L ∧ σ.2.1 = a ∧ σ.2.2.1 = b ∧ σ.2.2.2.2 = w ∧ 0 ≤ σ.2.2.2.1.toInt ∧ σ.2.2.2.1.toInt ≤ tab (1440 + n) ∧ ∀ i : Nat, i < σ.2.2.2.1.toInt → ¬ cm tab n a.toInt b.toInt i) (fun (σ : Nat × Int32 × Int32 × Int32 × Wd) => 6 - σ.2.2.2.1.toInt.toNat) ?_ FU _ ⟨rfl, rfl, rfl, rfl, by dsimp only; omega, by dsimp only; omega, fun i hi => by dsimp only at hi; omega⟩ (by rw [FUv]; dsimp only; omega)
  rintro rc ⟨L', a', b', k, w1⟩ ⟨e1, e2, e3, e4, hk0, hk1, hr⟩ ih
  dsimp only at e1 e2 e3 e4 hk0 hk1 hr
  subst e1; subst e2; subst e3; subst e4
  show Wp (g_X2_contractionOf_2 rc L' a' b' k w1) _
  unfold g_X2_contractionOf_2
  refine wp_bd (s_size h4) ?_
  rintro x _ ⟨rfl, hx⟩
  refine wp_ifle (fun q => wp_ret ⟨rfl, Or.inl ⟨l0.2.2.1, fun i hi => hr i (by omega)⟩⟩) (fun q => ?_)
  have hg := u4 k.toInt.toNat (by omega)
  rw [show ((k.toInt.toNat : Nat) : Int) = k.toInt by omega] at hg
  have step : ¬ cm tab n a'.toInt b'.toInt k.toInt.toNat → Wp (lt (k + 1) (fun x5 => rc (L', a', b', x5, w1))) (fun r w' => w1 = w' ∧ ((r.toInt = -1 ∧ ∀ i : Nat, i < tab (1440 + n) → ¬ cm tab n a'.toInt b'.toInt i) ∨ ∃ i : Nat, i < tab (1440 + n) ∧ cm tab n a'.toInt b'.toInt i ∧ r.toInt = 96 + i)) := by
    intro hc
    refine wp_add (by omega) (fun z hz => ?_)
    refine ih (L', a', b', z, w1) ⟨rfl, rfl, rfl, rfl, by dsimp only; omega, by dsimp only; omega, fun i hi => ?_⟩ (by dsimp only; omega)
    dsimp only at hi
    by_cases e : i = k.toInt.toNat
    · rw [e]; exact hc
    · exact hr i (by omega)
  refine wp_bd (s_get h4) ?_
  rintro y _ ⟨rfl, hy⟩
  refine wp_ifeq (fun q1 => ?_) (fun q1 => step (fun c => q1 (by rw [hy, hg.1]; exact c.1)))
  refine wp_bd (s_get h6) ?_
  rintro z _ ⟨rfl, hz⟩
  refine wp_ifeq (fun q2 => ?_) (fun q2 => step (fun c => q2 (by rw [hz, hg.2.1]; exact c.2)))
  refine wp_ret ⟨rfl, Or.inr ⟨k.toInt.toNat, by omega, ⟨by rw [← hg.1, ← hy]; exact q1, by rw [← hg.2.1, ← hz]; exact q2⟩, ?_⟩⟩
  have e96 : (96 : Int32).toInt = 96 := by decide
  rw [i_add (by omega), e96]
  omega
def conP (tab : Nat → Int) (n : Nat) (a b : Int) (i : Nat) (d : Int) : Prop := (d = 0 ∧ i < tab (1440 + n) ∧ cm tab n a b i) ∨ (d = 1 ∧ (i : Int) = tab (1440 + n) ∧ tab (1440 + n) < 6 ∧ ∀ j : Nat, j < tab (1440 + n) → ¬ cm tab n a b j)
def tcon (tab : Nat → Int) (n i : Nat) (d a b f s t : Int) : Nat → Int :=
  tw3 (tset (tset (tset tab (1440 + n) (tab (1440 + n) + d)) (1442 + 5 * (6 * n + i)) a) (1442 + 5 * (6 * n + i) + 1) b) (1442 + 5 * (6 * n + i) + 2) f s t
theorem tcon_out {tab : Nat → Int} {n i : Nat} {d a b f s t : Int} {k : Nat} (h1 : k ≠ 1440 + n) (h2 : ¬ (1442 + 5 * (6 * n + i) ≤ k ∧ k < 1442 + 5 * (6 * n + i) + 5)) : tcon tab n i d a b f s t k = tab k := by
  unfold tcon
  rw [tw3_at, if_neg (by omega), if_neg (by omega), if_neg (by omega), tset_at, if_neg (by omega), tset_at, if_neg (by omega), tset_at, if_neg h1]
theorem tcon_c {tab : Nat → Int} {n i : Nat} {d a b f s t : Int} (hn : n < 2) : tcon tab n i d a b f s t (1440 + n) = tab (1440 + n) + d := by
  unfold tcon
  rw [tw3_at, if_neg (by omega), if_neg (by omega), if_neg (by omega), tset_at, if_neg (by omega), tset_at, if_neg (by omega), tset_at, if_pos rfl]
theorem tcon_a {tab : Nat → Int} {n i : Nat} {d a b f s t : Int} (hn : n < 2) : tcon tab n i d a b f s t (1442 + 5 * (6 * n + i)) = a ∧ tcon tab n i d a b f s t (1442 + 5 * (6 * n + i) + 1) = b ∧ tcon tab n i d a b f s t (1442 + 5 * (6 * n + i) + 2 + 0) = f ∧ tcon tab n i d a b f s t (1442 + 5 * (6 * n + i) + 2 + 1) = s ∧ tcon tab n i d a b f s t (1442 + 5 * (6 * n + i) + 2 + 2) = t := by
  unfold tcon
  refine ⟨?_, ?_, ?_, ?_, ?_⟩
  · rw [tw3_at, if_neg (by omega), if_neg (by omega), if_neg (by omega), tset_at, if_neg (by omega), tset_at, if_pos rfl]
  · rw [tw3_at, if_neg (by omega), if_neg (by omega), if_neg (by omega), tset_at, if_pos rfl]
  · rw [tw3_at, if_pos (by omega)]
  · rw [tw3_at, if_neg (by omega), if_pos (by omega)]
  · rw [tw3_at, if_neg (by omega), if_neg (by omega), if_pos (by omega)]
theorem u_con {w w' : Wd} {L n i : Nat} {tab : Nat → Int} {d a b f s t : Int} (hn : n < 2) (hk : tok tab) (hu : urel w L tab n) (hP : conP tab n a b i d)
    (hcell : ∀ r, r < 3 → ∀ u, u ≠ 96 + i → w'.1 (L + 1 + r) u = w.1 (L + 1 + r) u) (hnew : (w'.1 (L + 1) (96 + i)).toInt = f ∧ (w'.1 (L + 2) (96 + i)).toInt = s ∧ (w'.1 (L + 3) (96 + i)).toInt = t)
    (h4 : rl w' (L + 4) = if d = 1 then rl w (L + 4) ++ [a] else rl w (L + 4)) (h6 : rl w' (L + 6) = if d = 1 then rl w (L + 6) ++ [b] else rl w (L + 6)) (hL : w'.1 L = w.1 L) (hp : ∀ k, L + 9 ≤ k → k < L + 13 → w'.1 k = w.1 k) :
    urel w' L (tcon tab n i d a b f s t) n := by
  obtain ⟨u1, u2, u3, u4, u5, u6⟩ := hu
  have K := hk.2.1 n hn
  have A := tcon_a (tab := tab) (i := i) (d := d) (a := a) (b := b) (f := f) (s := s) (t := t) hn
  have ip : (i : Int) < 6 := by rcases hP with h | h <;> omega
  have tp : tcon tab n i d a b f s t (1678 + n) = tab (1678 + n) := tcon_out (by omega) (by omega)
  have g4 : ∀ k : Nat, k < tab (1440 + n) → gt (rl w' (L + 4)) k = gt (rl w (L + 4)) k := by
    intro k hk
    rw [h4]
    by_cases e : d = 1
    · rw [if_pos e, gt_nat, gt_nat, List.getD_eq_getElem?_getD, List.getD_eq_getElem?_getD, List.getElem?_append_left (by omega)]
    · rw [if_neg e]
  have g6 : ∀ k : Nat, k < tab (1440 + n) → gt (rl w' (L + 6)) k = gt (rl w (L + 6)) k := by
    intro k hk
    rw [h6]
    by_cases e : d = 1
    · rw [if_pos e, gt_nat, gt_nat, List.getD_eq_getElem?_getD, List.getD_eq_getElem?_getD, List.getElem?_append_left (by omega)]
    · rw [if_neg e]
  unfold urel
  rw [tcon_c hn, tp, hL]
  refine ⟨fun u hu r hr => ?_, ?_, ?_, fun k hki => ?_, u5, fun k hki g hg => ?_⟩
  · rw [hcell r hr u (by omega), tcon_out (by omega) (by omega)]; exact u1 u hu r hr
  · rw [h4]
    rcases hP with h | h
    · rw [if_neg (by omega), h.1, u2]; omega
    · rw [if_pos h.1, List.length_append, h.1]; simp only [List.length_singleton]; omega
  · rw [h6]
    rcases hP with h | h
    · rw [if_neg (by omega), h.1, u3]; omega
    · rw [if_pos h.1, List.length_append, h.1]; simp only [List.length_singleton]; omega
  · by_cases e : k = i
    · subst e
      refine ⟨?_, ?_, fun r hr => ?_⟩
      · rw [A.1]
        rcases hP with h | h
        · rw [g4 k h.2.1, (u4 k h.2.1).1]; exact h.2.2.1
        · rw [h4, if_pos h.1, gt_nat, List.getD_eq_getElem?_getD, List.getElem?_append_right (by omega), show k - (rl w (L + 4)).length = 0 by omega]; rfl
      · rw [A.2.1]
        rcases hP with h | h
        · rw [g6 k h.2.1, (u4 k h.2.1).2.1]; exact h.2.2.2
        · rw [h6, if_pos h.1, gt_nat, List.getD_eq_getElem?_getD, List.getElem?_append_right (by omega), show k - (rl w (L + 6)).length = 0 by omega]; rfl
      · rcases (show r = 0 ∨ r = 1 ∨ r = 2 by omega) with rfl | rfl | rfl
        · rw [A.2.2.1]; exact hnew.1
        · rw [A.2.2.2.1]; exact hnew.2.1
        · rw [A.2.2.2.2]; exact hnew.2.2
    · have hkc : k < tab (1440 + n) := by rcases hP with h | h <;> omega
      obtain ⟨v1, v2, v3⟩ := u4 k hkc
      rw [g4 k hkc, g6 k hkc, tcon_out (by omega) (by omega), tcon_out (by omega) (by omega)]
      refine ⟨v1, v2, fun r hr => ?_⟩
      rw [hcell r hr _ (by omega), tcon_out (by omega) (by omega)]
      exact v3 r hr
  · rw [hp _ (by omega) (by omega), tcon_out (by omega) (by omega)]
    exact u6 k hki g hg
def bad_c1 (n a b : Int) : Prop := ¬ ((0 ≤ n ∧ n ≤ 1) ∧ (0 ≤ a ∧ a ≤ 95) ∧ (0 ≤ b ∧ b ≤ 95))
def bad_c3 (tab : Nat → Int) (n : Nat) (a b : Int) : Prop := tab (1440 + n) = 6 ∧ ∀ j : Nat, j < tab (1440 + n) → ¬ cm tab n a b j
theorem k_contract {w : Wd} {tab : Nat → Int} {n a b f s t : Int32} (hk : tok tab) (h : trel w 1 tab) (ho : okall w) :
    Wp (f_X10_contract n a b f s t w) (fun r w' => (bad_c1 n.toInt a.toInt b.toInt ∧ r = .inl 1 ∧ w' = w) ∨ (¬ bad_c1 n.toInt a.toInt b.toInt ∧ bad_w2 f.toInt s.toInt t.toInt ∧ r = .inl 2 ∧ w' = w) ∨
      (¬ bad_c1 n.toInt a.toInt b.toInt ∧ ¬ bad_w2 f.toInt s.toInt t.toInt ∧ bad_c3 tab n.toInt.toNat a.toInt b.toInt ∧ r = .inl 3 ∧ w' = w) ∨
      (¬ bad_c1 n.toInt a.toInt b.toInt ∧ ¬ bad_w2 f.toInt s.toInt t.toInt ∧ ∃ (i : Nat) (d : Int) (x : Int32), conP tab n.toInt.toNat a.toInt b.toInt i d ∧ r = .inr x ∧ x.toInt = tab (1440 + n.toInt.toNat) + d ∧ trel w' 1 (tcon tab n.toInt.toNat i d a.toInt b.toInt f.toInt s.toInt t.toInt) ∧ okall w' ∧ oc tin w w')) := by
  have l0 := LIT
  unfold f_X10_contract
  simp only [e_languageOf, e_checkLetter, e_checkWeights, bdx_c]
  refine wp_if (fun hn => ?_) (fun hn => wp_ret (Or.inl ⟨fun q => hn q.1, rfl, rfl⟩))
  refine wp_if (fun ha => ?_) (fun ha => wp_ret (Or.inl ⟨fun q => ha q.2.1, rfl, rfl⟩))
  refine wp_if (fun hb => ?_) (fun hb => wp_ret (Or.inl ⟨fun q => hb q.2.2, rfl, rfl⟩))
  have nb1 : ¬ bad_c1 n.toInt a.toInt b.toInt := fun q => q ⟨hn, ha, hb⟩
  refine wp_if (fun hw => ?_) (fun hw => wp_ret (Or.inr (Or.inl ⟨nb1, hw, rfl, rfl⟩)))
  have nb2 : ¬ bad_w2 f.toInt s.toInt t.toInt := fun q => q hw
  generalize hN : n.toInt.toNat = N at *
  have hN2 : N < 2 := by omega
  have hL := lang_kd N hN2
  have F := lang_facts _ hL
  have U := h.2.1 N hN2
  rw [show 1 + 12 + 13 * N = 13 + 13 * N by omega] at U
  have K := hk.2.1 N hN2
  have o4 := ho _ F.2.1
  have o6 := ho _ F.2.2.2.1
  generalize hLL : 13 + 13 * N = LL at *
  have fin : ∀ (w1 : Wd) (i : Nat) (d : Int) (u : Int32), conP tab N a.toInt b.toInt i d → u.toInt = 96 + i → okall w1 → w1.2 = w.2 → (∀ k, k ≠ LL + 4 → k ≠ LL + 5 → k ≠ LL + 6 → k ≠ LL + 7 → w1.1 k = w.1 k) →
      rl w1 (LL + 4) = (if d = 1 then rl w (LL + 4) ++ [a.toInt] else rl w (LL + 4)) → rl w1 (LL + 6) = (if d = 1 then rl w (LL + 6) ++ [b.toInt] else rl w (LL + 6)) →
      Wp (f_X10_contract_48 f s t LL u w1) (fun r w' => (bad_c1 n.toInt a.toInt b.toInt ∧ r = .inl 1 ∧ w' = w) ∨ (¬ bad_c1 n.toInt a.toInt b.toInt ∧ bad_w2 f.toInt s.toInt t.toInt ∧ r = .inl 2 ∧ w' = w) ∨
      (¬ bad_c1 n.toInt a.toInt b.toInt ∧ ¬ bad_w2 f.toInt s.toInt t.toInt ∧ bad_c3 tab N a.toInt b.toInt ∧ r = .inl 3 ∧ w' = w) ∨
      (¬ bad_c1 n.toInt a.toInt b.toInt ∧ ¬ bad_w2 f.toInt s.toInt t.toInt ∧ ∃ (i : Nat) (d : Int) (x : Int32), conP tab N a.toInt b.toInt i d ∧ r = .inr x ∧ x.toInt = tab (1440 + N) + d ∧ trel w' 1 (tcon tab N i d a.toInt b.toInt f.toInt s.toInt t.toInt) ∧ okall w' ∧ oc tin w w')) := by
    intro w1 i d u hP hu hok1 h2 hob h4 h6
    have ip : (i : Int) < 6 := by rcases hP with h | h <;> omega
    unfold f_X10_contract_48
    refine wp_ifeq (fun q => by omega) (fun q => ?_)
    rw [s_weighUnit hL (by omega) (by omega), bd_r, show u.toInt.toNat = 96 + i by omega]
    unfold f_X2_contractionCount
    have n0 := lang_n7 hL 0 (by omega)
    have n1 := lang_n7 hL 1 (by omega)
    have n2 := lang_n7 hL 2 (by omega)
    have hok2 := okall_setI (j := 96 + i) (v := t) (okall_setI (j := 96 + i) (v := s) (okall_setI (j := 96 + i) (v := f) hok1 n0) n1) n2
    have e4 : rl (setI (setI (setI w1 (LL + 1) (96 + i) f) (LL + 2) (96 + i) s) (LL + 3) (96 + i) t) (LL + 4) = rl w1 (LL + 4) := by
      refine rl_fr ?_ ?_
      · funext c; simp only [setI_at]; rw [if_neg (by omega), if_neg (by omega), if_neg (by omega)]
      · funext c; simp only [setI_at]; rw [if_neg (by omega), if_neg (by omega), if_neg (by omega)]
    have e6 : rl (setI (setI (setI w1 (LL + 1) (96 + i) f) (LL + 2) (96 + i) s) (LL + 3) (96 + i) t) (LL + 6) = rl w1 (LL + 6) := by
      refine rl_fr ?_ ?_
      · funext c; simp only [setI_at]; rw [if_neg (by omega), if_neg (by omega), if_neg (by omega)]
      · funext c; simp only [setI_at]; rw [if_neg (by omega), if_neg (by omega), if_neg (by omega)]
    have hobA : ∀ k, ¬ (LL + 1 ≤ k ∧ k ≤ LL + 7) → (setI (setI (setI w1 (LL + 1) (96 + i) f) (LL + 2) (96 + i) s) (LL + 3) (96 + i) t).1 k = w.1 k := by
      intro k hk
      rw [← hob k (by omega) (by omega) (by omega) (by omega)]
      funext c; simp only [setI_at]; rw [if_neg (by omega), if_neg (by omega), if_neg (by omega)]
    have U2 : urel (setI (setI (setI w1 (LL + 1) (96 + i) f) (LL + 2) (96 + i) s) (LL + 3) (96 + i) t) LL (tcon tab N i d a.toInt b.toInt f.toInt s.toInt t.toInt) N := by
      refine u_con hN2 hk U hP (fun r hr u hu => ?_) ⟨?_, ?_, ?_⟩ (by rw [e4]; exact h4) (by rw [e6]; exact h6) (hobA _ (by omega)) (fun k a b => hobA k (by omega))
      · simp only [setI_at]
        rw [if_neg (by omega), if_neg (by omega), if_neg (by omega), hob _ (by omega) (by omega) (by omega) (by omega)]
      · simp only [setI_at]; rw [if_neg (by omega), if_neg (by omega), if_pos (by simp)]
      · simp only [setI_at]; rw [if_neg (by omega), if_pos (by simp)]
      · simp only [setI_at]; rw [if_pos (by simp)]
    refine wp_bd (wp_bd (s_size (hok2 _ F.2.1)) ?_) (P := fun x w' => w' = (setI (setI (setI w1 (LL + 1) (96 + i) f) (LL + 2) (96 + i) s) (LL + 3) (96 + i) t) ∧ x.toInt = tab (1440 + N) + d) ?_
    · rintro x _ ⟨rfl, hx⟩
      refine wp_ret ⟨rfl, ?_⟩
      have := U2.2.1
      rw [tcon_c hN2] at this
      rw [hx, this]
    · rintro x _ ⟨rfl, hx⟩
      refine wp_ret (Or.inr (Or.inr (Or.inr ⟨nb1, nb2, i, d, x, hP, rfl, hx, ?_⟩)))
      exact good_U hN2 hk h (fun k q => hobA k (by omega)) (show _ = _ from h2) (fun k hki => tcon_out (by unfold uix at hki; omega) (by unfold uix at hki; omega)) (by rw [hLL]; exact U2) hok2
  refine wp_bd (s_contractionOf hN2 hk U o4 o6) ?_
  rintro x _ ⟨rfl, ⟨hx, hno⟩ | ⟨i, hi, hm, hx⟩⟩
  · refine wp_ifeq (fun q => ?_) (fun q => by omega)
    unfold f_X2_addContraction
    by_cases full : tab (1440 + N) = 6
    · have hlen : (rl w (LL + 4)).length = 6 := by have := U.2.1; omega
      refine wp_bd (wp_bd (s_add_full o4 (by rw [F.2.2.1, hlen]; omega)) ?_) (P := fun x w' => w = w' ∧ x = -1) ?_
      · rintro _ _ ⟨rfl, rfl⟩
        refine wp_ifeq (fun _ => wp_ret ⟨rfl, rfl⟩) (fun q => by omega)
      · rintro _ _ ⟨rfl, rfl⟩
        unfold f_X10_contract_48
        exact wp_ifeq (fun q => wp_ret (Or.inr (Or.inr (Or.inl ⟨nb1, nb2, ⟨full, hno⟩, rfl, rfl⟩)))) (fun q => by omega)
    · have hlen : ((rl w (LL + 4)).length : Int) = tab (1440 + N) := U.2.1
      have hlen6 : ((rl w (LL + 6)).length : Int) = tab (1440 + N) := U.2.2.1
      refine wp_bd (wp_bd (s_add o4 (by rw [F.2.2.1]; omega)) ?_) (P := fun x w' => x.toInt = 96 + tab (1440 + N) ∧ okall w' ∧ w'.2 = w.2 ∧ (∀ k, k ≠ LL + 4 → k ≠ LL + 5 → k ≠ LL + 6 → k ≠ LL + 7 → w'.1 k = w.1 k) ∧ rl w' (LL + 4) = rl w (LL + 4) ++ [a.toInt] ∧ rl w' (LL + 6) = rl w (LL + 6) ++ [b.toInt]) ?_
      · rintro _ w1 ⟨rfl, h1⟩
        refine wp_ifeq (fun q => by omega) (fun q => ?_)
        have r6 : rl w1 (LL + 6) = rl w (LL + 6) := rs_rl h1 F.2.2.2.1 (by omega)
        refine wp_bd (s_add (rs_okr h1 o6) (by rw [F.2.2.2.2.1, r6]; omega)) ?_
        rintro _ w2 ⟨rfl, h2⟩
        refine wp_ifeq (fun q => by omega) (fun q => ?_)
        have r4 : rl w2 (LL + 4) = rl w1 (LL + 4) := rs_rl h2 F.2.1 (by omega)
        refine wp_bd (s_size (rs_okr h2 (rs_okr h1 o4))) ?_
        rintro x2 _ ⟨rfl, hx2⟩
        rw [r4, rs_l h1, List.length_append, List.length_singleton] at hx2
        have q96 : (96 : Int32).toInt = 96 := by decide
        have s1 : (96 + x2).toInt = 96 + x2.toInt := by rw [i_add (by omega), q96]
        refine wp_ret ⟨by rw [i_sub (by omega), s1, l0.2.1]; omega, okall_rs (okall_rs ho h1) h2, h2.2.1.trans h1.2.1, fun k k1 k2 k3 k4 => (h2.1 k k3 k4).trans (h1.1 k k1 k2), by rw [r4, rs_l h1], by rw [rs_l h2, r6]⟩
      · rintro x2 w2 ⟨hx2, hok2, hw2, hob2, h4, h6⟩
        refine fin w2 (tab (1440 + N)).toNat 1 x2 (Or.inr ⟨rfl, by omega, by omega, hno⟩) (by omega) hok2 hw2 hob2 (by rw [if_pos rfl]; exact h4) (by rw [if_pos rfl]; exact h6)
  · refine wp_ifeq (fun q => by omega) (fun q => ?_)
    exact fin w i 0 x (Or.inl ⟨rfl, hi, hm⟩) hx ho rfl (fun _ _ _ _ _ => rfl) (by rw [if_neg (by decide)]) (by rw [if_neg (by decide)])

