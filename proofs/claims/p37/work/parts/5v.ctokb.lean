/-! ===== contractions and rules keep the tables in range; a contraction's place is one ===== -/
section
variable {tab tab' : Nat → Int}
theorem conP_u {n i j : Nat} {a b d e : Int} (hk : tok tab) (hn : n < 2) (h1 : conP tab n a b i d) (h2 : conP tab n a b j e) : i = j ∧ d = e := by
  have D := ((tok_parts.mp hk).2.1 n hn).2.2.1
  rcases h1 with ⟨rfl, h1, c1⟩ | ⟨rfl, h1, g1, c1⟩
  · rcases h2 with ⟨rfl, h2, c2⟩ | ⟨rfl, h2, g2, c2⟩
    · refine ⟨?_, rfl⟩
      unfold cm at c1 c2
      rcases Nat.lt_trichotomy i j with q | q | q
      · exact absurd ⟨c1.1.trans c2.1.symm, c1.2.trans c2.2.symm⟩ (D i j q h2)
      · exact q
      · exact absurd ⟨c2.1.trans c1.1.symm, c2.2.trans c1.2.symm⟩ (D j i q h1)
    · exact absurd c1 (c2 i h1)
  · rcases h2 with ⟨rfl, h2, c2⟩ | ⟨rfl, h2, g2, c2⟩
    · exact absurd c2 (c1 j h2)
    · exact ⟨by omega, rfl⟩
theorem tok_con {n i : Nat} {a b d f s t : Int} (hk : tok tab) (hn : n < 2) (hb : ¬ bad_c1 n a b) (h : conP tab n a b i d) : tok (tcon tab n i d a b f s t) := by
  have B := Classical.not_not.mp hb
  obtain ⟨ka, kb, kc, kd⟩ := tok_parts.mp hk
  have kn := kb n hn
  have i6 : i < 6 := by
    rcases h with ⟨rfl, h1, c1⟩ | ⟨rfl, h1, g1, c1⟩
    · have := kn.1; omega
    · omega
  have out : ∀ k, k ≠ 1440 + n → ¬ (1442 + 5 * (6 * n + i) ≤ k ∧ k < 1442 + 5 * (6 * n + i) + 5) → tcon tab n i d a b f s t k = tab k := fun k h1 h2 => tcon_out h1 h2
  have vC := tcon_c (tab := tab) (i := i) (d := d) (a := a) (b := b) (f := f) (s := s) (t := t) hn
  have vA := tcon_a (tab := tab) (i := i) (d := d) (a := a) (b := b) (f := f) (s := s) (t := t) hn
  refine tok_parts.mpr ⟨lok_all (fun k hk => out k (by omega) (by omega)) ka, fun m hm => ?_, wok_fr (fun k hk => out k (by omega) (by omega)) kc, rrk_fr (fun k hk => out k (by omega) (by omega)) kd⟩
  by_cases em : m = n
  · subst em
    obtain ⟨n1, n2, n3, n4, n5⟩ := kn
    have v1678 := out (1678 + m) (by omega) (by omega)
    have two : ∀ k : Nat, k < 6 → (k = i → tcon tab m i d a b f s t (1442 + 5 * (6 * m + k)) = a ∧ tcon tab m i d a b f s t (1442 + 5 * (6 * m + k) + 1) = b) ∧ (k ≠ i → tcon tab m i d a b f s t (1442 + 5 * (6 * m + k)) = tab (1442 + 5 * (6 * m + k)) ∧ tcon tab m i d a b f s t (1442 + 5 * (6 * m + k) + 1) = tab (1442 + 5 * (6 * m + k) + 1)) := by
      intro k hk6
      refine ⟨fun e => ?_, fun e => ⟨out _ (by omega) (by omega), out _ (by omega) (by omega)⟩⟩
      subst e; exact ⟨vA.1, vA.2.1⟩
    have cnt : 0 ≤ tab (1440 + m) + d ∧ tab (1440 + m) + d ≤ 6 := by
      rcases h with ⟨rfl, h1, c1⟩ | ⟨rfl, h1, g1, c1⟩ <;> omega
    -- below the count: not i, or i with its letters
    have frm : ∀ k : Nat, k < tab (1440 + m) + d → k ≠ i → (k : Int) < tab (1440 + m) := by
      intro k h1 h2
      rcases h with ⟨rfl, h3, c1⟩ | ⟨rfl, h3, g1, c1⟩ <;> omega
    have oth : ∀ k : Nat, k < tab (1440 + m) → k ≠ i → ¬ cm tab m a b k := by
      intro k h1 h2 c2
      rcases h with ⟨rfl, h3, c1⟩ | ⟨rfl, h3, g1, c1⟩
      · have := (conP_u hk hm (Or.inl ⟨rfl, h1, c2⟩) (Or.inl ⟨rfl, h3, c1⟩)).1; exact h2 this
      · exact c1 k h1 c2
    unfold nok
    rw [vC, v1678]
    refine ⟨cnt, n2, fun k j hkj hj => ?_, fun k hk2 => ?_, fun k hk2 => ?_⟩
    · have Tk := two k (by omega)
      have Tj := two j (by omega)
      by_cases e1 : k = i
      · have e2 : j ≠ i := by omega
        rw [(Tk.1 e1).1, (Tk.1 e1).2, (Tj.2 e2).1, (Tj.2 e2).2]
        exact fun q => oth j (frm j hj e2) e2 ⟨q.1.symm, q.2.symm⟩
      · by_cases e2 : j = i
        · rw [(Tj.1 e2).1, (Tj.1 e2).2, (Tk.2 e1).1, (Tk.2 e1).2]
          exact fun q => oth k (frm k (by omega) e1) e1 ⟨q.1, q.2⟩
        · rw [(Tk.2 e1).1, (Tk.2 e1).2, (Tj.2 e2).1, (Tj.2 e2).2]
          exact n3 k j hkj (frm j hj e2)
    · have Tk := two k (by omega)
      by_cases e1 : k = i
      · rw [(Tk.1 e1).1, (Tk.1 e1).2]; exact ⟨B.2.1.1, B.2.2.1⟩
      · rw [(Tk.2 e1).1, (Tk.2 e1).2]; exact n4 k (frm k hk2 e1)
    · rw [out _ (by omega) (by omega), out (1680 + 7 * (4 * m + k) + 4) (by omega) (by omega)]; exact n5 k hk2
  · exact nok_fr (fun k hk => out k (by unfold nix at hk; omega) (by unfold nix at hk; omega)) (kb m hm)
theorem tok_rule {p : Int} {la ls lb lt : List Int} (hk : tok tab) (h2 : ¬ bad_r2 p) (h3 : ¬ bad_r3 tab la ls lb lt) (hs : ∀ x ∈ ls, 0 ≤ x ∧ x ≤ 95) (ht : ∀ x ∈ lt, 0 ≤ x ∧ x ≤ 95) : tok (trule tab p la ls lb lt) := by
  have P := Classical.not_not.mp h2
  obtain ⟨l1, l2, l3, l4, l5⟩ := Classical.not_not.mp h3
  obtain ⟨ka, kb, kc, kd⟩ := tok_parts.mp hk
  obtain ⟨d1, d2, d3⟩ := kd
  have out : ∀ k, k ≠ 1557 → ¬ (1558 + 15 * (tab 1557).toNat ≤ k ∧ k < 1558 + 15 * (tab 1557).toNat + 15) → trule tab p la ls lb lt k = tab k := fun k q1 q2 => trule_out l1 l2.2 l3 l4 q1 q2
  have TI := trule_in (tab := tab) (pass := p) (la := la) (ls := ls) (lb := lb) (lt := lt) (A := 1558 + 15 * (tab 1557).toNat) rfl l1 l2.2 l3 l4
  obtain ⟨t0, t1, t2, t3, t4, t5, t6, t7, t8, t9⟩ := TI
  refine tok_parts.mpr ⟨lok_all (fun k hk => out k (by omega) (by omega)) ka, fun m hm => nok_fr (fun k hk => out k (by unfold nix at hk; omega) (by unfold nix at hk; omega)) (kb m hm), wok_fr (fun k hk => out k (by omega) (by omega)) kc, ?_⟩
  unfold rrk
  rw [t0]
  refine ⟨by omega, by omega, fun i hi => ?_⟩
  by_cases e : i = (tab 1557).toNat
  · subst e
    have gl : ∀ (l : List Int), (∀ x ∈ l, 0 ≤ x ∧ x ≤ 95) → ∀ j : Nat, j < l.length → 0 ≤ gt l j ∧ gt l j ≤ 95 := fun l hl j hj => gt_letter hl hj
    unfold rok
    rw [t1, t2, t3, t4, t5]
    refine ⟨by omega, by omega, by omega, by omega, by omega, fun j hj => ?_, fun j hj => ?_⟩
    · have hj' : j < ls.length := by omega
      have g := gl ls hs j hj'
      rw [← t7, tl_gtn hj'] at g; exact g
    · have hj' : j < lt.length := by omega
      have g := gl lt ht j hj'
      rw [← t9, tl_gtn hj'] at g; exact g
  · exact rok_fr (fun j hj => out _ (by omega) (by omega)) (d3 i (by omega))
/-- the class's look at the tables is of 1740 numbers -/
theorem trel_ext {w : Wd} (hk : tok tab) (h : ∀ i, i < 1740 → tab' i = tab i) (hr : trel w 1 tab) : trel w 1 tab' := by
  have n := (tok_parts.mp hk).2.1
  refine ⟨fun l hl => lrel_fr (fun j hj => rfl) (fun j hj => h _ (by omega)) (hr.1 l hl), fun m hm => urel_fr (n m hm).1 (n m hm).2.1 (fun k _ _ => rfl) (fun i hi => h i (by unfold uix at hi; omega)) (hr.2.1 m hm), trW_fr hk hr (fun k a => rfl) (fun i hi => h i (by omega)), trR_fr hk hr (fun k a => rfl) (fun i hi => h i (by omega))⟩
end
/-- a text that grows, a tape that grows -/
theorem xok_put {txt : Nat → List Int} {s : Nat} {l : Int} (h : xok txt) (hs : s < 6) (hn : (txt s).length ≠ 40) (hl : 0 ≤ l ∧ l ≤ 95) : xok (xset txt s (txt s ++ [l])) := by
  have Y := h s hs
  refine xset_ok h (by rw [List.length_append, List.length_singleton]; omega) (fun x hx => ?_)
  rcases List.mem_append.mp hx with q | q
  · exact Y.2 x q
  · rw [List.mem_singleton.mp q]; exact hl
theorem xok_nil {txt : Nat → List Int} {s : Nat} (h : xok txt) : xok (xset txt s []) := xset_ok h (Nat.zero_le _) (fun x hx => (List.not_mem_nil hx).elim)

