/-! ===== the reference lays words ===== -/
theorem sl_spec {tab : Nat → Int} {l : List Int} : ∀ (n : Nat) (i : Int), i ≤ l.length → (l.length : Int) - i ≤ n → i ≤ sl tab l n i ∧ sl tab l n i ≤ l.length ∧ (sl tab l n i < l.length → icl tab l (sl tab l n i) ∧ kd tab l (sl tab l n i) ≠ 6) ∧ ∀ j : Int, i ≤ j → j < sl tab l n i → ¬ (icl tab l j ∧ kd tab l j ≠ 6) := by
  intro n
  induction n with
  | zero =>
    intro i h h2
    have e : sl tab l 0 i = l.length := rfl
    rw [e]
    exact ⟨h, Int.le_refl _, fun q => by omega, fun j a b => by omega⟩
  | succ n ih =>
    intro i h h2
    by_cases c : i < l.length
    · rw [sl_in c]
      by_cases d : icl tab l i ∧ kd tab l i ≠ 6
      · rw [if_pos d]; exact ⟨Int.le_refl _, h, fun _ => d, fun j a b => by omega⟩
      · rw [if_neg d]
        have := ih (i + 1) (by omega) (by omega)
        refine ⟨by omega, this.2.1, this.2.2.1, fun j a b => ?_⟩
        by_cases e : j = i
        · rw [e]; exact d
        · exact this.2.2.2 j (by omega) b
    · rw [sl_out (by omega)]; exact ⟨by omega, Int.le_refl _, fun q => by omega, fun j a b => by omega⟩
theorem sl_uniq {tab : Nat → Int} {l : List Int} {T : Int} : ∀ (n : Nat) (i : Int), i ≤ T → T ≤ l.length → (l.length : Int) - i ≤ n → (T < l.length → icl tab l T ∧ kd tab l T ≠ 6) → (∀ j : Int, i ≤ j → j < T → ¬ (icl tab l j ∧ kd tab l j ≠ 6)) → sl tab l n i = T := by
  intro n i h1 h2 h3 h4 h5
  have S := sl_spec (tab := tab) (l := l) n i (by omega) h3
  by_cases c : sl tab l n i < T
  · exact absurd (S.2.2.1 (by omega)) (h5 _ S.1 c)
  · by_cases d : T < sl tab l n i
    · exact absurd (h4 (by omega)) (S.2.2.2 T h1 d)
    · omega
/-- an end of a word, or a cluster, of SEAMLESS ones that has been come upon -/
def visS (tab : Nat → Int) (l : List Int) (N : Nat) (i : Int) : Prop := ∃ n, n < N ∧ orb tab l n < l.length ∧ kd tab l (orb tab l n) = 6 ∧ nx tab l (orb tab l n) = i
theorem visS_s {tab : Nat → Int} {l : List Int} {N : Nat} {i : Int} (h : orb tab l N < l.length) (h6 : kd tab l (orb tab l N) = 6) : visS tab l (N + 1) i ↔ visS tab l N i ∨ i = nx tab l (orb tab l N) := by
  constructor
  · rintro ⟨n, a, b, c, e⟩
    by_cases d : n = N
    · subst d; exact Or.inr e.symm
    · exact Or.inl ⟨n, by omega, b, c, e⟩
  · rintro (⟨n, a, b, c⟩ | e)
    · exact ⟨n, by omega, b, c⟩
    · exact ⟨N, by omega, h, h6, e.symm⟩
theorem visS_n {tab : Nat → Int} {l : List Int} {N : Nat} {i : Int} (h6 : kd tab l (orb tab l N) ≠ 6) : visS tab l (N + 1) i ↔ visS tab l N i := by
  constructor
  · rintro ⟨n, a, b, c, e⟩
    by_cases d : n = N
    · subst d; exact absurd c h6
    · exact ⟨n, by omega, b, c, e⟩
  · rintro ⟨n, a, b, c⟩
    exact ⟨n, by omega, b, c⟩
theorem visS_end {tab : Nat → Int} {l : List Int} {N : Nat} {i : Int} (h40 : l.length ≤ 40) (h : l.length ≤ orb tab l N) : visS tab l N i ↔ visS tab l 40 i := by
  constructor
  · rintro ⟨n, a, b, c⟩
    have O := orb_bd (tab := tab) h40 n
    exact ⟨n, by omega, b, c⟩
  · rintro ⟨n, a, b, c⟩
    by_cases d : n < N
    · exact ⟨n, d, b, c⟩
    · have := orb_end h n (by omega)
      omega
theorem ca_eq {tab : Nat → Int} {l : List Int} {c : Int} : ∀ n : Nat, 0 ≤ c → c ≤ n → icl tab l c → (∀ j : Int, c < j → j ≤ n → ¬ icl tab l j) → ca tab l n = c := by
  intro n
  induction n with
  | zero => intro h0 h1 _ _; unfold ca; omega
  | succ n ih =>
    intro h0 h1 h2 h3
    unfold ca
    by_cases e : c = ((n + 1 : Nat) : Int)
    · rw [if_pos (e ▸ h2)]; exact e.symm
    · rw [if_neg (h3 _ (by omega) (Int.le_refl _))]
      exact ih h0 (by omega) h2 (fun j a b => h3 j a (by omega))
theorem vis_S {tab : Nat → Int} {l : List Int} {p : Nat} (h40 : l.length ≤ 40) (hp : 0 < p ∧ p < l.length) (h6 : kd tab l (ca tab l (p - 1)) = 6) : vis tab l 40 p ↔ visS tab l 40 p := by
  constructor
  · rintro ⟨n, a, b, c⟩
    refine ⟨n, a, b, ?_, c⟩
    by_cases d : kd tab l (orb tab l n) = 6
    · exact d
    · have O := orb_bd (tab := tab) h40 n
      have S := sn_bd (tab := tab) (l := l) 50 (orb tab l n + 1) (by omega) (by omega) (by omega)
      unfold nx at c
      rw [if_neg d] at c
      rw [c] at S
      have e : ca tab l (p - 1) = orb tab l n := by
        refine ca_eq _ O.1 (by omega) (O.2.2.1.elim (fun q => by omega) id) (fun j h1 h2 h3 => ?_)
        have := S.2.2.2 j (by omega) (by omega) (Or.inr h3)
        omega
      rw [e] at h6
      exact h6
  · rintro ⟨n, a, b, c, d⟩
    exact ⟨n, a, b, d⟩
/-- the row of marks, after so many steps -/
def am (w : Wd) (tab : Nat → Int) (l : List Int) (N : Nat) : Prop := ∀ j, j ≤ 40 → j ≤ l.length → ((w.1 733 j).toInt = 0 ∨ (w.1 733 j).toInt = 1) ∧ ((w.1 733 j).toInt = 1 ↔ visS tab l N j)
theorem am_cg {w : Wd} {tab : Nat → Int} {l : List Int} {N M : Nat} (h : am w tab l N) (e : ∀ i : Int, visS tab l N i ↔ visS tab l M i) : am w tab l M :=
  fun j a b => ⟨(h j a b).1, (h j a b).2.trans (e j)⟩
def o733 (w w' : Wd) : Prop := oc (fun k => k = 733) w w'
theorem o733_r {w w' : Wd} {tab : Nat → Int} {txt : Nat → List Int} (h : o733 w w') (ht : rtab w = tab) (hx : rtx w txt) : rtab w' = tab ∧ rtx w' txt :=
  ⟨(rtab_fr (h.1 714 (by decide))).trans ht, rtx_fr hx (h.1 716 (by decide)) (h.1 717 (by decide))⟩
/-- a state of the outer loop -/
def lwI (w0 : Wd) (tab : Nat → Int) (l : List Int) (k : Int) (w : Wd) : Prop := o733 w0 w ∧ ∃ n, (k = orb tab l n ∨ (k = l.length + 1 ∧ orb tab l n = l.length)) ∧ am w tab l n
section
variable {w0 : Wd} {tab : Nat → Int} {txt : Nat → List Int} {s many : Int32} {rc : Int32 × Int32 × Int32 × Wd → Option (Unit × Wd)} {Q : Unit → Wd → Prop}
theorem s_lw99 (h40 : (txt s.toInt.toNat).length ≤ 40) (ht : rtab w0 = tab) (hx : rtx w0 txt) (hkx : xok txt) (hs : 0 ≤ s.toInt ∧ s.toInt ≤ 5) (hm : many.toInt = (txt s.toInt.toNat).length) {k0 : Int}
    (hrc : ∀ (k : Int32) (w : Wd), lwI w0 tab (txt s.toInt.toNat) k.toInt w → k0 < k.toInt → k.toInt ≤ 41 → Wp (rc (s, many, k, w)) Q)
    {x : Int32} {w : Wd} {n : Nat} (ho : o733 w0 w) (ha : am w tab (txt s.toInt.toNat) n) (hk0 : k0 ≤ orb tab (txt s.toInt.toNat) n) (hx1 : x.toInt = orb tab (txt s.toInt.toNat) n + 1) (h6 : orb tab (txt s.toInt.toNat) n < (txt s.toInt.toNat).length → kd tab (txt s.toInt.toNat) (orb tab (txt s.toInt.toNat) n) ≠ 6) :
    Wp (f_X11_laysWords_99 rc s many x w) Q := by
  have L := LIT
  have O := orb_bd (tab := tab) h40 n
  obtain ⟨ht2, hx2⟩ := o733_r ho ht hx
  by_cases c : orb tab (txt s.toInt.toNat) n < (txt s.toInt.toNat).length
  · have nxe : orb tab (txt s.toInt.toNat) (n + 1) = sn tab (txt s.toInt.toNat) 1 50 (orb tab (txt s.toInt.toNat) n + 1) := by
      rw [orb_s, if_pos c]; unfold nx; rw [if_neg (h6 c)]
    have ha2 := am_cg ha (fun i => (visS_n (i := i) (h6 c)).symm)
    unfold f_X11_laysWords_99
    rw [FUv]
    refine wp_loop (fun σ : Int32 × Int32 × Int32 × Wd => σ.1 = s ∧ σ.2.1 = many ∧ σ.2.2.2 = w ∧ x.toInt ≤ σ.2.2.1.toInt ∧ σ.2.2.1.toInt ≤ (txt s.toInt.toNat).length ∧ ∃ k : Nat, sn tab (txt s.toInt.toNat) 1 k σ.2.2.1.toInt = orb tab (txt s.toInt.toNat) (n + 1) ∧ 42 - σ.2.2.1.toInt ≤ k)
      (fun σ => (42 - σ.2.2.1.toInt).toNat) ?_ 100000 _ ⟨rfl, rfl, rfl, Int.le_refl _, by dsimp only; omega, 50, by dsimp only; rw [hx1, nxe], by dsimp only; omega⟩ (by dsimp only; omega)
    rintro rc2 ⟨s2, m2, j, u⟩ ⟨rfl, rfl, rfl, hj, hj2, k, hk, hk2⟩ ih
    dsimp only at *
    unfold g_X11_laysWords_99
    obtain ⟨k', rfl⟩ : ∃ k', k = k' + 1 := ⟨k - 1, by omega⟩
    rw [sn_in (by omega)] at hk
    refine wp_ifle (fun q => ?_) (fun q => ?_)
    · rw [if_pos (Or.inl (by omega))] at hk
      exact hrc j _ ⟨ho, n + 1, Or.inl hk, ha2⟩ (by omega) (by omega)
    · refine wp_bd (r_isCluster ht2 hx2 hkx hs (by omega)) ?_
      rintro y _ ⟨rfl, rfl⟩
      rw [ite_zo]
      refine wp_if (fun d => ?_) (fun d => wp_add (by omega) (fun z hz => ?_))
      · rw [if_pos (Or.inr d)] at hk
        exact hrc j _ ⟨ho, n + 1, Or.inl hk, ha2⟩ (by omega) (by omega)
      · rw [if_neg (fun q2 => q2.elim (fun e => by omega) d)] at hk
        have hz3 : z.toInt = j.toInt + 1 := by omega
        exact ih (s2, m2, z, u) ⟨rfl, rfl, rfl, by dsimp only; omega, by dsimp only; omega, k', by dsimp only; rw [hz3]; exact hk, by dsimp only; omega⟩ (by dsimp only; omega)
  · unfold f_X11_laysWords_99
    rw [FUv]
    show Wp (g_X11_laysWords_99 _ rc s many x w) Q
    unfold g_X11_laysWords_99
    refine wp_ifle (fun q => hrc x w ⟨ho, n, Or.inr ⟨by omega, by omega⟩, ha⟩ (by omega) (by omega)) (fun q => by omega)
theorem s_lw71 (hk : tok tab) (h40 : (txt s.toInt.toNat).length ≤ 40) (ht : rtab w0 = tab) (hx : rtx w0 txt) (hkx : xok txt) (hs : 0 ≤ s.toInt ∧ s.toInt ≤ 5) (hm : many.toInt = (txt s.toInt.toNat).length) {k0 : Int}
    (hrc : ∀ (k : Int32) (w : Wd), lwI w0 tab (txt s.toInt.toNat) k.toInt w → k0 < k.toInt → k.toInt ≤ 41 → Wp (rc (s, many, k, w)) Q)
    {x to : Int32} {w : Wd} {n : Nat} (ho : o733 w0 w) (ha : am w tab (txt s.toInt.toNat) n) (hk0 : k0 = orb tab (txt s.toInt.toNat) n) (hx1 : x.toInt = orb tab (txt s.toInt.toNat) n) (hc : orb tab (txt s.toInt.toNat) n < (txt s.toInt.toNat).length) (hto : to.toInt = sl tab (txt s.toInt.toNat) 51 (orb tab (txt s.toInt.toNat) n)) :
    Wp (f_X11_laysWords_71 rc s many x to w) Q := by
  have L := LIT
  have L7 := L733
  have O0 := orb_bd (tab := tab) h40 n
  have S := sl_spec (tab := tab) (l := txt s.toInt.toNat) 51 (orb tab (txt s.toInt.toNat) n) (by omega) (by omega)
  rw [← hto] at S
  unfold f_X11_laysWords_71
  rw [FUv]
  refine wp_loop (fun σ : Int32 × Int32 × Int32 × Int32 × Wd => σ.1 = s ∧ σ.2.1 = many ∧ σ.2.2.2.1 = to ∧ o733 w0 σ.2.2.2.2 ∧ k0 ≤ σ.2.2.1.toInt ∧ σ.2.2.1.toInt ≤ to.toInt ∧ ∃ m : Nat, σ.2.2.1.toInt = orb tab (txt s.toInt.toNat) m ∧ am σ.2.2.2.2 tab (txt s.toInt.toNat) m)
    (fun σ => (42 - σ.2.2.1.toInt).toNat) ?_ 100000 _ ⟨rfl, rfl, rfl, ho, by dsimp only; omega, by dsimp only; omega, n, hx1, ha⟩ (by dsimp only; omega)
  rintro rc2 ⟨s2, m2, j, to2, u⟩ ⟨rfl, rfl, rfl, ho2, hj, hj2, m, hjm, ham⟩ ih
  dsimp only at *
  have O := orb_bd (tab := tab) h40 m
  obtain ⟨ht2, hx2⟩ := o733_r ho2 ht hx
  unfold g_X11_laysWords_71
  refine wp_ifle (fun q => wp_add (by omega) (fun z hz => ?_)) (fun q => ?_)
  · exact s_lw99 h40 ht hx hkx hs hm hrc ho2 ham (by omega) (by omega) (fun q2 => by rw [show orb tab (txt s2.toInt.toNat) m = to2.toInt by omega]; exact (S.2.2.1 (by omega)).2)
  · refine wp_bd (s_wordEndR hk ht2 hx2 hkx hs (p := j) (lim := to2) (by omega) (by omega)) ?_
    rintro e _ ⟨rfl, he⟩
    have jc : icl tab (txt s2.toInt.toNat) j.toInt := by
      rw [hjm]; exact O.2.2.1.elim (fun q2 => by omega) id
    have j6 : kd tab (txt s2.toInt.toNat) j.toInt = 6 := by
      by_cases d : kd tab (txt s2.toInt.toNat) j.toInt = 6
      · exact d
      · exact absurd ⟨jc, d⟩ (S.2.2.2 j.toInt (by omega) (by omega))
    have sle : sl tab (txt s2.toInt.toNat) 50 (j.toInt + 1) = to2.toInt := sl_uniq 50 _ (by omega) S.2.1 (by omega) S.2.2.1 (fun i a b => S.2.2.2 i (by omega) b)
    have edge : ied tab (txt s2.toInt.toNat) to2.toInt := by
      by_cases d : to2.toInt < (txt s2.toInt.toNat).length
      · exact Or.inr (S.2.2.1 d).1
      · exact Or.inl (by omega)
    have W := wend_bd (tab := tab) h40 (p := j.toInt) (lim := to2.toInt) (by omega) (by omega) edge
    rw [← he] at W
    have nxe : nx tab (txt s2.toInt.toNat) (orb tab (txt s2.toInt.toNat) m) = e.toInt := by
      rw [← hjm]; unfold nx; rw [if_pos j6, sle, he]
    have oe : orb tab (txt s2.toInt.toNat) (m + 1) = e.toInt := by rw [orb_s, if_pos (by omega), nxe]
    refine wp_ast (by omega) ?_
    refine ih (s2, m2, e, to2, setI u 733 e.toInt.toNat 1) ⟨rfl, rfl, rfl, oc_tr ho2 (oc_setI rfl), by dsimp only; omega, by dsimp only; omega, m + 1, oe.symm, fun i a b => ?_⟩ (by dsimp only; omega)
    dsimp only
    rw [visS_s (by omega) (by rw [← hjm]; exact j6), nxe, setI_at]
    have hi := ham i a b
    by_cases d : i = e.toInt.toNat
    · rw [if_pos ⟨rfl, d⟩]
      exact ⟨Or.inr L.2.1, fun _ => Or.inr (by omega), fun _ => L.2.1⟩
    · rw [if_neg (fun f => d f.2)]
      exact ⟨hi.1, fun f => Or.inl (hi.2.mp f), fun f => f.elim hi.2.mpr (fun g => by omega)⟩
theorem s_lw37 (hk : tok tab) (h40 : (txt s.toInt.toNat).length ≤ 40) (ht : rtab w0 = tab) (hx : rtx w0 txt) (hkx : xok txt) (hs : 0 ≤ s.toInt ∧ s.toInt ≤ 5) (hm : many.toInt = (txt s.toInt.toNat).length) {k0 : Int}
    (hrc : ∀ (k : Int32) (w : Wd), lwI w0 tab (txt s.toInt.toNat) k.toInt w → k0 < k.toInt → k.toInt ≤ 41 → Wp (rc (s, many, k, w)) Q)
    {x : Int32} {w : Wd} {n : Nat} (ho : o733 w0 w) (ha : am w tab (txt s.toInt.toNat) n) (hk0 : k0 = orb tab (txt s.toInt.toNat) n) (hx1 : x.toInt = orb tab (txt s.toInt.toNat) n) (hc : orb tab (txt s.toInt.toNat) n < (txt s.toInt.toNat).length) :
    Wp (f_X11_laysWords_37 rc s many x x w) Q := by
  have L := LIT
  have O0 := orb_bd (tab := tab) h40 n
  obtain ⟨ht2, hx2⟩ := o733_r ho ht hx
  unfold f_X11_laysWords_37
  rw [FUv]
  refine wp_loop (fun σ : Int32 × Int32 × Int32 × Int32 × Wd => σ.1 = s ∧ σ.2.1 = many ∧ σ.2.2.1 = x ∧ σ.2.2.2.2 = w ∧ 0 ≤ σ.2.2.2.1.toInt ∧ σ.2.2.2.1.toInt ≤ (txt s.toInt.toNat).length ∧ ∃ m : Nat, sl tab (txt s.toInt.toNat) m σ.2.2.2.1.toInt = sl tab (txt s.toInt.toNat) 51 (orb tab (txt s.toInt.toNat) n) ∧ 42 - σ.2.2.2.1.toInt ≤ m)
    (fun σ => (42 - σ.2.2.2.1.toInt).toNat) ?_ 100000 _ ⟨rfl, rfl, rfl, rfl, by dsimp only; omega, by dsimp only; omega, 51, by dsimp only; rw [hx1], by dsimp only; omega⟩ (by dsimp only; omega)
  rintro rc2 ⟨s2, m2, x2, j, u⟩ ⟨rfl, rfl, rfl, rfl, hj, hj2, m, hjm, hm2⟩ ih
  dsimp only at *
  obtain ⟨m', rfl⟩ : ∃ m', m = m' + 1 := ⟨m - 1, by omega⟩
  unfold g_X11_laysWords_37
  refine wp_ifle (fun q => ?_) (fun q => ?_)
  · rw [sl_out (by omega)] at hjm
    exact s_lw71 hk h40 ht hx hkx hs hm hrc ho ha hk0 hx1 hc (by omega)
  rw [sl_in (by omega)] at hjm
  have next : ¬ (icl tab (txt s2.toInt.toNat) j.toInt ∧ kd tab (txt s2.toInt.toNat) j.toInt ≠ 6) → ∀ y : Int32, y.toInt = j.toInt + (1 : Int32).toInt → Wp (rc2 (s2, m2, x2, y, u)) Q := by
    intro nf y hy
    rw [if_neg nf] at hjm
    have hy3 : y.toInt = j.toInt + 1 := by omega
    exact ih (s2, m2, x2, y, u) ⟨rfl, rfl, rfl, rfl, by dsimp only; omega, by dsimp only; omega, m', by dsimp only; rw [hy3]; exact hjm, by dsimp only; omega⟩ (by dsimp only; omega)
  refine wp_bd (r_isCluster ht2 hx2 hkx hs (by omega)) ?_
  rintro y _ ⟨rfl, rfl⟩
  rw [ite_zo]
  refine wp_if (fun d => ?_) (fun d => wp_add (by omega) (fun z hz => next (fun f => d f.1) z hz))
  refine wp_bd (r_kindAt ht2 hx2 hkx hs (by omega)) ?_
  rintro y _ ⟨rfl, hy⟩
  refine wp_ifeq (fun q2 => wp_add (by omega) (fun z hz => next (fun f => f.2 (by omega)) z hz)) (fun q2 => ?_)
  rw [if_pos ⟨d, by omega⟩] at hjm
  exact s_lw71 hk h40 ht hx hkx hs hm hrc ho ha hk0 hx1 hc hjm
end
theorem s_laysWords {w : Wd} {tab : Nat → Int} {txt : Nat → List Int} {s : Int32} (hk : tok tab) (ht : rtab w = tab) (hx : rtx w txt) (hkx : xok txt) (hs : 0 ≤ s.toInt ∧ s.toInt ≤ 5) :
    Wp (f_X11_laysWords s w) (fun _ w' => o733 w w' ∧ am w' tab (txt s.toInt.toNat) 40) := by
  have L := LIT
  have L7 := L733
  have h40 := (hkx _ (slot_lt hs)).1
  unfold f_X11_laysWords
  refine s_len hx hs (fun many hm => ?_)
  unfold f_X11_laysWords_9
  rw [FUv]
  refine wp_loop (fun σ : Int32 × Int32 × Int32 × Wd => σ.1 = s ∧ σ.2.1 = many ∧ o733 w σ.2.2.2 ∧ 0 ≤ σ.2.2.1.toInt ∧ σ.2.2.1.toInt ≤ many.toInt + 1 ∧ ∀ j : Nat, (j : Int) < σ.2.2.1.toInt → σ.2.2.2.1 733 j = 0)
    (fun σ => (42 - σ.2.2.1.toInt).toNat) ?_ 100000 _ ⟨rfl, rfl, oc_rf, by dsimp only; omega, by dsimp only; omega, fun j hj => by dsimp only at hj; omega⟩ (by dsimp only; omega)
  rintro rc ⟨s2, m2, j, u⟩ ⟨rfl, rfl, ho, hj, hj2, hz⟩ ih
  dsimp only at *
  unfold g_X11_laysWords_9
  refine wp_iflt (fun q => ?_) (fun q => wp_ast (by omega) (wp_add (by omega) (fun z hz2 => ?_)))
  · have a0 : am u tab (txt s2.toInt.toNat) 0 := by
      intro i a b
      rw [hz i (by omega)]
      exact ⟨Or.inl L.1, fun f => by rw [L.1] at f; omega, fun ⟨n, f, _⟩ => absurd f (by omega)⟩
    unfold f_X11_laysWords_29
    rw [FUv]
    refine wp_loop (fun σ : Int32 × Int32 × Int32 × Wd => σ.1 = s2 ∧ σ.2.1 = m2 ∧ lwI w tab (txt s2.toInt.toNat) σ.2.2.1.toInt σ.2.2.2 ∧ σ.2.2.1.toInt ≤ 41)
      (fun σ => (42 - σ.2.2.1.toInt).toNat) ?_ 100000 _ ⟨rfl, rfl, ⟨ho, 0, Or.inl L.1, a0⟩, by dsimp only; omega⟩ (by dsimp only; omega)
    rintro rc2 ⟨s3, m3, k, u2⟩ ⟨rfl, rfl, ⟨ho3, n, hn, ha⟩, hk41⟩ ih2
    dsimp only at *
    unfold g_X11_laysWords_29
    have O := orb_bd (tab := tab) h40 n
    refine wp_ifle (fun q => wp_ret ⟨ho3, am_cg ha (fun i => visS_end h40 (by omega))⟩) (fun q => ?_)
    have hk1 : k.toInt = orb tab (txt s3.toInt.toNat) n := by omega
    refine s_lw37 (k0 := k.toInt) hk h40 ht hx hkx hs hm (fun k2 w2 h1 h2 h3 => ?_) ho3 ha hk1 hk1 (by omega)
    exact ih2 (s3, m3, k2, w2) ⟨rfl, rfl, h1, h3⟩ (by dsimp only; omega)
  · refine ih (s2, m2, z, setI u 733 j.toInt.toNat 0) ⟨rfl, rfl, oc_tr ho (oc_setI rfl), by dsimp only; omega, by dsimp only; omega, fun i hi => ?_⟩ (by dsimp only; omega)
    dsimp only at hi ⊢
    rw [setI_at]
    by_cases d : i = j.toInt.toNat
    · rw [if_pos ⟨rfl, d⟩]
    · rw [if_neg (fun f => d f.2)]
      exact hz i (by omega)
