/-! ===== what changes, and what stays ===== -/
def oc (S : Nat → Prop) (w w' : Wd) : Prop := (∀ k, ¬ S k → w'.1 k = w.1 k) ∧ w'.2 = w.2
def rcg (F S : Nat → Prop) (w w' : Wd) : Prop := (∀ k, k ≠ 713 → ¬ S k → w'.1 k = w.1 k) ∧ (∀ f, ¬ F f → w'.1 713 f = w.1 713 f) ∧ w'.2 = w.2
def okall (w : Wd) : Prop := ∀ o, KD o = 7 → okr w o
theorem oc_rf {S : Nat → Prop} {w : Wd} : oc S w w := ⟨fun _ _ => rfl, rfl⟩
theorem oc_tr {S : Nat → Prop} {w w1 w2 : Wd} (h : oc S w w1) (h2 : oc S w1 w2) : oc S w w2 := ⟨fun k hk => (h2.1 k hk).trans (h.1 k hk), h2.2.trans h.2⟩
theorem oc_mono {S S' : Nat → Prop} {w w' : Wd} (h : oc S w w') (hs : ∀ k, S k → S' k) : oc S' w w' := ⟨fun k hk => h.1 k (fun q => hk (hs k q)), h.2⟩
theorem oc_setI {S : Nat → Prop} {w : Wd} {o j : Nat} {v : Int32} (h : S o) : oc S w (setI w o j v) := by
  refine ⟨fun k hk => ?_, rfl⟩
  funext b
  rw [setI_at, if_neg]
  rintro ⟨rfl, _⟩
  exact hk h
theorem oc_rs {S : Nat → Prop} {w w' : Wd} {o : Nat} {l : List Int} (h : rs w w' o l) (h1 : S o) (h2 : S (o + 1)) : oc S w w' :=
  ⟨fun k hk => h.1 k (by rintro rfl; exact hk h1) (by rintro rfl; exact hk h2), h.2.1⟩
theorem rcg_rf {F S : Nat → Prop} {w : Wd} : rcg F S w w := ⟨fun _ _ _ => rfl, fun _ _ => rfl, rfl⟩
theorem rcg_tr {F S : Nat → Prop} {w w1 w2 : Wd} (h : rcg F S w w1) (h2 : rcg F S w1 w2) : rcg F S w w2 := ⟨fun k a hk => (h2.1 k a hk).trans (h.1 k a hk), fun f hf => (h2.2.1 f hf).trans (h.2.1 f hf), h2.2.2.trans h.2.2⟩
theorem rcg_mono {F S F' S' : Nat → Prop} {w w' : Wd} (h : rcg F S w w') (hf : ∀ k, F k → F' k) (hs : ∀ k, S k → S' k) : rcg F' S' w w' := ⟨fun k a hk => h.1 k a (fun q => hk (hs k q)), fun f q => h.2.1 f (fun z => q (hf f z)), h.2.2⟩
theorem rcg_set {F S : Nat → Prop} {w : Wd} {o j : Nat} {v : Int32} (h0 : o ≠ 713) (h : S o) : rcg F S w (setI w o j v) := by
  refine ⟨fun k _ hk => ?_, fun f _ => ?_, rfl⟩
  · funext b
    rw [setI_at, if_neg]
    rintro ⟨rfl, _⟩
    exact hk h
  · rw [setI_at, if_neg]
    rintro ⟨e, _⟩
    exact h0 e.symm
theorem rcg_fld {F S : Nat → Prop} {w : Wd} {j : Nat} {v : Int32} (h : F j) : rcg F S w (setI w 713 j v) := by
  refine ⟨fun k hk _ => ?_, fun f hf => ?_, rfl⟩
  · funext b
    rw [setI_at, if_neg]
    rintro ⟨e, _⟩
    exact hk e
  · rw [setI_at, if_neg]
    rintro ⟨_, rfl⟩
    exact hf h
theorem okall_fr {w w' : Wd} (h : okall w) (hk : ∀ o, KD o = 7 → w'.1 o = w.1 o) : okall w' := by
  intro o ho
  unfold okr
  rw [hk o ho]
  exact h o ho
theorem okall_rs {w w' : Wd} {o : Nat} {l : List Int} (h : okall w) (hr : rs w w' o l) : okall w' := fun k hk => rs_okr hr (h k hk)
theorem okall_setI {w : Wd} {o j : Nat} {v : Int32} (h : okall w) (ho : KD o ≠ 7) : okall (setI w o j v) := by
  refine okall_fr h (fun k hk => ?_)
  funext b
  rw [setI_at, if_neg]
  rintro ⟨rfl, _⟩
  exact ho hk
theorem okall_rcg {F S : Nat → Prop} {w w' : Wd} (h : okall w) (hr : rcg F S w w') (hs : ∀ k, S k → 713 ≤ k) : okall w' := by
  refine okall_fr h (fun k hk => hr.1 k ?_ (fun q => ?_))
  · rintro rfl
    exact absurd hk (by decide +kernel)
  · have := hs k q
    have h3 : k < 713 := KD_lt hk (by omega)
    exact absurd hk ((show ∀ k, k < 713 → 713 ≤ k → KD k ≠ 7 by decide +kernel) k h3 this)
theorem rl_fr {w w' : Wd} {o : Nat} (h : w'.1 o = w.1 o) (h1 : w'.1 (o + 1) = w.1 (o + 1)) : rl w' o = rl w o := by
  unfold rl
  rw [h]
  apply sg_ext
  intro i _
  rw [h1]
theorem tl_fr {tab tab' : Nat → Int} {a n : Nat} (h : ∀ j, j < n → tab' (a + j) = tab (a + j)) : tl tab' a n = tl tab a n := by
  unfold tl
  apply List.map_congr_left
  intro j hj
  exact h j (List.mem_range.mp hj)
section
variable {w w' : Wd} {T : Nat} {tab tab' : Nat → Int}
theorem lrel_fr {l : Nat} (ho : ∀ j, j < 10 → w'.1 (T + 1 + j) l = w.1 (T + 1 + j) l) (ht : ∀ j, j < 9 → tab' (9 * l + j) = tab (9 * l + j)) (h : lrel w T tab l) : lrel w' T tab' l := by
  have o0 : w'.1 (T + 1) l = w.1 (T + 1) l := ho 0 (by omega)
  have o1 : w'.1 (T + 2) l = w.1 (T + 2) l := ho 1 (by omega)
  have o2 : w'.1 (T + 3) l = w.1 (T + 3) l := ho 2 (by omega)
  have o3 : w'.1 (T + 4) l = w.1 (T + 4) l := ho 3 (by omega)
  have o4 : w'.1 (T + 5) l = w.1 (T + 5) l := ho 4 (by omega)
  have o5 : w'.1 (T + 6) l = w.1 (T + 6) l := ho 5 (by omega)
  have o6 : w'.1 (T + 7) l = w.1 (T + 7) l := ho 6 (by omega)
  have o7 : w'.1 (T + 8) l = w.1 (T + 8) l := ho 7 (by omega)
  have o8 : w'.1 (T + 9) l = w.1 (T + 9) l := ho 8 (by omega)
  have o9 : w'.1 (T + 10) l = w.1 (T + 10) l := ho 9 (by omega)
  have t0 : tab' (9 * l) = tab (9 * l) := ht 0 (by omega)
  unfold lrel
  rw [o0, o1, o2, o3, o4, o5, o6, o7, o8, o9, t0, ht 1 (by omega), ht 2 (by omega), ht 3 (by omega), ht 4 (by omega), ht 5 (by omega), ht 6 (by omega), ht 7 (by omega), ht 8 (by omega)]
  exact h
/-- the places of one language -/
def uix (n i : Nat) : Prop := (864 + 288 * n ≤ i ∧ i < 864 + 288 * n + 288) ∨ i = 1440 + n ∨ (1442 + 30 * n ≤ i ∧ i < 1442 + 30 * n + 30) ∨ i = 1678 + n ∨ (1680 + 28 * n ≤ i ∧ i < 1680 + 28 * n + 28)
theorem urel_fr {L n : Nat} (hc : 0 ≤ tab (1440 + n) ∧ tab (1440 + n) ≤ 6) (hp : 0 ≤ tab (1678 + n) ∧ tab (1678 + n) ≤ 4) (ho : ∀ k, L ≤ k → k < L + 13 → w'.1 k = w.1 k) (ht : ∀ i, uix n i → tab' i = tab i) (h : urel w L tab n) : urel w' L tab' n := by
  obtain ⟨h1, h2, h3, h4, h5, h6⟩ := h
  have r4 : rl w' (L + 4) = rl w (L + 4) := rl_fr (ho _ (by omega) (by omega)) (ho _ (by omega) (by omega))
  have r6 : rl w' (L + 6) = rl w (L + 6) := rl_fr (ho _ (by omega) (by omega)) (ho _ (by omega) (by omega))
  have tc : tab' (1440 + n) = tab (1440 + n) := ht _ (by unfold uix; omega)
  have tp : tab' (1678 + n) = tab (1678 + n) := ht _ (by unfold uix; omega)
  unfold urel
  rw [r4, r6, tc, tp, ho L (by omega) (by omega)]
  refine ⟨fun u hu r hr => ?_, h2, h3, fun i hi => ?_, h5, fun i hi f hf => ?_⟩
  · rw [ho _ (by omega) (by omega), ht _ (by unfold uix; omega)]; exact h1 u hu r hr
  · rw [ht _ (by unfold uix; omega), ht _ (by unfold uix; omega)]
    obtain ⟨q1, q2, q3⟩ := h4 i hi
    refine ⟨q1, q2, fun r hr => ?_⟩
    rw [ho _ (by omega) (by omega), ht _ (by unfold uix; omega)]
    exact q3 r hr
  · rw [ho _ (by omega) (by omega), ht _ (by unfold uix; omega)]; exact h6 i hi f hf
theorem ruel_fr {o i : Nat} (hi : i < 8) (hk : rok tab i) (ho : ∀ k, o ≤ k → k < o + 9 → w'.1 k = w.1 k) (ht : ∀ j, 1558 + 15 * i ≤ j ∧ j < 1558 + 15 * i + 15 → tab' j = tab j) (h : ruel w o tab i) : ruel w' o tab' i := by
  obtain ⟨k0, k1, k2, k3, k4, -, -⟩ := hk
  unfold ruel
  rw [rl_fr (ho (o + 1) (by omega) (by omega)) (ho _ (by omega) (by omega)), rl_fr (ho (o + 3) (by omega) (by omega)) (ho _ (by omega) (by omega)), rl_fr (ho (o + 5) (by omega) (by omega)) (ho _ (by omega) (by omega)), rl_fr (ho (o + 7) (by omega) (by omega)) (ho _ (by omega) (by omega)),
    ho o (by omega) (by omega), ht (1558 + 15 * i) (by omega), ht (1558 + 15 * i + 1) (by omega), ht (1558 + 15 * i + 2) (by omega), ht (1558 + 15 * i + 3) (by omega), ht (1558 + 15 * i + 4) (by omega),
    tl_fr (tab := tab) (fun j hj => ht _ (by omega)), tl_fr (tab := tab) (fun j hj => ht _ (by omega)), tl_fr (tab := tab) (fun j hj => ht _ (by omega)), tl_fr (tab := tab) (fun j hj => ht _ (by omega))]
  exact h
theorem trU_fr (hk : tok tab) (h : trel w T tab) (ho : ∀ k, T + 12 ≤ k → k < T + 38 → w'.1 k = w.1 k) (ht : ∀ i, (864 ≤ i ∧ i < 1502) ∨ (1678 ≤ i ∧ i < 1740) → tab' i = tab i) : ∀ n, n < 2 → urel w' (T + 12 + 13 * n) tab' n :=
  fun n hn => urel_fr (hk.2.1 n hn).1 (hk.2.1 n hn).2.1 (fun k a b => ho k (by omega) (by omega)) (fun i hi => ht i (by unfold uix at hi; omega)) (h.2.1 n hn)
theorem trW_fr (hk : tok tab) (h : trel w T tab) (ho : ∀ k, k = T ∨ (T + 39 ≤ k ∧ k < T + 51) → w'.1 k = w.1 k) (ht : ∀ i, 1502 ≤ i ∧ i < 1557 → tab' i = tab i) : (w'.1 T 12).toInt = tab' 1502 ∧ ∀ i : Nat, i < tab' 1502 → rl w' (T + 39 + 2 * i) = tl tab' (1503 + 9 * i + 1) (tab' (1503 + 9 * i)).toNat := by
  obtain ⟨k1, k2, k3⟩ := hk.2.2.1
  obtain ⟨h1, h2⟩ := h.2.2.1
  rw [ho T (Or.inl rfl), ht 1502 (by omega)]
  refine ⟨h1, fun i hi => ?_⟩
  have := k3 i hi
  rw [rl_fr (ho _ (by omega)) (ho _ (by omega)), ht (1503 + 9 * i) (by omega), tl_fr (tab := tab) (fun j hj => ht _ (by omega))]
  exact h2 i hi
theorem trR_fr (hk : tok tab) (h : trel w T tab) (ho : ∀ k, k = T ∨ (T + 52 ≤ k ∧ k < T + 124) → w'.1 k = w.1 k) (ht : ∀ i, 1557 ≤ i ∧ i < 1678 → tab' i = tab i) : (w'.1 T 14).toInt = tab' 1557 ∧ ∀ i : Nat, i < tab' 1557 → ruel w' (T + 52 + 9 * i) tab' i := by
  obtain ⟨k1, k2, k3⟩ := hk.2.2.2
  obtain ⟨h1, h2⟩ := h.2.2.2
  rw [ho T (Or.inl rfl), ht 1557 (by omega)]
  refine ⟨h1, fun i hi => ?_⟩
  exact ruel_fr (by omega) (k3 i hi) (fun k a b => ho k (by omega)) (fun j hj => ht j (by omega)) (h2 i hi)
theorem trel_fr (hk : tok tab) (h : trel w T tab) (ho : ∀ k, T ≤ k → k < T + 124 → w'.1 k = w.1 k) : trel w' T tab :=
  ⟨fun l hl => lrel_fr (fun j hj => by rw [ho _ (by omega) (by omega)]) (fun _ _ => rfl) (h.1 l hl), trU_fr hk h (fun k a b => ho k (by omega) (by omega)) (fun _ _ => rfl), trW_fr hk h (fun k a => ho k (by omega) (by omega)) (fun _ _ => rfl), trR_fr hk h (fun k a => ho k (by omega) (by omega)) (fun _ _ => rfl)⟩
/-- letters alone have changed -/
theorem trel_L (hk : tok tab) (h : trel w T tab) (ho : ∀ k, k < T + 1 ∨ T + 10 < k → w'.1 k = w.1 k) (ht : ∀ i, 864 ≤ i → tab' i = tab i) (hl : ∀ l, l < 96 → lrel w' T tab' l) : trel w' T tab' :=
  ⟨hl, trU_fr hk h (fun k a b => ho k (by omega)) (fun i _ => ht i (by omega)), trW_fr hk h (fun k a => ho k (by omega)) (fun i _ => ht i (by omega)), trR_fr hk h (fun k a => ho k (by omega)) (fun i _ => ht i (by omega))⟩
end
def tset (tab : Nat → Int) (i : Nat) (v : Int) : Nat → Int := fun k => if k = i then v else tab k
theorem tset_at (tab : Nat → Int) (i : Nat) (v : Int) (k : Nat) : tset tab i v k = if k = i then v else tab k := rfl
