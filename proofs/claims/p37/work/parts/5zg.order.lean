/-! ===== levels from the base on; the order on the screen ===== -/
theorem lw_ge {a r : Int} : a ≤ lw a r := by
  unfold lw
  split
  · split <;> omega
  · split <;> omega
theorem frS_lev {tab : Nat → Int} {l : List Int} {st : FSt} {k : Nat} : (frS tab l st k).2.2.1 = if frB (dr tab l k) then st.2.2.1 ++ [lw (gt st.2.2.1 (nw1 tab l st k)) (odd tab l k (dr tab l k))] else st.2.2.1 := by
  unfold frS
  by_cases q1 : frB (dr tab l k)
  · rw [if_pos q1, if_pos q1]
  · rw [if_neg q1, if_neg q1]
    split <;> rfl
theorem fr_base {tab : Nat → Int} {l : List Int} {b : Int} (hb : b = 0 ∨ b = 1) : ∀ k : Nat, k ≤ 40 → ∀ i : Int, 0 ≤ i → i < (fr tab l b k).2.2.1.length → b ≤ gt (fr tab l b k).2.2.1 i := by
  intro k
  induction k with
  | zero =>
    intro _ i h0 h1
    have e : (fr tab l b 0).2.2.1 = [b] := rfl
    rw [e] at h1 ⊢
    have : i = 0 := by simp at h1; omega
    subst this
    exact Int.le_refl _
  | succ k ih =>
    intro hk i h0 h1
    have I := fr_I (tab := tab) (l := l) hb k (by omega)
    have N := (nw1_spec I (by omega)).1
    have e : fr tab l b (k + 1) = frS tab l (fr tab l b k) k := by rw [fr]
    rw [e, frS_lev] at h1 ⊢
    by_cases q1 : frB (dr tab l k)
    · rw [if_pos q1] at h1 ⊢
      rw [gt_snoc]
      rw [List.length_append, List.length_singleton] at h1
      by_cases z : i = (fr tab l b k).2.2.1.length
      · rw [if_pos z]
        exact Int.le_trans (ih (by omega) _ N.1 N.2) lw_ge
      · rw [if_neg z]
        exact ih (by omega) i h0 (by omega)
    · rw [if_neg q1] at h1 ⊢
      exact ih (by omega) i h0 h1
theorem LV_base {tab : Nat → Int} {l : List Int} {b : Int} (hk : tok tab) (Y : lok40 l) (hb : b = 0 ∨ b = 1) {p : Nat} (hp : p < l.length) : b ≤ LV tab l (fr tab l b l.length) p := by
  have I := fr_I (tab := tab) (l := l) hb l.length Y.1
  have A := I.2.2.2.2.2.1 p (by omega) (by omega)
  have B := fr_base (tab := tab) (l := l) hb l.length Y.1 _ A.1 A.2
  have W := wayF_rng (L := gt (fr tab l b l.length).2.2.1 (gt (fr tab l b l.length).2.1 p)) hk Y pls_PI (pls_of (fo := (fr tab l b l.length).2.1) rfl l.length hp).1
  unfold LV LVF lvl
  split
  · omega
  · split <;> omega
section
variable {n : Nat} {v : Nat → Int} {o : Nat → Nat} {L : Int}
theorem trn_of {i : Nat} (h : ¬ L ≤ v (o i)) : trnF n v o L i = o i := by unfold trnF; rw [if_neg h]
/-- the row in which a letter is turned -/
theorem trn_row {i : Nat} (hi : i < n) (h : L ≤ v (o i)) : ∃ a b : Nat, (a ≤ i ∧ i ≤ b ∧ b < n) ∧ (∀ j, a ≤ j → j ≤ b → L ≤ v (o j)) ∧ (∀ j, a ≤ j → j ≤ b → trnF n v o L j = o (a + b - j)) ∧ (b = n - 1 ∨ ¬ L ≤ v (o (b + 1))) := by
  have A := ru_sp (f := fun j => v (o j)) (L := L) i
  have B := re_sp (f := fun j => v (o j)) (L := L) (n := n) (n - 1 - i) (by omega)
  generalize ru (fun j => v (o j)) L i = a at A
  generalize re (fun j => v (o j)) L n (n - 1 - i) = b at B
  have F : ∀ j, a ≤ j → j ≤ b → L ≤ v (o j) := by
    intro j h1 h2
    rcases Nat.lt_trichotomy j i with z | z | z
    · exact A.2.1 j h1 z
    · rw [z]; exact h
    · exact B.2.1 j (by omega) h2
  exact ⟨a, b, ⟨A.1, by omega, B.1.2⟩, F, fun j h1 h2 => trn_run (a := a) (b := b) B.1.2 ⟨h1, h2⟩ F A.2.2 B.2.2, B.2.2⟩
theorem trn_inj (ho : ∀ i j, i < n → j < n → o i = o j → i = j) {i j : Nat} (hi : i < n) (hj : j < n) (e : trnF n v o L i = trnF n v o L j) : i = j := by
  by_cases c : L ≤ v (o i)
  · obtain ⟨a, b, h1, h2, h3, -⟩ := trn_row hi c
    by_cases d : L ≤ v (o j)
    · obtain ⟨a', b', g1, g2, g3, -⟩ := trn_row hj d
      rw [h3 i h1.1 h1.2.1, g3 j g1.1 g1.2.1] at e
      have q := ho _ _ (by omega) (by omega) e
      have e1 := h3 (a + b - i) (by omega) (by omega)
      have e2 := g3 (a + b - i) (by omega) (by omega)
      rw [e1] at e2
      have q2 := ho _ _ (by omega) (by omega) e2
      omega
    · rw [h3 i h1.1 h1.2.1, trn_of d] at e
      have q := ho _ _ (by omega) hj e
      exact absurd (h2 j (by omega) (by omega)) d
  · rw [trn_of c] at e
    by_cases d : L ≤ v (o j)
    · obtain ⟨a', b', g1, g2, g3, -⟩ := trn_row hj d
      rw [g3 j g1.1 g1.2.1] at e
      have q := ho _ _ hi (by omega) e
      exact absurd (g2 i (by omega) (by omega)) c
    · rw [trn_of d] at e
      exact ho _ _ hi hj e
theorem Od_inj : ∀ (m : Nat) (i j : Nat), i < n → j < n → Od n v m i = Od n v m j → i = j := by
  intro m
  induction m with
  | zero => intro i j _ _ e; exact e
  | succ m ih => intro i j hi hj e; rw [Od_s] at e; exact trn_inj ih hi hj e
/-- how often a letter of a level has been turned -/
def tnd (x m : Int) : Int := if 13 - m < x then x - (13 - m) else 0
theorem Od_dir (hv : ∀ i, i < n → 0 ≤ v i ∧ v i ≤ 10) : ∀ m : Nat, m ≤ 13 → ∀ i : Nat, i + 1 < n → v (Od n v m i) = v (Od n v m (i + 1)) → (Od n v m (i + 1) = Od n v m i + 1 ∨ Od n v m i = Od n v m (i + 1) + 1) → (Od n v m (i + 1) = Od n v m i + 1 ↔ tnd (v (Od n v m i)) m % 2 = 0) := by
  intro m
  induction m with
  | zero =>
    intro _ i hi _ _
    have := hv i (by omega)
    have e : ∀ j, Od n v 0 j = j := fun j => rfl
    rw [e, e]
    unfold tnd
    rw [if_neg (by omega)]
    exact ⟨fun _ => rfl, fun _ => rfl⟩
  | succ m ih =>
    intro hm i hi
    rw [Od_s]
    have O1 : ∀ k, k < n → Od n v m k < n := fun k hk => Od_lt m k hk
    generalize Od n v m = o at ih O1
    intro hv1 had
    have hi0 : i < n := by omega
    by_cases c : 13 - (m : Int) ≤ v (o i)
    · obtain ⟨a, b, h1, h2, h3, h4⟩ := trn_row hi0 c
      have e1 := h3 i h1.1 h1.2.1
      have g1 := h2 (a + b - i) (by omega) (by omega)
      have hb : i + 1 ≤ b := by
        rcases Nat.lt_or_ge i b with q | q
        · exact q
        · have eb : b = i := by omega
          subst eb
          have h5 : ¬ 13 - (m : Int) ≤ v (o (b + 1)) := h4.resolve_left (by omega)
          rw [trn_of h5, e1] at hv1
          rw [← hv1] at h5
          exact absurd g1 h5
      have e2 := h3 (i + 1) (by omega) hb
      have ek : a + b - i = (a + b - (i + 1)) + 1 := by omega
      rw [ek] at e1 g1
      generalize a + b - (i + 1) = k at e1 e2 g1 ek
      rw [e1, e2] at hv1 had ⊢
      have I := ih (by omega) k (by omega) hv1.symm had.symm
      have V := hv (o (k + 1)) (O1 _ (by omega))
      unfold tnd at I ⊢
      rw [hv1] at g1 V ⊢
      generalize v (o k) = x at I g1 V ⊢
      generalize o k = y at I had ⊢
      generalize o (k + 1) = z at I had ⊢
      rw [if_pos (by omega)]
      by_cases d : 13 - (m : Int) < x
      · rw [if_pos d] at I
        have : ((m + 1 : Nat) : Int) = m + 1 := by omega
        rw [this]
        omega
      · rw [if_neg d] at I
        have : ((m + 1 : Nat) : Int) = m + 1 := by omega
        rw [this]
        omega
    · have e1 := trn_of (n := n) c
      have c2 : ¬ 13 - (m : Int) ≤ v (o (i + 1)) := by
        intro d
        obtain ⟨a, b, h1, h2, h3, h4⟩ := trn_row hi d
        have e2 := h3 (i + 1) h1.1 h1.2.1
        have g1 := h2 (a + b - (i + 1)) (by omega) (by omega)
        rw [e1, e2] at hv1
        rw [← hv1] at g1
        exact c g1
      have e2 := trn_of (n := n) c2
      rw [e1, e2] at hv1 had ⊢
      have I := ih (by omega) i hi hv1 had
      rw [I]
      unfold tnd
      rw [if_neg (by omega), if_neg (by omega)]
/-- letters of one level beside one another go one way -/
theorem Od_way (hv : ∀ i, i < n → 0 ≤ v i ∧ v i ≤ 10) {i : Nat} (hi : i + 1 < n) (h : v (Od n v 13 i) = v (Od n v 13 (i + 1))) (had : Od n v 13 (i + 1) = Od n v 13 i + 1 ∨ Od n v 13 i = Od n v 13 (i + 1) + 1) : Od n v 13 (i + 1) = Od n v 13 i + 1 ↔ v (Od n v 13 i) % 2 = 0 := by
  have V := hv _ (Od_lt 13 i (v := v) (by omega))
  rw [Od_dir hv 13 (Nat.le_refl _) i hi h had]
  unfold tnd
  by_cases c : 13 - ((13 : Nat) : Int) < v (Od n v 13 i)
  · rw [if_pos c]; omega
  · rw [if_neg c]; omega
end
