/-! ===== directions: the order on the screen ===== -/
/-- where the row of letters that are so begins, and ends -/
def ru (f : Nat → Int) (L : Int) : Nat → Nat
  | 0 => 0
  | i + 1 => if L ≤ f i then ru f L i else i + 1
def re (f : Nat → Int) (L : Int) (n : Nat) : Nat → Nat
  | 0 => n - 1
  | r + 1 => if L ≤ f (n - 1 - r) then re f L n r else n - 1 - (r + 1)
def trnF (n : Nat) (v : Nat → Int) (o : Nat → Nat) (L : Int) (i : Nat) : Nat := if L ≤ v (o i) then o (ru (fun j => v (o j)) L i + re (fun j => v (o j)) L n (n - 1 - i) - i) else o i
/-- the order when so many levels have been turned -/
def Od (n : Nat) (v : Nat → Int) : Nat → Nat → Nat
  | 0 => fun i => i
  | m + 1 => trnF n v (Od n v m) (13 - (m : Int))
theorem ru_sp {f : Nat → Int} {L : Int} : ∀ i : Nat, ru f L i ≤ i ∧ (∀ j : Nat, ru f L i ≤ j → j < i → L ≤ f j) ∧ (ru f L i = 0 ∨ ¬ L ≤ f (ru f L i - 1)) := by
  intro i
  induction i with
  | zero => exact ⟨Nat.le_refl _, fun j _ h => absurd h (Nat.not_lt_zero _), Or.inl rfl⟩
  | succ i ih =>
    rw [ru]
    by_cases c : L ≤ f i
    · rw [if_pos c]
      refine ⟨by omega, fun j h1 h2 => ?_, ih.2.2⟩
      by_cases e : j = i
      · rw [e]; exact c
      · exact ih.2.1 j h1 (by omega)
    · rw [if_neg c]
      exact ⟨Nat.le_refl _, fun j h1 h2 => by omega, Or.inr (by rw [Nat.add_sub_cancel]; exact c)⟩
theorem re_sp {f : Nat → Int} {L : Int} {n : Nat} : ∀ r : Nat, r < n → (n - 1 - r ≤ re f L n r ∧ re f L n r < n) ∧ (∀ j : Nat, n - 1 - r < j → j ≤ re f L n r → L ≤ f j) ∧ (re f L n r = n - 1 ∨ ¬ L ≤ f (re f L n r + 1)) := by
  intro r
  induction r with
  | zero =>
    intro h
    rw [re]
    exact ⟨by omega, fun j h1 h2 => by omega, Or.inl rfl⟩
  | succ r ih =>
    intro h
    have I := ih (by omega)
    rw [re]
    by_cases c : L ≤ f (n - 1 - r)
    · rw [if_pos c]
      refine ⟨by omega, fun j h1 h2 => ?_, I.2.2⟩
      by_cases e : j = n - 1 - r
      · rw [e]; exact c
      · exact I.2.1 j (by omega) h2
    · rw [if_neg c]
      refine ⟨by omega, fun j h1 h2 => by omega, Or.inr ?_⟩
      rw [show n - 1 - (r + 1) + 1 = n - 1 - r by omega]; exact c
theorem ru_run {f : Nat → Int} {L : Int} {a : Nat} (ha : a = 0 ∨ ¬ L ≤ f (a - 1)) : ∀ i : Nat, a ≤ i → (∀ j, a ≤ j → j < i → L ≤ f j) → ru f L i = a := by
  intro i
  induction i with
  | zero => intro h _; rw [show a = 0 by omega]; rfl
  | succ i ih =>
    intro h hf
    rw [ru]
    by_cases e : a = i + 1
    · subst e
      rcases ha with z | z
      · omega
      · rw [Nat.add_sub_cancel] at z
        rw [if_neg z]
    · rw [if_pos (hf i (by omega) (by omega))]
      exact ih (by omega) (fun j h1 h2 => hf j h1 (by omega))
theorem re_run {f : Nat → Int} {L : Int} {n b : Nat} (hbn : b < n) (hb : b = n - 1 ∨ ¬ L ≤ f (b + 1)) : ∀ r : Nat, r < n → n - 1 - r ≤ b → (∀ j, n - 1 - r < j → j ≤ b → L ≤ f j) → re f L n r = b := by
  intro r
  induction r with
  | zero => intro h h2 _; rw [re]; omega
  | succ r ih =>
    intro h h2 hf
    rw [re]
    by_cases e : n - 1 - (r + 1) = b
    · rcases hb with z | z
      · omega
      · rw [if_neg (by rw [show n - 1 - r = b + 1 by omega]; exact z)]; exact e
    · rw [if_pos (hf _ (by omega) (by omega))]
      exact ih (by omega) (by omega) (fun j h1 h3 => hf j (by omega) h3)
/-- in a row that is turned -/
theorem trn_run {n : Nat} {v : Nat → Int} {o : Nat → Nat} {L : Int} {a b i : Nat} (hbn : b < n) (hab : a ≤ i ∧ i ≤ b) (hf : ∀ j, a ≤ j → j ≤ b → L ≤ v (o j)) (ha : a = 0 ∨ ¬ L ≤ v (o (a - 1))) (hb : b = n - 1 ∨ ¬ L ≤ v (o (b + 1))) : trnF n v o L i = o (a + b - i) := by
  unfold trnF
  rw [if_pos (hf i hab.1 hab.2), ru_run (f := fun j => v (o j)) ha i hab.1 (fun j h1 h2 => hf j h1 (by omega)), re_run (f := fun j => v (o j)) hbn hb (n - 1 - i) (by omega) (by omega) (fun j h1 h2 => hf j (by omega) h2)]
theorem trn_lt {n : Nat} {v : Nat → Int} {o : Nat → Nat} {L : Int} (ho : ∀ i, i < n → o i < n) {i : Nat} (hi : i < n) : trnF n v o L i < n := by
  unfold trnF
  split
  · have A := ru_sp (f := fun j => v (o j)) (L := L) i
    have B := re_sp (f := fun j => v (o j)) (L := L) (n := n) (n - 1 - i) (by omega)
    exact ho _ (by omega)
  · exact ho i hi
theorem trn_sur {n : Nat} {v : Nat → Int} {o : Nat → Nat} {L : Int} (ho : ∀ p, p < n → ∃ i, i < n ∧ o i = p) {p : Nat} (hp : p < n) : ∃ i, i < n ∧ trnF n v o L i = p := by
  obtain ⟨i, hi, e⟩ := ho p hp
  by_cases c : L ≤ v (o i)
  · have A := ru_sp (f := fun j => v (o j)) (L := L) i
    have B := re_sp (f := fun j => v (o j)) (L := L) (n := n) (n - 1 - i) (by omega)
    generalize ru (fun j => v (o j)) L i = a at A
    generalize re (fun j => v (o j)) L n (n - 1 - i) = b at B
    refine ⟨a + b - i, by omega, ?_⟩
    rw [trn_run (a := a) (b := b) B.1.2 (by omega) (fun j h1 h2 => ?_) A.2.2 B.2.2]
    · rw [show a + b - (a + b - i) = i by omega]; exact e
    · rcases Nat.lt_trichotomy j i with z | z | z
      · exact A.2.1 j h1 z
      · rw [z]; exact c
      · exact B.2.1 j (by omega) h2
  · refine ⟨i, hi, ?_⟩
    unfold trnF
    rw [if_neg c]; exact e
theorem Od_s {n : Nat} {v : Nat → Int} {m : Nat} : Od n v (m + 1) = trnF n v (Od n v m) (13 - (m : Int)) := by rw [Od]
theorem Od_lt {n : Nat} {v : Nat → Int} : ∀ (m i : Nat), i < n → Od n v m i < n := by
  intro m
  induction m with
  | zero => intro i h; exact h
  | succ m ih => intro i h; rw [Od_s]; exact trn_lt ih h
theorem Od_sur {n : Nat} {v : Nat → Int} : ∀ (m p : Nat), p < n → ∃ i, i < n ∧ Od n v m i = p := by
  intro m
  induction m with
  | zero => intro p h; exact ⟨p, h, rfl⟩
  | succ m ih => intro p h; rw [Od_s]; exact trn_sur ih h
theorem Od_id {n : Nat} {v : Nat → Int} {g : Int} (hv : ∀ i, i < n → v i ≤ g) : ∀ m : Nat, (m : Int) + g ≤ 13 → ∀ i, i < n → Od n v m i = i := by
  intro m
  induction m with
  | zero => intro _ i _; rfl
  | succ m ih =>
    intro h i hi
    have e := ih (by omega) i hi
    rw [Od_s]
    unfold trnF
    rw [e, if_neg (by have := hv i hi; omega)]
/-! the class turns rows -/
def ordC (w : Wd) (n : Nat) (o : Nat → Nat) : Prop := (rl w 671).length = n ∧ ∀ i : Nat, i < n → gt (rl w 671) i = o i
theorem s_turnRows {w : Wd} {n : Nat} {v : Nat → Int} {o : Nat → Nat} {lev : Int32} (ho : okall w) (hn : n ≤ 40) (hf : (rl w 669).length = n ∧ ∀ p : Nat, p < n → gt (rl w 669) p = v p) (hol : ∀ i, i < n → o i < n) (hC : ordC w n o) :
    Wp (f_X3_turnRows lev w) (fun _ w' => cr 671 672 w w' ∧ ordC w' n (trnF n v o lev.toInt)) := by
  have L := LIT
  have K := KLR
  unfold f_X3_turnRows f_X3_turnRows_4
  rw [FUv]
  refine wp_loop (fun σ : Int32 × Int32 × Int32 × Wd => σ.1 = lev ∧ cr 671 672 w σ.2.2.2 ∧ (rl σ.2.2.2 671).length = n ∧ 0 ≤ σ.2.2.1.toInt ∧ σ.2.2.1.toInt ≤ n + 1 ∧
      ((σ.2.1.toInt = -1 ∧ (σ.2.2.1.toInt = 0 ∨ σ.2.2.1.toInt = n + 1 ∨ ¬ lev.toInt ≤ v (o (σ.2.2.1.toInt.toNat - 1))) ∧ (∀ j : Nat, j < n → gt (rl σ.2.2.2 671) j = if (j : Int) < σ.2.2.1.toInt then trnF n v o lev.toInt j else o j)) ∨
       (0 ≤ σ.2.1.toInt ∧ σ.2.1.toInt < σ.2.2.1.toInt ∧ σ.2.2.1.toInt ≤ n ∧ (∀ j : Nat, σ.2.1.toInt ≤ j → (j : Int) < σ.2.2.1.toInt → lev.toInt ≤ v (o j)) ∧ (σ.2.1.toInt.toNat = 0 ∨ ¬ lev.toInt ≤ v (o (σ.2.1.toInt.toNat - 1))) ∧ (∀ j : Nat, j < n → gt (rl σ.2.2.2 671) j = if (j : Int) < σ.2.1.toInt then trnF n v o lev.toInt j else o j))))
    (fun σ => (42 - σ.2.2.1.toInt).toNat) ?_ 100000 _ ⟨rfl, cr_rf ho, hC.1, by dsimp only; omega, by dsimp only; omega, Or.inl ⟨L.2.2.1, Or.inl L.1, fun j hj => by dsimp only; rw [if_neg (by omega)]; exact hC.2 j hj⟩⟩ (by dsimp only; omega)
  rintro rc ⟨lev', fm, i, u⟩ ⟨rfl, V, hlen, hi0, hi1, hS⟩ ih
  dsimp only at *
  have r9 : rl u 669 = rl w 669 := cr_rl V (by omega)
  unfold g_X3_turnRows_4
  refine wp_bd (s_size (V.2 _ K.2.2.2.2.2.2.2.2.2.2)) ?_
  rintro m _ ⟨rfl, hm⟩
  rw [hlen] at hm
  refine wp_iflt (fun q => wp_ret ⟨V, hlen, fun j hj => ?_⟩) (fun q => ?_)
  · rcases hS with ⟨_, _, h3⟩ | ⟨_, _, h3, _⟩
    · rw [h3 j hj, if_pos (by omega)]
    · omega
  refine wp_bd (s_size (V.2 _ K.2.2.2.2.2.2.2.2.2.2)) ?_
  rintro m2 _ ⟨rfl, hm2⟩
  rw [hlen] at hm2
  -- not in: a row that was begun is turned
  have notin : (i.toInt < n → ¬ lev'.toInt ≤ v (o i.toInt.toNat)) → Wp (f_X3_turnRows_67 rc lev' fm i 0 u) (fun _ w' => cr 671 672 w w' ∧ ordC w' n (trnF n v o lev'.toInt)) := by
    intro hno
    unfold f_X3_turnRows_67
    rw [if_pos rfl]
    have here : (i.toInt < n) → trnF n v o lev'.toInt i.toInt.toNat = o i.toInt.toNat := by
      intro hlt
      unfold trnF; rw [if_neg (hno hlt)]
    refine wp_ifeq (fun c => wp_add (by omega) (fun z hz => ?_)) (fun c => ?_)
    · rcases hS with ⟨h1, h2, h3⟩ | ⟨h1, _⟩
      · refine ih (lev', fm, z, u) ⟨rfl, V, hlen, by dsimp only; omega, by dsimp only; omega, Or.inl ⟨h1, ?_, fun j hj => ?_⟩⟩ (by dsimp only; omega)
        · dsimp only
          by_cases e : i.toInt < n
          · rw [show z.toInt.toNat - 1 = i.toInt.toNat by omega]; exact Or.inr (Or.inr (hno e))
          · exact Or.inr (Or.inl (by omega))
        · dsimp only
          rw [h3 j hj]
          by_cases e : (j : Int) < i.toInt
          · rw [if_pos e, if_pos (by omega)]
          · rw [if_neg e]
            by_cases e2 : (j : Int) = i.toInt
            · rw [if_pos (by omega)]
              have := here (by omega)
              rw [show i.toInt.toNat = j by omega] at this
              rw [this]
            · rw [if_neg (by omega)]
      · omega
    · rcases hS with ⟨h1, _⟩ | ⟨h1, h2, h2b, h3, h4, h5⟩
      · omega
      · have i1 : (i - 1).toInt = i.toInt - 1 := by rw [i_sub (by omega), L.2.1]
        refine wp_bd (s_turn (V.2 _ K.2.2.2.2.2.2.2.2.2.2) h1 (by omega)) ?_
        rintro _ u2 ⟨l', p2, e2, e3⟩
        rw [i1] at e3
        have V2 := cr_rs V p2 (by decide) (by decide)
        refine wp_add (by omega) (fun z hz => ih (lev', -1, z, u2) ⟨rfl, V2, ?_, by dsimp only; omega, by dsimp only; omega, Or.inl ⟨L.2.2.1, ?_, fun j hj => ?_⟩⟩ (by dsimp only; omega))
        · dsimp only; rw [rs_l p2, e2]; exact hlen
        · dsimp only
          by_cases e : i.toInt < n
          · rw [show z.toInt.toNat - 1 = i.toInt.toNat by omega]; exact Or.inr (Or.inr (hno e))
          · exact Or.inr (Or.inl (by omega))
        · dsimp only
          rw [rs_l p2, e3]
          unfold trn
          by_cases c1 : fm.toInt ≤ j ∧ (j : Int) ≤ i.toInt - 1
          · have R := trn_run (n := n) (v := v) (o := o) (L := lev'.toInt) (a := fm.toInt.toNat) (b := i.toInt.toNat - 1) (i := j) (by omega) (by omega) (fun k g1 g2 => h3 k (by omega) (by omega)) h4 (by
              by_cases e : i.toInt < n
              · rw [show i.toInt.toNat - 1 + 1 = i.toInt.toNat by omega]; exact Or.inr (hno e)
              · exact Or.inl (by omega))
            have g := h5 (fm.toInt.toNat + (i.toInt.toNat - 1) - j) (by omega)
            rw [if_neg (by omega)] at g
            rw [if_pos c1, if_pos (by omega), R, ← g]
            congr 1
            omega
          · rw [if_neg c1, h5 j hj]
            by_cases c2 : (j : Int) < fm.toInt
            · rw [if_pos c2, if_pos (by omega)]
            · rw [if_neg c2]
              by_cases c3 : (j : Int) = i.toInt
              · rw [if_pos (by omega)]
                have := here (by omega)
                rw [show i.toInt.toNat = j by omega] at this
                rw [this]
              · rw [if_neg (by omega)]
  refine wp_ifle (fun c => ?_) (fun c => ?_)
  · unfold f_X3_turnRows_49 f_X3_turnRows_50
    rw [if_pos rfl]
    exact notin (fun z => by omega)
  · have oi : gt (rl u 671) i.toInt = o i.toInt.toNat := by
      have ci : ((i.toInt.toNat : Nat) : Int) = i.toInt := by omega
      rcases hS with ⟨_, _, h3⟩ | ⟨_, _, _, _, _, h3⟩
      · have := h3 i.toInt.toNat (by omega)
        rw [ci, if_neg (by omega)] at this; exact this
      · have := h3 i.toInt.toNat (by omega)
        rw [ci, if_neg (by omega)] at this; exact this
    have ol := hol i.toInt.toNat (by omega)
    refine wp_bd (s_get (V.2 _ K.2.2.2.2.2.2.2.2.2.2)) ?_
    rintro x _ ⟨rfl, hx⟩
    rw [oi] at hx
    refine wp_bd (s_get (V.2 _ K.2.2.2.2.2.2.2.2.2.1)) ?_
    rintro y _ ⟨rfl, hy⟩
    rw [r9, hx, hf.2 _ ol] at hy
    refine wp_iflt (fun d => ?_) (fun d => ?_)
    · unfold f_X3_turnRows_49 f_X3_turnRows_50
      rw [if_pos rfl]
      exact notin (fun _ => by omega)
    · unfold f_X3_turnRows_50
      rw [if_neg (by decide)]
      refine wp_ifeq (fun e => wp_add (by omega) (fun z hz => ?_)) (fun e => ?_)
      · rcases hS with ⟨h1, h2, h3⟩ | ⟨h1, _⟩
        · refine ih (lev', i, z, u) ⟨rfl, V, hlen, by dsimp only; omega, by dsimp only; omega, Or.inr ⟨hi0, by dsimp only; omega, by dsimp only; omega, fun j g1 g2 => ?_, ?_, h3⟩⟩ (by dsimp only; omega)
          · dsimp only at g1 g2
            rw [show j = i.toInt.toNat by omega]; omega
          · dsimp only
            rcases h2 with z2 | z2 | z2
            · exact Or.inl (by omega)
            · omega
            · exact Or.inr z2
        · omega
      · unfold f_X3_turnRows_67
        rw [if_neg (by decide)]
        refine wp_add (by omega) (fun z hz => ?_)
        rcases hS with ⟨h1, _⟩ | ⟨h1, h2, h2b, h3, h4, h5⟩
        · omega
        · refine ih (lev', fm, z, u) ⟨rfl, V, hlen, by dsimp only; omega, by dsimp only; omega, Or.inr ⟨h1, by dsimp only; omega, by dsimp only; omega, fun j g1 g2 => ?_, h4, h5⟩⟩ (by dsimp only; omega)
          dsimp only at g1 g2
          by_cases c3 : (j : Int) = i.toInt
          · rw [show j = i.toInt.toNat by omega]; omega
          · exact h3 j g1 (by omega)
theorem s_screen {w : Wd} {n : Nat} {v : Nat → Int} (ho : okall w) (hn : n ≤ 40) (hf : (rl w 669).length = n ∧ ∀ p : Nat, p < n → gt (rl w 669) p = v p) (hv : ∀ p, p < n → 0 ≤ v p ∧ v p ≤ 10) :
    Wp (f_X3_screen w) (fun r w' => r = 671 ∧ cr 671 672 w w' ∧ ordC w' n (Od n v 13)) := by
  have L := LIT
  have K := KLR
  have M := LLR
  unfold f_X3_screen
  refine wp_bd (s_cut0 (ho _ K.2.2.2.2.2.2.2.2.2.2)) ?_
  rintro _ w1 q1
  have v1 := cr_rs (a := 671) (b := 672) (cr_rf ho) q1 (by decide) (by decide)
  unfold f_X3_screen_12
  rw [FUv]
  refine wp_loop (fun σ : Int32 × Int32 × Wd => cr 671 672 w σ.2.2 ∧ 0 ≤ σ.2.1.toInt ∧ σ.2.1.toInt ≤ n ∧ 0 ≤ σ.1.toInt ∧ σ.1.toInt ≤ 10 ∧ (∀ j : Nat, (j : Int) < σ.2.1.toInt → v j ≤ σ.1.toInt) ∧ ordC σ.2.2 σ.2.1.toInt.toNat (fun i => i))
    (fun σ => (42 - σ.2.1.toInt).toNat) ?_ 100000 _ ⟨v1, by dsimp only; omega, by dsimp only; omega, by dsimp only; omega, by dsimp only; omega, fun j hj => by dsimp only at hj; omega, by dsimp only; rw [L.1]; exact ⟨by rw [rs_l q1]; rfl, fun i hi => absurd hi (Nat.not_lt_zero _)⟩⟩ (by dsimp only; omega)
  rintro rc ⟨g, i, u⟩ ⟨V, hi0, hi1, hg0, hg1, hg, hC⟩ ih
  dsimp only at *
  have ci : ((i.toInt.toNat : Nat) : Int) = i.toInt := by omega
  have r9 : rl u 669 = rl w 669 := cr_rl V (by omega)
  unfold g_X3_screen_12
  refine wp_bd (s_size (V.2 _ K.2.2.2.2.2.2.2.2.2.1)) ?_
  rintro m _ ⟨rfl, hm⟩
  rw [r9, hf.1] at hm
  refine wp_ifle (fun q => ?_) (fun q => ?_)
  · have iN : i.toInt.toNat = n := by omega
    rw [iN] at hC
    have hgn : ∀ j, j < n → v j ≤ g.toInt := fun j hj => hg j (by omega)
    unfold f_X3_screen_65
    rw [FUv]
    refine wp_loop (fun σ : Int32 × Wd => cr 671 672 w σ.2 ∧ 0 ≤ σ.1.toInt ∧ σ.1.toInt ≤ 10 ∧ ordC σ.2 n (Od n v (13 - σ.1.toInt.toNat)))
      (fun σ => σ.1.toInt.toNat) ?_ 100000 _ ⟨V, hg0, hg1, hC.1, fun j hj => ?_⟩ (by dsimp only; omega)
    · rintro rc2 ⟨lev, u2⟩ ⟨V2, hl0, hl1, hC2⟩ ih2
      dsimp only at *
      unfold g_X3_screen_65
      refine wp_iflt (fun c => wp_ret ⟨rfl, V2, ?_⟩) (fun c => ?_)
      · rw [show 13 - lev.toInt.toNat = 13 by omega] at hC2; exact hC2
      · have r92 : rl u2 669 = rl w 669 := cr_rl V2 (by omega)
        refine wp_bd (s_turnRows (lev := lev) V2.2 hn (by rw [r92]; exact hf) (Od_lt (13 - lev.toInt.toNat)) hC2) ?_
        rintro _ u3 ⟨V3, hC3⟩
        refine wp_add (by omega) (fun z hz => ih2 (z, u3) ⟨cr_tr V2 V3, by dsimp only; omega, by dsimp only; omega, ?_⟩ (by dsimp only; omega))
        dsimp only
        rw [show 13 - z.toInt.toNat = 13 - lev.toInt.toNat + 1 by omega, Od_s, show (13 : Int) - ((13 - lev.toInt.toNat : Nat) : Int) = lev.toInt by omega]
        exact hC3
    · dsimp only
      rw [hC.2 j hj, Od_id hgn (13 - g.toInt.toNat) (by omega) j hj]
  · have vi := hv i.toInt.toNat (by omega)
    refine wp_bd (s_add (V.2 _ K.2.2.2.2.2.2.2.2.2.2) (by rw [hC.1]; omega)) ?_
    rintro _ u2 ⟨_, p2⟩
    have V2 := cr_rs V p2 (by decide) (by decide)
    have r92 : rl u2 669 = rl w 669 := cr_rl V2 (by omega)
    have C2 : ordC u2 (i.toInt.toNat + 1) (fun i => i) := by
      refine ⟨by rw [rs_l p2, List.length_append, hC.1]; rfl, fun j hj => ?_⟩
      rw [rs_l p2, gt_snoc, hC.1]
      by_cases e : j = i.toInt.toNat
      · rw [if_pos (by omega), e]; exact ci.symm
      · rw [if_neg (by omega)]; exact hC.2 j (by omega)
    refine wp_bd (s_get (V2.2 _ K.2.2.2.2.2.2.2.2.2.1)) ?_
    rintro x _ ⟨rfl, hx⟩
    have fv := hf.2 i.toInt.toNat (by omega)
    rw [ci] at fv
    rw [r92, fv] at hx
    refine wp_ifle (fun c => wp_add (by omega) (fun z hz => ih (g, z, u2) ⟨V2, by dsimp only; omega, by dsimp only; omega, hg0, hg1, fun j hj => ?_, ?_⟩ (by dsimp only; omega))) (fun c => ?_)
    · dsimp only at hj ⊢
      by_cases e : j = i.toInt.toNat
      · rw [e]; omega
      · exact hg j (by omega)
    · dsimp only; rw [show z.toInt.toNat = i.toInt.toNat + 1 by omega]; exact C2
    · refine wp_bd (s_get (V2.2 _ K.2.2.2.2.2.2.2.2.2.1)) ?_
      rintro y _ ⟨rfl, hy⟩
      rw [r92, fv] at hy
      refine wp_add (by omega) (fun z hz => ih (y, z, u2) ⟨V2, by dsimp only; omega, by dsimp only; omega, by dsimp only; omega, by dsimp only; omega, fun j hj => ?_, ?_⟩ (by dsimp only; omega))
      · dsimp only at hj ⊢
        by_cases e : j = i.toInt.toNat
        · rw [e]; omega
        · have := hg j (by omega); omega
      · dsimp only; rw [show z.toInt.toNat = i.toInt.toNat + 1 by omega]; exact C2

