/-! ===== letter, split, capital, partners ===== -/
theorem LIT : (0 : Int32).toInt = 0 ∧ (1 : Int32).toInt = 1 ∧ (-1 : Int32).toInt = -1 ∧ (2 : Int32).toInt = 2 ∧ (3 : Int32).toInt = 3 ∧ (4 : Int32).toInt = 4 ∧ (5 : Int32).toInt = 5 ∧ (6 : Int32).toInt = 6 ∧ (7 : Int32).toInt = 7 ∧ (8 : Int32).toInt = 8 ∧ (9 : Int32).toInt = 9 ∧ (10 : Int32).toInt = 10 ∧ (95 : Int32).toInt = 95 ∧ (96 : Int32).toInt = 96 ∧ (99 : Int32).toInt = 99 ∧ (100 : Int32).toInt = 100 ∧ (40 : Int32).toInt = 40 ∧ (80 : Int32).toInt = 80 := by decide
/-- cells of the class's main tables -/
def tin (k : Nat) : Prop := 1 ≤ k ∧ k < 125
theorem setc {w : Wd} {v x : Int32} (j : Nat) (hj : j < 10) (h0 : 0 ≤ v.toInt) (h1 : v.toInt ≤ 95) : f_X10_setCell (1 + 1 + j) v x w = some ((), setI w (1 + 1 + j) v.toInt.toNat x) := by
  have h := ((tab_facts 1 (by decide +kernel)).1 j hj).2
  exact e_setCell (by omega) h0 (by omega)
theorem kd_tab (j : Nat) (hj : j < 10) : KD (1 + 1 + j) ≠ 7 := by
  have h := ((tab_facts 1 (by decide +kernel)).1 j hj).1
  omega
/-- what the class did: threw (code), with nothing changed; or the tables are tab' now -/
def tout (w : Wd) (tab' : Nat → Int) (bad : Prop) (bad2 : Prop) (c2 : Nat) {R : Type} (good : R → Prop) (r : Nat ⊕ R) (w' : Wd) : Prop :=
  (bad ∧ r = .inl 1 ∧ w' = w) ∨ (¬ bad ∧ bad2 ∧ r = .inl c2 ∧ w' = w) ∨ (¬ bad ∧ ¬ bad2 ∧ (∃ x, r = .inr x ∧ good x) ∧ trel w' 1 tab' ∧ okall w' ∧ oc tin w w')
def badL (l : Int) : Prop := ¬ (0 ≤ l ∧ l ≤ 95)
def bad_letter (j d k like : Int) : Prop := ¬ ((0 ≤ j ∧ j ≤ 9) ∧ (0 ≤ d ∧ d ≤ 10) ∧ (0 ≤ k ∧ k ≤ 6) ∧ (0 ≤ like ∧ like ≤ 95))
def tab_letter (tab : Nat → Int) (l : Int) (j d k like : Int) : Nat → Int :=
  tset (tset (tset (tset tab (9 * l.toNat) j) (9 * l.toNat + 1) d) (9 * l.toNat + 2) k) (9 * l.toNat + 3) like
set_option maxHeartbeats 1000000 in
theorem k_letter {w : Wd} {tab : Nat → Int} {l j d k e : Int32} (hk : tok tab) (h : trel w 1 tab) (ho : okall w) :
    Wp (f_X10_letter l j d k e w) (tout w (tab_letter tab l.toInt j.toInt d.toInt k.toInt e.toInt) (badL l.toInt) (bad_letter j.toInt d.toInt k.toInt e.toInt) 2 (fun _ : Unit => True)) := by
  have L := LIT
  unfold f_X10_letter f_X10_letter_47 f_X10_letter_48
  have e0 : f_X10_checkArgument (0 : Int32) = fun w => some (.inl 2, w) := rfl
  have e1 : f_X10_checkArgument (1 : Int32) = fun w => some (.inr (), w) := rfl
  simp only [e_checkLetter, bdx_c, e_isWithin, e_isLetter, bd_r, ite_zo, e0, e1, bdx_r, bdx_l, L]
  unfold tout badL bad_letter
  refine wp_if (fun hl => ?_) (fun hl => wp_ret (Or.inl ⟨hl, rfl, rfl⟩))
  refine wp_if (fun hj => ?_) (fun hj => wp_ret (Or.inr (Or.inl ⟨fun q => q hl, fun q => hj q.1, rfl, rfl⟩)))
  refine wp_if (fun hd => ?_) (fun hd => wp_ret (Or.inr (Or.inl ⟨fun q => q hl, fun q => hd q.2.1, rfl, rfl⟩)))
  refine wp_if (fun hkk => ?_) (fun hkk => wp_ret (Or.inr (Or.inl ⟨fun q => q hl, fun q => hkk q.2.2.1, rfl, rfl⟩)))
  refine wp_if (fun he => ?_) (fun he => wp_ret (Or.inr (Or.inl ⟨fun q => q hl, fun q => he q.2.2.2, rfl, rfl⟩)))
  unfold f_X9_tell
  have s0 := fun w x => setc (w := w) (v := l) (x := x) 0 (by omega) hl.1 hl.2
  have s1 := fun w x => setc (w := w) (v := l) (x := x) 1 (by omega) hl.1 hl.2
  have s2 := fun w x => setc (w := w) (v := l) (x := x) 2 (by omega) hl.1 hl.2
  have s3 := fun w x => setc (w := w) (v := l) (x := x) 3 (by omega) hl.1 hl.2
  simp only [Nat.reduceAdd] at s0 s1 s2 s3
  simp only [Nat.reduceAdd, s0, s1, s2, s3, bd_r]
  refine wp_ret (Or.inr (Or.inr ⟨fun q => q hl, fun q => q ⟨hj, hd, hkk, he⟩, ⟨(), rfl, trivial⟩, ?_, ?_, ?_⟩))
  · refine trel_L hk h (fun k hk => ?_) (fun i hi => ?_) (fun m hm => ?_)
    · funext b
      simp only [setI_at]
      rw [if_neg (by omega), if_neg (by omega), if_neg (by omega), if_neg (by omega)]
    · unfold tab_letter
      simp only [tset_at]
      rw [if_neg (by omega), if_neg (by omega), if_neg (by omega), if_neg (by omega)]
    · generalize hn : l.toInt.toNat = n
      by_cases c : m = n
      · subst c
        obtain ⟨-, -, -, -, q5, q6, q7, q8, q9⟩ := h.1 m hm
        unfold lrel tab_letter
        rw [hn]
        simp [setI_at, tset_at]
        exact ⟨q5, q6, q7, q8, q9⟩
      · refine lrel_fr (w := w) (tab := tab) (fun j hj => ?_) (fun j hj => ?_) (h.1 m hm)
        · simp only [setI_at]
          rw [if_neg (fun q => c q.2), if_neg (fun q => c q.2), if_neg (fun q => c q.2), if_neg (fun q => c q.2)]
        · unfold tab_letter
          rw [hn]
          simp only [tset_at]
          rw [if_neg (by omega), if_neg (by omega), if_neg (by omega), if_neg (by omega)]
  · exact okall_setI (okall_setI (okall_setI (okall_setI ho (kd_tab 0 (by omega))) (kd_tab 1 (by omega))) (kd_tab 2 (by omega))) (kd_tab 3 (by omega))
  · exact oc_tr (oc_tr (oc_tr (oc_setI (by unfold tin; omega)) (oc_setI (by unfold tin; omega))) (oc_setI (by unfold tin; omega))) (oc_setI (by unfold tin; omega))

/-- of letters of a kind alone something was told -/
theorem good_L {w w' : Wd} {tab tab' : Nat → Int} (P : Nat → Prop) (hk : tok tab) (h : trel w 1 tab) (ho : okall w) (hw : ∀ k m, ¬ ((2 ≤ k ∧ k ≤ 11) ∧ P m) → w'.1 k m = w.1 k m) (h2 : w'.2 = w.2)
    (ht : ∀ i, (∀ n, P n → n < 96 → ¬ (9 * n ≤ i ∧ i < 9 * n + 9)) → tab' i = tab i) (hl : ∀ n, P n → n < 96 → lrel w' 1 tab' n) : trel w' 1 tab' ∧ okall w' ∧ oc tin w w' := by
  have hob : ∀ k, ¬ (2 ≤ k ∧ k ≤ 11) → w'.1 k = w.1 k := fun k hk => by
    funext m; exact hw k m (fun q => hk q.1)
  refine ⟨trel_L hk h (fun k hk => hob k (by omega)) (fun i hi => ht i (fun n _ _ => by omega)) (fun l hl1 => ?_), okall_fr ho (fun o hq => hob o (fun q => ?_)), fun k hk => hob k (fun q => hk (by unfold tin; omega)), h2⟩
  · by_cases c : P l
    · exact hl l c hl1
    · refine lrel_fr (fun j hj => hw _ _ (fun q => c q.2)) (fun j hj => ht _ (fun n hn hn9 q => ?_)) (h.1 l hl1)
      have : n = l := by omega
      subst this
      exact c hn
  · have : ∀ k, 2 ≤ k → k ≤ 11 → KD k ≠ 7 := by
      intro k a b
      have := ((tab_facts 1 (by decide +kernel)).1 (k - 2) (by omega)).1
      rw [show 1 + 1 + (k - 2) = k by omega] at this
      omega
    exact this o q.1 q.2 hq
def bad_split (l a b : Int) : Prop := ¬ ((a = -1 ∧ b = -1) ∨ ((0 ≤ a ∧ a ≤ l - 1) ∧ (0 ≤ b ∧ b ≤ l - 1)))
def tab_split (tab : Nat → Int) (l : Int) (a b : Int) : Nat → Int := tset (tset tab (9 * l.toNat + 4) (a + 1)) (9 * l.toNat + 5) (b + 1)
theorem k_split {w : Wd} {tab : Nat → Int} {l a b : Int32} (hk : tok tab) (h : trel w 1 tab) (ho : okall w) :
    Wp (f_X10_split l a b w) (tout w (tab_split tab l.toInt a.toInt b.toInt) (badL l.toInt) (bad_split l.toInt a.toInt b.toInt) 2 (fun _ : Unit => True)) := by
  have L := LIT
  unfold f_X10_split f_X10_split_18 f_X10_split_19 f_X10_split_52 f_X10_split_53
  have e0 : f_X10_checkArgument (0 : Int32) = fun w => some (.inl 2, w) := rfl
  have e1 : f_X10_checkArgument (1 : Int32) = fun w => some (.inr (), w) := rfl
  have c0 : ((0 : Int32) = 0) = True := by decide
  have c1 : ((1 : Int32) = 0) = False := by decide
  simp only [e_checkLetter, bdx_c, e_isWithin, e_isLetter, bd_r, ite_zo, e0, e1, c0, c1, if_true, if_false, bdx_r, bdx_l]
  simp only [ICMP, L]
  refine wp_if (fun hl => ?_) (fun hl => wp_ret (Or.inl ⟨hl, rfl, rfl⟩))
  have hs : (l - 1).toInt = l.toInt - 1 := by rw [i_sub (by omega), L.2.1]
  rw [hs]
  have good : ¬ bad_split l.toInt a.toInt b.toInt → Wp (bd (f_X9_tellSplit 1 l a b w) (fun _ w2 => some (Sum.inr (), w2))) (tout w (tab_split tab l.toInt a.toInt b.toInt) (badL l.toInt) (bad_split l.toInt a.toInt b.toInt) 2 (fun _ : Unit => True)) := by
    intro hb
    unfold f_X9_tellSplit
    have s0 := fun w x => setc (w := w) (v := l) (x := x) 4 (by omega) hl.1 hl.2
    have s1 := fun w x => setc (w := w) (v := l) (x := x) 5 (by omega) hl.1 hl.2
    simp only [Nat.reduceAdd] at s0 s1
    simp only [Nat.reduceAdd, s0, s1, bd_r]
    refine wp_ret (Or.inr (Or.inr ⟨fun q => q hl, hb, ⟨(), rfl, trivial⟩, good_L (fun m => m = l.toInt.toNat) hk h ho (fun k m q => ?_) rfl (fun i hi => ?_) (fun n e hn => ?_)⟩))
    · simp only [setI_at]
      rw [if_neg (by omega), if_neg (by omega)]
    · have := hi _ rfl (by omega)
      unfold tab_split
      simp only [tset_at]
      rw [if_neg (by omega), if_neg (by omega)]
    · obtain ⟨q1, q2, q3, q4, -, -, q7, q8, q9⟩ := h.1 n hn
      unfold lrel tab_split
      rw [← e]
      simp [setI_at, tset_at]
      exact ⟨q1, q2, q3, q4, q7, q8, q9⟩
  have bad : bad_split l.toInt a.toInt b.toInt → Wp (some (Sum.inl 2, w)) (tout w (tab_split tab l.toInt a.toInt b.toInt) (badL l.toInt) (bad_split l.toInt a.toInt b.toInt) 2 (fun _ : Unit => True)) :=
    fun q => wp_ret (Or.inr (Or.inl ⟨fun q => q hl, q, rfl, rfl⟩))
  unfold bad_split at bad good ⊢
  repeat' (refine wp_if (fun _ => ?_) (fun _ => ?_))
  all_goals first | exact bad (by omega) | exact good (by omega)
theorem c01 : ((0 : Int32) = 0) = True ∧ ((1 : Int32) = 0) = False ∧ ((2 : Int32) = 0) = False ∧ ((3 : Int32) = 0) = False := by decide
theorem th_at {w : Wd} {x : Int32} : (setI w 713 0 x).1 713 0 = x := by rw [setI_at, if_pos (by decide)]
theorem i_9 {l : Int32} (hl : 0 ≤ l.toInt ∧ l.toInt ≤ 95) {j : Int32} (hj : 0 ≤ j.toInt ∧ j.toInt < 9) : ((9 : Int32) * l + j).toInt = 9 * l.toInt + j.toInt := by
  have hm : ((9 : Int32) * l).toInt = 9 * l.toInt := i_mul' (by decide) (by omega)
  rw [i_add (by omega), hm]
/-! capital -/
def bad_cap (a b : Int) : Prop := ¬ ((-1 ≤ a ∧ a ≤ 95) ∧ (-1 ≤ b ∧ b ≤ 95) ∧ (a = -1 → b = -1))
def tab_cap (tab : Nat → Int) (l : Int) (a b : Int) : Nat → Int := tset (tset tab (9 * l.toNat + 6) (a + 1)) (9 * l.toNat + 7) (b + 1)
theorem k_capital {w : Wd} {tab : Nat → Int} {l a b : Int32} (hk : tok tab) (h : trel w 1 tab) (ho : okall w) :
    Wp (f_X10_capital l a b w) (tout w (tab_cap tab l.toInt a.toInt b.toInt) (badL l.toInt) (bad_cap a.toInt b.toInt) 2 (fun _ : Unit => True)) := by
  have L := LIT
  unfold f_X10_capital f_X10_capital_18 f_X10_capital_19 f_X10_capital_49 f_X10_capital_50
  have e0 : f_X10_checkArgument (0 : Int32) = fun w => some (.inl 2, w) := rfl
  have e1 : f_X10_checkArgument (1 : Int32) = fun w => some (.inr (), w) := rfl
  simp only [e_checkLetter, bdx_c, e_isWithin, e_isLetter, bd_r, ite_zo, e0, e1, c01, if_true, if_false, bdx_r, bdx_l]
  simp only [ICMP, L]
  refine wp_if (fun hl => ?_) (fun hl => wp_ret (Or.inl ⟨hl, rfl, rfl⟩))
  have good : ¬ bad_cap a.toInt b.toInt → Wp (bd (f_X9_tellCapital 1 l a b w) (fun _ w2 => some (Sum.inr (), w2))) (tout w (tab_cap tab l.toInt a.toInt b.toInt) (badL l.toInt) (bad_cap a.toInt b.toInt) 2 (fun _ : Unit => True)) := by
    intro hb
    unfold f_X9_tellCapital
    have s0 := fun w x => setc (w := w) (v := l) (x := x) 6 (by omega) hl.1 hl.2
    have s1 := fun w x => setc (w := w) (v := l) (x := x) 7 (by omega) hl.1 hl.2
    simp only [Nat.reduceAdd] at s0 s1
    simp only [Nat.reduceAdd, s0, s1, bd_r]
    refine wp_ret (Or.inr (Or.inr ⟨fun q => q hl, hb, ⟨(), rfl, trivial⟩, good_L (fun m => m = l.toInt.toNat) hk h ho (fun k m q => ?_) rfl (fun i hi => ?_) (fun n e hn => ?_)⟩))
    · simp only [setI_at]
      rw [if_neg (by omega), if_neg (by omega)]
    · have := hi _ rfl (by omega)
      unfold tab_cap
      simp only [tset_at]
      rw [if_neg (by omega), if_neg (by omega)]
    · obtain ⟨q1, q2, q3, q4, q5, q6, -, -, q9⟩ := h.1 n hn
      unfold lrel tab_cap
      rw [← e]
      simp [setI_at, tset_at]
      exact ⟨q1, q2, q3, q4, q5, q6, q9⟩
  have bad : bad_cap a.toInt b.toInt → Wp (some (Sum.inl 2, w)) (tout w (tab_cap tab l.toInt a.toInt b.toInt) (badL l.toInt) (bad_cap a.toInt b.toInt) 2 (fun _ : Unit => True)) :=
    fun q => wp_ret (Or.inr (Or.inl ⟨fun q => q hl, q, rfl, rfl⟩))
  unfold bad_cap at bad good ⊢
  repeat' (refine wp_if (fun _ => ?_) (fun _ => ?_))
  all_goals first | exact bad (by omega) | exact good (by omega)
/-! partners -/
def bad_part1 (a b : Int) : Prop := ¬ ((0 ≤ a ∧ a ≤ 95) ∧ (0 ≤ b ∧ b ≤ 95))
def bad_part (tab : Nat → Int) (a b : Int) : Prop := ¬ (a ≠ b ∧ tab (9 * a.toNat + 8) = 0 ∧ tab (9 * b.toNat + 8) = 0)
def tab_part (tab : Nat → Int) (a b : Int) : Nat → Int := tset (tset tab (9 * a.toNat + 8) (b + 1)) (9 * b.toNat + 8) (-a - 1)
theorem k_partners {w : Wd} {tab : Nat → Int} {a b : Int32} (hk : tok tab) (h : trel w 1 tab) (ho : okall w) :
    Wp (f_X10_partners a b w) (tout w (tab_part tab a.toInt b.toInt) (bad_part1 a.toInt b.toInt) (bad_part tab a.toInt b.toInt) 3 (fun _ : Unit => True)) := by
  have L := LIT
  unfold f_X10_partners f_X10_partners_37
  simp only [e_checkLetter, bdx_c]
  refine wp_if (fun hl => ?_) (fun hl => wp_ret (Or.inl ⟨fun q => hl q.1, rfl, rfl⟩))
  refine wp_if (fun hl2 => ?_) (fun hl2 => wp_ret (Or.inl ⟨fun q => hl2 q.2, rfl, rfl⟩))
  have bad : bad_part tab a.toInt b.toInt → Wp (some (Sum.inl 3, w)) (tout w (tab_part tab a.toInt b.toInt) (bad_part1 a.toInt b.toInt) (bad_part tab a.toInt b.toInt) 3 (fun _ : Unit => True)) :=
    fun q => wp_ret (Or.inr (Or.inl ⟨fun q => q ⟨hl, hl2⟩, q, rfl, rfl⟩))
  refine wp_ifeq (fun e => bad (fun q => q.1 e)) (fun e => ?_)
  refine wp_bd (s_partnerOf (by decide +kernel) hl.1 (by omega) h) ?_
  rintro x _ ⟨rfl, hx⟩
  have ra := (hk.1 a.toInt.toNat (by omega)).2.2.2.2.2.2
  have rb := (hk.1 b.toInt.toNat (by omega)).2.2.2.2.2.2
  unfold prt at hx
  refine wp_ifeq (fun q1 => ?_) (fun q1 => bad (fun q => by rw [if_pos q.2.1] at hx; omega))
  have za : tab (9 * a.toInt.toNat + 8) = 0 := by
    rcases (h.1 a.toInt.toNat (by omega)).2.2.2.2.2.2.2.2 with c | c | c
    · exact c.1
    · rw [if_neg (by omega), if_pos c.1] at hx; omega
    · rw [if_neg (by omega), if_neg (by omega)] at hx; omega
  refine wp_bd (s_partnerOf (by decide +kernel) hl2.1 (by omega) h) ?_
  rintro y _ ⟨rfl, hy⟩
  unfold prt at hy
  refine wp_ifeq (fun q2 => ?_) (fun q2 => bad (fun q => by rw [if_pos q.2.2] at hy; omega))
  have zb : tab (9 * b.toInt.toNat + 8) = 0 := by
    rcases (h.1 b.toInt.toNat (by omega)).2.2.2.2.2.2.2.2 with c | c | c
    · exact c.1
    · rw [if_neg (by omega), if_pos c.1] at hy; omega
    · rw [if_neg (by omega), if_neg (by omega)] at hy; omega
  unfold f_X9_tellPartners
  have s0 := fun w x => setc (w := w) (v := a) (x := x) 8 (by omega) hl.1 hl.2
  have s1 := fun w x => setc (w := w) (v := b) (x := x) 8 (by omega) hl2.1 hl2.2
  have s2 := fun w x => setc (w := w) (v := a) (x := x) 9 (by omega) hl.1 hl.2
  have s3 := fun w x => setc (w := w) (v := b) (x := x) 9 (by omega) hl2.1 hl2.2
  simp only [Nat.reduceAdd] at s0 s1 s2 s3
  simp only [Nat.reduceAdd, s0, s1, s2, s3, bd_r]
  refine wp_ret (Or.inr (Or.inr ⟨fun q => q ⟨hl, hl2⟩, fun q => q ⟨e, za, zb⟩, ⟨(), rfl, trivial⟩, good_L (fun m => m = a.toInt.toNat ∨ m = b.toInt.toNat) hk h ho (fun k m q => ?_) rfl (fun i hi => ?_) (fun n en hn => ?_)⟩))
  · simp only [setI_at]
    rw [if_neg (by omega), if_neg (by omega), if_neg (by omega), if_neg (by omega)]
  · have h1 := hi _ (Or.inl rfl) (by omega)
    have h2 := hi _ (Or.inr rfl) (by omega)
    unfold tab_part
    simp only [tset_at]
    rw [if_neg (by omega), if_neg (by omega)]
  · obtain ⟨q1, q2, q3, q4, q5, q6, q7, q8, -⟩ := h.1 n hn
    unfold lrel tab_part
    have hab : a.toInt.toNat ≠ b.toInt.toNat := by omega
    rcases en with en | en
    · have n2 : ¬ a.toInt.toNat = b.toInt.toNat := hab
      subst en
      refine ⟨?_, ?_, ?_, ?_, ?_, ?_, ?_, ?_, Or.inr (Or.inl ⟨?_, ?_, ?_⟩)⟩
      · simp only [setI_at, tset_at]; rw [if_neg (by omega), if_neg (by omega), if_neg (by omega), if_neg (by omega), if_neg (by omega), if_neg (by omega)]; exact q1
      · simp only [setI_at, tset_at]; rw [if_neg (by omega), if_neg (by omega), if_neg (by omega), if_neg (by omega), if_neg (by omega), if_neg (by omega)]; exact q2
      · simp only [setI_at, tset_at]; rw [if_neg (by omega), if_neg (by omega), if_neg (by omega), if_neg (by omega), if_neg (by omega), if_neg (by omega)]; exact q3
      · simp only [setI_at, tset_at]; rw [if_neg (by omega), if_neg (by omega), if_neg (by omega), if_neg (by omega), if_neg (by omega), if_neg (by omega)]; exact q4
      · simp only [setI_at, tset_at]; rw [if_neg (by omega), if_neg (by omega), if_neg (by omega), if_neg (by omega), if_neg (by omega), if_neg (by omega)]; exact q5
      · simp only [setI_at, tset_at]; rw [if_neg (by omega), if_neg (by omega), if_neg (by omega), if_neg (by omega), if_neg (by omega), if_neg (by omega)]; exact q6
      · simp only [setI_at, tset_at]; rw [if_neg (by omega), if_neg (by omega), if_neg (by omega), if_neg (by omega), if_neg (by omega), if_neg (by omega)]; exact q7
      · simp only [setI_at, tset_at]; rw [if_neg (by omega), if_neg (by omega), if_neg (by omega), if_neg (by omega), if_neg (by omega), if_neg (by omega)]; exact q8
      · rw [tset_at, if_neg (by omega), tset_at, if_pos rfl]; omega
      · rw [setI_at, if_neg (by omega), setI_at, if_neg (by omega), setI_at, if_neg (by omega), setI_at, if_pos ⟨rfl, rfl⟩, tset_at, if_neg (by omega), tset_at, if_pos rfl]; omega
      · rw [setI_at, if_neg (by omega), setI_at, if_pos ⟨rfl, rfl⟩]; exact L.2.1
    · subst en
      refine ⟨?_, ?_, ?_, ?_, ?_, ?_, ?_, ?_, Or.inr (Or.inr ⟨?_, ?_, ?_⟩)⟩
      · simp only [setI_at, tset_at]; rw [if_neg (by omega), if_neg (by omega), if_neg (by omega), if_neg (by omega), if_neg (by omega), if_neg (by omega)]; exact q1
      · simp only [setI_at, tset_at]; rw [if_neg (by omega), if_neg (by omega), if_neg (by omega), if_neg (by omega), if_neg (by omega), if_neg (by omega)]; exact q2
      · simp only [setI_at, tset_at]; rw [if_neg (by omega), if_neg (by omega), if_neg (by omega), if_neg (by omega), if_neg (by omega), if_neg (by omega)]; exact q3
      · simp only [setI_at, tset_at]; rw [if_neg (by omega), if_neg (by omega), if_neg (by omega), if_neg (by omega), if_neg (by omega), if_neg (by omega)]; exact q4
      · simp only [setI_at, tset_at]; rw [if_neg (by omega), if_neg (by omega), if_neg (by omega), if_neg (by omega), if_neg (by omega), if_neg (by omega)]; exact q5
      · simp only [setI_at, tset_at]; rw [if_neg (by omega), if_neg (by omega), if_neg (by omega), if_neg (by omega), if_neg (by omega), if_neg (by omega)]; exact q6
      · simp only [setI_at, tset_at]; rw [if_neg (by omega), if_neg (by omega), if_neg (by omega), if_neg (by omega), if_neg (by omega), if_neg (by omega)]; exact q7
      · simp only [setI_at, tset_at]; rw [if_neg (by omega), if_neg (by omega), if_neg (by omega), if_neg (by omega), if_neg (by omega), if_neg (by omega)]; exact q8
      · rw [tset_at, if_pos rfl]; omega
      · rw [setI_at, if_neg (by omega), setI_at, if_neg (by omega), setI_at, if_pos ⟨rfl, rfl⟩, tset_at, if_pos rfl]; omega
      · rw [setI_at, if_pos ⟨rfl, rfl⟩]; exact L.1
