/-! ===== patterns: the class takes one; what fits ===== -/
theorem k_pattern {w : Wd} {tp : List Int} {T D : Nat} (ho : okall w) (ht : rl w 635 = tp) (hb : tpok tp) (hT : w.2.1 = T) (hD : w.2.2.1 = D) (kD : KD D = 5) :
    Wp (f_X10_pattern w) (fun r w' => okall w' ∧ rl w' 635 = [] ∧
      ((pat tp = none ∧ r = .inl 3 ∧ oc (fun k => (D ≤ k ∧ k ≤ D + 8) ∨ k = 635 ∨ k = 636) w w') ∨
      (∃ (l : List PC) (x : Int32), pat tp = some l ∧ l.length ≤ 8 ∧ r = .inr x ∧ x.toInt = l.length ∧ w'.2 = (D, T, w.2.2.2) ∧ (∀ k, ¬ (D ≤ k ∧ k ≤ D + 8) → k ≠ 635 → k ≠ 636 → k ≠ 0 → w'.1 k = w.1 k) ∧ (∀ j, j ≠ 11 → w'.1 0 j = w.1 0 j) ∧ (w'.1 0 11).toInt = 1 ∧ patC w' D l))) := by
  have L := LIT
  have F := pat_facts D kD
  unfold f_X10_pattern
  rw [hD]
  refine wp_bd (s_read kD ho ht hb) ?_
  rintro r1 w1 ⟨P1, h1⟩
  refine wp_bd (s_cut0 (P1.2 _ tape7)) ?_
  rintro _ w2 q2
  have ok2 := okall_rs P1.2 q2
  have O2 : oc (fun k => (D ≤ k ∧ k ≤ D + 8) ∨ k = 635 ∨ k = 636) w w2 := oc_tr (oc_mono P1.1 (fun k q => Or.inl q)) (oc_rs q2 (Or.inr (Or.inl rfl)) (Or.inr (Or.inr rfl)))
  rcases h1 with ⟨rfl, h1⟩ | ⟨rfl, l, h1, C1, h8⟩
  · rw [if_pos rfl]
    exact wp_ret ⟨ok2, rs_l q2, Or.inl ⟨h1, rfl, O2⟩⟩
  · rw [if_neg (by decide)]
    refine wp_wr (wp_wr (wp_wr ?_))
    have e2 : w2.2 = w.2 := O2.2
    have C2 : patC w2 D l := by
      unfold patC
      rw [rs_rl q2 F.1 (by omega), rs_rl q2 F.2.2.1 (by omega), rs_rl q2 F.2.2.2.2.1 (by omega)]; exact C1
    have K0 : KD 0 ≠ 7 := by decide +kernel
    -- the state in the end
    generalize hw : setI (setD (setT w2 w2.2.2.1) w2.2.1) 0 11 1 = w6
    have h6 : w6.1 = (setI w2 0 11 1).1 := by rw [← hw]; rfl
    have h62 : w6.2 = (D, T, w.2.2.2) := by
      rw [← hw]
      show (w2.2.2.1, w2.2.1, w2.2.2.2) = _
      rw [e2, hT, hD]
    have ob : ∀ k, k ≠ 0 → w6.1 k = w2.1 k := fun k hk => by rw [h6]; funext b; rw [setI_at, if_neg (fun q => hk q.1)]
    have ok6 : okall w6 := okall_fr ok2 (fun o h7 => ob o (by rintro rfl; exact K0 h7))
    have r6 : ∀ o, 1 ≤ o → rl w6 o = rl w2 o := fun o h => rl_fr (ob o (by omega)) (ob (o + 1) (by omega))
    have C6 : patC w6 D l := by
      unfold patC
      rw [r6 _ (by omega), r6 _ (by omega), r6 _ (by omega)]; exact C2
    have t6 : w6.2.1 = D := by rw [h62]
    rw [t6]
    unfold f_X5_size
    refine wp_bd (wp_bd (s_size (ok6 _ F.2.2.1)) (fun x w7 q => wp_ret q)) ?_
    rintro x _ ⟨rfl, hx⟩
    rw [C6.2.1, List.length_map] at hx
    refine wp_ret ⟨ok6, by rw [r6 _ (by decide)]; exact rs_l q2, Or.inr ⟨l, x, h1, h8, rfl, hx, h62, fun k a b c d => ?_, fun j hj => ?_, ?_, C6⟩⟩
    · rw [ob k d]; exact O2.1 k (by omega)
    · rw [h6, setI_at, if_neg (fun q => hj q.2), O2.1 0 (by omega)]
    · rw [h6, setI_at, if_pos ⟨rfl, rfl⟩]; exact L.2.1
/-! bits of an Int32 -/
abbrev mk3 (m : Int32) (k : Nat) : Prop := m.toBitVec.getLsbD k = true
theorem sh3_all : ∀ n, n < 32 → ((1 : Int32) <<< ((Int32.ofNat n) &&& 31)).toBitVec = 1#32 <<< n := by decide +kernel
theorem sr3_all : ∀ n, n < 32 → ((Int32.ofNat n).toUInt32 &&& Int32.toUInt32 31).toBitVec % 32 = BitVec.ofNat 32 n := by decide +kernel
theorem mk3_or {m : Int32} {x : Int32} (h : 0 ≤ x.toInt ∧ x.toInt < 32) {k : Nat} (hk : k < 32) : mk3 (m ||| ((1 : Int32) <<< (x &&& 31))) k ↔ mk3 m k ∨ k = x.toInt.toNat := by
  have h1 := sh3_all x.toInt.toNat (by omega)
  rw [i_back h.1] at h1
  unfold mk3
  rw [Int32.toBitVec_or, h1, BitVec.getLsbD_or, BitVec.getLsbD_shiftLeft, BitVec.getLsbD_one]
  have hx : x.toInt.toNat < 32 := by omega
  generalize x.toInt.toNat = n at hx ⊢
  simp only [Bool.or_eq_true, Bool.and_eq_true, decide_eq_true_eq, Bool.not_eq_true', decide_eq_false_iff_not]
  constructor
  · rintro (a | ⟨⟨a, b⟩, c⟩)
    · exact Or.inl a
    · exact Or.inr (by omega)
  · rintro (a | a)
    · exact Or.inl a
    · exact Or.inr ⟨⟨hk, by omega⟩, by omega, by omega⟩
theorem mk3_zero {k : Nat} : ¬ mk3 0 k := by
  unfold mk3
  rw [show (0 : Int32).toBitVec = 0#32 from rfl, BitVec.getLsbD_zero]
  decide
theorem mk3_one {k : Nat} (hk : k < 32) : mk3 1 k ↔ k = 0 := by
  unfold mk3
  rw [show (1 : Int32).toBitVec = 1#32 from rfl, BitVec.getLsbD_one]
  simp
theorem mk3_none {m : Int32} (h : ∀ k, k < 32 → ¬ mk3 m k) : m = 0 := by
  apply Int32.toBitVec_inj.mp
  apply BitVec.eq_of_getLsbD_eq
  intro k hk
  have := h k hk
  unfold mk3 at this
  rw [show (0 : Int32).toBitVec = 0#32 from rfl, BitVec.getLsbD_zero]
  exact Bool.eq_false_iff.mpr this
theorem mk3_sr {m : Int32} {x : Int32} (h : 0 ≤ x.toInt ∧ x.toInt < 32) : (((m.toUInt32 >>> (x.toUInt32 &&& Int32.toUInt32 31)).toInt32) &&& (1 : Int32)) = 0 ↔ ¬ mk3 m x.toInt.toNat := by
  have h1 := sr3_all x.toInt.toNat (by omega)
  rw [i_back h.1] at h1
  have hx : x.toInt.toNat < 32 := by omega
  rw [← Int32.toBitVec_inj, Int32.toBitVec_and, UInt32.toBitVec_toInt32, UInt32.toBitVec_shiftRight, h1]
  generalize x.toInt.toNat = n at hx ⊢
  have e : (m.toUInt32.toBitVec >>> BitVec.ofNat 32 n) = m.toBitVec >>> n := by
    show m.toBitVec >>> (BitVec.ofNat 32 n).toNat = _
    rw [BitVec.toNat_ofNat, Nat.mod_eq_of_lt (by omega)]
  rw [e, show (1 : Int32).toBitVec = 1#32 from rfl, show (0 : Int32).toBitVec = 0#32 from rfl]
  unfold mk3
  constructor
  · intro q c
    have q2 := congrArg (fun b => b.getLsbD 0) q
    simp only [BitVec.getLsbD_and, BitVec.getLsbD_ushiftRight, BitVec.getLsbD_one, BitVec.getLsbD_zero, Nat.add_zero, c] at q2
    revert q2; decide
  · intro q
    apply BitVec.eq_of_getLsbD_eq
    intro k hk
    rw [BitVec.getLsbD_and, BitVec.getLsbD_ushiftRight, BitVec.getLsbD_one, BitVec.getLsbD_zero]
    by_cases c : k = 0
    · subst c
      rw [Nat.add_zero, Bool.eq_false_iff.mpr q]
      rfl
    · rw [show decide (k = 0) = false from decide_eq_false c]
      simp
/-! what fits -/
def cpt (tab : Nat → Int) (x : Int) : Prop := ∃ k : Nat, k < 96 ∧ (k : Int) ≠ x ∧ (tab (9 * k + 6) = x + 1 ∨ tab (9 * k + 7) = x + 1)
def inB (tab : Nat → Int) (c x : Int) : Prop := if 100 ≤ c then x = c - 100 else if c = 6 then cpt tab x else if c = 0 then True else tab (9 * x.toNat + 2) = (if c = 5 then 6 else c)
def inS (tab : Nat → Int) (s x : Int) : Prop := if s < 0 then ¬ inB tab (-1 - s) x else inB tab s x
def tks (tab : Nat → Int) (l : List Int) (P : List PC) (k n : Nat) : Prop := k < l.length ∧ inS tab (pg P n).2.1 (gt l k) ∧ ((pg P n).1 = 999 ∨ (0 < k ∧ inS tab (pg P n).1 (gt l ((k : Int) - 1))))
def rs2 (base T : Nat → Prop) (rep : Int) : Nat → Prop
  | 0 => 0 < rep ∧ base 0
  | k + 1 => (0 < rep ∧ base (k + 1)) ∨ (T k ∧ (base k ∨ (rep = 2 ∧ rs2 base T rep k)))
/-- the places that can be come upon behind so many pieces -/
def rch (tab : Nat → Int) (l : List Int) (P : List PC) (a : Nat) : Nat → Nat → Prop
  | 0 => fun k => k = a
  | n + 1 => rs2 (rch tab l P a n) (fun k => tks tab l P k n) (pg P n).2.2
theorem rch_s {tab : Nat → Int} {l : List Int} {P : List PC} {a n k : Nat} : rch tab l P a (n + 1) (k + 1) ↔ (0 < (pg P n).2.2 ∧ rch tab l P a n (k + 1)) ∨ (tks tab l P k n ∧ (rch tab l P a n k ∨ ((pg P n).2.2 = 2 ∧ rch tab l P a (n + 1) k))) := by
  show rs2 _ _ _ (k + 1) ↔ _
  rw [rs2]; exact Iff.rfl
theorem rch_up {tab : Nat → Int} {l : List Int} {P : List PC} {a n k : Nat} (h : rch tab l P a n k) (g : 0 < (pg P n).2.2) : rch tab l P a (n + 1) k := by
  cases k with
  | zero => exact ⟨g, h⟩
  | succ k => exact rch_s.mpr (Or.inl ⟨g, h⟩)
theorem rch_ge {tab : Nat → Int} {l : List Int} {P : List PC} {a : Nat} : ∀ (n k : Nat), rch tab l P a n k → a ≤ k := by
  intro n
  induction n with
  | zero => intro k h; exact Nat.le_of_eq h.symm
  | succ n ih =>
    intro k
    induction k with
    | zero => intro h; exact ih 0 h.2
    | succ k ik =>
      intro h
      rcases rch_s.mp h with q | ⟨_, q | q⟩
      · exact ih _ q.2
      · have := ih _ q; omega
      · have := ik q.2; omega
theorem rch_le {tab : Nat → Int} {l : List Int} {P : List PC} {a : Nat} (ha : a ≤ l.length) : ∀ (n k : Nat), rch tab l P a n k → k ≤ l.length := by
  intro n
  induction n with
  | zero => intro k h; have : k = a := h; omega
  | succ n ih =>
    intro k h
    cases k with
    | zero => exact Nat.zero_le _
    | succ k =>
      rcases rch_s.mp h with q | ⟨q, _⟩
      · exact ih _ q.2
      · exact q.1
/-- where the class is: a piece that repeats is not left -/
def rq (tab : Nat → Int) (l : List Int) (P : List PC) (a n k : Nat) : Prop := (n < P.length ∧ (pg P n).2.2 = 2 ∧ rch tab l P a (n + 1) k) ∨ (¬ (n < P.length ∧ (pg P n).2.2 = 2) ∧ rch tab l P a n k)
theorem rq_2 {tab : Nat → Int} {l : List Int} {P : List PC} {a n k : Nat} (h : n < P.length ∧ (pg P n).2.2 = 2) : rq tab l P a n k ↔ rch tab l P a (n + 1) k :=
  ⟨fun q => q.elim (fun z => z.2.2) (fun z => absurd h z.1), fun q => Or.inl ⟨h.1, h.2, q⟩⟩
theorem rq_n {tab : Nat → Int} {l : List Int} {P : List PC} {a n k : Nat} (h : ¬ (n < P.length ∧ (pg P n).2.2 = 2)) : rq tab l P a n k ↔ rch tab l P a n k :=
  ⟨fun q => q.elim (fun z => absurd ⟨z.1, z.2.1⟩ h) (fun z => z.2), fun q => Or.inr ⟨h, q⟩⟩
/-- with what may be left out -/
def skp (P : List PC) (b : Nat → Prop) : Nat → Prop
  | 0 => b 0
  | n + 1 => b (n + 1) ∨ (n < P.length ∧ 0 < (pg P n).2.2 ∧ skp P b n)
theorem skp_s {P : List PC} {b : Nat → Prop} {n : Nat} : skp P b (n + 1) ↔ b (n + 1) ∨ (n < P.length ∧ 0 < (pg P n).2.2 ∧ skp P b n) := by rw [skp]
def bhd (tab : Nat → Int) (l : List Int) (P : List PC) (S : Nat → Prop) (i n : Nat) : Prop := ∃ j : Nat, j < P.length ∧ S j ∧ tks tab l P i j ∧ (((pg P j).2.2 = 2 ∧ n = j) ∨ ((pg P j).2.2 ≠ 2 ∧ n = j + 1))
def pok (P : List PC) : Prop := P.length ≤ 8 ∧ ∀ n : Nat, n < P.length → ((pg P n).2.2 = 0 ∨ (pg P n).2.2 = 1 ∨ (pg P n).2.2 = 2) ∧ scd (pg P n).2.1 ∧ ((pg P n).1 = 999 ∨ scd (pg P n).1)
theorem rq_0 {tab : Nat → Int} {l : List Int} {P : List PC} {a : Nat} (hP : pok P) : ∀ n : Nat, n ≤ P.length → (rq tab l P a n a ↔ skp P (fun k => k = 0) n) := by
  have none : ∀ n j : Nat, j + 1 = a → ¬ rch tab l P a n j := fun n j h q => by have := rch_ge n j q; omega
  have up : ∀ n : Nat, rch tab l P a (n + 1) a ↔ 0 < (pg P n).2.2 ∧ rch tab l P a n a := by
    intro n
    cases a with
    | zero => exact Iff.rfl
    | succ a =>
      rw [rch_s]
      exact ⟨fun q => q.elim id (fun z => z.2.elim (fun y => absurd y (none n a rfl)) (fun y => absurd y.2 (none (n + 1) a rfl))), Or.inl⟩
  have R : ∀ n : Nat, n ≤ P.length → (rq tab l P a n a ↔ rch tab l P a n a) := by
    intro n _
    by_cases c : n < P.length ∧ (pg P n).2.2 = 2
    · rw [rq_2 c, up, c.2]
      exact ⟨fun q => q.2, fun q => ⟨by decide, q⟩⟩
    · rw [rq_n c]
  intro n
  induction n with
  | zero =>
    intro h
    rw [R 0 h]
    exact ⟨fun _ => rfl, fun _ => rfl⟩
  | succ n ih =>
    intro h
    rw [R _ h, up, skp_s, ← ih (by omega), R n (by omega)]
    exact ⟨fun q => Or.inr ⟨by omega, q⟩, fun q => q.elim (fun z => absurd z (Nat.succ_ne_zero n)) (fun z => z.2)⟩
theorem rq_s {tab : Nat → Int} {l : List Int} {P : List PC} {a i : Nat} (hP : pok P) (hi : a ≤ i) : ∀ n : Nat, n ≤ P.length → (rq tab l P a n (i + 1) ↔ skp P (bhd tab l P (fun j => rq tab l P a j i) i) n) := by
  intro n
  induction n with
  | zero =>
    intro h
    have r0 : ¬ rch tab l P a 0 (i + 1) := fun q => by have : i + 1 = a := q; omega
    show _ ↔ bhd tab l P (fun j => rq tab l P a j i) i 0
    by_cases c : 0 < P.length ∧ (pg P 0).2.2 = 2
    · rw [rq_2 c, rch_s]
      constructor
      · rintro (q | ⟨t, q | q⟩)
        · exact absurd q.2 r0
        · exact ⟨0, c.1, (rq_2 c).mpr (rch_up q (by omega)), t, Or.inl ⟨c.2, rfl⟩⟩
        · exact ⟨0, c.1, (rq_2 c).mpr q.2, t, Or.inl ⟨c.2, rfl⟩⟩
      · rintro ⟨j, h1, h2, h3, h4 | h4⟩
        · obtain ⟨_, rfl⟩ := h4
          exact Or.inr ⟨h3, Or.inr ⟨c.2, (rq_2 c).mp h2⟩⟩
        · omega
    · rw [rq_n c]
      constructor
      · exact fun q => absurd q r0
      · rintro ⟨j, h1, h2, h3, h4 | h4⟩
        · obtain ⟨h5, rfl⟩ := h4
          exact absurd ⟨h1, h5⟩ c
        · omega
  | succ n ih =>
    intro h
    have I := ih (by omega)
    have V := (hP.2 n (by omega)).1
    rw [skp_s, ← I]
    -- behind the piece ahead
    have A : ((rq tab l P a n i ∧ tks tab l P i n ∧ (pg P n).2.2 ≠ 2) ∨ (0 < (pg P n).2.2 ∧ rq tab l P a n (i + 1))) ↔ rch tab l P a (n + 1) (i + 1) := by
      by_cases c2 : (pg P n).2.2 = 2
      · rw [rq_2 (k := i + 1) ⟨by omega, c2⟩]
        exact ⟨fun q => q.elim (fun z => absurd c2 z.2.2) (fun z => z.2), fun q => Or.inr ⟨by omega, q⟩⟩
      · rw [rq_n (k := i) (fun z => c2 z.2), rq_n (k := i + 1) (fun z => c2 z.2), rch_s]
        exact ⟨fun q => q.elim (fun z => Or.inr ⟨z.2.1, Or.inl z.1⟩) (fun z => Or.inl z), fun q => q.elim Or.inr (fun z => Or.inl ⟨z.2.elim id (fun y => absurd y.1 c2), z.1, c2⟩)⟩
    have B : bhd tab l P (fun j => rq tab l P a j i) i (n + 1) ↔ (n + 1 < P.length ∧ (pg P (n + 1)).2.2 = 2 ∧ rq tab l P a (n + 1) i ∧ tks tab l P i (n + 1)) ∨ (rq tab l P a n i ∧ tks tab l P i n ∧ (pg P n).2.2 ≠ 2) := by
      constructor
      · rintro ⟨j, h1, h2, h3, h4 | h4⟩
        · obtain ⟨h5, rfl⟩ := h4
          exact Or.inl ⟨h1, h5, h2, h3⟩
        · obtain ⟨h5, h6⟩ := h4
          have : j = n := by omega
          subst this
          exact Or.inr ⟨h2, h3, h5⟩
      · rintro (⟨h1, h2, h3, h4⟩ | ⟨h1, h2, h3⟩)
        · exact ⟨n + 1, h1, h3, h4, Or.inl ⟨h2, rfl⟩⟩
        · exact ⟨n, by omega, h1, h2, Or.inr ⟨h3, rfl⟩⟩
    have C : (bhd tab l P (fun j => rq tab l P a j i) i (n + 1) ∨ (n < P.length ∧ 0 < (pg P n).2.2 ∧ rq tab l P a n (i + 1))) ↔ (n + 1 < P.length ∧ (pg P (n + 1)).2.2 = 2 ∧ rq tab l P a (n + 1) i ∧ tks tab l P i (n + 1)) ∨ rch tab l P a (n + 1) (i + 1) := by
      rw [B, ← A]
      constructor
      · rintro ((q | q) | q)
        · exact Or.inl q
        · exact Or.inr (Or.inl q)
        · exact Or.inr (Or.inr q.2)
      · rintro (q | q | q)
        · exact Or.inl (Or.inl q)
        · exact Or.inl (Or.inr q)
        · exact Or.inr ⟨by omega, q⟩
    rw [C]
    by_cases c : n + 1 < P.length ∧ (pg P (n + 1)).2.2 = 2
    · rw [rq_2 (k := i + 1) c, rq_2 (k := i) c, rch_s]
      constructor
      · rintro (q | ⟨t, q | q⟩)
        · exact Or.inr q.2
        · exact Or.inl ⟨c.1, c.2, rch_up q (by omega), t⟩
        · exact Or.inl ⟨c.1, c.2, q.2, t⟩
      · rintro (q | q)
        · exact Or.inr ⟨q.2.2.2, Or.inr ⟨c.2, q.2.2.1⟩⟩
        · exact Or.inl ⟨by omega, q⟩
    · rw [rq_n (k := i + 1) c]
      exact ⟨Or.inr, fun q => q.elim (fun z => absurd ⟨z.1, z.2.1⟩ c) id⟩
/-- nothing is left where nothing is -/
theorem rq_none {tab : Nat → Int} {l : List Int} {P : List PC} {a i : Nat} (hP : pok P) (hi : a ≤ i) (h : ∀ n, n ≤ P.length → ¬ rq tab l P a n i) : ∀ d n : Nat, n ≤ P.length → ¬ rq tab l P a n (i + d) := by
  intro d
  induction d with
  | zero => exact h
  | succ d ih =>
    intro n hn
    rw [show i + (d + 1) = i + d + 1 by omega, rq_s hP (by omega) n hn]
    have nb : ∀ n, ¬ bhd tab l P (fun j => rq tab l P a j (i + d)) (i + d) n := by
      rintro n ⟨j, h1, h2, _⟩
      exact ih j (by omega) h2
    clear hn
    induction n with
    | zero => exact nb 0
    | succ n ik => rw [skp_s]; exact fun q => q.elim (nb _) (fun z => ik z.2.2)
theorem rq_end {tab : Nat → Int} {l : List Int} {P : List PC} {a k : Nat} : rq tab l P a P.length k ↔ rch tab l P a P.length k := rq_n (fun q => Nat.lt_irrefl _ q.1)
/-- the last place of all that are so -/
def lastOf (b : Nat → Prop) (N : Nat) (e : Int) : Prop := (e = -1 ∧ ∀ k : Nat, k < N → ¬ b k) ∨ (∃ k : Nat, k < N ∧ e = k ∧ b k ∧ ∀ j : Nat, k < j → j < N → ¬ b j)
theorem lastOf_s {b : Nat → Prop} {N : Nat} {e : Int} (h : lastOf b N e) (g : ¬ b N) : lastOf b (N + 1) e := by
  rcases h with ⟨h1, h2⟩ | ⟨k, h1, h2, h3, h4⟩
  · refine Or.inl ⟨h1, fun k hk => ?_⟩
    by_cases c : k = N
    · rw [c]; exact g
    · exact h2 k (by omega)
  · refine Or.inr ⟨k, by omega, h2, h3, fun j h5 h6 => ?_⟩
    by_cases c : j = N
    · rw [c]; exact g
    · exact h4 j h5 (by omega)
theorem lastOf_y {b : Nat → Prop} {N : Nat} (g : b N) : lastOf b (N + 1) N := Or.inr ⟨N, by omega, rfl, g, fun j h1 h2 => by omega⟩
theorem lastOf_up {b : Nat → Prop} {N M : Nat} {e : Int} (h : lastOf b N e) (hM : N ≤ M) (g : ∀ k, N ≤ k → k < M → ¬ b k) : lastOf b M e := by
  rcases h with ⟨h1, h2⟩ | ⟨k, h1, h2, h3, h4⟩
  · refine Or.inl ⟨h1, fun k hk => ?_⟩
    by_cases c : k < N
    · exact h2 k c
    · exact g k (by omega) hk
  · refine Or.inr ⟨k, by omega, h2, h3, fun j h5 h6 => ?_⟩
    by_cases c : j < N
    · exact h4 j h5 c
    · exact g j (by omega) h6
theorem lastOf_u {b : Nat → Prop} {N : Nat} {e f : Int} (h : lastOf b N e) (g : lastOf b N f) : e = f := by
  rcases h with ⟨h1, h2⟩ | ⟨k, h1, h2, h3, h4⟩
  · rcases g with ⟨g1, g2⟩ | ⟨j, g1, g2, g3, g4⟩
    · omega
    · exact absurd g3 (h2 j g1)
  · rcases g with ⟨g1, g2⟩ | ⟨j, g1, g2, g3, g4⟩
    · exact absurd h3 (g2 k h1)
    · rcases Nat.lt_trichotomy k j with z | z | z
      · exact absurd g3 (h4 j z g1)
      · omega
      · exact absurd h3 (g4 k z h1)
/-- what a tape gives keeps to it -/
theorem prs_ok {tp : List Int} : ∀ (f : Nat) (p : Int) (m : Nat) (l : List PC), prs tp f p m = some l → m ≤ 8 → m + l.length ≤ 8 ∧ ∀ n : Nat, n < l.length → ((pg l n).2.2 = 0 ∨ (pg l n).2.2 = 1 ∨ (pg l n).2.2 = 2) ∧ scd (pg l n).2.1 ∧ ((pg l n).1 = 999 ∨ scd (pg l n).1) := by
  intro f
  induction f with
  | zero => intro p m l h; cases h
  | succ f ih =>
    intro p m l h hm
    by_cases c : tp.length ≤ p
    · rw [prs_end c] at h
      cases h
      exact ⟨by simpa using hm, fun n hn => absurd hn (Nat.not_lt_zero _)⟩
    · by_cases d : pcB tp p = -1000 ∨ pcS tp p = -1000 ∨ m = 8
      · rw [prs_bad c d] at h; cases h
      · rw [prs_in c d] at h
        cases hr : prs tp f (pcN tp p) (m + 1) with
        | none => rw [hr] at h; cases h
        | some l2 =>
          rw [hr, Option.map_some] at h
          have e := Option.some.inj h
          subst e
          have I := ih _ _ l2 hr (by omega)
          refine ⟨by rw [List.length_cons]; omega, fun n hn => ?_⟩
          cases n with
          | zero =>
            show (pcT tp p = 0 ∨ pcT tp p = 1 ∨ pcT tp p = 2) ∧ scd (pcS tp p) ∧ (pcB tp p = 999 ∨ scd (pcB tp p))
            have d1 : pcB tp p ≠ -1000 := fun q => d (Or.inl q)
            have d2 : pcS tp p ≠ -1000 := fun q => d (Or.inr (Or.inl q))
            refine ⟨?_, (rdS_rng tp (pcQ tp p)).elim (fun q => absurd q d2) id, ?_⟩
            · unfold pcT rpt
              split
              · exact Or.inr (Or.inr rfl)
              · split
                · exact Or.inr (Or.inl rfl)
                · exact Or.inl rfl
            · unfold pcB at d1 ⊢
              split
              · rename_i q
                rw [if_pos q] at d1
                exact Or.inr ((rdS_rng tp (p + 1)).elim (fun z => absurd z d1) id)
              · exact Or.inl rfl
          | succ n => exact I.2 n (by rw [List.length_cons] at hn; omega)
theorem pat_ok {tp : List Int} {l : List PC} (h : pat tp = some l) : pok l := by
  have := prs_ok 200 0 0 l h (by decide)
  exact ⟨by omega, this.2⟩

