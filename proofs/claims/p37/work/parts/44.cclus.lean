/-! ===== clusters ===== -/
/-- bit k of a set of places -/
abbrev mk (m : Int64) (k : Nat) : Prop := m.toBitVec.getLsbD k = true
theorem sh_all : ∀ n, n < 64 → ((1 : Int64) <<< ((Int32.ofNat n).toInt64 &&& 63)).toBitVec = 1#64 <<< n := by decide +kernel
theorem sr_all : ∀ n, n < 64 → ((Int32.ofNat n).toInt64.toUInt64 &&& Int64.toUInt64 63).toBitVec % 64 = BitVec.ofNat 64 n := by decide +kernel
theorem i_back {x : Int32} (h : 0 ≤ x.toInt) : Int32.ofNat x.toInt.toNat = x := by
  have h2 := i_rng x
  rw [i_eq, i_ofNat (by omega)]; omega
theorem sh_at {x : Int32} (h : 0 ≤ x.toInt ∧ x.toInt < 64) : ((1 : Int64) <<< (x.toInt64 &&& 63)).toBitVec = 1#64 <<< x.toInt.toNat := by
  have h1 := sh_all x.toInt.toNat (by omega)
  rw [i_back h.1] at h1
  exact h1
theorem mk_or {m : Int64} {x : Int32} (h : 0 ≤ x.toInt ∧ x.toInt < 64) {k : Nat} (hk : k < 64) : mk (m ||| ((1 : Int64) <<< (x.toInt64 &&& 63))) k ↔ mk m k ∨ k = x.toInt.toNat := by
  unfold mk
  rw [Int64.toBitVec_or, sh_at h, BitVec.getLsbD_or, BitVec.getLsbD_shiftLeft, BitVec.getLsbD_one]
  have hx : x.toInt.toNat < 64 := by omega
  generalize x.toInt.toNat = n at hx ⊢
  simp only [Bool.or_eq_true, Bool.and_eq_true, decide_eq_true_eq, Bool.not_eq_true', decide_eq_false_iff_not]
  constructor
  · rintro (a | ⟨⟨a, b⟩, c⟩)
    · exact Or.inl a
    · exact Or.inr (by omega)
  · rintro (a | a)
    · exact Or.inl a
    · exact Or.inr ⟨⟨hk, by omega⟩, by omega, by omega⟩
theorem mk_zero {k : Nat} : ¬ mk 0 k := by
  unfold mk
  rw [show (0 : Int64).toBitVec = 0#64 from rfl, BitVec.getLsbD_zero]
  decide
theorem mk_ext {m n : Int64} (h : ∀ k, k < 64 → (mk m k ↔ mk n k)) : m = n := by
  apply Int64.toBitVec_inj.mp
  apply BitVec.eq_of_getLsbD_eq
  intro k hk
  have := h k hk
  unfold mk at this
  exact Bool.eq_iff_iff.mpr this
theorem lg0 (a : Int64) : lg_cmp a 0 = 0 ↔ a = 0 := by
  unfold lg_cmp
  by_cases h : a = 0
  · subst h; decide
  · by_cases g : a > 0
    · rw [if_pos g]; exact ⟨fun q => absurd q (by decide), fun q => absurd q h⟩
    · rw [if_neg g, if_neg h]; exact ⟨fun q => absurd q (by decide), fun q => absurd q h⟩
theorem mk_sr {m : Int64} {x : Int32} (h : 0 ≤ x.toInt ∧ x.toInt < 64) : (((m.toUInt64 >>> (x.toInt64.toUInt64 &&& Int64.toUInt64 63)).toInt64) &&& (1 : Int64)) = 0 ↔ ¬ mk m x.toInt.toNat := by
  have h1 := sr_all x.toInt.toNat (by omega)
  rw [i_back h.1] at h1
  have hx : x.toInt.toNat < 64 := by omega
  rw [← Int64.toBitVec_inj, Int64.toBitVec_and, UInt64.toBitVec_toInt64, UInt64.toBitVec_shiftRight, h1]
  generalize x.toInt.toNat = n at hx ⊢
  have e : (m.toUInt64.toBitVec >>> BitVec.ofNat 64 n) = m.toBitVec >>> n := by
    show m.toBitVec >>> (BitVec.ofNat 64 n).toNat = _
    rw [BitVec.toNat_ofNat, Nat.mod_eq_of_lt (by omega)]
  rw [e, show (1 : Int64).toBitVec = 1#64 from rfl, show (0 : Int64).toBitVec = 0#64 from rfl]
  unfold mk
  constructor
  · intro q c
    have q2 := congrArg (fun b => b.getLsbD 0) q
    simp only [BitVec.getLsbD_and, BitVec.getLsbD_ushiftRight, BitVec.getLsbD_one, BitVec.getLsbD_zero, Nat.add_zero, c] at q2
    revert q2; decide
  · intro q
    apply BitVec.eq_of_getLsbD_eq
    intro k hk
    rw [BitVec.getLsbD_and, BitVec.getLsbD_ushiftRight, BitVec.getLsbD_one, BitVec.getLsbD_zero]
    by_cases c : k = 0
    · subst c
      rw [Nat.add_zero, Bool.eq_false_iff.mpr q]
      rfl
    · rw [show decide (k = 0) = false from decide_eq_false c]
      simp
theorem e_isMarked {m : Int64} {x : Int32} {w : Wd} (h : x.toInt < 64) : f_X0_isMarked m x w = some (zo (0 < x.toInt ∧ mk m x.toInt.toNat), w) := by
  have L := LIT
  have e64 : (64 : Int32).toInt = 64 := by decide
  unfold f_X0_isMarked zo
  by_cases c : 0 < x.toInt
  · rw [if_neg (by rw [Int32.le_iff_toInt_le]; omega), if_neg (by rw [Int32.le_iff_toInt_le]; omega)]
    by_cases d : mk m x.toInt.toNat
    · rw [if_neg (fun q => (mk_sr ⟨by omega, h⟩).mp ((lg0 _).mp q) d), if_pos ⟨c, d⟩]
    · rw [if_pos ((lg0 _).mpr ((mk_sr ⟨by omega, h⟩).mpr d)), if_neg (fun q => d q.2)]
  · rw [if_pos (by rw [Int32.le_iff_toInt_le]; omega), if_neg (fun q => c q.1)]
/-- the kind of a letter of a text; whether a cluster begins at it -/
def kd (tab : Nat → Int) (l : List Int) (k : Int) : Int := tab (9 * (gt l k).toNat + 2)
abbrev icl (tab : Nat → Int) (l : List Int) (k : Int) : Prop := k = 0 ∨ (kd tab l k ≠ 2 ∧ kd tab l (k - 1) ≠ 5)
abbrev ied (tab : Nat → Int) (l : List Int) (k : Int) : Prop := k = l.length ∨ icl tab l k
def bits (m : Int64) (P : Nat → Prop) : Prop := ∀ k, k < 64 → (mk m k ↔ P k)
/-- the set of clusters of a text -/
abbrev clb (tab : Nat → Int) (l : List Int) (m : Int64) : Prop := bits m (fun k => 0 < k ∧ k < l.length ∧ icl tab l k)
def lok40 (l : List Int) : Prop := l.length ≤ 40 ∧ ∀ x ∈ l, 0 ≤ x ∧ x ≤ 95
theorem lok_gt {l : List Int} (h : lok40 l) {k : Int} (h0 : 0 ≤ k) (hk : k < l.length) : 0 ≤ gt l k ∧ gt l k ≤ 95 := by
  rw [gt_in h0, List.getD_eq_getElem?_getD, List.getElem?_eq_getElem (by omega)]
  exact h.2 _ (List.getElem_mem _)
theorem s_kindAt {w : Wd} {tab : Nat → Int} {o : Nat} {v : Int32} (h : trel w 1 tab) (ho : okr w o) (hl : lok40 (rl w o)) (hv : 0 ≤ v.toInt ∧ v.toInt < (rl w o).length) :
    Wp (f_X0_kindAt o v w) (fun x w' => w = w' ∧ x.toInt = kd tab (rl w o) v.toInt) := by
  unfold f_X0_kindAt
  refine wp_bd (s_get ho) ?_
  rintro x _ ⟨rfl, hx⟩
  have g := lok_gt hl hv.1 hv.2
  refine wp_bd (s_kindOf (by decide +kernel) (by omega) (by omega) h) ?_
  rintro y _ ⟨rfl, hy⟩
  refine wp_ret ⟨rfl, ?_⟩
  rw [hy, hx]; rfl
theorem s_clusterBreaks {w : Wd} {tab : Nat → Int} {o : Nat} (h : trel w 1 tab) (ho : okr w o) (hl : lok40 (rl w o)) :
    Wp (f_X0_clusterBreaks o w) (fun m w' => w = w' ∧ clb tab (rl w o) m) := by
  have L := LIT
  have h40 := hl.1
  unfold f_X0_clusterBreaks f_X0_clusterBreaks_5
  rw [FUv]
  refine wp_loop (fun σ : Nat × Int64 × Int32 × Wd => σ.1 = o ∧ σ.2.2.2 = w ∧ 1 ≤ σ.2.2.1.toInt ∧ (σ.2.2.1.toInt = 1 ∨ σ.2.2.1.toInt ≤ (rl w o).length) ∧ bits σ.2.1 (fun k => 0 < k ∧ (k : Int) < σ.2.2.1.toInt ∧ icl tab (rl w o) k)) (fun σ => 50 - σ.2.2.1.toInt.toNat) ?_ 100000 _ ⟨rfl, rfl, by dsimp only; omega, Or.inl L.2.1, fun k hk => ?_⟩ (by dsimp only; omega)
  · rintro rc ⟨o', m, i, u0⟩ ⟨rfl, rfl, hi, hi2, hb⟩ ih
    dsimp only at hi hi2 hb h40 hl ho h ⊢
    unfold g_X0_clusterBreaks_5
    refine wp_bd (s_size ho) ?_
    rintro n _ ⟨rfl, hn⟩
    refine wp_ifle (fun q => wp_ret ⟨rfl, fun k hk => ?_⟩) (fun q => ?_)
    · rw [hb k hk]
      constructor
      · rintro ⟨a, b, c⟩; exact ⟨a, by omega, c⟩
      · rintro ⟨a, b, c⟩; exact ⟨a, by omega, c⟩
    · have no : ∀ k : Nat, (k : Int) = i.toInt → ¬ icl tab (rl u0 o') k → bits m (fun k => 0 < k ∧ (k : Int) < i.toInt + 1 ∧ icl tab (rl u0 o') k) := by
        intro k0 hk0 hno k hk
        rw [hb k hk]
        constructor
        · rintro ⟨a, b, c⟩; exact ⟨a, by omega, c⟩
        · rintro ⟨a, b, c⟩
          refine ⟨a, ?_, c⟩
          by_cases e : k = k0
          · exact absurd (e ▸ c) hno
          · omega
      have ci : ((i.toInt.toNat : Nat) : Int) = i.toInt := by omega
      refine wp_bd (s_kindAt h ho hl (by omega)) ?_
      rintro x _ ⟨rfl, hx⟩
      refine wp_ifeq (fun q2 => wp_add (by omega) (fun z hz => ih _ ⟨rfl, rfl, by dsimp only; omega, by dsimp only; omega, ?_⟩ (by dsimp only; omega))) (fun q2 => ?_)
      · dsimp only
        rw [hz, L.2.1]
        refine no _ ci (fun c => ?_)
        rw [ci] at c
        rcases c with c | c
        · omega
        · exact c.1 (by omega)
      have hs1 : (i - 1).toInt = i.toInt - 1 := by rw [i_sub (by omega), L.2.1]
      refine wp_bd (s_kindAt h ho hl (by omega)) ?_
      rintro y _ ⟨rfl, hy⟩
      rw [hs1] at hy
      refine wp_ifeq (fun q3 => wp_add (by omega) (fun z hz => ih _ ⟨rfl, rfl, by dsimp only; omega, by dsimp only; omega, ?_⟩ (by dsimp only; omega))) (fun q3 => wp_lt (fun u hu => wp_add (by omega) (fun z hz => ih _ ⟨rfl, rfl, by dsimp only; omega, by dsimp only; omega, ?_⟩ (by dsimp only; omega))))
      · dsimp only
        rw [hz, L.2.1]
        refine no _ ci (fun c => ?_)
        rw [ci] at c
        rcases c with c | c
        · omega
        · exact c.2 (by omega)
      · dsimp only
        intro k hk
        rw [hu, mk_or (by omega) hk, hb k hk, hz, L.2.1]
        constructor
        · rintro (⟨a, b, c⟩ | a)
          · exact ⟨a, by omega, c⟩
          · refine ⟨by omega, by omega, Or.inr ?_⟩
            rw [a, ci]
            exact ⟨by omega, by omega⟩
        · rintro ⟨a, b, c⟩
          by_cases e : k = i.toInt.toNat
          · exact Or.inr e
          · exact Or.inl ⟨a, by omega, c⟩
  · refine ⟨fun q => absurd q mk_zero, ?_⟩
    rintro ⟨a, b, c⟩
    dsimp only at b
    omega
theorem e_isBeginning {tab : Nat → Int} {l : List Int} {m : Int64} {x : Int32} {w : Wd} (hm : clb tab l m) (h : 0 ≤ x.toInt) (h2 : x.toInt < l.length) (h3 : l.length ≤ 40) : f_X0_isBeginning m x w = some (zo (icl tab l x.toInt), w) := by
  have L := LIT
  unfold f_X0_isBeginning
  by_cases c : x.toInt = 0
  · rw [if_pos (i_eq.mpr (by omega))]
    unfold zo
    rw [if_pos (Or.inl c)]
  · rw [if_neg (fun q => c (by rw [i_eq] at q; omega)), e_isMarked (by omega), bd_r, ite_zo]
    have hb := hm x.toInt.toNat (by omega)
    have ci : ((x.toInt.toNat : Nat) : Int) = x.toInt := by omega
    dsimp only at hb
    rw [ci] at hb
    unfold zo
    by_cases d : icl tab l x.toInt
    · rw [if_pos ⟨by omega, hb.mpr ⟨by omega, by omega, d⟩⟩, if_pos d]
    · rw [if_neg (fun q => d (hb.mp q.2).2.2), if_neg d]
