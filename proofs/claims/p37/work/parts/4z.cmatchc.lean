/-! ===== patterns: the class matches ===== -/
def prow (d : Nat) (w w' : Wd) : Prop := oc (fun k => k = d + 7 ∨ k = d + 8) w w' ∧ okall w'
section
variable {w : Wd} {d : Nat} {tab : Nat → Int} {P : List PC} {l : List Int}
/-- letters that are in a capital form are marked -/
def capC (w : Wd) (d : Nat) (tab : Nat → Int) : Prop := ∀ x : Nat, x < 96 → (gt (rl w (d + 7)) x = 1 ↔ cpt tab x)
theorem s_capitals (hd : KD d = 5) (hk : tok tab) (h : trel w 1 tab) (ho : okall w) :
    Wp (f_X9_capitalsInto 1 (d + 7) w) (fun _ w' => prow d w w' ∧ capC w' d tab) := by
  have L := LIT
  have F := pat_facts d hd
  have K7 := F.2.2.2.2.2.2.1
  have l96 : (96 : Int32).toInt = 96 := by decide
  unfold f_X9_capitalsInto
  refine wp_bd (s_refill (ho _ K7) (by omega) (by omega)) ?_
  rintro _ w1 q1
  have T1 : ∀ {u : Wd}, prow d w u → trel u 1 tab := fun h2 => trel_fr hk h (fun k _ b => h2.1.1 k (by omega))
  have P1 : prow d w w1 := ⟨oc_rs q1 (Or.inl rfl) (Or.inr (by omega)), okall_rs ho q1⟩
  unfold f_X9_capitalsInto_9
  rw [FUv]
  -- what is marked so far
  refine wp_loop (fun σ : Nat × Nat × Int32 × Wd => σ.1 = 1 ∧ σ.2.1 = d + 7 ∧ prow d w σ.2.2.2 ∧ 0 ≤ σ.2.2.1.toInt ∧ σ.2.2.1.toInt ≤ 96 ∧ (rl σ.2.2.2 (d + 7)).length = 96 ∧ ∀ x : Nat, x < 96 → (gt (rl σ.2.2.2 (d + 7)) x = 1 ↔ ∃ k : Nat, (k : Int) < σ.2.2.1.toInt ∧ (k : Int) ≠ x ∧ (tab (9 * k + 6) = x + 1 ∨ tab (9 * k + 7) = x + 1)))
    (fun σ => (97 - σ.2.2.1.toInt).toNat) ?_ 100000 _ ⟨rfl, rfl, P1, by dsimp only; omega, by dsimp only; omega, by dsimp only; rw [rs_l q1, List.length_replicate]; omega, fun x hx => ?_⟩ (by dsimp only; omega)
  · rintro rc ⟨a, b, k, u⟩ ⟨rfl, rfl, V, hk0, hk1, hl, hm⟩ ih
    dsimp only at *
    unfold g_X9_capitalsInto_9
    refine wp_ifle (fun c => wp_ret ⟨V, fun x hx => ?_⟩) (fun c => ?_)
    · rw [hm x hx]
      exact ⟨fun ⟨k2, g1, g2, g3⟩ => ⟨k2, by omega, g2, g3⟩, fun ⟨k2, g1, g2, g3⟩ => ⟨k2, by omega, g2, g3⟩⟩
    have ck : ((k.toInt.toNat : Nat) : Int) = k.toInt := by omega
    have LK := (hk.1 k.toInt.toNat (by omega)).2.2.2.2.2.1
    refine wp_bd (s_capitalOneOf (by decide +kernel) hk0 (by omega) (T1 V)) ?_
    rintro o1 _ ⟨rfl, h1⟩
    refine wp_bd (s_capitalOtherOf (by decide +kernel) hk0 (by omega) (T1 V)) ?_
    rintro o2 _ ⟨rfl, h2⟩
    -- the second one
    have sec : ∀ (u2 : Wd), prow d w u2 → (rl u2 (d + 7)).length = 96 → (∀ x : Nat, x < 96 → (gt (rl u2 (d + 7)) x = 1 ↔ (∃ k2 : Nat, (k2 : Int) < k.toInt ∧ (k2 : Int) ≠ x ∧ (tab (9 * k2 + 6) = x + 1 ∨ tab (9 * k2 + 7) = x + 1)) ∨ (k.toInt ≠ x ∧ tab (9 * k.toInt.toNat + 6) = x + 1))) →
        Wp (f_X9_capitalsInto_39 rc 1 (d + 7) k o2 u2) (fun _ w' => prow d w w' ∧ capC w' d tab) := by
      intro u2 V2 hl2 hm2
      have fin : ∀ (z : Int32) (u3 : Wd), z.toInt = k.toInt + (1 : Int32).toInt → prow d w u3 → (rl u3 (d + 7)).length = 96 → (∀ x : Nat, x < 96 → (gt (rl u3 (d + 7)) x = 1 ↔ ((∃ k2 : Nat, (k2 : Int) < k.toInt ∧ (k2 : Int) ≠ x ∧ (tab (9 * k2 + 6) = x + 1 ∨ tab (9 * k2 + 7) = x + 1)) ∨ (k.toInt ≠ x ∧ tab (9 * k.toInt.toNat + 6) = x + 1)) ∨ (k.toInt ≠ x ∧ tab (9 * k.toInt.toNat + 7) = x + 1))) → Wp (rc (1, d + 7, z, u3)) (fun _ w' => prow d w w' ∧ capC w' d tab) := by
        intro z u3 hz g1 g2 g3
        refine ih (1, d + 7, z, u3) ⟨rfl, rfl, g1, by dsimp only; omega, by dsimp only; omega, g2, fun x hx => ?_⟩ (by dsimp only; omega)
        dsimp only
        rw [g3 x hx]
        constructor
        · rintro ((⟨k2, a1, a2, a3⟩ | ⟨a1, a2⟩) | ⟨a1, a2⟩)
          · exact ⟨k2, by omega, a2, a3⟩
          · exact ⟨k.toInt.toNat, by omega, by omega, Or.inl a2⟩
          · exact ⟨k.toInt.toNat, by omega, by omega, Or.inr a2⟩
        · rintro ⟨k2, a1, a2, a3⟩
          by_cases e : k2 = k.toInt.toNat
          · subst e
            rcases a3 with a3 | a3
            · exact Or.inl (Or.inr ⟨by omega, a3⟩)
            · exact Or.inr ⟨by omega, a3⟩
          · exact Or.inl (Or.inl ⟨k2, by omega, a2, a3⟩)
      unfold f_X9_capitalsInto_39
      refine wp_ifeq (fun e => wp_add (by omega) (fun z hz => fin z u2 hz V2 hl2 (fun x hx => ?_))) (fun e => ?_)
      · rw [hm2 x hx]
        exact ⟨Or.inl, fun q => q.elim id (fun z => absurd z.1 (by omega))⟩
      · refine wp_bd (s_set (V2.2 _ K7)) ?_
        rintro _ u3 p3
        refine wp_add (by omega) (fun z hz => fin z u3 hz ⟨oc_tr V2.1 (oc_rs p3 (Or.inl rfl) (Or.inr (by omega))), okall_rs V2.2 p3⟩ ?_ (fun x hx => ?_))
        · rw [rs_l p3]; split
          · rw [List.length_set]; exact hl2
          · exact hl2
        · rw [rs_l p3]
          by_cases n0 : 0 ≤ o2.toInt
          · rw [if_pos n0, gt_setn (by omega), L.2.1]
            by_cases e2 : x = o2.toInt.toNat
            · rw [if_pos e2]
              exact ⟨fun _ => Or.inr ⟨by omega, by omega⟩, fun _ => rfl⟩
            · rw [if_neg e2, hm2 x hx]
              have nx : ¬ tab (9 * k.toInt.toNat + 7) = x + 1 := by omega
              exact ⟨Or.inl, fun q => q.elim id (fun z => (nx z.2).elim)⟩
          · rw [if_neg n0, hm2 x hx]
            have nx : ¬ tab (9 * k.toInt.toNat + 7) = x + 1 := by omega
            exact ⟨Or.inl, fun q => q.elim id (fun z => (nx z.2).elim)⟩
    refine wp_ifeq (fun e => sec u V hl (fun x hx => ?_)) (fun e => ?_)
    · rw [hm x hx]
      exact ⟨Or.inl, fun q => q.elim id (fun z => absurd z.1 (by omega))⟩
    · refine wp_bd (s_set (V.2 _ K7)) ?_
      rintro _ u2 p2
      refine sec u2 ⟨oc_tr V.1 (oc_rs p2 (Or.inl rfl) (Or.inr (by omega))), okall_rs V.2 p2⟩ ?_ (fun x hx => ?_)
      · rw [rs_l p2]; split
        · rw [List.length_set]; exact hl
        · exact hl
      · rw [rs_l p2]
        by_cases n0 : 0 ≤ o1.toInt
        · rw [if_pos n0, gt_setn (by omega), L.2.1]
          by_cases e2 : x = o1.toInt.toNat
          · rw [if_pos e2]
            exact ⟨fun _ => Or.inr ⟨by omega, by omega⟩, fun _ => rfl⟩
          · rw [if_neg e2, hm x hx]
            have nx : ¬ tab (9 * k.toInt.toNat + 6) = x + 1 := by omega
            exact ⟨Or.inl, fun q => q.elim id (fun z => (nx z.2).elim)⟩
        · rw [if_neg n0, hm x hx]
          have nx : ¬ tab (9 * k.toInt.toNat + 6) = x + 1 := by omega
          exact ⟨Or.inl, fun q => q.elim id (fun z => (nx z.2).elim)⟩
  · dsimp only
    rw [rs_l q1, gt_getElem (by rw [List.length_replicate]; omega), List.getElem_replicate, L.1]
    exact ⟨fun q => absurd q (by decide), fun ⟨k, g, _⟩ => by omega⟩
/-- in a set -/
theorem s_isInSet {s : Int} {c x : Int32} (hd : KD d = 5) (hk : tok tab) (h : trel w 1 tab) (ho : okall w) (hC : capC w d tab) (hs : scd s) (hc : c.toInt = cls s) (hx : 0 ≤ x.toInt ∧ x.toInt ≤ 95) :
    Wp (f_X5_isInSet d c x 1 w) (fun r w' => w = w' ∧ ((r = 1 ∧ inS tab s x.toInt) ∨ (r = 0 ∧ ¬ inS tab s x.toInt))) := by
  have L := LIT
  have F := pat_facts d hd
  have K7 := F.2.2.2.2.2.2.1
  have l1000 : (1000 : Int32).toInt = 1000 := by decide
  have l100 : (100 : Int32).toInt = 100 := by decide
  have l96 : (96 : Int32).toInt = 96 := by decide
  have l97 : (97 : Int32).toInt = 97 := by decide
  have cx : ((x.toInt.toNat : Nat) : Int) = x.toInt := by omega
  -- the answer, turned or not
  have ans : ∀ (v t : Int32), (v = 0 ∨ v = 1) → ((t = 1 ∧ inB tab (if s < 0 then -1 - s else s) x.toInt) ∨ (t = 0 ∧ ¬ inB tab (if s < 0 then -1 - s else s) x.toInt)) → (v = 1 ↔ s < 0) → Wp (f_X5_isInSet_115 v t w) (fun r w' => w = w' ∧ ((r = 1 ∧ inS tab s x.toInt) ∨ (r = 0 ∧ ¬ inS tab s x.toInt))) := by
    intro v t hv ht hvs
    unfold f_X5_isInSet_115 inS
    by_cases g : s < 0
    · have e1 : v = 1 := hvs.mpr g
      subst e1
      rw [if_pos g] at ht
      rw [if_pos g]
      rcases ht with ⟨rfl, ht⟩ | ⟨rfl, ht⟩
      · rw [if_pos rfl]; exact wp_ret ⟨rfl, Or.inr ⟨rfl, fun q => q ht⟩⟩
      · rw [if_neg (by decide)]; exact wp_ret ⟨rfl, Or.inl ⟨rfl, ht⟩⟩
    · have e1 : v = 0 := hv.elim id (fun z => absurd (hvs.mp z) g)
      subst e1
      rw [if_neg g] at ht
      rw [if_neg g]
      rcases ht with ⟨rfl, ht⟩ | ⟨rfl, ht⟩
      · rw [if_neg (by decide)]; exact wp_ret ⟨rfl, Or.inl ⟨rfl, ht⟩⟩
      · rw [if_pos rfl]; exact wp_ret ⟨rfl, Or.inr ⟨rfl, ht⟩⟩
  have base : ∀ (v t : Int32), (v = 0 ∨ v = 1) → (v = 1 ↔ s < 0) → t.toInt = cl0 (if s < 0 then -1 - s else s) → Wp (f_X5_isInSet_28 d x 1 v t w) (fun r w' => w = w' ∧ ((r = 1 ∧ inS tab s x.toInt) ∨ (r = 0 ∧ ¬ inS tab s x.toInt))) := by
    intro v t hv hvs ht
    have hb : (0 ≤ (if s < 0 then -1 - s else s) ∧ (if s < 0 then -1 - s else s) ≤ 6) ∨ (100 ≤ (if s < 0 then -1 - s else s) ∧ (if s < 0 then -1 - s else s) ≤ 195) := by
      unfold scd at hs
      split <;> omega
    have A := ans v
    generalize (if s < 0 then -1 - s else s) = b at ht hb A
    have t0 : (t.toInt = 96 ∧ b = 0) ∨ (t.toInt = 97 ∧ b = 6) ∨ (t.toInt < 96 ∧ 100 ≤ b ∧ t.toInt = b - 100) ∨ (100 < t.toInt ∧ 1 ≤ b ∧ b ≤ 5 ∧ t.toInt = 100 + (if b = 5 then 6 else b)) := by
      unfold cl0 at ht
      by_cases g1 : 100 ≤ b
      · rw [if_pos g1] at ht; omega
      · rw [if_neg g1] at ht
        by_cases g2 : b = 0
        · rw [if_pos g2] at ht; omega
        · rw [if_neg g2] at ht
          by_cases g3 : b = 6
          · rw [if_pos g3] at ht; omega
          · rw [if_neg g3] at ht
            by_cases g4 : b = 5
            · rw [if_pos g4] at ht; rw [if_pos g4]; omega
            · rw [if_neg g4] at ht; rw [if_neg g4]; omega
    unfold f_X5_isInSet_28 f_X5_isInSet_113
    refine wp_ifeq (fun z => A 1 hv (Or.inl ⟨rfl, ?_⟩) hvs) (fun z => wp_ifeq (fun z2 => ?_) (fun z2 => wp_iflt (fun z3 => ?_) (fun z3 => ?_)))
    · have e : b = 0 := by omega
      rw [e]; unfold inB
      rw [if_neg (by decide), if_neg (by decide), if_pos rfl]; trivial
    · have e : b = 6 := by omega
      have iB : inB tab b x.toInt ↔ cpt tab x.toInt := by rw [e]; unfold inB; rw [if_neg (by decide), if_pos rfl]
      have C := hC x.toInt.toNat (by omega)
      rw [cx] at C
      refine wp_bd (s_get (ho _ K7)) ?_
      rintro y _ ⟨rfl, hy⟩
      refine wp_ifeq (fun q => A 1 hv (Or.inl ⟨rfl, iB.mpr (C.mp (by omega))⟩) hvs) (fun q => A 0 hv (Or.inr ⟨rfl, fun q2 => q ?_⟩) hvs)
      have := C.mpr (iB.mp q2)
      omega
    · have e : 100 ≤ b ∧ t.toInt = b - 100 := by omega
      have iB : inB tab b x.toInt ↔ x.toInt = b - 100 := by unfold inB; rw [if_pos e.1]
      exact wp_ifeq (fun q => A 1 hv (Or.inl ⟨rfl, iB.mpr (by omega)⟩) hvs) (fun q => A 0 hv (Or.inr ⟨rfl, fun q2 => q (by have := iB.mp q2; omega)⟩) hvs)
    · have e : 1 ≤ b ∧ b ≤ 5 ∧ t.toInt = 100 + (if b = 5 then 6 else b) := by omega
      have iB : inB tab b x.toInt ↔ tab (9 * x.toInt.toNat + 2) = (if b = 5 then 6 else b) := by unfold inB; rw [if_neg (by omega), if_neg (by omega), if_neg (by omega)]
      have t1 : (t - (100 : Int32)).toInt = t.toInt - 100 := by rw [i_sub (by have := i_rng t; omega), l100]
      refine wp_bd (s_kindOf (by decide +kernel) hx.1 (by omega) h) ?_
      rintro y _ ⟨rfl, hy⟩
      exact wp_ifeq (fun q => A 1 hv (Or.inl ⟨rfl, iB.mpr (by omega)⟩) hvs) (fun q => A 0 hv (Or.inr ⟨rfl, fun q2 => q (by have := iB.mp q2; omega)⟩) hvs)
  have c195 : ∀ b : Int, ((0 ≤ b ∧ b ≤ 6) ∨ (100 ≤ b ∧ b ≤ 195)) → 0 ≤ cl0 b ∧ cl0 b ≤ 106 := by
    intro b hb
    unfold cl0
    repeat' split
    all_goals omega
  unfold f_X5_isInSet f_X5_isInSet_12
  unfold scd at hs
  refine wp_iflt (fun z => ?_) (fun z => ?_)
  · have g : ¬ s < 0 := by
      intro g
      unfold cls at hc
      rw [if_neg (by omega), if_pos g] at hc
      have := c195 (-1 - s) (by omega)
      omega
    rw [if_pos rfl]
    refine base 0 c (Or.inl rfl) ⟨fun q => absurd q (by decide), fun q => absurd q g⟩ ?_
    rw [if_neg g]
    unfold cls at hc
    rw [if_neg (by omega), if_neg g] at hc
    exact hc
  · have g : s < 0 := by
      by_cases g : s < 0
      · exact g
      · unfold cls at hc
        rw [if_neg (by omega), if_neg g] at hc
        have := c195 s (by omega)
        omega
    rw [if_neg (by decide)]
    have hc2 := hc
    unfold cls at hc2
    rw [if_neg (by omega), if_pos g] at hc2
    have := c195 (-1 - s) (by omega)
    refine base 1 _ (Or.inr rfl) ⟨fun _ => g, fun _ => rfl⟩ ?_
    rw [if_pos g, i_sub (by omega), l1000]; omega
theorem pg_map {f : PC → Int} {n : Nat} (h : n < P.length) : gt (P.map f) n = f (pg P n) := by
  rw [gt_getElem (by rw [List.length_map]; exact h), List.getElem_map]
  unfold pg
  rw [List.getD_eq_getElem?_getD, List.getElem?_eq_getElem h]; rfl
/-- one is taken -/
theorem s_isTaken {t : Nat} {n k : Int32} (hd : KD d = 5) (hk : tok tab) (h : trel w 1 tab) (ho : okall w) (hC : capC w d tab) (hP : pok P) (hA : patC w d P) (h7 : KD t = 7) (hl : rl w t = l) (Y : lok40 l) (hn : 0 ≤ n.toInt ∧ n.toInt < P.length) (hk2 : 0 ≤ k.toInt ∧ k.toInt < l.length) :
    Wp (f_X5_isTaken d n t k 1 w) (fun r w' => w = w' ∧ ((r = 1 ∧ tks tab l P k.toInt.toNat n.toInt.toNat) ∨ (r = 0 ∧ ¬ tks tab l P k.toInt.toNat n.toInt.toNat))) := by
  have L := LIT
  have F := pat_facts d hd
  have V := hP.2 n.toInt.toNat (by omega)
  have h40 := Y.1
  have cn : ((n.toInt.toNat : Nat) : Int) = n.toInt := by omega
  have ck : ((k.toInt.toNat : Nat) : Int) = k.toInt := by omega
  have m1 := pg_map (P := P) (f := fun c => lkc c.1) (n := n.toInt.toNat) (by omega)
  have m2 := pg_map (P := P) (f := fun c => cls c.2.1) (n := n.toInt.toNat) (by omega)
  rw [cn] at m1 m2
  -- the set itself
  have own : ((pg P n.toInt.toNat).1 = 999 ∨ (0 < k.toInt ∧ inS tab (pg P n.toInt.toNat).1 (gt l (k.toInt - 1)))) → Wp (f_X5_isTaken_41 d n t k 1 w) (fun r w' => w = w' ∧ ((r = 1 ∧ tks tab l P k.toInt.toNat n.toInt.toNat) ∨ (r = 0 ∧ ¬ tks tab l P k.toInt.toNat n.toInt.toNat))) := by
    intro hb
    unfold f_X5_isTaken_41
    refine wp_bd (s_get (ho _ F.2.2.1)) ?_
    rintro c _ ⟨rfl, hc⟩
    rw [hA.2.1, m2] at hc
    refine wp_bd (s_get (ho _ h7)) ?_
    rintro x _ ⟨rfl, hx⟩
    rw [hl] at hx
    have g := lok_gt Y hk2.1 hk2.2
    refine wp_bd (s_isInSet (s := (pg P n.toInt.toNat).2.1) hd hk h ho hC V.2.1 hc (by omega)) ?_
    rintro r _ ⟨rfl, hr⟩
    rw [hx] at hr
    refine wp_ret ⟨rfl, ?_⟩
    unfold tks
    rw [ck]
    rcases hr with ⟨rfl, hr⟩ | ⟨rfl, hr⟩
    · exact Or.inl ⟨rfl, by omega, hr, hb.imp id (fun z => ⟨by omega, z.2⟩)⟩
    · exact Or.inr ⟨rfl, fun q => hr q.2.1⟩
  unfold f_X5_isTaken
  refine wp_bd (s_get (ho _ F.1)) ?_
  rintro b _ ⟨rfl, hb⟩
  rw [hA.1, m1] at hb
  try dsimp only at hb
  have no : ¬ ((pg P n.toInt.toNat).1 = 999 ∨ (0 < k.toInt ∧ inS tab (pg P n.toInt.toNat).1 (gt l (k.toInt - 1)))) → Wp (some ((0 : Int32), w)) (fun r w' => w = w' ∧ ((r = 1 ∧ tks tab l P k.toInt.toNat n.toInt.toNat) ∨ (r = 0 ∧ ¬ tks tab l P k.toInt.toNat n.toInt.toNat))) := by
    intro nf
    refine wp_ret ⟨rfl, Or.inr ⟨rfl, fun q => nf ?_⟩⟩
    have q2 := q.2.2
    rw [ck] at q2
    exact q2.imp id (fun z => ⟨by omega, z.2⟩)
  by_cases e : (pg P n.toInt.toNat).1 = 999
  · have : b.toInt = -1 := by rw [hb]; unfold lkc; rw [if_pos e]
    refine wp_ifeq (fun _ => own (Or.inl e)) (fun q => by omega)
  · have sc : scd (pg P n.toInt.toNat).1 := V.2.2.elim (fun z => absurd z e) id
    have eb : b.toInt = cls (pg P n.toInt.toNat).1 := by rw [hb]; unfold lkc; rw [if_neg e]
    have cr := cls_rng sc
    refine wp_ifeq (fun q => by omega) (fun _ => wp_iflt (fun q => no (fun z => z.elim e (fun y => by omega))) (fun q => ?_))
    have k1 : (k - 1).toInt = k.toInt - 1 := by rw [i_sub (by omega), L.2.1]
    refine wp_bd (s_get (ho _ h7)) ?_
    rintro x _ ⟨rfl, hx⟩
    rw [hl, k1] at hx
    have g := lok_gt Y (k := k.toInt - 1) (by omega) (by omega)
    refine wp_bd (s_isInSet (s := (pg P n.toInt.toNat).1) hd hk h ho hC sc eb (by omega)) ?_
    rintro r _ ⟨rfl, hr⟩
    rw [hx] at hr
    rcases hr with ⟨rfl, hr⟩ | ⟨rfl, hr⟩
    · rw [if_neg (by decide)]
      exact own (Or.inr ⟨by omega, hr⟩)
    · rw [if_pos rfl]
      exact no (fun z => z.elim e (fun y => hr y.2))
def st3 (S : Int32) (b : Nat → Prop) : Prop := ∀ k : Nat, k < 32 → (mk3 S k ↔ b k)
theorem s_withSkips {S : Int32} {b : Nat → Prop} (hd : KD d = 5) (ho : okall w) (hP : pok P) (hA : patC w d P) (hS : st3 S (fun k => k ≤ P.length ∧ b k)) :
    Wp (f_X5_withSkips d S w) (fun r w' => w = w' ∧ st3 r (fun k => k ≤ P.length ∧ skp P b k)) := by
  have L := LIT
  have F := pat_facts d hd
  have h8 := hP.1
  unfold f_X5_withSkips f_X5_withSkips_4
  rw [FUv]
  refine wp_loop (fun σ : Nat × Int32 × Int32 × Wd => σ.1 = d ∧ σ.2.2.2 = w ∧ 0 ≤ σ.2.2.1.toInt ∧ σ.2.2.1.toInt ≤ P.length ∧ st3 σ.2.1 (fun k => k ≤ P.length ∧ (if (k : Int) ≤ σ.2.2.1.toInt then skp P b k else b k)))
    (fun σ => (10 - σ.2.2.1.toInt).toNat) ?_ 100000 _ ⟨rfl, rfl, by dsimp only; omega, by dsimp only; omega, fun k hk => ?_⟩ (by dsimp only; omega)
  · rintro rc ⟨d', s, i, u⟩ ⟨rfl, rfl, hi0, hi1, hs⟩ ih
    dsimp only at *
    have ci : ((i.toInt.toNat : Nat) : Int) = i.toInt := by omega
    unfold g_X5_withSkips_4
    refine wp_bd (s_size (ho _ F.2.2.1)) ?_
    rintro m _ ⟨rfl, hm⟩
    rw [hA.2.1, List.length_map] at hm
    refine wp_ifle (fun c => wp_ret ⟨rfl, fun k hk => ?_⟩) (fun c => ?_)
    · rw [hs k hk]
      exact ⟨fun q => ⟨q.1, by have := q.2; rwa [if_pos (by omega)] at this⟩, fun q => ⟨q.1, by rw [if_pos (by omega)]; exact q.2⟩⟩
    have V := (hP.2 i.toInt.toNat (by omega)).1
    have hsi := hs i.toInt.toNat (by omega)
    dsimp only at hsi
    rw [if_pos (by omega)] at hsi
    have m3 := pg_map (P := P) (f := fun c => tmc c.2.2) (n := i.toInt.toNat) (by omega)
    rw [ci] at m3
    try dsimp only at m3
    have next : ∀ (s2 z : Int32), z.toInt = i.toInt + (1 : Int32).toInt → (∀ k : Nat, k < 32 → (mk3 s2 k ↔ mk3 s k ∨ (k = i.toInt.toNat + 1 ∧ 0 < (pg P i.toInt.toNat).2.2 ∧ skp P b i.toInt.toNat))) → Wp (rc (d', s2, z, u)) (fun r w' => u = w' ∧ st3 r (fun k => k ≤ P.length ∧ skp P b k)) := by
      intro s2 z hz h2
      refine ih (d', s2, z, u) ⟨rfl, rfl, by dsimp only; omega, by dsimp only; omega, fun k hk => ?_⟩ (by dsimp only; omega)
      dsimp only
      rw [h2 k hk, hs k hk]
      dsimp only
      by_cases e : k = i.toInt.toNat + 1
      · subst e
        rw [if_neg (by omega), if_pos (by omega), skp_s]
        constructor
        · rintro (q | q)
          · exact ⟨q.1, Or.inl q.2⟩
          · exact ⟨by omega, Or.inr ⟨by omega, q.2⟩⟩
        · rintro ⟨q1, q | q⟩
          · exact Or.inl ⟨q1, q⟩
          · exact Or.inr ⟨rfl, q.2⟩
      · by_cases e2 : (k : Int) ≤ i.toInt
        · rw [if_pos e2, if_pos (by omega)]
          exact ⟨fun q => q.elim id (fun z => absurd z.1 e), Or.inl⟩
        · rw [if_neg e2, if_neg (by omega)]
          exact ⟨fun q => q.elim id (fun z => absurd z.1 e), Or.inl⟩
    refine wp_if (fun q => wp_add (by omega) (fun z hz => next s z hz (fun k hk => ⟨Or.inl, fun y => y.elim id (fun g => absurd (hsi.mpr ⟨by omega, g.2.2⟩) ((mk3_sr (by omega)).mp q))⟩))) (fun q => ?_)
    have on : mk3 s i.toInt.toNat := by
      by_cases g : mk3 s i.toInt.toNat
      · exact g
      · exact absurd ((mk3_sr (by omega)).mpr g) q
    have sk := (hsi.mp on).2
    refine wp_bd (s_get (ho _ F.2.2.2.2.1)) ?_
    rintro y _ ⟨rfl, hy⟩
    rw [hA.2.2, m3] at hy
    refine wp_ifeq (fun c2 => wp_add (by omega) (fun z hz => next s z hz (fun k hk => ⟨Or.inl, fun g => g.elim id (fun g => ?_)⟩))) (fun c2 => ?_)
    · unfold tmc at hy
      rcases V with g2 | g2 | g2
      · omega
      · rw [if_neg (by omega), if_pos g2] at hy; omega
      · rw [if_pos g2] at hy; omega
    · have pos : 0 < (pg P i.toInt.toNat).2.2 := by
        rcases V with g2 | g2 | g2
        · unfold tmc at hy
          rw [if_neg (by omega), if_neg (by omega)] at hy
          omega
        · omega
        · omega
      have i1 : (i + 1).toInt = i.toInt + 1 := by rw [i_add (by omega), L.2.1]
      refine wp_lt (fun s2 hs2 => wp_add (by omega) (fun z hz => next s2 z hz (fun k hk => ?_)))
      rw [hs2, mk3_or (by omega) hk, show (i + 1).toInt.toNat = i.toInt.toNat + 1 by omega]
      exact ⟨fun g => g.imp id (fun e => ⟨e, pos, sk⟩), fun g => g.imp id (fun e => e.1)⟩
  · dsimp only
    rw [hS k hk, L.1]
    by_cases e : k = 0
    · subst e
      rw [if_pos (by decide)]; exact Iff.rfl
    · rw [if_neg (by omega)]
theorem s_statesBehind {S : Int32} {b : Nat → Prop} {t : Nat} {i : Int32} (hd : KD d = 5) (hk : tok tab) (h : trel w 1 tab) (ho : okall w) (hC : capC w d tab) (hP : pok P) (hA : patC w d P) (h7 : KD t = 7) (hl : rl w t = l) (Y : lok40 l) (hi : 0 ≤ i.toInt) (hS : st3 S (fun k => k ≤ P.length ∧ b k)) :
    Wp (f_X5_statesBehind d S t i 1 w) (fun r w' => w = w' ∧ st3 r (fun k => k ≤ P.length ∧ bhd tab l P b i.toInt.toNat k)) := by
  have L := LIT
  have F := pat_facts d hd
  have h8 := hP.1
  have l42 : (42 : Int32).toInt = 42 := by decide
  have h40 := Y.1
  unfold f_X5_statesBehind
  refine wp_bd (s_size (ho _ h7)) ?_
  rintro m _ ⟨rfl, hm⟩
  rw [hl] at hm
  refine wp_iflt (fun c => ?_) (fun c => wp_ret ⟨rfl, fun k hk2 => ⟨fun q => absurd q mk3_zero, ?_⟩⟩)
  · unfold f_X5_statesBehind_17
    rw [FUv]
    refine wp_loop (fun σ : Nat × Int32 × Nat × Int32 × Nat × Int32 × Int32 × Wd => σ.1 = d ∧ σ.2.1 = S ∧ σ.2.2.1 = t ∧ σ.2.2.2.1 = i ∧ σ.2.2.2.2.1 = 1 ∧ σ.2.2.2.2.2.2.2 = w ∧ 0 ≤ σ.2.2.2.2.2.2.1.toInt ∧ σ.2.2.2.2.2.2.1.toInt ≤ P.length ∧
        st3 σ.2.2.2.2.2.1 (fun k => k ≤ P.length ∧ ∃ j : Nat, (j : Int) < σ.2.2.2.2.2.2.1.toInt ∧ b j ∧ tks tab l P i.toInt.toNat j ∧ (((pg P j).2.2 = 2 ∧ k = j) ∨ ((pg P j).2.2 ≠ 2 ∧ k = j + 1))))
      (fun σ => (10 - σ.2.2.2.2.2.2.1.toInt).toNat) ?_ 100000 _ ⟨rfl, rfl, rfl, rfl, rfl, rfl, by dsimp only; omega, by dsimp only; omega, fun k hk2 => ⟨fun q => absurd q mk3_zero, fun ⟨_, j, q, _⟩ => by dsimp only at q; omega⟩⟩ (by dsimp only; omega)
    rintro rc ⟨d', S', t', i', one, s, n, u⟩ ⟨rfl, rfl, rfl, rfl, rfl, rfl, hn0, hn1, hs⟩ ih
    dsimp only at *
    have cn : ((n.toInt.toNat : Nat) : Int) = n.toInt := by omega
    unfold g_X5_statesBehind_17
    refine wp_bd (s_size (ho _ F.2.2.1)) ?_
    rintro m3 _ ⟨rfl, hm3⟩
    rw [hA.2.1, List.length_map] at hm3
    refine wp_ifle (fun c2 => wp_ret ⟨rfl, fun k hk2 => ?_⟩) (fun c2 => ?_)
    · rw [hs k hk2]
      exact ⟨fun ⟨q1, j, q2, q3⟩ => ⟨q1, j, by omega, q3⟩, fun ⟨q1, j, q2, q3⟩ => ⟨q1, j, by omega, q3⟩⟩
    have hsn := hS n.toInt.toNat (by omega)
    have V := (hP.2 n.toInt.toNat (by omega)).1
    have m3 := pg_map (P := P) (f := fun c => tmc c.2.2) (n := n.toInt.toNat) (by omega)
    rw [cn] at m3
    try dsimp only at m3
    have next : ∀ (s2 z : Int32), z.toInt = n.toInt + (1 : Int32).toInt → (∀ k : Nat, k < 32 → (mk3 s2 k ↔ mk3 s k ∨ (b n.toInt.toNat ∧ tks tab l P i'.toInt.toNat n.toInt.toNat ∧ (((pg P n.toInt.toNat).2.2 = 2 ∧ k = n.toInt.toNat) ∨ ((pg P n.toInt.toNat).2.2 ≠ 2 ∧ k = n.toInt.toNat + 1))))) → Wp (rc (d', S', t', i', 1, s2, z, u)) (fun r w' => u = w' ∧ st3 r (fun k => k ≤ P.length ∧ bhd tab l P b i'.toInt.toNat k)) := by
      intro s2 z hz h2
      refine ih (d', S', t', i', 1, s2, z, u) ⟨rfl, rfl, rfl, rfl, rfl, rfl, by dsimp only; omega, by dsimp only; omega, fun k hk2 => ?_⟩ (by dsimp only; omega)
      dsimp only
      rw [h2 k hk2, hs k hk2]
      constructor
      · rintro (⟨q1, j, q2, q3⟩ | ⟨q1, q2, q3⟩)
        · exact ⟨q1, j, by omega, q3⟩
        · exact ⟨by omega, n.toInt.toNat, by omega, q1, q2, q3⟩
      · rintro ⟨q1, j, q2, q3⟩
        by_cases e : j = n.toInt.toNat
        · subst e; exact Or.inr q3
        · exact Or.inl ⟨q1, j, by omega, q3⟩
    have skip : ¬ (b n.toInt.toNat ∧ tks tab l P i'.toInt.toNat n.toInt.toNat) → ∀ z : Int32, z.toInt = n.toInt + (1 : Int32).toInt → Wp (rc (d', S', t', i', 1, s, z, u)) (fun r w' => u = w' ∧ st3 r (fun k => k ≤ P.length ∧ bhd tab l P b i'.toInt.toNat k)) :=
      fun nf z hz => next s z hz (fun k _ => ⟨Or.inl, fun q => q.elim id (fun y => absurd ⟨y.1, y.2.1⟩ nf)⟩)
    refine wp_if (fun q => wp_add (by omega) (skip (fun g => (mk3_sr (by omega)).mp q (hsn.mpr ⟨by omega, g.1⟩)))) (fun q => ?_)
    have on : b n.toInt.toNat := by
      by_cases g : mk3 S' n.toInt.toNat
      · exact (hsn.mp g).2
      · exact absurd ((mk3_sr (by omega)).mpr g) q
    refine wp_bd (s_isTaken (n := n) (k := i') hd hk h ho hC hP hA h7 hl Y (by omega) (by omega)) ?_
    rintro x _ ⟨rfl, hx⟩
    rcases hx with ⟨rfl, hx⟩ | ⟨rfl, hx⟩
    · rw [if_neg (by decide)]
      refine wp_bd (s_get (ho _ F.2.2.2.2.1)) ?_
      rintro y _ ⟨rfl, hy⟩
      rw [hA.2.2, m3] at hy
      unfold f_X5_statesBehind_80
      have n1 : (n + 1).toInt = n.toInt + 1 := by rw [i_add (by omega), L.2.1]
      refine wp_ifeq (fun c3 => ?_) (fun c3 => ?_)
      · have e2 : (pg P n.toInt.toNat).2.2 = 2 := by
          unfold tmc at hy
          rcases V with g2 | g2 | g2
          · rw [if_neg (by omega), if_neg (by omega)] at hy; omega
          · rw [if_neg (by omega), if_pos g2] at hy; omega
          · exact g2
        refine wp_lt (fun s2 hs2 => wp_add (by omega) (fun z hz => next s2 z hz (fun k hk2 => ?_)))
        rw [hs2, mk3_or (by omega) hk2]
        exact ⟨fun g => g.imp id (fun e => ⟨on, hx, Or.inl ⟨e2, e⟩⟩), fun g => g.imp id (fun e => e.2.2.elim (fun z => z.2) (fun z => absurd e2 z.1))⟩
      · have e2 : (pg P n.toInt.toNat).2.2 ≠ 2 := fun g2 => by
          unfold tmc at hy
          rw [if_pos g2] at hy; omega
        refine wp_lt (fun s2 hs2 => wp_add (by omega) (fun z hz => next s2 z hz (fun k hk2 => ?_)))
        rw [hs2, mk3_or (by omega) hk2, show (n + 1).toInt.toNat = n.toInt.toNat + 1 by omega]
        exact ⟨fun g => g.imp id (fun e => ⟨on, hx, Or.inr ⟨e2, e⟩⟩), fun g => g.imp id (fun e => e.2.2.elim (fun z => absurd z.1 e2) (fun z => z.2))⟩
    · rw [if_pos rfl]
      exact wp_add (by omega) (skip (fun g => hx g.2))
  · rintro ⟨_, j, _, _, q, _⟩
    have := q.1
    omega
theorem s_endFrom {t : Nat} {a : Int32} (hd : KD d = 5) (hk : tok tab) (h : trel w 1 tab) (ho : okall w) (hP : pok P) (hA : patC w d P) (h7 : KD t = 7) (ht : t ≤ 649) (hl : rl w t = l) (Y : lok40 l) (ha : 0 ≤ a.toInt ∧ a.toInt ≤ l.length) :
    Wp (f_X5_endFrom d t a 1 w) (fun r w' => prow d w w' ∧ lastOf (fun k => rch tab l P a.toInt.toNat P.length k) (l.length + 1) r.toInt) := by
  have L := LIT
  have F := pat_facts d hd
  have h8 := hP.1
  have h40 := Y.1
  unfold f_X5_endFrom
  refine wp_bd (s_capitals hd hk h ho) ?_
  rintro _ w1 ⟨P1, C1⟩
  have t1 : trel w1 1 tab := trel_fr hk h (fun k _ b => P1.1.1 k (by omega))
  have A1 : patC w1 d P := by
    unfold patC
    rw [rl_fr (P1.1.1 (d + 1) (by omega)) (P1.1.1 (d + 1 + 1) (by omega)), rl_fr (P1.1.1 (d + 3) (by omega)) (P1.1.1 (d + 3 + 1) (by omega)), rl_fr (P1.1.1 (d + 5) (by omega)) (P1.1.1 (d + 5 + 1) (by omega))]
    exact hA
  have l1 : rl w1 t = l := (rl_fr (P1.1.1 t (by omega)) (P1.1.1 (t + 1) (by omega))).trans hl
  have S0 : st3 1 (fun k => k ≤ P.length ∧ k = 0) := fun k hk2 => by
    rw [mk3_one hk2]
    exact ⟨fun e => ⟨by omega, e⟩, fun e => e.2⟩
  refine wp_bd (s_withSkips (b := fun k => k = 0) hd P1.2 hP A1 S0) ?_
  rintro s0 _ ⟨rfl, hs0⟩
  unfold f_X5_endFrom_21
  rw [FUv]
  refine wp_loop (fun σ : Nat × Nat × Nat × Int32 × Int32 × Int32 × Wd => σ.1 = d ∧ σ.2.1 = t ∧ σ.2.2.1 = 1 ∧ σ.2.2.2.2.2.2 = w1 ∧ a.toInt ≤ σ.2.2.2.2.2.1.toInt ∧ σ.2.2.2.2.2.1.toInt ≤ l.length + 1 ∧ st3 σ.2.2.2.2.1 (fun k => k ≤ P.length ∧ rq tab l P a.toInt.toNat k σ.2.2.2.2.2.1.toInt.toNat) ∧ lastOf (fun k => rch tab l P a.toInt.toNat P.length k) σ.2.2.2.2.2.1.toInt.toNat σ.2.2.2.1.toInt)
    (fun σ => (42 - σ.2.2.2.2.2.1.toInt).toNat) ?_ 100000 _ ⟨rfl, rfl, rfl, rfl, Int.le_refl _, by dsimp only; omega, fun k hk2 => ?_, Or.inl ⟨L.2.2.1, fun k hk2 q => ?_⟩⟩ (by dsimp only; omega)
  · rintro rc ⟨d', t', one, e, S, i, u⟩ ⟨rfl, rfl, rfl, rfl, hi0, hi1, hS, hE⟩ ih
    dsimp only at *
    unfold g_X5_endFrom_21
    refine wp_bd (s_size (P1.2 _ h7)) ?_
    rintro m _ ⟨rfl, hm⟩
    rw [l1] at hm
    refine wp_iflt (fun c => wp_ret ⟨P1, ?_⟩) (fun c => wp_ifeq (fun c2 => wp_ret ⟨P1, ?_⟩) (fun c2 => ?_))
    · rw [show i.toInt.toNat = l.length + 1 by omega] at hE; exact hE
    · have z0 : S = 0 := i_eq.mpr c2
      subst z0
      have no : ∀ n, n ≤ P.length → ¬ rq tab l P a.toInt.toNat n i.toInt.toNat := fun n hn q => absurd ((hS n (by omega)).mpr ⟨hn, q⟩) mk3_zero
      refine lastOf_up hE (by omega) (fun k h1 h2 q => ?_)
      have := rq_none hP (by omega) no (k - i.toInt.toNat) P.length (Nat.le_refl _)
      rw [show i.toInt.toNat + (k - i.toInt.toNat) = k by omega] at this
      exact this (rq_end.mpr q)
    · refine wp_bd (s_size (P1.2 _ F.2.2.1)) ?_
      rintro m2 _ ⟨rfl, hm2⟩
      rw [A1.2.1, List.length_map] at hm2
      have hSm := hS P.length (by omega)
      dsimp only at hSm
      rw [rq_end] at hSm
      have go : ∀ e2 : Int32, lastOf (fun k => rch tab l P a.toInt.toNat P.length k) (i.toInt.toNat + 1) e2.toInt → Wp (f_X5_endFrom_54 rc d' t' 1 e2 S i u) (fun r w' => prow d' w w' ∧ lastOf (fun k => rch tab l P a.toInt.toNat P.length k) (l.length + 1) r.toInt) := by
        intro e2 he2
        unfold f_X5_endFrom_54
        refine wp_bd (s_statesBehind (b := fun k => rq tab l P a.toInt.toNat k i.toInt.toNat) (i := i) hd hk t1 P1.2 C1 hP A1 h7 l1 Y (by omega) hS) ?_
        rintro s2 _ ⟨rfl, hs2⟩
        refine wp_bd (s_withSkips (b := fun k => bhd tab l P (fun k => rq tab l P a.toInt.toNat k i.toInt.toNat) i.toInt.toNat k) hd P1.2 hP A1 hs2) ?_
        rintro s3 _ ⟨rfl, hs3⟩
        refine wp_add (by omega) (fun z hz => ih (d', t', 1, e2, s3, z, u) ⟨rfl, rfl, rfl, rfl, by dsimp only; omega, by dsimp only; omega, fun k hk2 => ?_, ?_⟩ (by dsimp only; omega))
        · dsimp only
          rw [hs3 k hk2, show z.toInt.toNat = i.toInt.toNat + 1 by omega]
          exact ⟨fun q => ⟨q.1, (rq_s hP (by omega) k q.1).mpr q.2⟩, fun q => ⟨q.1, (rq_s hP (by omega) k q.1).mp q.2⟩⟩
        · dsimp only
          rw [show z.toInt.toNat = i.toInt.toNat + 1 by omega]; exact he2
      have mn : m2.toInt.toNat = P.length := by omega
      refine wp_if (fun q => go e (lastOf_s hE (fun g => ?_))) (fun q => go i ?_)
      · have := (mk3_sr (m := S) (x := m2) (by omega)).mp q
        rw [mn] at this
        exact this (hSm.mpr ⟨Nat.le_refl _, g⟩)
      · have on : rch tab l P a.toInt.toNat P.length i.toInt.toNat := by
          by_cases g : mk3 S P.length
          · exact (hSm.mp g).2
          · exact absurd ((mk3_sr (m := S) (x := m2) (by omega)).mpr (by rw [mn]; exact g)) q
        have := lastOf_y (b := fun k => rch tab l P a.toInt.toNat P.length k) (N := i.toInt.toNat) on
        rwa [show ((i.toInt.toNat : Nat) : Int) = i.toInt by omega] at this
  · dsimp only
    rw [hs0 k hk2]
    exact ⟨fun q => ⟨q.1, (rq_0 hP k q.1).mpr q.2⟩, fun q => ⟨q.1, (rq_0 hP k q.1).mp q.2⟩⟩
  · have := rch_ge _ _ q
    dsimp only at hk2
    omega
end
/-- the pattern that the class has, if it has one -/
def hasC (w : Wd) (o : Option (List PC)) : Prop := match o with
  | none => (w.1 0 11).toInt = 0
  | some l => (w.1 0 11).toInt = 1 ∧ patC w w.2.1 l ∧ pok l
theorem k_match {w : Wd} {tab : Nat → Int} {txt : Nat → List Int} {s p : Int32} {pt : Option (List PC)} (hk : tok tab) (h : trel w 1 tab) (ho : okall w) (hx : ctx w txt) (hkx : xok txt) (hT : KD w.2.1 = 5) (hp : hasC w pt) :
    Wp (f_X10_match s p w) (fun r w' => prow w.2.1 w w' ∧ ((bad_pl txt s.toInt p.toInt ∧ r = .inl 1) ∨ (¬ bad_pl txt s.toInt p.toInt ∧ pt = none ∧ r = .inl 3) ∨
      (¬ bad_pl txt s.toInt p.toInt ∧ ∃ (l : List PC) (x : Int32), pt = some l ∧ r = .inr x ∧ lastOf (fun k => rch tab (txt s.toInt.toNat) l p.toInt.toNat l.length k) ((txt s.toInt.toNat).length + 1) x.toInt))) := by
  have L := LIT
  have P0 : prow w.2.1 w w := ⟨oc_rf, ho⟩
  unfold f_X10_match
  simp only [e_textOf, bdx_c]
  refine wp_if (fun hs => ?_) (fun hs => wp_ret ⟨P0, Or.inl ⟨fun q => hs q.1, rfl⟩⟩)
  have hsN := slot_lt hs
  have K := slot_kd _ hsN
  have Y : lok40 (txt s.toInt.toNat) := hkx _ hsN
  have h40 := Y.1
  refine wp_bd (s_size (ho _ K.1)) ?_
  rintro n _ ⟨rfl, hn⟩
  rw [hx _ hsN] at hn
  have n1 : (n + 1).toInt = n.toInt + 1 := by rw [i_add (by omega), L.2.1]
  simp only [e_checkPlace, bdx_c, n1]
  refine wp_if (fun hq => ?_) (fun hq => wp_ret ⟨P0, Or.inl ⟨fun q => hq (by omega), rfl⟩⟩)
  have nb : ¬ bad_pl txt s.toInt p.toInt := fun q => q ⟨hs, by omega⟩
  cases pt with
  | none =>
    have e : (w.1 0 11).toInt = 0 := hp
    exact wp_ifeq (fun _ => wp_ret ⟨P0, Or.inr (Or.inl ⟨nb, rfl, rfl⟩)⟩) (fun q => by omega)
  | some l =>
    obtain ⟨e, hA, hP⟩ := hp
    refine wp_ifeq (fun q => by omega) (fun _ => ?_)
    refine wp_bd (s_endFrom hT hk h ho hP hA K.1 (by omega) (hx _ hsN) Y (by omega)) ?_
    rintro x w1 ⟨P1, hx1⟩
    exact wp_ret ⟨P1, Or.inr (Or.inr ⟨nb, l, x, rfl, rfl, hx1⟩)⟩

