/-! ===== what is told keeps the tables in their ranges ===== -/
def nix (n i : Nat) : Prop := i = 1440 + n ∨ (1442 + 30 * n ≤ i ∧ i < 1442 + 30 * n + 30) ∨ i = 1678 + n ∨ (1680 + 28 * n ≤ i ∧ i < 1680 + 28 * n + 28)
def nok (tab : Nat → Int) (n : Nat) : Prop := (0 ≤ tab (1440 + n) ∧ tab (1440 + n) ≤ 6) ∧ (0 ≤ tab (1678 + n) ∧ tab (1678 + n) ≤ 4) ∧ (∀ i j : Nat, i < j → j < tab (1440 + n) → ¬ (tab (1442 + 5 * (6 * n + i)) = tab (1442 + 5 * (6 * n + j)) ∧ tab (1442 + 5 * (6 * n + i) + 1) = tab (1442 + 5 * (6 * n + j) + 1))) ∧ (∀ i : Nat, i < tab (1440 + n) → 0 ≤ tab (1442 + 5 * (6 * n + i)) ∧ 0 ≤ tab (1442 + 5 * (6 * n + i) + 1)) ∧ (∀ i : Nat, i < tab (1678 + n) → (1 ≤ tab (1680 + 7 * (4 * n + i) + 1) ∧ tab (1680 + 7 * (4 * n + i) + 1) ≤ 100) ∧ (0 ≤ tab (1680 + 7 * (4 * n + i) + 4) ∧ tab (1680 + 7 * (4 * n + i) + 4) ≤ 100))
def wok (tab : Nat → Int) : Prop := 0 ≤ tab 1502 ∧ tab 1502 ≤ 6 ∧ ∀ i : Nat, i < tab 1502 → 1 ≤ tab (1503 + 9 * i) ∧ tab (1503 + 9 * i) ≤ 8
def rrk (tab : Nat → Int) : Prop := 0 ≤ tab 1557 ∧ tab 1557 ≤ 8 ∧ ∀ i : Nat, i < tab 1557 → rok tab i
theorem tok_parts {tab : Nat → Int} : tok tab ↔ (∀ l, l < 96 → lok tab l) ∧ (∀ n, n < 2 → nok tab n) ∧ wok tab ∧ rrk tab := Iff.rfl
section
variable {tab tab' : Nat → Int}
theorem lok_fr {l : Nat} (h : ∀ j, j < 9 → tab' (9 * l + j) = tab (9 * l + j)) (hl : lok tab l) : lok tab' l := by
  have h0 : tab' (9 * l) = tab (9 * l) := h 0 (by omega)
  unfold lok at *
  rw [h0, h 1 (by omega), h 2 (by omega), h 3 (by omega), h 4 (by omega), h 5 (by omega), h 6 (by omega), h 7 (by omega), h 8 (by omega)]
  exact hl
theorem lok_all (h : ∀ i, i < 864 → tab' i = tab i) (hl : ∀ l, l < 96 → lok tab l) : ∀ l, l < 96 → lok tab' l :=
  fun l h96 => lok_fr (fun j hj => h _ (by omega)) (hl l h96)
theorem nok_fr {n : Nat} (h : ∀ i, nix n i → tab' i = tab i) (hl : nok tab n) : nok tab' n := by
  obtain ⟨a, b, c, d, e⟩ := hl
  have h1 := h (1440 + n) (Or.inl rfl)
  have h2 := h (1678 + n) (Or.inr (Or.inr (Or.inl rfl)))
  unfold nok
  rw [h1, h2]
  refine ⟨a, b, fun i j hij hj => ?_, fun i hi => ?_, fun i hi => ?_⟩
  · rw [h _ (by unfold nix; omega), h _ (by unfold nix; omega), h (1442 + 5 * (6 * n + i) + 1) (by unfold nix; omega), h (1442 + 5 * (6 * n + j) + 1) (by unfold nix; omega)]; exact c i j hij hj
  · rw [h _ (by unfold nix; omega), h (1442 + 5 * (6 * n + i) + 1) (by unfold nix; omega)]; exact d i hi
  · rw [h _ (by unfold nix; omega), h (1680 + 7 * (4 * n + i) + 4) (by unfold nix; omega)]; exact e i hi
theorem wok_fr (h : ∀ i, 1502 ≤ i ∧ i < 1557 → tab' i = tab i) (hl : wok tab) : wok tab' := by
  obtain ⟨a, b, c⟩ := hl
  have h1 := h 1502 (by omega)
  unfold wok
  rw [h1]
  refine ⟨a, b, fun i hi => ?_⟩
  rw [h _ (by omega)]; exact c i hi
theorem rok_fr {i : Nat} (h : ∀ j, j < 15 → tab' (1558 + 15 * i + j) = tab (1558 + 15 * i + j)) (hl : rok tab i) : rok tab' i := by
  obtain ⟨a, b, c, d, e, f, g⟩ := hl
  have h0 : tab' (1558 + 15 * i) = tab (1558 + 15 * i) := h 0 (by omega)
  unfold rok
  rw [h0, h 1 (by omega), h 2 (by omega), h 3 (by omega), h 4 (by omega)]
  refine ⟨a, b, c, d, e, fun j hj => ?_, fun j hj => ?_⟩
  · rw [show 1558 + 15 * i + 7 + j = 1558 + 15 * i + (7 + j) by omega, h _ (by omega), show 1558 + 15 * i + (7 + j) = 1558 + 15 * i + 7 + j by omega]; exact f j hj
  · rw [show 1558 + 15 * i + 12 + j = 1558 + 15 * i + (12 + j) by omega, h _ (by omega), show 1558 + 15 * i + (12 + j) = 1558 + 15 * i + 12 + j by omega]; exact g j hj
theorem rrk_fr (h : ∀ i, 1557 ≤ i ∧ i < 1678 → tab' i = tab i) (hl : rrk tab) : rrk tab' := by
  obtain ⟨a, b, c⟩ := hl
  have h1 := h 1557 (by omega)
  unfold rrk
  rw [h1]
  exact ⟨a, b, fun i hi => rok_fr (fun j hj => h _ (by omega)) (c i hi)⟩
theorem tok_ext (h : ∀ i, i < 1740 → tab' i = tab i) (hk : tok tab) : tok tab' := by
  obtain ⟨a, b, c, d⟩ := tok_parts.mp hk
  exact tok_parts.mpr ⟨lok_all (fun i hi => h i (by omega)) a, fun n hn => nok_fr (fun i hi => h i (by unfold nix at hi; omega)) (b n hn), wok_fr (fun i hi => h i (by omega)) c, rrk_fr (fun i hi => h i (by omega)) d⟩
/-- letters alone have been told -/
theorem tok_L (hk : tok tab) (h : ∀ i, 864 ≤ i → tab' i = tab i) (hl : ∀ l, l < 96 → lok tab' l) : tok tab' := by
  obtain ⟨a, b, c, d⟩ := tok_parts.mp hk
  exact tok_parts.mpr ⟨hl, fun n hn => nok_fr (fun i hi => h i (by unfold nix at hi; omega)) (b n hn), wok_fr (fun i hi => h i (by omega)) c, rrk_fr (fun i hi => h i (by omega)) d⟩
theorem tok_letter {l j d k e : Int} (hk : tok tab) (hl : ¬ badL l) (hb : ¬ bad_letter j d k e) : tok (tab_letter tab l j d k e) := by
  have B := Classical.not_not.mp hb
  have hl' : 0 ≤ l ∧ l ≤ 95 := Classical.not_not.mp hl
  have out : ∀ i, ¬ (9 * l.toNat ≤ i ∧ i < 9 * l.toNat + 4) → tab_letter tab l j d k e i = tab i := fun i hi => by
    unfold tab_letter; rw [tset_at, if_neg (by omega), tset_at, if_neg (by omega), tset_at, if_neg (by omega), tset_at, if_neg (by omega)]
  refine tok_L hk (fun i hi => out i (by omega)) (fun m hm => ?_)
  have K := (tok_parts.mp hk).1 m hm
  by_cases c : m = l.toNat
  · subst c
    have v0 : tab_letter tab l j d k e (9 * l.toNat) = j := by unfold tab_letter; rw [tset_at, if_neg (by omega), tset_at, if_neg (by omega), tset_at, if_neg (by omega), tset_at, if_pos rfl]
    have v1 : tab_letter tab l j d k e (9 * l.toNat + 1) = d := by unfold tab_letter; rw [tset_at, if_neg (by omega), tset_at, if_neg (by omega), tset_at, if_pos rfl]
    have v2 : tab_letter tab l j d k e (9 * l.toNat + 2) = k := by unfold tab_letter; rw [tset_at, if_neg (by omega), tset_at, if_pos rfl]
    have v3 : tab_letter tab l j d k e (9 * l.toNat + 3) = e := by unfold tab_letter; rw [tset_at, if_pos rfl]
    unfold lok at *
    rw [v0, v1, v2, v3, out _ (by omega), out _ (by omega), out (9 * l.toNat + 6) (by omega), out (9 * l.toNat + 7) (by omega), out (9 * l.toNat + 8) (by omega)]
    exact ⟨B.1, B.2.1, B.2.2.1, B.2.2.2, K.2.2.2.2⟩
  · exact lok_fr (fun i hi => out _ (by omega)) K
theorem tok_split {l a b : Int} (hk : tok tab) (hl : ¬ badL l) (hb : ¬ bad_split l a b) : tok (tab_split tab l a b) := by
  have B := Classical.not_not.mp hb
  have hl' : 0 ≤ l ∧ l ≤ 95 := Classical.not_not.mp hl
  have out : ∀ i, ¬ (9 * l.toNat + 4 ≤ i ∧ i < 9 * l.toNat + 6) → tab_split tab l a b i = tab i := fun i hi => by
    unfold tab_split; rw [tset_at, if_neg (by omega), tset_at, if_neg (by omega)]
  refine tok_L hk (fun i hi => out i (by omega)) (fun m hm => ?_)
  have K := (tok_parts.mp hk).1 m hm
  by_cases c : m = l.toNat
  · subst c
    have v0 : tab_split tab l a b (9 * l.toNat + 4) = a + 1 := by unfold tab_split; rw [tset_at, if_neg (by omega), tset_at, if_pos rfl]
    have v1 : tab_split tab l a b (9 * l.toNat + 5) = b + 1 := by unfold tab_split; rw [tset_at, if_pos rfl]
    unfold lok at *
    rw [v0, v1, out (9 * l.toNat) (by omega), out (9 * l.toNat + 1) (by omega), out (9 * l.toNat + 2) (by omega), out (9 * l.toNat + 3) (by omega), out (9 * l.toNat + 6) (by omega), out (9 * l.toNat + 7) (by omega), out (9 * l.toNat + 8) (by omega)]
    exact ⟨K.1, K.2.1, K.2.2.1, K.2.2.2.1, by omega, K.2.2.2.2.2⟩
  · exact lok_fr (fun i hi => out _ (by omega)) K
theorem tok_cap {l a b : Int} (hk : tok tab) (hl : ¬ badL l) (hb : ¬ bad_cap a b) : tok (tab_cap tab l a b) := by
  have B := Classical.not_not.mp hb
  have hl' : 0 ≤ l ∧ l ≤ 95 := Classical.not_not.mp hl
  have out : ∀ i, ¬ (9 * l.toNat + 6 ≤ i ∧ i < 9 * l.toNat + 8) → tab_cap tab l a b i = tab i := fun i hi => by
    unfold tab_cap; rw [tset_at, if_neg (by omega), tset_at, if_neg (by omega)]
  refine tok_L hk (fun i hi => out i (by omega)) (fun m hm => ?_)
  have K := (tok_parts.mp hk).1 m hm
  by_cases c : m = l.toNat
  · subst c
    have v0 : tab_cap tab l a b (9 * l.toNat + 6) = a + 1 := by unfold tab_cap; rw [tset_at, if_neg (by omega), tset_at, if_pos rfl]
    have v1 : tab_cap tab l a b (9 * l.toNat + 7) = b + 1 := by unfold tab_cap; rw [tset_at, if_pos rfl]
    unfold lok at *
    rw [v0, v1, out (9 * l.toNat) (by omega), out (9 * l.toNat + 1) (by omega), out (9 * l.toNat + 2) (by omega), out (9 * l.toNat + 3) (by omega), out (9 * l.toNat + 4) (by omega), out (9 * l.toNat + 5) (by omega), out (9 * l.toNat + 8) (by omega)]
    have B3 := B.2.2
    exact ⟨K.1, K.2.1, K.2.2.1, K.2.2.2.1, K.2.2.2.2.1, ⟨by omega, by omega, by omega, by omega, fun h => by have := B3 (by omega); omega⟩, K.2.2.2.2.2.2⟩
  · exact lok_fr (fun i hi => out _ (by omega)) K
theorem tok_part {a b : Int} (hk : tok tab) (hl : ¬ bad_part1 a b) (hb : ¬ bad_part tab a b) : tok (tab_part tab a b) := by
  have hl' := Classical.not_not.mp hl
  have B := Classical.not_not.mp hb
  have out : ∀ i, i ≠ 9 * a.toNat + 8 → i ≠ 9 * b.toNat + 8 → tab_part tab a b i = tab i := fun i h1 h2 => by
    unfold tab_part; rw [tset_at, if_neg h2, tset_at, if_neg h1]
  refine tok_L hk (fun i hi => out i (by omega) (by omega)) (fun m hm => ?_)
  have K := (tok_parts.mp hk).1 m hm
  have v : -96 ≤ tab_part tab a b (9 * m + 8) ∧ tab_part tab a b (9 * m + 8) ≤ 96 := by
    have := K.2.2.2.2.2.2
    unfold tab_part
    rw [tset_at, tset_at]
    split
    · omega
    · split
      · omega
      · exact this
  unfold lok at *
  rw [out (9 * m) (by omega) (by omega), out (9 * m + 1) (by omega) (by omega), out (9 * m + 2) (by omega) (by omega), out (9 * m + 3) (by omega) (by omega), out (9 * m + 4) (by omega) (by omega), out (9 * m + 5) (by omega) (by omega), out (9 * m + 6) (by omega) (by omega), out (9 * m + 7) (by omega) (by omega)]
  exact ⟨K.1, K.2.1, K.2.2.1, K.2.2.2.1, K.2.2.2.2.1, K.2.2.2.2.2.1, v⟩
theorem tok_weigh {A : Nat} {f s t : Int} (hk : tok tab) (hA : 864 ≤ A ∧ A + 3 ≤ 1440) : tok (tw3 tab A f s t) := by
  have out : ∀ i, ¬ (864 ≤ i ∧ i < 1440) → tw3 tab A f s t i = tab i := fun i hi => by rw [tw3_at, if_neg (by omega), if_neg (by omega), if_neg (by omega)]
  obtain ⟨a, b, c, d⟩ := tok_parts.mp hk
  exact tok_parts.mpr ⟨lok_all (fun i hi => out i (by omega)) a, fun n hn => nok_fr (fun i hi => out i (by unfold nix at hi; omega)) (b n hn), wok_fr (fun i hi => out i (by omega)) c, rrk_fr (fun i hi => out i (by omega)) d⟩
theorem tok_word {l : List Int} (hk : tok tab) (hb : ¬ bad_word tab l) : tok (tword tab l) := by
  have B := not_or.mp hb
  have B1 := Classical.not_not.mp B.1
  obtain ⟨a, b, c, d⟩ := tok_parts.mp hk
  obtain ⟨c1, c2, c3⟩ := c
  have B2 : tab 1502 ≠ 6 := B.2
  have out : ∀ i, i ≠ 1502 → ¬ (1503 + 9 * (tab 1502).toNat ≤ i ∧ i < 1503 + 9 * (tab 1502).toNat + 9) → tword tab l i = tab i := fun i h1 h2 => by
    unfold tword; rw [tset_at, if_neg h1, tput_at, if_neg (by omega), tset_at, if_neg (by omega)]
  refine tok_parts.mpr ⟨lok_all (fun i hi => out i (by omega) (by omega)) a, fun n hn => nok_fr (fun i hi => out i (by unfold nix at hi; omega) (by unfold nix at hi; omega)) (b n hn), ?_, rrk_fr (fun i hi => out i (by omega) (by omega)) d⟩
  have v : tword tab l 1502 = tab 1502 + 1 := by unfold tword; rw [tset_at, if_pos rfl]
  unfold wok
  rw [v]
  refine ⟨by omega, by omega, fun i hi => ?_⟩
  by_cases e : i = (tab 1502).toNat
  · have v2 : tword tab l (1503 + 9 * i) = l.length := by unfold tword; rw [tset_at, if_neg (by omega), tput_at, if_neg (by omega), tset_at, if_pos (by omega)]
    rw [v2]; omega
  · rw [out _ (by omega) (by omega)]; exact c3 i (by omega)
theorem tok_plural {n : Nat} {a b c d e f g : Int} (hk : tok tab) (hn : n < 2) (hb : ¬ bad_p2 a b c d e f g) (h4 : tab (1678 + n) ≠ 4) : tok (tplu tab n (plu7 a b c d e f g)) := by
  have B := Classical.not_not.mp hb
  obtain ⟨ka, kb, kc, kd⟩ := tok_parts.mp hk
  have kn := kb n hn
  have ln : (plu7 a b c d e f g).length = 7 := rfl
  have r1 := kn.2.1
  have out : ∀ i, i ≠ 1678 + n → ¬ (1680 + 7 * (4 * n + (tab (1678 + n)).toNat) ≤ i ∧ i < 1680 + 7 * (4 * n + (tab (1678 + n)).toNat) + 7) → tplu tab n (plu7 a b c d e f g) i = tab i := fun i h1 h2 => by
    unfold tplu; rw [tset_at, if_neg h1, tput_at, if_neg (by rw [ln]; omega)]
  refine tok_parts.mpr ⟨lok_all (fun i hi => out i (by omega) (by omega)) ka, fun m hm => ?_, wok_fr (fun i hi => out i (by omega) (by omega)) kc, rrk_fr (fun i hi => out i (by omega) (by omega)) kd⟩
  by_cases em : m = n
  · subst em
    have v : tplu tab m (plu7 a b c d e f g) (1678 + m) = tab (1678 + m) + 1 := by unfold tplu; rw [tset_at, if_pos rfl]
    obtain ⟨n1, n2, n3, n4, n5⟩ := kn
    have v1440 := out (1440 + m) (by omega) (by omega)
    unfold nok
    rw [v, v1440]
    refine ⟨n1, by omega, fun i j hij hj => ?_, fun i hi => ?_, fun i hi => ?_⟩
    · rw [out _ (by omega) (by omega), out _ (by omega) (by omega), out (1442 + 5 * (6 * m + i) + 1) (by omega) (by omega), out (1442 + 5 * (6 * m + j) + 1) (by omega) (by omega)]; exact n3 i j hij hj
    · rw [out _ (by omega) (by omega), out (1442 + 5 * (6 * m + i) + 1) (by omega) (by omega)]; exact n4 i hi
    · by_cases ei : i = (tab (1678 + m)).toNat
      · have w1 : tplu tab m (plu7 a b c d e f g) (1680 + 7 * (4 * m + i) + 1) = b := by
          unfold tplu; rw [tset_at, if_neg (by omega), tput_at, if_pos (by rw [ln]; omega), show 1680 + 7 * (4 * m + i) + 1 - (1680 + 7 * (4 * m + (tab (1678 + m)).toNat)) = 1 by omega]; rfl
        have w4 : tplu tab m (plu7 a b c d e f g) (1680 + 7 * (4 * m + i) + 4) = e := by
          unfold tplu; rw [tset_at, if_neg (by omega), tput_at, if_pos (by rw [ln]; omega), show 1680 + 7 * (4 * m + i) + 4 - (1680 + 7 * (4 * m + (tab (1678 + m)).toNat)) = 4 by omega]; rfl
        rw [w1, w4]; omega
      · rw [out _ (by omega) (by omega), out (1680 + 7 * (4 * m + i) + 4) (by omega) (by omega)]; exact n5 i (by omega)
  · exact nok_fr (fun i hi => out i (by unfold nix at hi; omega) (by unfold nix at hi; omega)) (kb m hm)
end

