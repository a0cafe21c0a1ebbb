/-! ===== the tables: the class's objects against one row of numbers ===== -/
theorem tab_cases : ∀ T, KD T = 9 → T = 1 ∨ T = 126 ∨ T = 250 ∨ T = 374 ∨ T = 498 := by
  have h : (List.range 713).all (fun o => decide (KD o = 9 → o = 1 ∨ o = 126 ∨ o = 250 ∨ o = 374 ∨ o = 498)) = true := by decide +kernel
  intro o ho
  exact of_decide_eq_true (List.all_eq_true.mp h o (List.mem_range.mpr (KD_lt ho (by omega)))) ho
theorem tab_facts : ∀ T, KD T = 9 → (∀ j, j < 10 → KD (T + 1 + j) = 20 ∧ LEN (T + 1 + j) = 96) ∧ LEN (T + 11) = 2 ∧ LEN (T + 38) = 6 ∧ LEN (T + 51) = 8 ∧ (∀ i, i < 2 → RV (T + 11) i = T + 12 + 13 * i) ∧ (∀ i, i < 6 → RV (T + 38) i = T + 39 + 2 * i) ∧ (∀ i, i < 8 → RV (T + 51) i = T + 52 + 9 * i) := by
  intro T h
  rcases tab_cases T h with rfl | rfl | rfl | rfl | rfl <;> decide +kernel
theorem tab_kinds : ∀ T, KD T = 9 → (∀ i, i < 2 → KD (T + 12 + 13 * i) = 2) ∧ (∀ i, i < 6 → KD (T + 39 + 2 * i) = 7 ∧ LEN (T + 40 + 2 * i) = 8) ∧ (∀ i, i < 8 → KD (T + 52 + 9 * i) = 8) := by
  intro T h
  rcases tab_cases T h with rfl | rfl | rfl | rfl | rfl <;> decide +kernel
theorem lang_cases : ∀ T, KD T = 2 → T = 13 ∨ T = 26 ∨ T = 138 ∨ T = 151 ∨ T = 262 ∨ T = 275 ∨ T = 386 ∨ T = 399 ∨ T = 510 ∨ T = 523 := by
  have h : (List.range 713).all (fun o => decide (KD o = 2 → o = 13 ∨ o = 26 ∨ o = 138 ∨ o = 151 ∨ o = 262 ∨ o = 275 ∨ o = 386 ∨ o = 399 ∨ o = 510 ∨ o = 523)) = true := by decide +kernel
  intro o ho
  exact of_decide_eq_true (List.all_eq_true.mp h o (List.mem_range.mpr (KD_lt ho (by omega)))) ho
theorem lang_facts : ∀ L, KD L = 2 → (∀ r, r < 3 → KD (L + 1 + r) = 20 ∧ LEN (L + 1 + r) = 102) ∧ KD (L + 4) = 7 ∧ LEN (L + 5) = 6 ∧ KD (L + 6) = 7 ∧ LEN (L + 7) = 6 ∧ LEN (L + 8) = 4 ∧ (∀ i, i < 4 → RV (L + 8) i = L + 9 + i ∧ KD (L + 9 + i) = 6) := by
  intro L h
  rcases lang_cases L h with rfl | rfl | rfl | rfl | rfl | rfl | rfl | rfl | rfl | rfl <;> decide +kernel
theorem rule_facts : ∀ o, KD o = 8 → KD (o + 1) = 7 ∧ LEN (o + 2) = 2 ∧ KD (o + 3) = 7 ∧ LEN (o + 4) = 3 ∧ KD (o + 5) = 7 ∧ LEN (o + 6) = 2 ∧ KD (o + 7) = 7 ∧ LEN (o + 8) = 3 := by
  have h : (List.range 713).all (fun o => decide (KD o = 8 → KD (o + 1) = 7 ∧ LEN (o + 2) = 2 ∧ KD (o + 3) = 7 ∧ LEN (o + 4) = 3 ∧ KD (o + 5) = 7 ∧ LEN (o + 6) = 2 ∧ KD (o + 7) = 7 ∧ LEN (o + 8) = 3)) = true := by decide +kernel
  intro o ho
  exact of_decide_eq_true (List.all_eq_true.mp h o (List.mem_range.mpr (KD_lt ho (by omega)))) ho
/-- a piece of the row of numbers -/
def tl (tab : Nat → Int) (a n : Nat) : List Int := (List.range n).map (fun j => tab (a + j))
theorem tl_len (tab : Nat → Int) (a n : Nat) : (tl tab a n).length = n := by simp [tl]
theorem tl_gt {tab : Nat → Int} {a n : Nat} {i : Int} (h0 : 0 ≤ i) (h : i < n) : gt (tl tab a n) i = tab (a + i.toNat) := by
  rw [gt_in h0, List.getD_eq_getElem?_getD]
  simp [tl, List.getElem?_map, List.getElem?_range (show i.toNat < n by omega)]
theorem tl_gtn {tab : Nat → Int} {a n i : Nat} (h : i < n) : gt (tl tab a n) i = tab (a + i) := tl_gt (by omega) (by omega)
/-- what the objects say of one letter -/
def lrel (w : Wd) (T : Nat) (tab : Nat → Int) (l : Nat) : Prop :=
  (w.1 (T + 1) l).toInt = tab (9 * l) ∧ (w.1 (T + 2) l).toInt = tab (9 * l + 1) ∧ (w.1 (T + 3) l).toInt = tab (9 * l + 2) ∧ (w.1 (T + 4) l).toInt = tab (9 * l + 3) ∧
  (w.1 (T + 5) l).toInt = tab (9 * l + 4) - 1 ∧ (w.1 (T + 6) l).toInt = tab (9 * l + 5) - 1 ∧ (w.1 (T + 7) l).toInt = tab (9 * l + 6) - 1 ∧ (w.1 (T + 8) l).toInt = tab (9 * l + 7) - 1 ∧
  ((tab (9 * l + 8) = 0 ∧ (w.1 (T + 9) l).toInt = -1) ∨ (0 < tab (9 * l + 8) ∧ (w.1 (T + 9) l).toInt = tab (9 * l + 8) - 1 ∧ (w.1 (T + 10) l).toInt = 1) ∨ (tab (9 * l + 8) < 0 ∧ (w.1 (T + 9) l).toInt = - tab (9 * l + 8) - 1 ∧ (w.1 (T + 10) l).toInt = 0))
/-- of one language -/
def urel (w : Wd) (L : Nat) (tab : Nat → Int) (n : Nat) : Prop :=
  (∀ u, u < 96 → ∀ r, r < 3 → (w.1 (L + 1 + r) u).toInt = tab (864 + 3 * (96 * n + u) + r)) ∧
  ((rl w (L + 4)).length : Int) = tab (1440 + n) ∧ ((rl w (L + 6)).length : Int) = tab (1440 + n) ∧
  (∀ i : Nat, i < tab (1440 + n) → gt (rl w (L + 4)) i = tab (1442 + 5 * (6 * n + i)) ∧ gt (rl w (L + 6)) i = tab (1442 + 5 * (6 * n + i) + 1) ∧ ∀ r, r < 3 → (w.1 (L + 1 + r) (96 + i)).toInt = tab (1442 + 5 * (6 * n + i) + 2 + r)) ∧
  (w.1 L 6).toInt = tab (1678 + n) ∧ (∀ i : Nat, i < tab (1678 + n) → ∀ f, f < 7 → (w.1 (L + 9 + i) f).toInt = tab (1680 + 7 * (4 * n + i) + f))
/-- of one rule -/
def ruel (w : Wd) (o : Nat) (tab : Nat → Int) (i : Nat) : Prop :=
  (w.1 o 0).toInt = tab (1558 + 15 * i) ∧ rl w (o + 1) = tl tab (1558 + 15 * i + 5) (tab (1558 + 15 * i + 1)).toNat ∧ rl w (o + 3) = tl tab (1558 + 15 * i + 7) (tab (1558 + 15 * i + 2)).toNat ∧
  rl w (o + 5) = tl tab (1558 + 15 * i + 10) (tab (1558 + 15 * i + 3)).toNat ∧ rl w (o + 7) = tl tab (1558 + 15 * i + 12) (tab (1558 + 15 * i + 4)).toNat
def trel (w : Wd) (T : Nat) (tab : Nat → Int) : Prop :=
  (∀ l, l < 96 → lrel w T tab l) ∧ (∀ n, n < 2 → urel w (T + 12 + 13 * n) tab n) ∧
  ((w.1 T 12).toInt = tab 1502 ∧ ∀ i : Nat, i < tab 1502 → rl w (T + 39 + 2 * i) = tl tab (1503 + 9 * i + 1) (tab (1503 + 9 * i)).toNat) ∧
  ((w.1 T 14).toInt = tab 1557 ∧ ∀ i : Nat, i < tab 1557 → ruel w (T + 52 + 9 * i) tab i)
/-- what a row of numbers keeps to, letter by letter -/
def lok (tab : Nat → Int) (l : Nat) : Prop :=
  (0 ≤ tab (9 * l) ∧ tab (9 * l) ≤ 9) ∧ (0 ≤ tab (9 * l + 1) ∧ tab (9 * l + 1) ≤ 10) ∧ (0 ≤ tab (9 * l + 2) ∧ tab (9 * l + 2) ≤ 6) ∧ (0 ≤ tab (9 * l + 3) ∧ tab (9 * l + 3) ≤ 95) ∧
  (0 ≤ tab (9 * l + 4) ∧ tab (9 * l + 4) ≤ l ∧ 0 ≤ tab (9 * l + 5) ∧ tab (9 * l + 5) ≤ l ∧ (tab (9 * l + 4) = 0 ↔ tab (9 * l + 5) = 0)) ∧
  (0 ≤ tab (9 * l + 6) ∧ tab (9 * l + 6) ≤ 96 ∧ 0 ≤ tab (9 * l + 7) ∧ tab (9 * l + 7) ≤ 96 ∧ (tab (9 * l + 6) = 0 → tab (9 * l + 7) = 0)) ∧ (-96 ≤ tab (9 * l + 8) ∧ tab (9 * l + 8) ≤ 96)
def rok (tab : Nat → Int) (i : Nat) : Prop :=
  (tab (1558 + 15 * i) = 0 ∨ tab (1558 + 15 * i) = 1) ∧ (0 ≤ tab (1558 + 15 * i + 1) ∧ tab (1558 + 15 * i + 1) ≤ 2) ∧ (1 ≤ tab (1558 + 15 * i + 2) ∧ tab (1558 + 15 * i + 2) ≤ 3) ∧ (0 ≤ tab (1558 + 15 * i + 3) ∧ tab (1558 + 15 * i + 3) ≤ 2) ∧ (0 ≤ tab (1558 + 15 * i + 4) ∧ tab (1558 + 15 * i + 4) ≤ 3) ∧
  (∀ j : Nat, j < tab (1558 + 15 * i + 2) → 0 ≤ tab (1558 + 15 * i + 7 + j) ∧ tab (1558 + 15 * i + 7 + j) ≤ 95) ∧ (∀ j : Nat, j < tab (1558 + 15 * i + 4) → 0 ≤ tab (1558 + 15 * i + 12 + j) ∧ tab (1558 + 15 * i + 12 + j) ≤ 95)
def tok (tab : Nat → Int) : Prop :=
  (∀ l, l < 96 → lok tab l) ∧ (∀ n, n < 2 → (0 ≤ tab (1440 + n) ∧ tab (1440 + n) ≤ 6) ∧ (0 ≤ tab (1678 + n) ∧ tab (1678 + n) ≤ 4) ∧ (∀ i j : Nat, i < j → j < tab (1440 + n) → ¬ (tab (1442 + 5 * (6 * n + i)) = tab (1442 + 5 * (6 * n + j)) ∧ tab (1442 + 5 * (6 * n + i) + 1) = tab (1442 + 5 * (6 * n + j) + 1))) ∧ (∀ i : Nat, i < tab (1440 + n) → 0 ≤ tab (1442 + 5 * (6 * n + i)) ∧ 0 ≤ tab (1442 + 5 * (6 * n + i) + 1)) ∧ (∀ i : Nat, i < tab (1678 + n) → (1 ≤ tab (1680 + 7 * (4 * n + i) + 1) ∧ tab (1680 + 7 * (4 * n + i) + 1) ≤ 100) ∧ (0 ≤ tab (1680 + 7 * (4 * n + i) + 4) ∧ tab (1680 + 7 * (4 * n + i) + 4) ≤ 100))) ∧
  (0 ≤ tab 1502 ∧ tab 1502 ≤ 6 ∧ ∀ i : Nat, i < tab 1502 → 1 ≤ tab (1503 + 9 * i) ∧ tab (1503 + 9 * i) ≤ 8) ∧
  (0 ≤ tab 1557 ∧ tab 1557 ≤ 8 ∧ ∀ i : Nat, i < tab 1557 → rok tab i)
/-! what the class reads of a letter -/
theorem tcell {T : Nat} (hT : KD T = 9) (j : Nat) (hj : j < 10) {v d : Int32} {w : Wd} (h0 : 0 ≤ v.toInt) (h1 : v.toInt < 96) : f_X10_cellOf (T + 1 + j) v d w = some (w.1 (T + 1 + j) v.toInt.toNat, w) := by
  have h := ((tab_facts T hT).1 j hj).2
  exact e_cell (by omega) h0 (by omega)
section
variable {T : Nat} {v : Int32} {w : Wd} {tab : Nat → Int}
theorem s_joinsOf (hT : KD T = 9) (h0 : 0 ≤ v.toInt) (h1 : v.toInt < 96) (hr : trel w T tab) : Wp (f_X9_joinsOf T v w) (fun x w' => w = w' ∧ x.toInt = tab (9 * v.toInt.toNat)) := by
  unfold f_X9_joinsOf
  rw [tcell hT 0 (by omega) h0 h1]
  exact wp_ret ⟨rfl, (hr.1 v.toInt.toNat (by omega)).1⟩
theorem s_directionOf (hT : KD T = 9) (h0 : 0 ≤ v.toInt) (h1 : v.toInt < 96) (hr : trel w T tab) : Wp (f_X9_directionOf T v w) (fun x w' => w = w' ∧ x.toInt = tab (9 * v.toInt.toNat + 1)) := by
  unfold f_X9_directionOf
  rw [tcell hT 1 (by omega) h0 h1]
  exact wp_ret ⟨rfl, (hr.1 v.toInt.toNat (by omega)).2.1⟩
theorem s_kindOf (hT : KD T = 9) (h0 : 0 ≤ v.toInt) (h1 : v.toInt < 96) (hr : trel w T tab) : Wp (f_X9_kindOf T v w) (fun x w' => w = w' ∧ x.toInt = tab (9 * v.toInt.toNat + 2)) := by
  unfold f_X9_kindOf
  rw [tcell hT 2 (by omega) h0 h1]
  exact wp_ret ⟨rfl, (hr.1 v.toInt.toNat (by omega)).2.2.1⟩
theorem s_likeOf (hT : KD T = 9) (h0 : 0 ≤ v.toInt) (h1 : v.toInt < 96) (hr : trel w T tab) : Wp (f_X9_likeOf T v w) (fun x w' => w = w' ∧ x.toInt = tab (9 * v.toInt.toNat + 3)) := by
  unfold f_X9_likeOf
  rw [tcell hT 3 (by omega) h0 h1]
  exact wp_ret ⟨rfl, (hr.1 v.toInt.toNat (by omega)).2.2.2.1⟩
theorem s_splitOneOf (hT : KD T = 9) (h0 : 0 ≤ v.toInt) (h1 : v.toInt < 96) (hr : trel w T tab) : Wp (f_X9_splitOneOf T v w) (fun x w' => w = w' ∧ x.toInt = tab (9 * v.toInt.toNat + 4) - 1) := by
  unfold f_X9_splitOneOf
  rw [tcell hT 4 (by omega) h0 h1]
  exact wp_ret ⟨rfl, (hr.1 v.toInt.toNat (by omega)).2.2.2.2.1⟩
theorem s_splitOtherOf (hT : KD T = 9) (h0 : 0 ≤ v.toInt) (h1 : v.toInt < 96) (hr : trel w T tab) : Wp (f_X9_splitOtherOf T v w) (fun x w' => w = w' ∧ x.toInt = tab (9 * v.toInt.toNat + 5) - 1) := by
  unfold f_X9_splitOtherOf
  rw [tcell hT 5 (by omega) h0 h1]
  exact wp_ret ⟨rfl, (hr.1 v.toInt.toNat (by omega)).2.2.2.2.2.1⟩
theorem s_capitalOneOf (hT : KD T = 9) (h0 : 0 ≤ v.toInt) (h1 : v.toInt < 96) (hr : trel w T tab) : Wp (f_X9_capitalOneOf T v w) (fun x w' => w = w' ∧ x.toInt = tab (9 * v.toInt.toNat + 6) - 1) := by
  unfold f_X9_capitalOneOf
  rw [tcell hT 6 (by omega) h0 h1]
  exact wp_ret ⟨rfl, (hr.1 v.toInt.toNat (by omega)).2.2.2.2.2.2.1⟩
theorem s_capitalOtherOf (hT : KD T = 9) (h0 : 0 ≤ v.toInt) (h1 : v.toInt < 96) (hr : trel w T tab) : Wp (f_X9_capitalOtherOf T v w) (fun x w' => w = w' ∧ x.toInt = tab (9 * v.toInt.toNat + 7) - 1) := by
  unfold f_X9_capitalOtherOf
  rw [tcell hT 7 (by omega) h0 h1]
  exact wp_ret ⟨rfl, (hr.1 v.toInt.toNat (by omega)).2.2.2.2.2.2.2.1⟩
/-- the partner: 1 more than the closing one, or 1 less than less the opening one, 0 for none -/
def prt (x : Int) : Int := if x = 0 then -1 else if 0 < x then x - 1 else -x - 1
theorem s_partnerOf (hT : KD T = 9) (h0 : 0 ≤ v.toInt) (h1 : v.toInt < 96) (hr : trel w T tab) : Wp (f_X9_partnerOf T v w) (fun x w' => w = w' ∧ x.toInt = prt (tab (9 * v.toInt.toNat + 8))) := by
  unfold f_X9_partnerOf
  rw [tcell hT 8 (by omega) h0 h1]
  refine wp_ret ⟨rfl, ?_⟩
  show (w.1 (T + 9) v.toInt.toNat).toInt = _
  unfold prt
  rcases (hr.1 v.toInt.toNat (by omega)).2.2.2.2.2.2.2.2 with h | h | h
  · rw [if_pos h.1, h.2]
  · rw [if_neg (by omega), if_pos (by omega), h.2.1]
  · rw [if_neg (by omega), if_neg (by omega), h.2.1]
theorem s_isOpening (hT : KD T = 9) (hk : tok tab) (h0 : 0 ≤ v.toInt) (h1 : v.toInt < 96) (hr : trel w T tab) : Wp (f_X9_isOpening T v w) (fun x w' => w = w' ∧ x = zo (0 < tab (9 * v.toInt.toNat + 8))) := by
  unfold f_X9_isOpening
  have hl := (hk.1 v.toInt.toNat (by omega)).2.2.2.2.2.2
  have l0 := L01
  refine wp_bd (s_partnerOf hT h0 h1 hr) ?_
  rintro x _ ⟨rfl, hx⟩
  rw [tcell hT 9 (by omega) h0 h1]
  unfold prt at hx
  rcases (hr.1 v.toInt.toNat (by omega)).2.2.2.2.2.2.2.2 with h | h | h
  · rw [if_pos h.1] at hx
    exact wp_ifeq (fun q => wp_ret ⟨rfl, (zo_F (by omega)).symm⟩) (fun q => by omega)
  · rw [if_neg (by omega), if_pos (by omega)] at hx
    refine wp_ifeq (fun q => by omega) (fun q => ?_)
    show Wp (if w.1 (T + 10) v.toInt.toNat = 1 then _ else _) _
    exact wp_ifeq (fun q => wp_ret ⟨rfl, (zo_T (by omega)).symm⟩) (fun q => by rw [h.2.2] at q; omega)
  · rw [if_neg (by omega), if_neg (by omega)] at hx
    refine wp_ifeq (fun q => by omega) (fun q => ?_)
    show Wp (if w.1 (T + 10) v.toInt.toNat = 1 then _ else _) _
    exact wp_ifeq (fun q => by rw [h.2.2] at q; omega) (fun q => wp_ret ⟨rfl, (zo_F (by omega)).symm⟩)
theorem s_isClosing (hT : KD T = 9) (hk : tok tab) (h0 : 0 ≤ v.toInt) (h1 : v.toInt < 96) (hr : trel w T tab) : Wp (f_X9_isClosing T v w) (fun x w' => w = w' ∧ x = zo (tab (9 * v.toInt.toNat + 8) < 0)) := by
  unfold f_X9_isClosing
  have hl := (hk.1 v.toInt.toNat (by omega)).2.2.2.2.2.2
  have l0 := L01
  refine wp_bd (s_partnerOf hT h0 h1 hr) ?_
  rintro x _ ⟨rfl, hx⟩
  rw [tcell hT 9 (by omega) h0 h1]
  unfold prt at hx
  rcases (hr.1 v.toInt.toNat (by omega)).2.2.2.2.2.2.2.2 with h | h | h
  · rw [if_pos h.1] at hx
    exact wp_ifeq (fun q => wp_ret ⟨rfl, (zo_F (by omega)).symm⟩) (fun q => by omega)
  · rw [if_neg (by omega), if_pos (by omega)] at hx
    refine wp_ifeq (fun q => by omega) (fun q => ?_)
    show Wp (if w.1 (T + 10) v.toInt.toNat = 0 then _ else _) _
    exact wp_ifeq (fun q => by rw [h.2.2] at q; omega) (fun q => wp_ret ⟨rfl, (zo_F (by omega)).symm⟩)
  · rw [if_neg (by omega), if_neg (by omega)] at hx
    refine wp_ifeq (fun q => by omega) (fun q => ?_)
    show Wp (if w.1 (T + 10) v.toInt.toNat = 0 then _ else _) _
    exact wp_ifeq (fun q => wp_ret ⟨rfl, (zo_T (by omega)).symm⟩) (fun q => by rw [h.2.2] at q; omega)
end
/-! the reference's own look -/
