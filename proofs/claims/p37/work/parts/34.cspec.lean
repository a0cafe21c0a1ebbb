/-! ===== what forms are, as lists ===== -/
def lets (xs : List Int) : Prop := ∀ x ∈ xs, 0 ≤ x ∧ x ≤ 95
theorem lets_nil : lets [] := fun _ h => by cases h
theorem lets_app {xs ys : List Int} : lets (xs ++ ys) ↔ lets xs ∧ lets ys := by
  constructor
  · intro h; exact ⟨fun x hx => h x (List.mem_append_left _ hx), fun x hx => h x (List.mem_append_right _ hx)⟩
  · rintro ⟨h1, h2⟩ x hx
    rcases List.mem_append.mp hx with q | q
    · exact h1 x q
    · exact h2 x q
theorem lets_cons {x : Int} {xs : List Int} : lets (x :: xs) ↔ (0 ≤ x ∧ x ≤ 95) ∧ lets xs := by
  constructor
  · intro h; exact ⟨h x List.mem_cons_self, fun y hy => h y (List.mem_cons_of_mem _ hy)⟩
  · rintro ⟨h1, h2⟩ y hy
    rcases List.mem_cons.mp hy with rfl | q
    · exact h1
    · exact h2 y q
theorem lets_gt {xs : List Int} (h : lets xs) {k : Int} (h0 : 0 ≤ k) (hk : k < xs.length) : 0 ≤ gt xs k ∧ gt xs k ≤ 95 := by
  rw [gt_in h0, List.getD_eq_getElem?_getD, List.getElem?_eq_getElem (by omega)]
  exact h _ (List.getElem_mem _)
theorem gt_getElem {xs : List Int} {k : Nat} (hk : k < xs.length) : gt xs k = xs[k] := by
  rw [gt_nat, List.getD_eq_getElem?_getD, List.getElem?_eq_getElem hk]; rfl
theorem gt_app_l {xs ys : List Int} {k : Nat} (hk : k < xs.length) : gt (xs ++ ys) k = gt xs k := by
  rw [gt_nat, gt_nat, List.getD_eq_getElem?_getD, List.getD_eq_getElem?_getD, List.getElem?_append_left hk]
theorem gt_app_r {xs ys : List Int} {k : Nat} (hk : xs.length ≤ k) : gt (xs ++ ys) k = gt ys ((k - xs.length : Nat) : Int) := by
  rw [gt_nat, gt_nat, List.getD_eq_getElem?_getD, List.getD_eq_getElem?_getD, List.getElem?_append_right hk]
theorem gt_ext {xs ys : List Int} (h : xs.length = ys.length) (hg : ∀ k : Nat, k < xs.length → gt xs k = gt ys k) : xs = ys := by
  apply List.ext_getElem h
  intro i h1 h2
  rw [← gt_getElem h1, ← gt_getElem h2]
  exact hg i h1
/-- a letter's joining class; the two that it splits into, -1 for none -/
def jo (tab : Nat → Int) (x : Int) : Int := tab (9 * x.toNat)
def s1 (tab : Nat → Int) (x : Int) : Int := tab (9 * x.toNat + 4) - 1
def s2 (tab : Nat → Int) (x : Int) : Int := tab (9 * x.toNat + 5) - 1
theorem jo_rng {tab : Nat → Int} (hk : tok tab) {x : Int} (h : 0 ≤ x ∧ x ≤ 95) : 0 ≤ jo tab x ∧ jo tab x ≤ 9 := (hk.1 x.toNat (by omega)).1
theorem s12 {tab : Nat → Int} (hk : tok tab) {x : Int} (h : 0 ≤ x ∧ x ≤ 95) : -1 ≤ s1 tab x ∧ s1 tab x < x ∧ -1 ≤ s2 tab x ∧ s2 tab x < x ∧ (s1 tab x < 0 ↔ s2 tab x < 0) := by
  have := (hk.1 x.toNat (by omega)).2.2.2.2.1
  unfold s1 s2
  omega
def xp (tab : Nat → Int) : Nat → Int → List Int
  | 0, l => [l]
  | n + 1, l => if s1 tab l < 0 then [l] else xp tab n (s1 tab l) ++ xp tab n (s2 tab l)
theorem xp_fuel {tab : Nat → Int} (hk : tok tab) : ∀ (n m : Nat) (l : Int), 0 ≤ l ∧ l ≤ 95 → l < n → l < m → xp tab n l = xp tab m l := by
  intro n
  induction n with
  | zero => intro m l h h1; omega
  | succ n ih =>
    intro m l h h1 h2
    cases m with
    | zero => omega
    | succ m =>
      have := s12 hk h
      simp only [xp]
      by_cases c : s1 tab l < 0
      · rw [if_pos c, if_pos c]
      · rw [if_neg c, if_neg c, ih m (s1 tab l) (by omega) (by omega) (by omega), ih m (s2 tab l) (by omega) (by omega) (by omega)]
/-- what comes of a letter when it is split as far as can be -/
def xl (tab : Nat → Int) (l : Int) : List Int := xp tab 97 l
theorem xl_eq {tab : Nat → Int} (hk : tok tab) {l : Int} (h : 0 ≤ l ∧ l ≤ 95) : xl tab l = if s1 tab l < 0 then [l] else xl tab (s1 tab l) ++ xl tab (s2 tab l) := by
  have := s12 hk h
  unfold xl
  rw [show xp tab 97 l = if s1 tab l < 0 then [l] else xp tab 96 (s1 tab l) ++ xp tab 96 (s2 tab l) from rfl]
  by_cases c : s1 tab l < 0
  · rw [if_pos c, if_pos c]
  · rw [if_neg c, if_neg c, xp_fuel hk 96 97 (s1 tab l) (by omega) (by omega) (by omega), xp_fuel hk 96 97 (s2 tab l) (by omega) (by omega) (by omega)]
theorem xl_1 {tab : Nat → Int} (hk : tok tab) {l : Int} (h : 0 ≤ l ∧ l ≤ 95) (c : s1 tab l < 0) : xl tab l = [l] := by rw [xl_eq hk h, if_pos c]
theorem xl_2 {tab : Nat → Int} (hk : tok tab) {l : Int} (h : 0 ≤ l ∧ l ≤ 95) (c : ¬ s1 tab l < 0) : xl tab l = xl tab (s1 tab l) ++ xl tab (s2 tab l) := by rw [xl_eq hk h, if_neg c]
theorem xp_pos (tab : Nat → Int) : ∀ (n : Nat) (l : Int), 1 ≤ (xp tab n l).length := by
  intro n
  induction n with
  | zero => intro l; simp [xp]
  | succ n ih =>
    intro l
    simp only [xp]
    by_cases c : s1 tab l < 0
    · rw [if_pos c]; simp
    · rw [if_neg c, List.length_append]; have := ih (s1 tab l); omega
theorem xp_let {tab : Nat → Int} (hk : tok tab) : ∀ (n : Nat) (l : Int), 0 ≤ l ∧ l ≤ 95 → lets (xp tab n l) := by
  intro n
  induction n with
  | zero => intro l h; exact lets_cons.mpr ⟨h, lets_nil⟩
  | succ n ih =>
    intro l h
    have := s12 hk h
    simp only [xp]
    by_cases c : s1 tab l < 0
    · rw [if_pos c]; exact lets_cons.mpr ⟨h, lets_nil⟩
    · rw [if_neg c]; exact lets_app.mpr ⟨ih _ (by omega), ih _ (by omega)⟩
def xls (tab : Nat → Int) (xs : List Int) : List Int := xs.flatMap (xl tab)
theorem xls_nil (tab : Nat → Int) : xls tab [] = [] := rfl
theorem xls_cons (tab : Nat → Int) (x : Int) (xs : List Int) : xls tab (x :: xs) = xl tab x ++ xls tab xs := rfl
theorem xls_app (tab : Nat → Int) (xs ys : List Int) : xls tab (xs ++ ys) = xls tab xs ++ xls tab ys := List.flatMap_append
theorem xls_1 (tab : Nat → Int) (x : Int) : xls tab [x] = xl tab x := by rw [xls_cons, xls_nil, List.append_nil]
theorem xls_len (tab : Nat → Int) (xs : List Int) : xs.length ≤ (xls tab xs).length := by
  induction xs with
  | nil => exact Nat.zero_le _
  | cons x xs ih =>
    rw [xls_cons, List.length_append, List.length_cons]
    have := xp_pos tab 97 x
    unfold xl
    omega
theorem xls_let {tab : Nat → Int} (hk : tok tab) {xs : List Int} (h : lets xs) : lets (xls tab xs) := by
  induction xs with
  | nil => exact lets_nil
  | cons x xs ih =>
    rw [xls_cons]
    have := lets_cons.mp h
    exact lets_app.mpr ⟨xp_let hk 97 x this.1, ih this.2⟩
/-! marks in their order -/
def insr (tab : Nat → Int) (x : Int) : List Int → List Int
  | [] => [x]
  | y :: ys => if 0 < jo tab x ∧ jo tab x < jo tab y then y :: insr tab x ys else x :: y :: ys
def srr (tab : Nat → Int) (xs : List Int) : List Int := xs.foldl (fun acc x => insr tab x acc) []
def srt (tab : Nat → Int) (xs : List Int) : List Int := (srr tab xs).reverse
theorem insr_comm {tab : Nat → Int} {a b : Int} (h0 : 0 < jo tab b) (h1 : jo tab b < jo tab a) : ∀ acc : List Int, insr tab b (insr tab a acc) = insr tab a (insr tab b acc) := by
  intro acc
  induction acc with
  | nil => simp only [insr]; rw [if_pos ⟨h0, h1⟩, if_neg (by omega)]
  | cons y ys ih =>
    simp only [insr]
    by_cases ca : 0 < jo tab a ∧ jo tab a < jo tab y
    · rw [if_pos ca, if_pos (by omega)]
      simp only [insr]
      rw [if_pos (by omega), if_pos ca, ih]
    · rw [if_neg ca]
      by_cases cb : 0 < jo tab b ∧ jo tab b < jo tab y
      · rw [if_pos cb]
        simp only [insr]
        rw [if_pos ⟨h0, h1⟩, if_pos cb, if_neg ca]
      · rw [if_neg cb]
        simp only [insr]
        rw [if_pos ⟨h0, h1⟩, if_neg cb, if_neg (by omega)]
theorem srr_app (tab : Nat → Int) (xs ys : List Int) : srr tab (xs ++ ys) = ys.foldl (fun acc x => insr tab x acc) (srr tab xs) := List.foldl_append
theorem srr_snoc (tab : Nat → Int) (xs : List Int) (x : Int) : srr tab (xs ++ [x]) = insr tab x (srr tab xs) := by rw [srr_app]; rfl
theorem srr_swap {tab : Nat → Int} {a b : Int} (h0 : 0 < jo tab b) (h1 : jo tab b < jo tab a) (p q : List Int) : srr tab (p ++ b :: a :: q) = srr tab (p ++ a :: b :: q) := by
  rw [srr_app, srr_app]
  simp only [List.foldl_cons]
  rw [insr_comm h0 h1]
theorem insr_len (tab : Nat → Int) (x : Int) (acc : List Int) : (insr tab x acc).length = acc.length + 1 := by
  induction acc with
  | nil => rfl
  | cons y ys ih =>
    simp only [insr]
    by_cases c : 0 < jo tab x ∧ jo tab x < jo tab y
    · rw [if_pos c, List.length_cons, ih, List.length_cons]
    · rw [if_neg c]; rfl
theorem take_succ_gt {xs : List Int} {n : Nat} (h : n < xs.length) : xs.take (n + 1) = xs.take n ++ [gt xs n] := by
  rw [gt_getElem h, List.take_append_getElem h]
theorem srr_len (tab : Nat → Int) (xs : List Int) : ∀ n, n ≤ xs.length → (srr tab (xs.take n)).length = n := by
  intro n
  induction n with
  | zero => intro _; rfl
  | succ n ih =>
    intro h
    rw [take_succ_gt (by omega), srr_snoc, insr_len, ih (by omega)]
theorem srt_len (tab : Nat → Int) (xs : List Int) : (srt tab xs).length = xs.length := by
  unfold srt
  have := srr_len tab xs xs.length (Nat.le_refl _)
  rw [List.take_length] at this
  rw [List.length_reverse, this]
/-- nothing stands side by side that would change places -/
def nrm (tab : Nat → Int) (xs : List Int) : Prop := ∀ i : Nat, i + 1 < xs.length → ¬ (0 < jo tab (gt xs (i + 1 : Nat)) ∧ jo tab (gt xs (i + 1 : Nat)) < jo tab (gt xs i))
theorem srr_nrm {tab : Nat → Int} {xs : List Int} (h : nrm tab xs) : ∀ n, n ≤ xs.length → srr tab (xs.take n) = (xs.take n).reverse := by
  intro n
  induction n with
  | zero => intro _; rfl
  | succ n ih =>
    intro hn
    rw [take_succ_gt (by omega), srr_snoc, ih (by omega), List.reverse_append]
    show insr tab (gt xs n) (xs.take n).reverse = gt xs n :: (xs.take n).reverse
    cases n with
    | zero => rfl
    | succ m =>
      rw [take_succ_gt (by omega), List.reverse_append]
      show insr tab (gt xs (m + 1 : Nat)) (gt xs m :: (xs.take m).reverse) = _
      simp only [insr]
      rw [if_neg (h m (by omega))]
      rfl
theorem srt_nrm {tab : Nat → Int} {xs : List Int} (h : nrm tab xs) : srt tab xs = xs := by
  unfold srt
  have := srr_nrm h xs.length (Nat.le_refl _)
  rw [List.take_length] at this
  rw [this, List.reverse_reverse]
theorem insr_mem {tab : Nat → Int} {x z : Int} {acc : List Int} : z ∈ insr tab x acc ↔ z = x ∨ z ∈ acc := by
  induction acc with
  | nil => simp [insr]
  | cons y ys ih =>
    simp only [insr]
    by_cases c : 0 < jo tab x ∧ jo tab x < jo tab y
    · rw [if_pos c, List.mem_cons, ih, List.mem_cons]
      constructor
      · rintro (h | h | h)
        · exact Or.inr (Or.inl h)
        · exact Or.inl h
        · exact Or.inr (Or.inr h)
      · rintro (h | h | h)
        · exact Or.inr (Or.inl h)
        · exact Or.inl h
        · exact Or.inr (Or.inr h)
    · rw [if_neg c, List.mem_cons]
theorem srr_let {tab : Nat → Int} {xs : List Int} (h : lets xs) : lets (srr tab xs) := by
  have : ∀ (ys acc : List Int), lets ys → lets acc → lets (ys.foldl (fun acc x => insr tab x acc) acc) := by
    intro ys
    induction ys with
    | nil => intro acc _ h2; exact h2
    | cons y ys ih =>
      intro acc h1 h2
      rw [List.foldl_cons]
      have q := lets_cons.mp h1
      refine ih _ q.2 (fun z hz => ?_)
      rcases insr_mem.mp hz with rfl | hz
      · exact q.1
      · exact h2 z hz
  exact this xs [] h lets_nil
theorem srt_let {tab : Nat → Int} {xs : List Int} (h : lets xs) : lets (srt tab xs) := fun x hx => srr_let h x (List.mem_reverse.mp hx)
/-- unmarked letters stay in their order -/
def unm (tab : Nat → Int) (xs : List Int) : List Int := xs.filter (fun x => decide (jo tab x = 0))
theorem insr_unm (tab : Nat → Int) (x : Int) (acc : List Int) : unm tab (insr tab x acc) = if jo tab x = 0 then x :: unm tab acc else unm tab acc := by
  unfold unm
  induction acc with
  | nil =>
    simp only [insr]
    by_cases c : jo tab x = 0
    · rw [if_pos c, List.filter_cons_of_pos (by simp [c])]
    · rw [if_neg c, List.filter_cons_of_neg (by simp [c])]
  | cons y ys ih =>
    simp only [insr]
    by_cases c : 0 < jo tab x ∧ jo tab x < jo tab y
    · rw [if_pos c, if_neg (by omega), List.filter_cons_of_neg (by simp; omega), ih, if_neg (by omega), List.filter_cons_of_neg (by simp; omega)]
    · rw [if_neg c]
      by_cases d : jo tab x = 0
      · rw [if_pos d, List.filter_cons_of_pos (by simp [d])]
      · rw [if_neg d, List.filter_cons_of_neg (by simp [d])]
theorem srr_unm (tab : Nat → Int) (xs : List Int) : unm tab (srr tab xs) = (unm tab xs).reverse := by
  have : ∀ (ys acc : List Int), unm tab (ys.foldl (fun acc x => insr tab x acc) acc) = (unm tab ys).reverse ++ unm tab acc := by
    intro ys
    induction ys with
    | nil => intro acc; rfl
    | cons y ys ih =>
      intro acc
      rw [List.foldl_cons, ih, insr_unm]
      unfold unm
      by_cases d : jo tab y = 0
      · rw [if_pos d, List.filter_cons_of_pos (by simp [d]), List.reverse_cons, List.append_assoc]; rfl
      · rw [if_neg d, List.filter_cons_of_neg (by simp [d])]
  have h := this xs []
  show unm tab (xs.foldl (fun acc x => insr tab x acc) []) = _
  rw [h]
  exact List.append_nil _
theorem srt_unm (tab : Nat → Int) (xs : List Int) : unm tab (srt tab xs) = unm tab xs := by
  unfold srt
  have h := srr_unm tab xs
  unfold unm at h ⊢
  rw [List.filter_reverse, h, List.reverse_reverse]
theorem unm_app (tab : Nat → Int) (xs ys : List Int) : unm tab (xs ++ ys) = unm tab xs ++ unm tab ys := List.filter_append ..
/-- two neighbours -/
theorem two_at {xs : List Int} {i : Nat} (h : i + 1 < xs.length) : ∃ p q, xs = p ++ gt xs i :: gt xs (i + 1 : Nat) :: q ∧ p.length = i ∧ (xs.set (i + 1) (gt xs i)).set i (gt xs (i + 1 : Nat)) = p ++ gt xs (i + 1 : Nat) :: gt xs i :: q := by
  have e : xs = xs.take i ++ gt xs i :: gt xs (i + 1 : Nat) :: xs.drop (i + 2) := by
    rw [gt_getElem (by omega), gt_getElem h, List.getElem_cons_drop, List.getElem_cons_drop, List.take_append_drop]
  have lp : (xs.take i).length = i := by rw [List.length_take]; omega
  refine ⟨xs.take i, xs.drop (i + 2), e, lp, ?_⟩
  generalize gt xs i = a at *
  generalize gt xs (i + 1 : Nat) = b at *
  generalize xs.take i = p at *
  generalize xs.drop (i + 2) = q at *
  subst e
  rw [List.set_append_right _ _ (by omega), List.set_append_right _ _ (by omega), show i + 1 - p.length = 1 by omega, show i - p.length = 0 by omega]
  rfl
/-- how far marks have come -/
def pot (tab : Nat → Int) : Nat → List Int → Int
  | _, [] => 0
  | i, x :: xs => i * jo tab x + pot tab (i + 1) xs
theorem pot_app (tab : Nat → Int) : ∀ (p q : List Int) (i : Nat), pot tab i (p ++ q) = pot tab i p + pot tab (i + p.length) q := by
  intro p
  induction p with
  | nil => intro q i; simp [pot]
  | cons x p ih =>
    intro q i
    rw [List.cons_append]
    simp only [pot]
    rw [ih, List.length_cons, show i + 1 + p.length = i + (p.length + 1) by omega]
    omega
theorem pot_swap {tab : Nat → Int} {a b : Int} (p q : List Int) : pot tab 0 (p ++ b :: a :: q) = pot tab 0 (p ++ a :: b :: q) + (jo tab a - jo tab b) := by
  rw [pot_app, pot_app]
  simp only [pot]
  generalize 0 + p.length = n
  have e1 : ((n + 1 : Nat) : Int) * jo tab a = n * jo tab a + jo tab a := by rw [Int.natCast_add, Int.add_mul]; simp
  have e2 : ((n + 1 : Nat) : Int) * jo tab b = n * jo tab b + jo tab b := by rw [Int.natCast_add, Int.add_mul]; simp
  omega
theorem pot_le {tab : Nat → Int} (hk : tok tab) : ∀ (xs : List Int) (i n : Nat), lets xs → i + xs.length ≤ n → 0 ≤ pot tab i xs ∧ pot tab i xs ≤ 9 * n * xs.length := by
  intro xs
  induction xs with
  | nil => intro i n _ _; simp [pot]
  | cons x xs ih =>
    intro i n hl hn
    have q := lets_cons.mp hl
    have j := jo_rng hk q.1
    rw [List.length_cons] at hn
    have h1 := ih (i + 1) n q.2 (by omega)
    simp only [pot, List.length_cons]
    have a1 : (0 : Int) ≤ i * jo tab x := Int.mul_nonneg (by omega) j.1
    have a2 : (i : Int) * jo tab x ≤ n * 9 := Int.mul_le_mul (by omega) j.2 j.1 (by omega)
    have a3 : (9 : Int) * n * ((xs.length + 1 : Nat) : Int) = 9 * n * xs.length + 9 * n := by rw [Int.natCast_add, Int.mul_add]; simp
    omega

