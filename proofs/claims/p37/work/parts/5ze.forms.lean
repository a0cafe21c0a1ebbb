/-! ===== forms of forms ===== -/
section
variable {tab : Nat → Int}
/-- letters that do not split -/
def nos (tab : Nat → Int) (xs : List Int) : Prop := ∀ x ∈ xs, s1 tab x < 0
theorem xp_nos (hk : tok tab) : ∀ (n : Nat) (l : Int), 0 ≤ l ∧ l ≤ 95 → l < n → nos tab (xp tab n l) := by
  intro n
  induction n with
  | zero => intro l h h1; omega
  | succ n ih =>
    intro l h h1
    have := s12 hk h
    simp only [xp]
    by_cases c : s1 tab l < 0
    · rw [if_pos c]
      intro x hx
      rw [List.mem_singleton] at hx
      rw [hx]; exact c
    · rw [if_neg c]
      intro x hx
      rcases List.mem_append.mp hx with q | q
      · exact ih _ (by omega) (by omega) x q
      · exact ih _ (by omega) (by omega) x q
theorem xls_nos (hk : tok tab) {xs : List Int} (h : lets xs) : nos tab (xls tab xs) := by
  intro x hx
  obtain ⟨y, hy, hxy⟩ := List.mem_flatMap.mp hx
  have := h y hy
  exact xp_nos hk 97 y this (by omega) x hxy
theorem xls_id (hk : tok tab) : ∀ xs : List Int, lets xs → nos tab xs → xls tab xs = xs := by
  intro xs
  induction xs with
  | nil => intro _ _; rfl
  | cons x xs ih =>
    intro h hn
    have q := lets_cons.mp h
    rw [xls_cons, xl_1 hk q.1 (hn x List.mem_cons_self), ih q.2 (fun y hy => hn y (List.mem_cons_of_mem _ hy))]
    rfl
theorem srr_mem {xs : List Int} {z : Int} (h : z ∈ srr tab xs) : z ∈ xs := by
  have g : ∀ (ys acc : List Int), z ∈ ys.foldl (fun acc x => insr tab x acc) acc → z ∈ ys ∨ z ∈ acc := by
    intro ys
    induction ys with
    | nil => intro acc q; exact Or.inr q
    | cons y ys ih =>
      intro acc q
      rw [List.foldl_cons] at q
      rcases ih _ q with c | c
      · exact Or.inl (List.mem_cons_of_mem _ c)
      · rcases insr_mem.mp c with c | c
        · rw [c]; exact Or.inl List.mem_cons_self
        · exact Or.inr c
  rcases g xs [] h with c | c
  · exact c
  · cases c
theorem srt_mem {xs : List Int} {z : Int} (h : z ∈ srt tab xs) : z ∈ xs := srr_mem (List.mem_reverse.mp h)
/-- side by side, from the last letter on, none that would change places -/
def chn (tab : Nat → Int) : List Int → Prop
  | [] => True
  | a :: r => (∀ b ∈ r.head?, ¬ (0 < jo tab a ∧ jo tab a < jo tab b)) ∧ chn tab r
theorem insr_hd {x : Int} : ∀ acc : List Int, (insr tab x acc).head? = some x ∨ ((insr tab x acc).head? = acc.head? ∧ ∀ b ∈ acc.head?, 0 < jo tab x ∧ jo tab x < jo tab b) := by
  intro acc
  cases acc with
  | nil => exact Or.inl rfl
  | cons y ys =>
    simp only [insr]
    by_cases c : 0 < jo tab x ∧ jo tab x < jo tab y
    · rw [if_pos c]
      refine Or.inr ⟨rfl, fun b hb => ?_⟩
      simp only [List.head?_cons, Option.mem_def, Option.some.injEq] at hb
      rw [← hb]; exact c
    · rw [if_neg c]; exact Or.inl rfl
theorem insr_chn {x : Int} : ∀ acc : List Int, chn tab acc → chn tab (insr tab x acc) := by
  intro acc
  induction acc with
  | nil => intro _; exact ⟨(by intro b hb; cases hb), trivial⟩
  | cons y ys ih =>
    intro h
    simp only [insr]
    by_cases c : 0 < jo tab x ∧ jo tab x < jo tab y
    · rw [if_pos c]
      refine ⟨fun b hb => ?_, ih h.2⟩
      rcases insr_hd (tab := tab) (x := x) ys with q | q
      · rw [q, Option.mem_def, Option.some.injEq] at hb
        rw [← hb]; omega
      · rw [q.1] at hb
        exact h.1 b hb
    · rw [if_neg c]
      refine ⟨fun b hb => ?_, h⟩
      simp only [List.head?_cons, Option.mem_def, Option.some.injEq] at hb
      rw [← hb]; exact c
theorem srr_chn (xs : List Int) : chn tab (srr tab xs) := by
  have g : ∀ (ys acc : List Int), chn tab acc → chn tab (ys.foldl (fun acc x => insr tab x acc) acc) := by
    intro ys
    induction ys with
    | nil => intro acc q; exact q
    | cons y ys ih => intro acc q; rw [List.foldl_cons]; exact ih _ (insr_chn acc q)
  exact g xs [] trivial
theorem chn_at : ∀ (l : List Int), chn tab l → ∀ j : Nat, (h : j + 1 < l.length) → ¬ (0 < jo tab l[j] ∧ jo tab l[j] < jo tab l[j + 1]) := by
  intro l
  induction l with
  | nil => intro _ j h; exact absurd h (Nat.not_lt_zero _)
  | cons a r ih =>
    intro hc j h
    cases j with
    | zero =>
      cases r with
      | nil => exact absurd h (by simp)
      | cons b r => exact hc.1 b rfl
    | succ j => exact ih hc.2 j (by simpa using h)
theorem nrm_srt (xs : List Int) : nrm tab (srt tab xs) := by
  intro i hi
  have C := srr_chn (tab := tab) xs
  unfold srt at hi ⊢
  generalize srr tab xs = r at C hi
  rw [List.length_reverse] at hi
  have h1 : i < r.reverse.length := by rw [List.length_reverse]; omega
  have h2 : i + 1 < r.reverse.length := by rw [List.length_reverse]; omega
  rw [gt_getElem h1, gt_getElem h2, List.getElem_reverse, List.getElem_reverse]
  have K := chn_at r C (r.length - 1 - (i + 1)) (by omega)
  have e : r.length - 1 - (i + 1) + 1 = r.length - 1 - i := by omega
  simp only [e] at K
  exact K
theorem srt_idem (xs : List Int) : srt tab (srt tab xs) = srt tab xs := srt_nrm (nrm_srt xs)
theorem lets_mem {xs ys : List Int} (h : lets xs) (hm : ∀ z, z ∈ ys → z ∈ xs) : lets ys := fun z hz => h z (hm z hz)
/-- the split form is its own split form -/
theorem split_fix (hk : tok tab) {xs : List Int} (h : lets xs) : xls tab (srt tab (xls tab xs)) = srt tab (xls tab xs) :=
  xls_id hk _ (srt_let (xls_let hk h)) (fun x hx => xls_nos hk h x (srt_mem hx))
theorem fold_fix (hk : tok tab) {xs : List Int} (h : lets xs) : xls tab (fo tab xs) = fo tab xs ∧ srt tab (fo tab xs) = fo tab xs := by
  have hl := (caps_let hk h).1
  have hm : ∀ z, z ∈ fo tab xs → z ∈ fl tab xs := fun z hz => (List.mem_filter.mp hz).1
  have hL : lets (fo tab xs) := lets_mem (xls_let hk hl) hm
  refine ⟨xls_id hk _ hL (fun x hx => xls_nos hk hl x (hm x hx)), srt_nrm (fun i hi => ?_)⟩
  have h2 : gt (fo tab xs) (i + 1 : Nat) ∈ fo tab xs := by rw [gt_getElem hi]; exact List.getElem_mem _
  have := of_decide_eq_true (List.mem_filter.mp h2).2
  omega
theorem fsp_z {xs ys : List Int} (h : fsp tab 0 xs = some ys) : (xls tab xs).length ≤ 80 ∧ ys = srt tab (xls tab xs) := by
  unfold fsp at h
  rw [if_neg (by decide)] at h
  by_cases c : (xls tab xs).length ≤ 80
  · rw [if_pos c, if_pos rfl] at h
    exact ⟨c, (Option.some.inj h).symm⟩
  · rw [if_neg c] at h; cases h
theorem fsp_zi {xs : List Int} (c : (xls tab xs).length ≤ 80) : fsp tab 0 xs = some (srt tab (xls tab xs)) := by
  unfold fsp
  rw [if_neg (by decide), if_pos c, if_pos rfl]
theorem fsp_1i {xs : List Int} (c : (xls tab xs).length ≤ 80) : fsp tab 1 xs = some (jnd tab (srt tab (xls tab xs))) := by
  unfold fsp
  rw [if_neg (by decide), if_pos c, if_neg (by decide), if_pos rfl]
theorem fsp_00 (hk : tok tab) {xs ys : List Int} (hl : lets xs) (h : fsp tab 0 xs = some ys) : fsp tab 0 ys = some ys := by
  obtain ⟨c, rfl⟩ := fsp_z h
  have e := split_fix hk hl
  rw [fsp_zi (by rw [e, srt_len]; exact c), e, srt_idem]
theorem fsp_01 (hk : tok tab) {xs ys : List Int} (hl : lets xs) (h : fsp tab 0 xs = some ys) : ∃ js, fsp tab 1 xs = some js ∧ js.length ≤ ys.length ∧ fsp tab 1 ys = some js := by
  obtain ⟨c, rfl⟩ := fsp_z h
  have e := split_fix hk hl
  exact ⟨_, fsp_1i c, jnd_le tab _, by rw [fsp_1i (by rw [e, srt_len]; exact c), e, srt_idem]⟩
theorem fsp_02 (hk : tok tab) {xs zs : List Int} (hl : lets xs) (h : fsp tab 2 xs = some zs) : fsp tab 0 zs = some zs := by
  have P := fsp_ok hk hl h
  unfold fsp at h
  rw [if_pos rfl] at h
  by_cases c : (fl tab xs).length ≤ 80
  · rw [if_pos c] at h
    have e := Option.some.inj h
    subst e
    have F := fold_fix hk hl
    rw [fsp_zi (by rw [F.1]; exact P.2), F.1, F.2]
  · rw [if_neg c] at h; cases h
end
