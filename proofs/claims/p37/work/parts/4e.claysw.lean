/-! ===== the reference lays words ===== -/
theorem sl_spec {tab : Nat → Int} {l : List Int} : ∀ (n : Nat) (i : Int), i ≤ l.length → (l.length : Int) - i ≤ n → i ≤ sl tab l n i ∧ sl tab l n i ≤ l.length ∧ (sl tab l n i < l.length → icl tab l (sl tab l n i) ∧ kd tab l (sl tab l n i) ≠ 6) ∧ ∀ j : Int, i ≤ j → j < sl tab l n i → ¬ (icl tab l j ∧ kd tab l j ≠ 6) := by
  intro n
  induction n with
  | zero =>
    intro i h h2
    have e : sl tab l 0 i = l.length := rfl
    rw [e]
    exact ⟨h, Int.le_refl _, fun q => by omega, fun j a b => by omega⟩
  | succ n ih =>
    intro i h h2
    by_cases c : i < l.length
    · rw [sl_in c]
      by_cases d : icl tab l i ∧ kd tab l i ≠ 6
      · rw [if_pos d]; exact ⟨Int.le_refl _, h, fun _ => d, fun j a b => by omega⟩
      · rw [if_neg d]
        have := ih (i + 1) (by omega) (by omega)
        refine ⟨by omega, this.2.1, this.2.2.1, fun j a b => ?_⟩
        by_cases e : j = i
        · rw [e]; exact d
        · exact this.2.2.2 j (by omega) b
    · rw [sl_out (by omega)]; exact ⟨by omega, Int.le_refl _, fun q => by omega, fun j a b => by omega⟩
theorem sl_uniq {tab : Nat → Int} {l : List Int} {T : Int} : ∀ (n : Nat) (i : Int), i ≤ T → T ≤ l.length → (l.length : Int) - i ≤ n → (T < l.length → icl tab l T ∧ kd tab l T ≠ 6) → (∀ j : Int, i ≤ j → j < T → ¬ (icl tab l j ∧ kd tab l j ≠ 6)) → sl tab l n i = T := by
  intro n i h1 h2 h3 h4 h5
  have S := sl_spec (tab := tab) (l := l) n i (by omega) h3
  by_cases c : sl tab l n i < T
  · exact absurd (S.2.2.1 (by omega)) (h5 _ S.1 c)
  · by_cases d : T < sl tab l n i
    · exact absurd (h4 (by omega)) (S.2.2.2 T h1 d)
    · omega
/-- an end of a word, or a cluster, of SEAMLESS ones that has been come upon -/
def visS (tab : Nat → Int) (l : List Int) (N : Nat) (i : Int) : Prop := ∃ n, n < N ∧ orb tab l n < l.length ∧ kd tab l (orb tab l n) = 6 ∧ nx tab l (orb tab l n) = i
theorem visS_s {tab : Nat → Int} {l : List Int} {N : Nat} {i : Int} (h : orb tab l N < l.length) (h6 : kd tab l (orb tab l N) = 6) : visS tab l (N + 1) i ↔ visS tab l N i ∨ i = nx tab l (orb tab l N) := by
  constructor
  · rintro ⟨n, a, b, c, e⟩
    by_cases d : n = N
    · subst d; exact Or.inr e.symm
    · exact Or.inl ⟨n, by omega, b, c, e⟩
  · rintro (⟨n, a, b, c⟩ | e)
    · exact ⟨n, by omega, b, c⟩
    · exact ⟨N, by omega, h, h6, e.symm⟩
theorem visS_n {tab : Nat → Int} {l : List Int} {N : Nat} {i : Int} (h6 : kd tab l (orb tab l N) ≠ 6) : visS tab l (N + 1) i ↔ visS tab l N i := by
  constructor
  · rintro ⟨n, a, b, c, e⟩
    by_cases d : n = N
    · subst d; exact absurd c h6
    · exact ⟨n, by omega, b, c, e⟩
  · rintro ⟨n, a, b, c⟩
    exact ⟨n, by omega, b, c⟩
theorem visS_end {tab : Nat → Int} {l : List Int} {N : Nat} {i : Int} (h40 : l.length ≤ 40) (h : l.length ≤ orb tab l N) : visS tab l N i ↔ visS tab l 40 i := by
  constructor
  · rintro ⟨n, a, b, c⟩
    have O := orb_bd (tab := tab) h40 n
    exact ⟨n, by omega, b, c⟩
  · rintro ⟨n, a, b, c⟩
    by_cases d : n < N
    · exact ⟨n, d, b, c⟩
    · have := orb_end h n (by omega)
      omega
theorem ca_eq {tab : Nat → Int} {l : List Int} {c : Int} : ∀ n : Nat, 0 ≤ c → c ≤ n → icl tab l c → (∀ j : Int, c < j → j ≤ n → ¬ icl tab l j) → ca tab l n = c := by
  intro n
  induction n with
  | zero => intro h0 h1 _ _; unfold ca; omega
  | succ n ih =>
    intro h0 h1 h2 h3
    unfold ca
    by_cases e : c = ((n + 1 : Nat) : Int)
    · rw [if_pos (e ▸ h2)]; exact e.symm
    · rw [if_neg (h3 _ (by omega) (Int.le_refl _))]
      exact ih h0 (by omega) h2 (fun j a b => h3 j a (by omega))
theorem vis_S {tab : Nat → Int} {l : List Int} {p : Nat} (h40 : l.length ≤ 40) (hp : 0 < p ∧ p < l.length) (h6 : kd tab l (ca tab l (p - 1)) = 6) : vis tab l 40 p ↔ visS tab l 40 p := by
  constructor
  · rintro ⟨n, a, b, c⟩
    refine ⟨n, a, b, ?_, c⟩
    by_cases d : kd tab l (orb tab l n) = 6
    · exact d
    · have O := orb_bd (tab := tab) h40 n
      have S := sn_bd (tab := tab) (l := l) 50 (orb tab l n + 1) (by omega) (by omega) (by omega)
      unfold nx at c
      rw [if_neg d] at c
      rw [c] at S
      have e : ca tab l (p - 1) = orb tab l n := by
        refine ca_eq _ O.1 (by omega) (O.2.2.1.elim (fun q => by omega) id) (fun j h1 h2 h3 => ?_)
        have := S.2.2.2 j (by omega) (by omega) (Or.inr h3)
        omega
      rw [e] at h6
      exact h6
  · rintro ⟨n, a, b, c, d⟩
    exact ⟨n, a, b, d⟩
section
variable {w0 : Wd} {tab : Nat → Int} {txt : Nat → List Int} {s many : Int32} {rc : Int32 × Int32 × Int32 × Wd → Option (Unit × Wd)} {Q : Unit → Wd → Prop}
end
