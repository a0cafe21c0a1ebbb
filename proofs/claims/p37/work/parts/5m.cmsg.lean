/-! ===== message: what it is ===== -/
/-- one choice: whose, one was chosen, this one is heard -/
abbrev Fch : Type := Int × Bool × Bool
def hrd : List Fch → Bool
  | [] => true
  | f :: st => f.2.2 && hrd st
def dgu : Nat → Int → List Int
  | 0, n => [48 + n % 10]
  | k + 1, n => (48 + n / 10 ^ (k + 1) % 10) :: dgu k n
def tpn (n : Int) : Nat := if n < 10 then 0 else if n < 100 then 1 else if n < 1000 then 2 else if n < 10000 then 3 else if n < 100000 then 4 else 5
def dgs (n : Int) : List Int := dgu (tpn n) n
def cps (out l : List Int) : List Int := l.foldl cpp out
/-- where a case begins that has its key at a place, or -1 -/
def kend (tp : List Int) (p : Int) : Int :=
  if gt tp p = 111 ∨ gt tp p = 102 ∨ gt tp p = 109 ∨ gt tp p = 120 then (if gt tp (p + 1) = 61 then p + 2 else -1)
  else if gt tp p = 35 ∧ 48 ≤ gt tp (p + 1) ∧ gt tp (p + 1) ≤ 51 then (if gt tp (p + 2) = 61 then p + 3 else -1) else -1
abbrev kfp (tp nums : List Int) (cl : Int → Int) (p wh : Int) : Prop :=
  gt tp p = 120 ∨ (gt tp p = 111 ∧ cl (gt nums wh) = 0) ∨ (gt tp p = 102 ∧ cl (gt nums wh) = 1) ∨ (gt tp p = 109 ∧ cl (gt nums wh) = 2) ∨ (gt tp p = 35 ∧ gt nums wh = gt tp (p + 1) - 48)
def kfit (tp nums : List Int) (cl : Int → Int) (p wh : Int) : Bool := decide (kfp tp nums cl p wh)
def nxt (tp nums : List Int) (cl : Int → Int) (q : Int) : List Fch → List Fch
  | [] => []
  | f :: st => (f.1, f.2.1 || kfit tp nums cl q f.1, kfit tp nums cl q f.1 && !f.2.1) :: st
def run (tp nums : List Int) (cl : Int → Int) : Nat → Int → List Fch → List Int → Option (List Int)
  | 0, _, _, _ => none
  | k + 1, p, st, out =>
    if tp.length ≤ p then (if st = [] then some out else none)
    else if gt tp p = 123 then
      (if 48 ≤ gt tp (p + 1) ∧ gt tp (p + 1) ≤ 51 then
        (if gt tp (p + 2) = 125 then run tp nums cl k (p + 3) st (if hrd st = true then cps out (dgs (gt nums (gt tp (p + 1) - 48))) else out)
        else if gt tp (p + 2) = 58 ∧ st.length < 6 ∧ kend tp (p + 3) ≠ -1 then run tp nums cl k (kend tp (p + 3)) (nxt tp nums cl (p + 3) ((gt tp (p + 1) - 48, false, false) :: st)) out else none)
      else none)
    else if gt tp p = 124 then (if st ≠ [] ∧ kend tp (p + 1) ≠ -1 then run tp nums cl k (kend tp (p + 1)) (nxt tp nums cl (p + 1) st) out else none)
    else if gt tp p = 125 then (if st ≠ [] then run tp nums cl k (p + 1) st.tail out else none)
    else if 32 ≤ gt tp p ∧ gt tp p ≤ 126 then run tp nums cl k (p + 1) st (if hrd st = true then cpp out (gt tp p) else out)
    else none
theorem kend_gt {tp : List Int} {p : Int} (h : kend tp p ≠ -1) : p + 2 ≤ kend tp p ∧ kend tp p ≤ p + 3 := by
  unfold kend at *
  by_cases a : gt tp p = 111 ∨ gt tp p = 102 ∨ gt tp p = 109 ∨ gt tp p = 120
  · rw [if_pos a] at *
    by_cases b : gt tp (p + 1) = 61
    · rw [if_pos b]; omega
    · rw [if_neg b] at h; exact absurd rfl h
  · rw [if_neg a] at *
    by_cases c : gt tp p = 35 ∧ 48 ≤ gt tp (p + 1) ∧ gt tp (p + 1) ≤ 51
    · rw [if_pos c] at *
      by_cases b : gt tp (p + 2) = 61
      · rw [if_pos b]; omega
      · rw [if_neg b] at h; exact absurd rfl h
    · rw [if_neg c] at h; exact absurd rfl h
theorem gt_len {tp : List Int} {p : Int} (h : gt tp p ≠ -1) : 0 ≤ p ∧ p < tp.length := by
  refine ⟨?_, ?_⟩
  · refine Int.not_lt.mp (fun q => h (gt_out (Or.inl q)))
  · refine Int.not_le.mp (fun q => h (gt_out (Or.inr q)))
theorem kend_le {tp : List Int} {p : Int} (h : kend tp p ≠ -1) : kend tp p ≤ tp.length := by
  unfold kend at *
  by_cases a : gt tp p = 111 ∨ gt tp p = 102 ∨ gt tp p = 109 ∨ gt tp p = 120
  · rw [if_pos a] at *
    by_cases b : gt tp (p + 1) = 61
    · rw [if_pos b]
      have := gt_len (tp := tp) (p := p + 1) (by rw [b]; decide); omega
    · rw [if_neg b] at h; exact absurd rfl h
  · rw [if_neg a] at *
    by_cases c : gt tp p = 35 ∧ 48 ≤ gt tp (p + 1) ∧ gt tp (p + 1) ≤ 51
    · rw [if_pos c] at *
      by_cases b : gt tp (p + 2) = 61
      · rw [if_pos b]
        have := gt_len (tp := tp) (p := p + 2) (by rw [b]; decide); omega
      · rw [if_neg b] at h; exact absurd rfl h
    · rw [if_neg c] at h; exact absurd rfl h
theorem run_irr {tp nums : List Int} {cl : Int → Int} : ∀ (k k' : Nat) (p : Int) (st : List Fch) (out : List Int), 0 < k → 0 < k' → tp.length < k + p → tp.length < k' + p → run tp nums cl k p st out = run tp nums cl k' p st out := by
  intro k
  induction k with
  | zero => intro k' p st out h; omega
  | succ k ih =>
    intro k' p st out _ h2 h3 h4
    obtain ⟨m, rfl⟩ : ∃ m, k' = m + 1 := ⟨k' - 1, by omega⟩
    rw [run, run]
    by_cases c0 : (tp.length : Int) ≤ p
    · rw [if_pos c0, if_pos c0]
    rw [if_neg c0, if_neg c0]
    have I : ∀ (q : Int) (st2 : List Fch) (o2 : List Int), p < q → run tp nums cl k q st2 o2 = run tp nums cl m q st2 o2 := fun q st2 o2 hq => ih m q st2 o2 (by omega) (by omega) (by omega) (by omega)
    by_cases c1 : gt tp p = 123
    · rw [if_pos c1, if_pos c1]
      by_cases c2 : 48 ≤ gt tp (p + 1) ∧ gt tp (p + 1) ≤ 51
      · rw [if_pos c2, if_pos c2]
        by_cases c3 : gt tp (p + 2) = 125
        · rw [if_pos c3, if_pos c3]; exact I _ _ _ (by omega)
        · rw [if_neg c3, if_neg c3]
          by_cases c4 : gt tp (p + 2) = 58 ∧ st.length < 6 ∧ kend tp (p + 3) ≠ -1
          · rw [if_pos c4, if_pos c4]; exact I _ _ _ (by have := kend_gt c4.2.2; omega)
          · rw [if_neg c4, if_neg c4]
      · rw [if_neg c2, if_neg c2]
    rw [if_neg c1, if_neg c1]
    by_cases c2 : gt tp p = 124
    · rw [if_pos c2, if_pos c2]
      by_cases c4 : st ≠ [] ∧ kend tp (p + 1) ≠ -1
      · rw [if_pos c4, if_pos c4]; exact I _ _ _ (by have := kend_gt c4.2; omega)
      · rw [if_neg c4, if_neg c4]
    rw [if_neg c2, if_neg c2]
    by_cases c3 : gt tp p = 125
    · rw [if_pos c3, if_pos c3]
      by_cases c4 : st ≠ []
      · rw [if_pos c4, if_pos c4]; exact I _ _ _ (by omega)
      · rw [if_neg c4, if_neg c4]
    rw [if_neg c3, if_neg c3]
    by_cases c4 : 32 ≤ gt tp p ∧ gt tp p ≤ 126
    · rw [if_pos c4, if_pos c4]; exact I _ _ _ (by omega)
    · rw [if_neg c4, if_neg c4]
/-- the whole way from a place on -/
def RUN (tp nums : List Int) (cl : Int → Int) (p : Int) (st : List Fch) (out : List Int) : Option (List Int) := run tp nums cl 161 p st out
section
variable {tp nums : List Int} {cl : Int → Int} {p : Int} {st : List Fch} {out : List Int}
theorem RUN_step (h : tp.length ≤ 160) (h0 : 0 ≤ p) (h1 : p < tp.length) : RUN tp nums cl p st out =
    (if gt tp p = 123 then
      (if 48 ≤ gt tp (p + 1) ∧ gt tp (p + 1) ≤ 51 then
        (if gt tp (p + 2) = 125 then RUN tp nums cl (p + 3) st (if hrd st = true then cps out (dgs (gt nums (gt tp (p + 1) - 48))) else out)
        else if gt tp (p + 2) = 58 ∧ st.length < 6 ∧ kend tp (p + 3) ≠ -1 then RUN tp nums cl (kend tp (p + 3)) (nxt tp nums cl (p + 3) ((gt tp (p + 1) - 48, false, false) :: st)) out else none)
      else none)
    else if gt tp p = 124 then (if st ≠ [] ∧ kend tp (p + 1) ≠ -1 then RUN tp nums cl (kend tp (p + 1)) (nxt tp nums cl (p + 1) st) out else none)
    else if gt tp p = 125 then (if st ≠ [] then RUN tp nums cl (p + 1) st.tail out else none)
    else if 32 ≤ gt tp p ∧ gt tp p ≤ 126 then RUN tp nums cl (p + 1) st (if hrd st = true then cpp out (gt tp p) else out)
    else none) := by
  have I : ∀ (q : Int) (st2 : List Fch) (o2 : List Int), p < q → run tp nums cl 160 q st2 o2 = RUN tp nums cl q st2 o2 := fun q st2 o2 hq => run_irr 160 161 q st2 o2 (by omega) (by omega) (by omega) (by omega)
  unfold RUN at I ⊢
  rw [run, if_neg (by omega)]
  by_cases c1 : gt tp p = 123
  · rw [if_pos c1, if_pos c1]
    by_cases c2 : 48 ≤ gt tp (p + 1) ∧ gt tp (p + 1) ≤ 51
    · rw [if_pos c2, if_pos c2]
      by_cases c3 : gt tp (p + 2) = 125
      · rw [if_pos c3, if_pos c3]; exact I _ _ _ (by omega)
      · rw [if_neg c3, if_neg c3]
        by_cases c4 : gt tp (p + 2) = 58 ∧ st.length < 6 ∧ kend tp (p + 3) ≠ -1
        · rw [if_pos c4, if_pos c4]; exact I _ _ _ (by have := kend_gt c4.2.2; omega)
        · rw [if_neg c4, if_neg c4]
    · rw [if_neg c2, if_neg c2]
  rw [if_neg c1, if_neg c1]
  by_cases c2 : gt tp p = 124
  · rw [if_pos c2, if_pos c2]
    by_cases c4 : st ≠ [] ∧ kend tp (p + 1) ≠ -1
    · rw [if_pos c4, if_pos c4]; exact I _ _ _ (by have := kend_gt c4.2; omega)
    · rw [if_neg c4, if_neg c4]
  rw [if_neg c2, if_neg c2]
  by_cases c3 : gt tp p = 125
  · rw [if_pos c3, if_pos c3]
    by_cases c4 : st ≠ []
    · rw [if_pos c4, if_pos c4]; exact I _ _ _ (by omega)
    · rw [if_neg c4, if_neg c4]
  rw [if_neg c3, if_neg c3]
  by_cases c4 : 32 ≤ gt tp p ∧ gt tp p ≤ 126
  · rw [if_pos c4, if_pos c4]; exact I _ _ _ (by omega)
  · rw [if_neg c4, if_neg c4]
theorem RUN_end (h : (tp.length : Int) ≤ p) : RUN tp nums cl p st out = if st = [] then some out else none := by
  unfold RUN; rw [run, if_pos h]
end
/-- a case that is to come: RUN goes on there -/
def CAS (tp nums : List Int) (cl : Int → Int) (q wh : Int) (c : Bool) (st : List Fch) (out : List Int) : Option (List Int) :=
  if kend tp q ≠ -1 then RUN tp nums cl (kend tp q) ((wh, c || kfit tp nums cl q wh, kfit tp nums cl q wh && !c) :: st) out else none
/-- what is told of bytes put out -/
theorem cpp_ok {out : List Int} {x : Int} (h : ouok out) (hx : 0 ≤ x ∧ x ≤ 255) : ouok (cpp out x) := by
  unfold cpp
  by_cases c : out.length < 200
  · rw [if_pos c]
    refine ⟨by rw [List.length_append, List.length_singleton]; omega, fun y hy => ?_⟩
    rcases List.mem_append.mp hy with q | q
    · exact h.2 y q
    · rw [List.mem_singleton.mp q]; exact hx
  · rw [if_neg c]; exact h
theorem cps_ok : ∀ (l : List Int) (out : List Int), ouok out → (∀ x ∈ l, 0 ≤ x ∧ x ≤ 255) → ouok (cps out l) := by
  intro l
  induction l with
  | nil => intro out h _; exact h
  | cons x l ih => intro out h hl; exact ih _ (cpp_ok h (hl x List.mem_cons_self)) (fun y hy => hl y (List.mem_cons_of_mem _ hy))
theorem dgu_ok (n : Int) : ∀ k, ∀ x ∈ dgu k n, 0 ≤ x ∧ x ≤ 255 := by
  intro k
  induction k with
  | zero => intro x hx; rw [List.mem_singleton.mp hx]; omega
  | succ k ih =>
    intro x hx
    rcases List.mem_cons.mp hx with rfl | q
    · have := Int.emod_nonneg (n / 10 ^ (k + 1)) (show (10 : Int) ≠ 0 by decide)
      have := Int.emod_lt_of_pos (n / 10 ^ (k + 1)) (show (0 : Int) < 10 by decide)
      omega
    · exact ih x q
theorem run_ok {tp nums : List Int} {cl : Int → Int} : ∀ (k : Nat) (p : Int) (st : List Fch) (out os : List Int), ouok out → run tp nums cl k p st out = some os → ouok os := by
  intro k
  induction k with
  | zero => intro p st out os _ h; cases h
  | succ k ih =>
    intro p st out os ho h
    rw [run] at h
    by_cases c0 : (tp.length : Int) ≤ p
    · rw [if_pos c0] at h
      by_cases c : st = []
      · rw [if_pos c] at h; cases h; exact ho
      · rw [if_neg c] at h; cases h
    rw [if_neg c0] at h
    by_cases c1 : gt tp p = 123
    · rw [if_pos c1] at h
      by_cases c2 : 48 ≤ gt tp (p + 1) ∧ gt tp (p + 1) ≤ 51
      · rw [if_pos c2] at h
        by_cases c3 : gt tp (p + 2) = 125
        · rw [if_pos c3] at h
          refine ih _ _ _ _ ?_ h
          split
          · exact cps_ok _ _ ho (dgu_ok _ _)
          · exact ho
        · rw [if_neg c3] at h
          by_cases c4 : gt tp (p + 2) = 58 ∧ st.length < 6 ∧ kend tp (p + 3) ≠ -1
          · rw [if_pos c4] at h; exact ih _ _ _ _ ho h
          · rw [if_neg c4] at h; cases h
      · rw [if_neg c2] at h; cases h
    rw [if_neg c1] at h
    by_cases c2 : gt tp p = 124
    · rw [if_pos c2] at h
      by_cases c4 : st ≠ [] ∧ kend tp (p + 1) ≠ -1
      · rw [if_pos c4] at h; exact ih _ _ _ _ ho h
      · rw [if_neg c4] at h; cases h
    rw [if_neg c2] at h
    by_cases c3 : gt tp p = 125
    · rw [if_pos c3] at h
      by_cases c4 : st ≠ []
      · rw [if_pos c4] at h; exact ih _ _ _ _ ho h
      · rw [if_neg c4] at h; cases h
    rw [if_neg c3] at h
    by_cases c4 : 32 ≤ gt tp p ∧ gt tp p ≤ 126
    · rw [if_pos c4] at h
      refine ih _ _ _ _ ?_ h
      split
      · exact cpp_ok ho (by omega)
      · exact ho
    · rw [if_neg c4] at h; cases h

