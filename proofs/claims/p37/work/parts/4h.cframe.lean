/-! ===== directions: frames ===== -/
theorem gt_snoc {l : List Int} {x : Int} {i : Int} : gt (l ++ [x]) i = if i = l.length then x else gt l i := by
  by_cases h0 : i < 0
  · rw [gt_out (Or.inl h0), if_neg (by omega), gt_out (Or.inl h0)]
  · obtain ⟨n, rfl⟩ : ∃ n : Nat, i = n := ⟨i.toNat, by omega⟩
    by_cases h1 : n < l.length
    · rw [gt_app_l h1, if_neg (by omega)]
    · rw [gt_app_r (by omega)]
      by_cases h2 : (n : Int) = l.length
      · rw [if_pos h2, show n - l.length = 0 by omega]; rfl
      · rw [if_neg h2, gt_out (Or.inr (by simp; omega)), gt_out (Or.inr (by omega))]
/-- now; frame of each letter; levels, arounds, beginnings, isolates open -/
abbrev FSt : Type := Int × List Int × List Int × List Int × List Int × List Int
/-- the frame around the innermost isolate -/
def aro (fa fb : List Int) (f : Int) : Nat → Int → Int
  | 0, _ => f
  | n + 1, i => if i ≤ 0 then f else if 7 ≤ gt fb i ∧ gt fb i ≤ 9 then gt fa i else aro fa fb f n (gt fa i)
def lw (a r : Int) : Int := if (a + 1) % 2 = r then (if a + 1 ≤ 9 then a + 1 else a) else (if a + 2 ≤ 9 then a + 2 else a)
def odd (tab : Nat → Int) (l : List Int) (k : Nat) (d : Int) : Int := if d = 5 ∨ d = 8 ∨ (d = 9 ∧ bf tab l 1 (l.length - (k + 1)) 0 = 1) then 1 else 0
def nw1 (tab : Nat → Int) (l : List Int) (st : FSt) (k : Nat) : Int := if dr tab l k = 10 then aro st.2.2.2.1 st.2.2.2.2.1 st.1 41 st.1 else st.1
def isD (d : Int) : Int := if 7 ≤ d ∧ d ≤ 9 then 1 else 0
abbrev frB (d : Int) : Prop := (d = 4 ∨ d = 5) ∨ (7 ≤ d ∧ d ≤ 9)
def frS (tab : Nat → Int) (l : List Int) (st : FSt) (k : Nat) : FSt :=
  if frB (dr tab l k) then ((st.2.2.1.length : Int), st.2.1 ++ [nw1 tab l st k], st.2.2.1 ++ [lw (gt st.2.2.1 (nw1 tab l st k)) (odd tab l k (dr tab l k))], st.2.2.2.1 ++ [nw1 tab l st k], st.2.2.2.2.1 ++ [dr tab l k], st.2.2.2.2.2 ++ [gt st.2.2.2.2.2 (nw1 tab l st k) + isD (dr tab l k)])
  else if dr tab l k = 6 ∧ (gt st.2.2.2.2.1 (nw1 tab l st k) = 4 ∨ gt st.2.2.2.2.1 (nw1 tab l st k) = 5) then (gt st.2.2.2.1 (nw1 tab l st k), st.2.1 ++ [nw1 tab l st k], st.2.2) else (nw1 tab l st k, st.2.1 ++ [nw1 tab l st k], st.2.2)
def fr (tab : Nat → Int) (l : List Int) (base : Int) : Nat → FSt
  | 0 => (0, [], [base], [-1], [-1], [0])
  | k + 1 => frS tab l (fr tab l base k) k
/-- what frames keep to -/
def frI (tab : Nat → Int) (l : List Int) (st : FSt) (k : Nat) : Prop :=
  (st.2.1.length = k ∧ 1 ≤ st.2.2.1.length ∧ st.2.2.1.length ≤ k + 1 ∧ st.2.2.2.1.length = st.2.2.1.length ∧ st.2.2.2.2.1.length = st.2.2.1.length ∧ st.2.2.2.2.2.length = st.2.2.1.length) ∧ (0 ≤ st.1 ∧ st.1 < st.2.2.1.length) ∧
  (∀ i : Int, 0 ≤ i → i < st.2.2.1.length → 0 ≤ gt st.2.2.1 i ∧ gt st.2.2.1 i ≤ 9) ∧
  (∀ i : Int, 1 ≤ i → i < st.2.2.1.length → (0 ≤ gt st.2.2.2.1 i ∧ gt st.2.2.2.1 i < i) ∧ frB (gt st.2.2.2.2.1 i) ∧ gt st.2.2.2.2.2 i = gt st.2.2.2.2.2 (gt st.2.2.2.1 i) + isD (gt st.2.2.2.2.1 i)) ∧
  (gt st.2.2.2.1 0 = -1 ∧ gt st.2.2.2.2.1 0 = -1 ∧ gt st.2.2.2.2.2 0 = 0) ∧ (∀ i : Int, 0 ≤ i → i < k → 0 ≤ gt st.2.1 i ∧ gt st.2.1 i < st.2.2.1.length) ∧
  (∀ i : Int, 0 ≤ i → i < st.2.2.1.length → 0 ≤ gt st.2.2.2.2.2 i) ∧ gt st.2.2.2.2.2 st.1 = (opn tab l k : Nat)
theorem aro_spec {tab : Nat → Int} {l : List Int} {st : FSt} {k : Nat} (h : frI tab l st k) (f : Int) : ∀ (n : Nat) (i : Int), 0 ≤ i → i < st.2.2.1.length → i < n →
    (gt st.2.2.2.2.2 i = 0 → aro st.2.2.2.1 st.2.2.2.2.1 f n i = f) ∧ (0 < gt st.2.2.2.2.2 i → ∃ j : Int, 1 ≤ j ∧ j ≤ i ∧ aro st.2.2.2.1 st.2.2.2.2.1 f n i = gt st.2.2.2.1 j ∧ gt st.2.2.2.2.2 (gt st.2.2.2.1 j) = gt st.2.2.2.2.2 i - 1) := by
  obtain ⟨_, _, _, h4, h5, _, h7, _⟩ := h
  intro n
  induction n with
  | zero => intro i h0 h1 h2; omega
  | succ n ih =>
    intro i h0 h1 h2
    rw [aro]
    by_cases c : i ≤ 0
    · have : i = 0 := by omega
      subst this
      rw [if_pos c]
      exact ⟨fun _ => rfl, fun q => by omega⟩
    · rw [if_neg c]
      obtain ⟨a, b, d⟩ := h4 i (by omega) h1
      have g := h7 _ a.1 (by omega)
      by_cases e : 7 ≤ gt st.2.2.2.2.1 i ∧ gt st.2.2.2.2.1 i ≤ 9
      · rw [if_pos e]
        unfold isD at d
        rw [if_pos e] at d
        exact ⟨fun q => by omega, fun _ => ⟨i, by omega, Int.le_refl _, rfl, by omega⟩⟩
      · rw [if_neg e]
        unfold isD at d
        rw [if_neg e] at d
        have I := ih _ a.1 (by omega) (by omega)
        refine ⟨fun q => I.1 (by omega), fun q => ?_⟩
        obtain ⟨j, j1, j2, j3, j4⟩ := I.2 (by omega)
        exact ⟨j, j1, by omega, j3, by omega⟩
theorem nw1_spec {tab : Nat → Int} {l : List Int} {st : FSt} {k : Nat} (h : frI tab l st k) (hk : k ≤ 40) : (0 ≤ nw1 tab l st k ∧ nw1 tab l st k < st.2.2.1.length) ∧ gt st.2.2.2.2.2 (nw1 tab l st k) = if dr tab l k = 10 then ((opn tab l k - 1 : Nat) : Int) else (opn tab l k : Nat) := by
  have A := aro_spec h st.1 41 st.1 h.2.1.1 h.2.1.2 (by have := h.1.2.2.1; have := h.2.1.2; omega)
  have h2 := h.2.1
  have h4 := h.2.2.2.1
  have h8 := h.2.2.2.2.2.2.2
  unfold nw1
  by_cases c : dr tab l k = 10
  · rw [if_pos c, if_pos c]
    by_cases z : gt st.2.2.2.2.2 st.1 = 0
    · rw [A.1 z]
      exact ⟨h2, by omega⟩
    · have p := h.2.2.2.2.2.2.1 _ h2.1 h2.2
      obtain ⟨j, j1, j2, j3, j4⟩ := A.2 (by omega)
      rw [j3]
      have q := h4 j j1 (by omega)
      exact ⟨by omega, by omega⟩
  · rw [if_neg c, if_neg c]
    exact ⟨h2, h8⟩
theorem lw_rng {a r : Int} (h : 0 ≤ a ∧ a ≤ 9) : 0 ≤ lw a r ∧ lw a r ≤ 9 := by
  unfold lw
  split
  · split <;> omega
  · split <;> omega
theorem frS_I {tab : Nat → Int} {l : List Int} {st : FSt} {k : Nat} (h : frI tab l st k) (hk : k < 40) : frI tab l (frS tab l st k) (k + 1) := by
  obtain ⟨N1, N2⟩ := nw1_spec h (by omega)
  obtain ⟨⟨a1, a2, a3, a4, a5, a6⟩, b, c, d, ⟨e1, e2, e3⟩, f, g, o⟩ := h
  have fo : ∀ m : Int, (m = (st.2.2.1.length : Int) ∨ m = (st.2.2.1.length : Int) + 1) → ∀ i : Int, 0 ≤ i → i < (k + 1 : Nat) → 0 ≤ gt (st.2.1 ++ [nw1 tab l st k]) i ∧ gt (st.2.1 ++ [nw1 tab l st k]) i < m := by
    intro m hm i h0 h1
    rw [gt_snoc]
    by_cases q : i = st.2.1.length
    · rw [if_pos q]; omega
    · rw [if_neg q]
      have := f i h0 (by omega)
      omega
  have lfo : (st.2.1 ++ [nw1 tab l st k]).length = k + 1 := by rw [List.length_append, a1]; rfl
  unfold frS
  by_cases q1 : frB (dr tab l k)
  · rw [if_pos q1]
    have B := lw_rng (r := odd tab l k (dr tab l k)) (c _ N1.1 N1.2)
    have ln : ∀ (xs : List Int) (x : Int), (xs ++ [x]).length = xs.length + 1 := fun xs x => by rw [List.length_append]; rfl
    refine ⟨⟨lfo, by dsimp only; rw [ln]; omega, by dsimp only; rw [ln]; omega, by dsimp only; rw [ln, ln]; omega, by dsimp only; rw [ln, ln]; omega, by dsimp only; rw [ln, ln]; omega⟩, ⟨by dsimp only; omega, by dsimp only; rw [ln]; omega⟩, fun i h0 h1 => ?_, fun i h0 h1 => ?_, ⟨?_, ?_, ?_⟩, ?_, fun i h0 h1 => ?_, ?_⟩
    · dsimp only at h1 ⊢
      rw [ln] at h1
      rw [gt_snoc]
      by_cases z : i = st.2.2.1.length
      · rw [if_pos z]; exact B
      · rw [if_neg z]; exact c i h0 (by omega)
    · dsimp only at h1 ⊢
      rw [ln] at h1
      rw [gt_snoc, gt_snoc, gt_snoc, gt_snoc, a4, a5, a6]
      by_cases z : i = st.2.2.1.length
      · rw [if_pos z, if_pos z, if_pos z, if_neg (by omega)]
        exact ⟨by omega, q1, rfl⟩
      · have D := d i h0 (by omega)
        rw [if_neg z, if_neg z, if_neg z, if_neg (by omega)]
        exact D
    · dsimp only; rw [gt_snoc, if_neg (by omega)]; exact e1
    · dsimp only; rw [gt_snoc, if_neg (by omega)]; exact e2
    · dsimp only; rw [gt_snoc, if_neg (by omega)]; exact e3
    · dsimp only; rw [ln]; exact fo _ (Or.inr (by omega))
    · dsimp only at h1 ⊢
      rw [ln] at h1
      rw [gt_snoc]
      by_cases z : i = st.2.2.2.2.2.length
      · rw [if_pos z]
        have := g _ N1.1 N1.2
        unfold isD
        split <;> omega
      · rw [if_neg z]; exact g i h0 (by omega)
    · dsimp only
      rw [gt_snoc, if_pos (by omega), N2, opn_s, if_neg (by omega)]
      unfold isD
      by_cases z : 7 ≤ dr tab l k ∧ dr tab l k ≤ 9
      · rw [if_pos z, if_pos z]; omega
      · rw [if_neg z, if_neg z, if_neg (by omega)]; omega
  · rw [if_neg q1]
    have no : ¬ (7 ≤ dr tab l k ∧ dr tab l k ≤ 9) := fun z => q1 (Or.inr z)
    by_cases q2 : dr tab l k = 6 ∧ (gt st.2.2.2.2.1 (nw1 tab l st k) = 4 ∨ gt st.2.2.2.2.1 (nw1 tab l st k) = 5)
    · rw [if_pos q2]
      have n1 : 1 ≤ nw1 tab l st k := by
        rcases Int.lt_or_le 0 (nw1 tab l st k) with z | z
        · omega
        · have : nw1 tab l st k = 0 := by omega
          rw [this, e2] at q2
          omega
      have D := d _ n1 N1.2
      refine ⟨⟨lfo, a2, by dsimp only; omega, a4, a5, a6⟩, ⟨D.1.1, by dsimp only; omega⟩, c, d, ⟨e1, e2, e3⟩, fo _ (Or.inl rfl), g, ?_⟩
      dsimp only
      have D2 := D.2.2
      unfold isD at D2
      rw [if_neg (by omega), N2, if_neg (by omega)] at D2
      rw [opn_s, if_neg no, if_neg (by omega)]
      omega
    · rw [if_neg q2]
      refine ⟨⟨lfo, a2, by dsimp only; omega, a4, a5, a6⟩, N1, c, d, ⟨e1, e2, e3⟩, fo _ (Or.inl rfl), g, ?_⟩
      dsimp only
      rw [N2, opn_s, if_neg no]
      by_cases z : dr tab l k = 10
      · rw [if_pos z, if_pos z]
      · rw [if_neg z, if_neg z]
theorem fr_I {tab : Nat → Int} {l : List Int} {base : Int} (hb : base = 0 ∨ base = 1) : ∀ k : Nat, k ≤ 40 → frI tab l (fr tab l base k) k := by
  intro k
  induction k with
  | zero =>
    intro _
    have g0 : ∀ x : Int, gt [x] 0 = x := fun x => rfl
    refine ⟨⟨rfl, Nat.le_refl _, Nat.le_refl _, rfl, rfl, rfl⟩, ⟨Int.le_refl _, (show (0 : Int) < ((1 : Nat) : Int) by decide)⟩, fun i h0 h1 => ?_, fun i h0 h1 => ?_, ⟨rfl, rfl, rfl⟩, fun i h0 h1 => by omega, fun i h0 h1 => ?_, rfl⟩
    · have : i = 0 := by
        have h2 : i < ((1 : Nat) : Int) := h1
        omega
      subst this
      show 0 ≤ gt [base] 0 ∧ gt [base] 0 ≤ 9
      rw [g0]; omega
    · have h2 : i < ((1 : Nat) : Int) := h1
      omega
    · have : i = 0 := by
        have h2 : i < ((1 : Nat) : Int) := h1
        omega
      subst this
      exact Int.le_refl _
  | succ k ih => intro h; exact frS_I (ih (by omega)) (by omega)
/-! the class lays frames -/
def lv (w w' : Wd) : Prop := oc (fun k => 651 ≤ k ∧ k ≤ 672) w w' ∧ okall w'
theorem lv_rf {w : Wd} (h : okall w) : lv w w := ⟨oc_rf, h⟩
theorem lv_tr {w w1 w2 : Wd} (h : lv w w1) (h2 : lv w1 w2) : lv w w2 := ⟨oc_tr h.1 h2.1, h2.2⟩
theorem lv_rs {w w1 w2 : Wd} {o : Nat} {l : List Int} (h : lv w w1) (hr : rs w1 w2 o l) (h1 : 651 ≤ o) (h2 : o ≤ 671) : lv w w2 :=
  ⟨oc_tr h.1 (oc_rs hr ⟨h1, by omega⟩ ⟨by omega, by omega⟩), okall_rs h.2 hr⟩
theorem lv_t {w w' : Wd} {tab : Nat → Int} (hk : tok tab) (h : lv w w') (ht : trel w 1 tab) : trel w' 1 tab := trel_fr hk ht (fun k _ b => h.1.1 k (by omega))
theorem lv_x {w w' : Wd} (h : lv w w') {o : Nat} (ho : o ≤ 649) : rl w' o = rl w o := rl_fr (h.1.1 o (by omega)) (h.1.1 (o + 1) (by omega))
theorem KLR : KD 651 = 7 ∧ KD 653 = 7 ∧ KD 655 = 7 ∧ KD 657 = 7 ∧ KD 659 = 7 ∧ KD 661 = 7 ∧ KD 663 = 7 ∧ KD 665 = 7 ∧ KD 667 = 7 ∧ KD 669 = 7 ∧ KD 671 = 7 := by decide +kernel
theorem LLR : LEN (651 + 1) = 40 ∧ LEN (653 + 1) = 41 ∧ LEN (655 + 1) = 41 ∧ LEN (657 + 1) = 41 ∧ LEN (659 + 1) = 40 ∧ LEN (661 + 1) = 40 ∧ LEN (663 + 1) = 40 ∧ LEN (665 + 1) = 40 ∧ LEN (667 + 1) = 40 ∧ LEN (669 + 1) = 40 ∧ LEN (671 + 1) = 40 := by decide +kernel
theorem e_isEmbed (x : Int32) (w : Wd) : f_X3_isEmbed x w = some (zo (x.toInt = 4 ∨ x.toInt = 5), w) := by
  have l4 : (4 : Int32).toInt = 4 := by decide
  have l5 : (5 : Int32).toInt = 5 := by decide
  unfold f_X3_isEmbed zo
  simp only [i_eq, l4, l5]
  by_cases a : x.toInt = 4
  · rw [if_pos a, if_pos (by omega)]
  · rw [if_neg a]
    by_cases b : x.toInt = 5
    · rw [if_pos b, if_pos (by omega)]
    · rw [if_neg b, if_neg (by omega)]
theorem and1_all : ∀ n, n < 32 → ((Int32.ofNat n) &&& (1 : Int32) = 0 ↔ n % 2 = 0) := by decide +kernel
theorem e_wayOf {x : Int32} {w : Wd} (h : 0 ≤ x.toInt ∧ x.toInt < 32) : ∃ r : Int32, f_X3_wayOf x w = some (r, w) ∧ r.toInt = x.toInt % 2 := by
  have L := LIT
  have A := and1_all x.toInt.toNat (by omega)
  rw [i_back h.1] at A
  unfold f_X3_wayOf
  by_cases c : x &&& 1 = 0
  · rw [if_pos c]
    have := A.mp c
    exact ⟨0, rfl, by omega⟩
  · rw [if_neg c]
    have : ¬ x.toInt.toNat % 2 = 0 := fun q => c (A.mpr q)
    exact ⟨1, rfl, by omega⟩
theorem s_lw46 {w : Wd} {a t : Int32} (ha : 0 ≤ a.toInt ∧ a.toInt ≤ 9) (ht : t.toInt = 0 ∨ t.toInt = 1) : Wp (f_X3_levelWithin_46 a t w) (fun r w' => w = w' ∧ r.toInt = lw a.toInt t.toInt) := by
  have L := LIT
  have l9 : (9 : Int32).toInt = 9 := by decide
  unfold f_X3_levelWithin_46
  refine wp_add (by omega) (fun n hn => ?_)
  obtain ⟨r, hr, hr2⟩ := e_wayOf (x := n) (w := w) (by omega)
  rw [hr, bd_r]
  have F : ∀ b : Int32, b.toInt = t.toInt → Wp (f_X3_levelWithin_69 a n r b w) (fun r w' => w = w' ∧ r.toInt = lw a.toInt t.toInt) := by
    intro b hb
    unfold f_X3_levelWithin_69 f_X3_levelWithin_75
    refine wp_ifeq (fun q => ?_) (fun q => wp_add (by omega) (fun m hm => ?_))
    · have e : lw a.toInt t.toInt = if a.toInt + 1 ≤ 9 then a.toInt + 1 else a.toInt := by unfold lw; rw [if_pos (by omega)]
      rw [e]
      refine wp_ifle (fun q2 => wp_ret ⟨rfl, ?_⟩) (fun q2 => wp_ret ⟨rfl, ?_⟩)
      · rw [if_pos (by omega)]; omega
      · rw [if_neg (by omega)]
    · have e : lw a.toInt t.toInt = if a.toInt + 2 ≤ 9 then a.toInt + 2 else a.toInt := by unfold lw; rw [if_neg (by omega)]
      rw [e]
      refine wp_ifle (fun q2 => wp_ret ⟨rfl, ?_⟩) (fun q2 => wp_ret ⟨rfl, ?_⟩)
      · rw [if_pos (by omega)]; omega
      · rw [if_neg (by omega)]
  exact wp_ifeq (fun q => F 0 (by omega)) (fun q => F 1 (by omega))
theorem s_levelWithin {w : Wd} {tab : Nat → Int} {o : Nat} {p d f : Int32} {l fl : List Int} (hk : tok tab) (h : trel w 1 tab) (ho : okall w) (h7 : KD o = 7) (hl : rl w o = l) (Y : lok40 l) (hp : 0 ≤ p.toInt ∧ p.toInt < l.length) (hfl : rl w 653 = fl) (hf : 0 ≤ gt fl f.toInt ∧ gt fl f.toInt ≤ 9) :
    Wp (f_X3_levelWithin o p d f w) (fun r w' => w = w' ∧ r.toInt = lw (gt fl f.toInt) (odd tab l p.toInt.toNat d.toInt)) := by
  have L := LIT
  have l5 : (5 : Int32).toInt = 5 := by decide
  have l8 : (8 : Int32).toInt = 8 := by decide
  have l9 : (9 : Int32).toInt = 9 := by decide
  have h40 := Y.1
  unfold f_X3_levelWithin
  refine wp_bd (s_get (ho _ KLR.2.1)) ?_
  rintro a _ ⟨rfl, ha⟩
  rw [hfl] at ha
  have one : odd tab l p.toInt.toNat d.toInt = 1 → Wp (f_X3_levelWithin_46 a 1 w) (fun r w' => w = w' ∧ r.toInt = lw (gt fl f.toInt) (odd tab l p.toInt.toNat d.toInt)) := by
    intro e
    rw [e, ← ha]
    exact (s_lw46 (by omega) (Or.inr L.2.1)).mono (fun r w' q => by rw [L.2.1] at q; exact q)
  have zer : odd tab l p.toInt.toNat d.toInt = 0 → Wp (f_X3_levelWithin_45 a w) (fun r w' => w = w' ∧ r.toInt = lw (gt fl f.toInt) (odd tab l p.toInt.toNat d.toInt)) := by
    intro e
    rw [e, ← ha]
    unfold f_X3_levelWithin_45
    exact (s_lw46 (by omega) (Or.inl L.1)).mono (fun r w' q => by rw [L.1] at q; exact q)
  refine wp_ifeq (fun q => one (by unfold odd; rw [if_pos (by omega)])) (fun q => wp_ifeq (fun q2 => one (by unfold odd; rw [if_pos (by omega)])) (fun q2 => wp_ifeq (fun q3 => ?_) (fun q3 => zer (by unfold odd; rw [if_neg (by omega)]))))
  have hp1 : (p + 1).toInt = p.toInt + 1 := by rw [i_add (by omega), L.2.1]
  refine wp_bd (s_baseFrom (p := p + 1) (x := 1) hk h (ho _ h7) hl Y (by omega)) ?_
  rintro b _ ⟨rfl, hb⟩
  rw [L.2.1, hp1, show ((l.length : Int) - (p.toInt + 1)).toNat = l.length - (p.toInt.toNat + 1) by omega] at hb
  refine wp_ifeq (fun q4 => one ?_) (fun q4 => zer ?_)
  · unfold odd; rw [if_pos (Or.inr (Or.inr ⟨by omega, by omega⟩))]
  · unfold odd; rw [if_neg (by omega)]
/-- the class's own frames -/
def frC (w : Wd) (st : FSt) : Prop := rl w 651 = st.2.1 ∧ rl w 653 = st.2.2.1 ∧ rl w 655 = st.2.2.2.1 ∧ rl w 657 = st.2.2.2.2.1
theorem s_around {w : Wd} {tab : Nat → Int} {l : List Int} {st : FSt} {k : Nat} {v : Int32} (hI : frI tab l st k) (hk : k ≤ 40) (hC : frC w st) (ho : okall w) (hv : v.toInt = st.1) :
    Wp (f_X3_aroundIsolate v w) (fun r w' => w = w' ∧ r.toInt = aro st.2.2.2.1 st.2.2.2.2.1 st.1 41 st.1) := by
  have L := LIT
  have l40 : (40 : Int32).toInt = 40 := by decide
  have K := KLR
  obtain ⟨⟨_, a2, a3, _⟩, b, _, d, _⟩ := hI
  unfold f_X3_aroundIsolate f_X3_aroundIsolate_4
  rw [FUv]
  refine wp_loop (fun σ : Int32 × Int32 × Int32 × Wd => σ.1 = v ∧ σ.2.2.2 = w ∧ 0 ≤ σ.2.1.toInt ∧ 0 ≤ σ.2.2.1.toInt ∧ σ.2.1.toInt + σ.2.2.1.toInt ≤ st.1 ∧ aro st.2.2.2.1 st.2.2.2.2.1 st.1 (41 - σ.2.2.1.toInt.toNat) σ.2.1.toInt = aro st.2.2.2.1 st.2.2.2.2.1 st.1 41 st.1)
    (fun σ => (42 - σ.2.2.1.toInt).toNat) ?_ 100000 _ ⟨rfl, rfl, by dsimp only; omega, by dsimp only; omega, by dsimp only; omega, by dsimp only; rw [hv, L.1]; rfl⟩ (by dsimp only; omega)
  rintro rc ⟨v', i, t, u⟩ ⟨rfl, rfl, hi, ht, hs, he⟩ ih
  dsimp only at *
  unfold g_X3_aroundIsolate_4
  refine wp_iflt (fun q => by omega) (fun q => ?_)
  obtain ⟨n, hn⟩ : ∃ n, 41 - t.toInt.toNat = n + 1 := ⟨40 - t.toInt.toNat, by omega⟩
  rw [hn, aro] at he
  refine wp_ifle (fun q2 => wp_ret ⟨rfl, ?_⟩) (fun q2 => ?_)
  · rw [if_pos (by omega)] at he; omega
  rw [if_neg (by omega)] at he
  have D := d i.toInt (by omega) (by omega)
  refine wp_bd (s_get (ho _ K.2.2.2.1)) ?_
  rintro x _ ⟨rfl, hx⟩
  rw [hC.2.2.2] at hx
  rw [e_isIsolate, bd_r, ite_zo, hx]
  refine wp_if (fun c => ?_) (fun c => ?_)
  · rw [if_pos c] at he
    refine wp_bd (s_get (ho _ K.2.2.1)) ?_
    rintro y _ ⟨rfl, hy⟩
    rw [hC.2.2.1] at hy
    exact wp_ret ⟨rfl, by omega⟩
  · rw [if_neg c] at he
    refine wp_bd (s_get (ho _ K.2.2.1)) ?_
    rintro y _ ⟨rfl, hy⟩
    rw [hC.2.2.1] at hy
    refine wp_add (by omega) (fun z hz => ih (v', y, z, u) ⟨rfl, rfl, by dsimp only; omega, by dsimp only; omega, by dsimp only; omega, ?_⟩ (by dsimp only; omega))
    dsimp only
    rw [show 41 - z.toInt.toNat = n by omega, hy]; exact he
theorem s_addFrame {w : Wd} {a b c : Int32} (ho : okall w) (h1 : (rl w 653).length ≤ 40) (h2 : (rl w 655).length ≤ 40) (h3 : (rl w 657).length ≤ 40) :
    Wp (f_X3_addFrame a b c w) (fun r w' => lv w w' ∧ r.toInt = (rl w 653).length ∧ rl w' 651 = rl w 651 ∧ rl w' 653 = rl w 653 ++ [a.toInt] ∧ rl w' 655 = rl w 655 ++ [b.toInt] ∧ rl w' 657 = rl w 657 ++ [c.toInt]) := by
  have L := LIT
  have K := KLR
  have M := LLR
  unfold f_X3_addFrame
  refine wp_bd (s_add (ho _ K.2.1) (by omega)) ?_
  rintro r1 w1 ⟨rfl, q1⟩
  have e1 := rs_rl q1 (k := 655) K.2.2.1 (by decide)
  have e2 := rs_rl q1 (k := 657) K.2.2.2.1 (by decide)
  have v1 := lv_rs (lv_rf ho) q1 (by decide) (by decide)
  refine wp_bd (s_add (v1.2 _ K.2.2.1) (by rw [e1]; omega)) ?_
  rintro r2 w2 ⟨rfl, q2⟩
  have v2 := lv_rs v1 q2 (by decide) (by decide)
  have e3 := rs_rl q2 (k := 657) K.2.2.2.1 (by decide)
  refine wp_bd (s_add (v2.2 _ K.2.2.2.1) (by rw [e3, e2]; omega)) ?_
  rintro r3 w3 ⟨rfl, q3⟩
  have v3 := lv_rs v2 q3 (by decide) (by decide)
  have e4 : rl w3 653 = rl w 653 ++ [a.toInt] := by rw [rs_rl q3 (k := 653) K.2.1 (by decide), rs_rl q2 (k := 653) K.2.1 (by decide), rs_l q1]
  refine wp_bd (s_size (v3.2 _ K.2.1)) ?_
  rintro n _ ⟨rfl, hn⟩
  rw [e4, List.length_append, List.length_singleton] at hn
  have hn1 : (n - 1).toInt = n.toInt - 1 := by rw [i_sub (by omega), L.2.1]
  refine wp_ret ⟨v3, by omega, ?_, e4, ?_, ?_⟩
  · rw [rs_rl q3 (k := 651) K.1 (by decide), rs_rl q2 (k := 651) K.1 (by decide), rs_rl q1 (k := 651) K.1 (by decide)]
  · rw [rs_rl q3 (k := 655) K.2.2.1 (by decide), rs_l q2, e1]
  · rw [rs_l q3, e3, e2]
theorem s_layFrames {w : Wd} {tab : Nat → Int} {o : Nat} {b : Int32} {l : List Int} (hk : tok tab) (h : trel w 1 tab) (ho : okall w) (h7 : KD o = 7) (h6 : o ≤ 649) (hl : rl w o = l) (Y : lok40 l) (hb : b.toInt = 0 ∨ b.toInt = 1) :
    Wp (f_X3_layFrames o b w) (fun _ w' => lv w w' ∧ frC w' (fr tab l b.toInt l.length)) := by
  have L := LIT
  have l10 : (10 : Int32).toInt = 10 := by decide
  have l6 : (6 : Int32).toInt = 6 := by decide
  have K := KLR
  have M := LLR
  have h40 := Y.1
  unfold f_X3_layFrames
  refine wp_bd (s_cut0 (ho _ K.1)) ?_
  rintro _ w1 q1
  have v1 := lv_rs (lv_rf ho) q1 (by decide) (by decide)
  refine wp_bd (s_cut0 (v1.2 _ K.2.1)) ?_
  rintro _ w2 q2
  have v2 := lv_rs v1 q2 (by decide) (by decide)
  refine wp_bd (s_cut0 (v2.2 _ K.2.2.1)) ?_
  rintro _ w3 q3
  have v3 := lv_rs v2 q3 (by decide) (by decide)
  refine wp_bd (s_cut0 (v3.2 _ K.2.2.2.1)) ?_
  rintro _ w4 q4
  have v4 := lv_rs v3 q4 (by decide) (by decide)
  have r1 : rl w4 651 = [] := by rw [rs_rl q4 (k := 651) K.1 (by decide), rs_rl q3 (k := 651) K.1 (by decide), rs_rl q2 (k := 651) K.1 (by decide), rs_l q1]
  have r2 : rl w4 653 = [] := by rw [rs_rl q4 (k := 653) K.2.1 (by decide), rs_rl q3 (k := 653) K.2.1 (by decide), rs_l q2]
  have r3 : rl w4 655 = [] := by rw [rs_rl q4 (k := 655) K.2.2.1 (by decide), rs_l q3]
  have r4 : rl w4 657 = [] := rs_l q4
  refine wp_bd (s_addFrame v4.2 (by rw [r2]; decide) (by rw [r3]; decide) (by rw [r4]; decide)) ?_
  rintro f0 w5 ⟨v5, g0, g1, g2, g3, g4⟩
  have v5' := lv_tr v4 v5
  rw [r1] at g1
  rw [r2] at g0 g2
  rw [r3, L.2.2.1] at g3
  rw [r4, L.2.2.1] at g4
  unfold f_X3_layFrames_43
  rw [FUv]
  refine wp_loop (fun σ : Nat × Int32 × Int32 × Wd => σ.1 = o ∧ lv w σ.2.2.2 ∧ 0 ≤ σ.2.2.1.toInt ∧ σ.2.2.1.toInt ≤ l.length ∧ σ.2.1.toInt = (fr tab l b.toInt σ.2.2.1.toInt.toNat).1 ∧ frC σ.2.2.2 (fr tab l b.toInt σ.2.2.1.toInt.toNat))
    (fun σ => (42 - σ.2.2.1.toInt).toNat) ?_ 100000 _ ⟨rfl, v5', by dsimp only; omega, by dsimp only; omega, by dsimp only; rw [L.1]; exact g0, by dsimp only; rw [L.1]; exact ⟨g1, g2, g3, g4⟩⟩ (by dsimp only; omega)
  rintro rc ⟨o', f, k, u⟩ ⟨rfl, V, hk0, hk1, hf, hC⟩ ih
  dsimp only at *
  have ci : ((k.toInt.toNat : Nat) : Int) = k.toInt := by omega
  have T := lv_t hk V h
  have X : rl u o' = l := (lv_x V h6).trans hl
  unfold g_X3_layFrames_43
  refine wp_bd (s_size (V.2 _ h7)) ?_
  rintro n _ ⟨rfl, hn⟩
  rw [X] at hn
  refine wp_ifle (fun q => wp_ret ⟨V, ?_⟩) (fun q => ?_)
  · rw [show k.toInt.toNat = l.length by omega] at hC; exact hC
  have I := fr_I (tab := tab) (l := l) hb k.toInt.toNat (by omega)
  have N := nw1_spec I (by omega)
  refine wp_bd (s_get (V.2 _ h7)) ?_
  rintro y _ ⟨rfl, hy⟩
  rw [X] at hy
  refine wp_bd (s_dirOf T X Y (by omega) hy) ?_
  rintro d _ ⟨rfl, hd⟩
  have R := dr_rng hk Y hk0 (show k.toInt < l.length by omega)
  generalize hst : fr tab l b.toInt k.toInt.toNat = st at hf hC I N
  have nxt : fr tab l b.toInt (k.toInt.toNat + 1) = frS tab l st k.toInt.toNat := by rw [fr, hst]
  have go : ∀ f1 : Int32, f1.toInt = nw1 tab l st k.toInt.toNat → Wp (f_X3_layFrames_80 rc o' f1 k d u) (fun _ w' => lv w w' ∧ frC w' (fr tab l b.toInt l.length)) := by
    intro f1 hf1
    have fin : ∀ (f2 z : Int32) (u2 : Wd), z.toInt = k.toInt + (1 : Int32).toInt → lv w u2 → f2.toInt = (frS tab l st k.toInt.toNat).1 → frC u2 (frS tab l st k.toInt.toNat) → Wp (rc (o', f2, z, u2)) (fun _ w' => lv w w' ∧ frC w' (fr tab l b.toInt l.length)) := by
      intro f2 z u2 hz h1 h2 h3
      have hz2 : z.toInt.toNat = k.toInt.toNat + 1 := by omega
      refine ih (o', f2, z, u2) ⟨rfl, h1, by dsimp only; omega, by dsimp only; omega, ?_, ?_⟩ (by dsimp only; omega)
      · dsimp only; rw [hz2, nxt]; exact h2
      · dsimp only; rw [hz2, nxt]; exact h3
    have lens := I.1
    unfold f_X3_layFrames_80
    refine wp_bd (s_add (V.2 _ K.1) (by rw [hC.1]; omega)) ?_
    rintro r u1 ⟨rfl, p1⟩
    have V1 := lv_rs V p1 (by decide) (by decide)
    have c1 : rl u1 651 = st.2.1 ++ [nw1 tab l st k.toInt.toNat] := by rw [rs_l p1, hC.1, hf1]
    have c2 : rl u1 653 = st.2.2.1 := by rw [rs_rl p1 (k := 653) K.2.1 (by decide)]; exact hC.2.1
    have c3 : rl u1 655 = st.2.2.2.1 := by rw [rs_rl p1 (k := 655) K.2.2.1 (by decide)]; exact hC.2.2.1
    have c4 : rl u1 657 = st.2.2.2.2.1 := by rw [rs_rl p1 (k := 657) K.2.2.2.1 (by decide)]; exact hC.2.2.2
    have beg : frB (dr tab l k.toInt) → Wp (f_X3_layFrames_105 rc o' f1 k d u1) (fun _ w' => lv w w' ∧ frC w' (fr tab l b.toInt l.length)) := by
      intro hB
      unfold f_X3_layFrames_105
      refine wp_bd (s_levelWithin (f := f1) hk (lv_t hk V1 h) V1.2 h7 ((lv_x V1 h6).trans hl) Y (by omega) c2 (by rw [hf1]; exact I.2.2.1 _ N.1.1 N.1.2)) ?_
      rintro x _ ⟨rfl, hx⟩
      refine wp_bd (s_addFrame V1.2 (by rw [c2]; omega) (by rw [c3]; omega) (by rw [c4]; omega)) ?_
      rintro f2 u2 ⟨V2, m0, m1, m2, m3, m4⟩
      have S : frS tab l st k.toInt.toNat = ((st.2.2.1.length : Int), st.2.1 ++ [nw1 tab l st k.toInt.toNat], st.2.2.1 ++ [lw (gt st.2.2.1 (nw1 tab l st k.toInt.toNat)) (odd tab l k.toInt.toNat (dr tab l k.toInt))], st.2.2.2.1 ++ [nw1 tab l st k.toInt.toNat], st.2.2.2.2.1 ++ [dr tab l k.toInt], st.2.2.2.2.2 ++ [gt st.2.2.2.2.2 (nw1 tab l st k.toInt.toNat) + isD (dr tab l k.toInt)]) := by
        unfold frS; rw [ci, if_pos hB]
      refine wp_add (by omega) (fun z hz => fin f2 z u2 hz (lv_tr V1 V2) ?_ ?_)
      · rw [S, m0, c2]
      · rw [S]
        refine ⟨by rw [m1, c1], ?_, ?_, ?_⟩
        · rw [m2, c2, hx, hf1, hd]
        · rw [m3, c3, hf1]
        · rw [m4, c4, hd]
    rw [e_isEmbed, bd_r, ite_zo, hd]
    refine wp_if (fun z1 => beg (Or.inl z1)) (fun z1 => ?_)
    rw [e_isIsolate, bd_r, ite_zo, hd]
    refine wp_if (fun z2 => beg (Or.inr z2)) (fun z2 => ?_)
    have nB : ¬ frB (dr tab l k.toInt) := fun q => q.elim z1 z2
    have stay : ¬ (dr tab l k.toInt = 6 ∧ (gt st.2.2.2.2.1 (nw1 tab l st k.toInt.toNat) = 4 ∨ gt st.2.2.2.2.1 (nw1 tab l st k.toInt.toNat) = 5)) → ∀ z : Int32, z.toInt = k.toInt + (1 : Int32).toInt → Wp (rc (o', f1, z, u1)) (fun _ w' => lv w w' ∧ frC w' (fr tab l b.toInt l.length)) := by
      intro nf z hz
      have S : frS tab l st k.toInt.toNat = (nw1 tab l st k.toInt.toNat, st.2.1 ++ [nw1 tab l st k.toInt.toNat], st.2.2) := by
        unfold frS; rw [ci, if_neg nB, if_neg nf]
      refine fin f1 z u1 hz V1 ?_ ?_
      · rw [S]; exact hf1
      · rw [S]; exact ⟨c1, c2, c3, c4⟩
    refine wp_ifeq (fun z3 => ?_) (fun z3 => wp_add (by omega) (stay (fun q => z3 (by omega))))
    refine wp_bd (s_get (V1.2 _ K.2.2.2.1)) ?_
    rintro e _ ⟨rfl, he⟩
    rw [c4, hf1] at he
    rw [e_isEmbed, bd_r, ite_zo, he]
    refine wp_if (fun z4 => ?_) (fun z4 => wp_add (by omega) (stay (fun q => z4 q.2)))
    refine wp_bd (s_get (V1.2 _ K.2.2.1)) ?_
    rintro a _ ⟨rfl, ha⟩
    rw [c3, hf1] at ha
    have S : frS tab l st k.toInt.toNat = (gt st.2.2.2.1 (nw1 tab l st k.toInt.toNat), st.2.1 ++ [nw1 tab l st k.toInt.toNat], st.2.2) := by
      unfold frS; rw [ci, if_neg nB, if_pos ⟨by omega, z4⟩]
    refine wp_add (by omega) (fun z hz => fin a z u1 hz V1 ?_ ?_)
    · rw [S]; exact ha
    · rw [S]; exact ⟨c1, c2, c3, c4⟩
  refine wp_ifeq (fun c => ?_) (fun c => go f ?_)
  · refine wp_bd (s_around I (by omega) hC V.2 hf) ?_
    rintro f1 _ ⟨rfl, hf1⟩
    refine go f1 ?_
    unfold nw1
    rw [ci, if_pos (by omega)]; exact hf1
  · unfold nw1
    rw [ci, if_neg (by omega)]; exact hf

