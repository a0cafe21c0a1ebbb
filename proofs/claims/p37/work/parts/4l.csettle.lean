/-! ===== directions: partners and others settled ===== -/
/-- numbers being right -/
def plw (x : Int) : Int := if x = 2 then 1 else x
/-- what goes last ahead -/
def ah (f : Nat → Int) (o : Int) : Nat → Int
  | 0 => o
  | n + 1 => if plw (f n) = 3 then ah f o n else plw (f n)
/-- what goes first among the last ones -/
def bhn (f : Nat → Int) (o : Int) (m : Nat) : Nat → Int
  | 0 => o
  | r + 1 => if plw (f (m - (r + 1))) = 3 then bhn f o m r else plw (f (m - (r + 1)))
/-- whether something between goes so -/
def exw (f : Nat → Int) (v : Int) (a : Nat) : Nat → Int
  | 0 => 0
  | n + 1 => if a < n ∧ plw (f n) = v then 1 else exw f v a n
def pw (f : Nat → Int) (i c : Nat) (b : Int) : Int := if exw f b i c = 1 then b else if exw f (1 - b) i c = 0 then 3 else if ah f b i = 1 - b then 1 - b else b
def ps (f : Nat → Int) (cl : Nat → Int) (b : Int) : Nat → Nat → Int
  | 0 => f
  | i + 1 => if cl i = -1 then ps f cl b i else if pw (ps f cl b i) i (cl i).toNat b = 3 then ps f cl b i else fun j => if j = i ∨ j = (cl i).toNat then pw (ps f cl b i) i (cl i).toNat b else ps f cl b i j
def oth (f : Nat → Int) (b : Int) (m i : Nat) : Int := if f i = 3 then (if ah f b i = bhn f b m (m - (i + 1)) then ah f b i else b) else f i
theorem plw_3 {x : Int} : plw x = 3 ↔ x = 3 := by unfold plw; split <;> omega
theorem plw_2 {x : Int} : plw x ≠ 2 := by unfold plw; split <;> omega
theorem plw_i {x : Int} (h : x ≠ 2) : plw x = x := by unfold plw; rw [if_neg h]
theorem ah_s {f : Nat → Int} {o : Int} {n : Nat} : ah f o (n + 1) = if plw (f n) = 3 then ah f o n else plw (f n) := by rw [ah]
theorem bhn_s {f : Nat → Int} {o : Int} {m r : Nat} {j : Nat} (hj : j = m - (r + 1)) : bhn f o m (r + 1) = if plw (f j) = 3 then bhn f o m r else plw (f j) := by subst hj; rw [bhn]
theorem exw_s {f : Nat → Int} {v : Int} {a n : Nat} : exw f v a (n + 1) = if a < n ∧ plw (f n) = v then 1 else exw f v a n := by rw [exw]
theorem exw_01 {f : Nat → Int} {v : Int} {a : Nat} : ∀ n : Nat, exw f v a n = 0 ∨ exw f v a n = 1 := by
  intro n
  induction n with
  | zero => exact Or.inl rfl
  | succ n ih => rw [exw_s]; split <;> omega
theorem exw_iff {f : Nat → Int} {v : Int} {a : Nat} : ∀ n : Nat, exw f v a n = 1 ↔ ∃ j : Nat, a < j ∧ j < n ∧ plw (f j) = v := by
  intro n
  induction n with
  | zero => exact ⟨fun h => absurd h (by unfold exw; omega), fun ⟨j, _, h, _⟩ => absurd h (Nat.not_lt_zero _)⟩
  | succ n ih =>
    rw [exw_s]
    by_cases c : a < n ∧ plw (f n) = v
    · rw [if_pos c]; exact ⟨fun _ => ⟨n, c.1, by omega, c.2⟩, fun _ => rfl⟩
    · rw [if_neg c, ih]
      constructor
      · rintro ⟨j, h1, h2, h3⟩; exact ⟨j, h1, by omega, h3⟩
      · rintro ⟨j, h1, h2, h3⟩
        refine ⟨j, h1, ?_, h3⟩
        by_cases e : j = n
        · subst e; exact absurd ⟨h1, h3⟩ c
        · omega
theorem ah_n {f : Nat → Int} {o : Int} (ho : o = 0 ∨ o = 1) : ∀ n : Nat, ah f o n ≠ 3 ∧ ah f o n ≠ 2 := by
  intro n
  induction n with
  | zero => unfold ah; omega
  | succ n ih =>
    rw [ah_s]
    split
    · exact ih
    · exact ⟨by assumption, plw_2⟩
theorem ah_o {f : Nat → Int} {o p x : Int} (h1 : x ≠ o) (h2 : x ≠ p) : ∀ n : Nat, ah f o n = x ↔ ah f p n = x := by
  intro n
  induction n with
  | zero => unfold ah; exact ⟨fun h => absurd h.symm h1, fun h => absurd h.symm h2⟩
  | succ n ih =>
    rw [ah_s, ah_s]
    split
    · exact ih
    · exact Iff.rfl
theorem ah_cg {f g : Nat → Int} {o : Int} : ∀ n : Nat, (∀ j, j < n → f j = g j) → ah f o n = ah g o n := by
  intro n
  induction n with
  | zero => intro _; rfl
  | succ n ih => intro h; rw [ah_s, ah_s, h n (by omega), ih (fun j hj => h j (by omega))]
theorem bhn_cg {f g : Nat → Int} {o : Int} {m : Nat} : ∀ r : Nat, r ≤ m → (∀ j, m - r ≤ j → j < m → f j = g j) → bhn f o m r = bhn g o m r := by
  intro r
  induction r with
  | zero => intro _ _; rfl
  | succ r ih =>
    intro h1 h
    rw [bhn_s rfl, bhn_s rfl, h _ (Nat.le_refl _) (by omega), ih (by omega) (fun j h2 h3 => h j (by omega) h3)]
/-- what the class lays in a row of neutral ones is what all of it goes -/
theorem oth_run {f : Nat → Int} {b : Int} {m k : Nat} (hb : b = 0 ∨ b = 1) (hk : k < m) (h3 : f k = 3) :
    (if ah (fun i => if i < k then oth f b m i else f i) b k = bhn f b m (m - (k + 1)) then ah (fun i => if i < k then oth f b m i else f i) b k else b) = oth f b m k := by
  have O : oth f b m k = if ah f b k = bhn f b m (m - (k + 1)) then ah f b k else b := by unfold oth; rw [if_pos h3]
  rw [O]
  cases k with
  | zero => rfl
  | succ j =>
    have n3 : oth f b m j ≠ 3 := by
      unfold oth
      by_cases c : f j = 3
      · rw [if_pos c]
        split
        · exact (ah_n hb j).1
        · omega
      · rw [if_neg c]; exact c
    have A : ah (fun i => if i < j + 1 then oth f b m i else f i) b (j + 1) = plw (oth f b m j) := by
      rw [ah_s, if_pos (Nat.lt_succ_self j), if_neg (fun q => n3 (plw_3.mp q))]
    rw [A]
    by_cases c : f j = 3
    · have B : bhn f b m (m - (j + 1)) = bhn f b m (m - (j + 1 + 1)) := by
        rw [show m - (j + 1) = m - (j + 1 + 1) + 1 by omega, bhn_s (j := j + 1) (by omega), if_pos (plw_3.mpr h3)]
      have E : oth f b m j = if ah f b (j + 1) = bhn f b m (m - (j + 1 + 1)) then ah f b (j + 1) else b := by
        unfold oth; rw [if_pos c, B, ah_s, if_pos (plw_3.mpr c)]
      have G := ah_n (f := f) hb (j + 1)
      by_cases d : ah f b (j + 1) = bhn f b m (m - (j + 1 + 1))
      · rw [if_pos d] at E
        rw [if_pos d, E, plw_i G.2, if_pos d]
      · rw [if_neg d] at E
        rw [if_neg d, E, plw_i (by omega)]
        split <;> rfl
    · have E : oth f b m j = f j := by unfold oth; rw [if_neg c]
      have G : ah f b (j + 1) = plw (f j) := by rw [ah_s, if_neg (fun q => c (plw_3.mp q))]
      rw [E, G]
theorem oth_n {f : Nat → Int} {b : Int} {m i : Nat} (hb : b = 0 ∨ b = 1) (h : 0 ≤ f i ∧ f i ≤ 3) (hr : ∀ j, j < i → 0 ≤ f j) (hi : i < m) (hr2 : ∀ j, j < m → 0 ≤ f j ∧ f j ≤ 3) : 0 ≤ oth f b m i ∧ oth f b m i ≤ 2 := by
  have A : ∀ n : Nat, n ≤ m → 0 ≤ ah f b n ∧ ah f b n ≤ 1 := by
    intro n
    induction n with
    | zero => intro _; unfold ah; omega
    | succ n ih =>
      intro hn
      rw [ah_s]
      have := hr2 n (by omega)
      have := ih (by omega)
      by_cases c : plw (f n) = 3
      · rw [if_pos c]; exact this
      · rw [if_neg c]
        by_cases d : f n = 2
        · have e : plw (f n) = 1 := by unfold plw; rw [if_pos d]
          omega
        · have e : plw (f n) = f n := plw_i d
          omega
  have := A i (by omega)
  unfold oth
  split
  · split <;> omega
  · omega
/-! the class -/
section
variable {w : Wd} {f : Nat → Int} {m : Nat}
theorem s_plainWay {v : Int32} (ho : okall w) (hf : wyC w f m) (hv : 0 ≤ v.toInt ∧ v.toInt < m) : Wp (f_X3_plainWay v w) (fun r w' => w = w' ∧ r.toInt = plw (f v.toInt.toNat)) := by
  have L := LIT
  have l2 : (2 : Int32).toInt = 2 := by decide
  unfold f_X3_plainWay
  refine wp_bd (s_get (ho _ KLR.2.2.2.2.2.2.1)) ?_
  rintro x _ ⟨rfl, hx⟩
  have h2 := hf.2 v.toInt.toNat (by omega)
  rw [show ((v.toInt.toNat : Nat) : Int) = v.toInt by omega] at h2
  rw [h2] at hx
  unfold plw
  refine wp_ifeq (fun c => wp_ret ⟨rfl, ?_⟩) (fun c => wp_ret ⟨rfl, ?_⟩)
  · rw [if_pos (by omega)]; exact L.2.1
  · rw [if_neg (by omega)]; exact hx
theorem s_wayAhead {v o : Int32} (ho : okall w) (hf : wyC w f m) (hm : m ≤ 40) (hv : 0 ≤ v.toInt ∧ v.toInt < m) : Wp (f_X3_wayAhead v o w) (fun r w' => w = w' ∧ r.toInt = ah f o.toInt v.toInt.toNat) := by
  have L := LIT
  have l3 : (3 : Int32).toInt = 3 := by decide
  unfold f_X3_wayAhead
  refine wp_sub (by omega) (fun z hz => ?_)
  unfold f_X3_wayAhead_4
  rw [FUv]
  refine wp_loop (fun σ : Int32 × Int32 × Wd => σ.1 = o ∧ σ.2.2 = w ∧ -1 ≤ σ.2.1.toInt ∧ σ.2.1.toInt < m ∧ ah f o.toInt (σ.2.1.toInt + 1).toNat = ah f o.toInt v.toInt.toNat)
    (fun σ => (σ.2.1.toInt + 1).toNat) ?_ 100000 _ ⟨rfl, rfl, by dsimp only; omega, by dsimp only; omega, by dsimp only; rw [show (z.toInt + 1).toNat = v.toInt.toNat by omega]⟩ (by dsimp only; omega)
  rintro rc ⟨o', j, u⟩ ⟨rfl, rfl, hj, hj2, he⟩ ih
  dsimp only at *
  unfold g_X3_wayAhead_4
  refine wp_iflt (fun q => wp_ret ⟨rfl, ?_⟩) (fun q => ?_)
  · rw [show (j.toInt + 1).toNat = 0 by omega] at he
    exact he
  rw [show (j.toInt + 1).toNat = j.toInt.toNat + 1 by omega, ah_s] at he
  refine wp_bd (s_plainWay ho hf (by omega)) ?_
  rintro x _ ⟨rfl, hx⟩
  refine wp_ifeq (fun c => wp_add (by omega) (fun y hy => ih (o', y, u) ⟨rfl, rfl, by dsimp only; omega, by dsimp only; omega, ?_⟩ (by dsimp only; omega))) (fun c => ?_)
  · rw [if_pos (by omega)] at he
    dsimp only
    rw [show (y.toInt + 1).toNat = j.toInt.toNat by omega]; exact he
  · rw [if_neg (by omega)] at he
    refine wp_bd (s_plainWay ho hf (by omega)) ?_
    rintro x2 _ ⟨rfl, hx2⟩
    exact wp_ret ⟨rfl, by omega⟩
theorem s_wayBehind {v o : Int32} (ho : okall w) (hf : wyC w f m) (hm : m ≤ 40) (hv : 0 ≤ v.toInt ∧ v.toInt < m) : Wp (f_X3_wayBehind v o w) (fun r w' => w = w' ∧ r.toInt = bhn f o.toInt m (m - (v.toInt.toNat + 1))) := by
  have L := LIT
  have l3 : (3 : Int32).toInt = 3 := by decide
  unfold f_X3_wayBehind
  refine wp_add (by omega) (fun z hz => ?_)
  unfold f_X3_wayBehind_4
  rw [FUv]
  refine wp_loop (fun σ : Int32 × Int32 × Wd => σ.1 = o ∧ σ.2.2 = w ∧ 0 ≤ σ.2.1.toInt ∧ σ.2.1.toInt ≤ m ∧ bhn f o.toInt m (m - σ.2.1.toInt.toNat) = bhn f o.toInt m (m - (v.toInt.toNat + 1)))
    (fun σ => (42 - σ.2.1.toInt).toNat) ?_ 100000 _ ⟨rfl, rfl, by dsimp only; omega, by dsimp only; omega, by dsimp only; rw [show z.toInt.toNat = v.toInt.toNat + 1 by omega]⟩ (by dsimp only; omega)
  rintro rc ⟨o', j, u⟩ ⟨rfl, rfl, hj, hj2, he⟩ ih
  dsimp only at *
  unfold g_X3_wayBehind_4
  refine wp_bd (s_size (ho _ KLR.2.2.2.2.2.2.1)) ?_
  rintro n _ ⟨rfl, hn⟩
  rw [hf.1] at hn
  refine wp_ifle (fun q => wp_ret ⟨rfl, ?_⟩) (fun q => ?_)
  · rw [show m - j.toInt.toNat = 0 by omega] at he
    exact he
  rw [show m - j.toInt.toNat = m - (j.toInt.toNat + 1) + 1 by omega, bhn_s (j := j.toInt.toNat) (by omega)] at he
  refine wp_bd (s_plainWay ho hf (by omega)) ?_
  rintro x _ ⟨rfl, hx⟩
  refine wp_ifeq (fun c => wp_add (by omega) (fun y hy => ih (o', y, u) ⟨rfl, rfl, by dsimp only; omega, by dsimp only; omega, ?_⟩ (by dsimp only; omega))) (fun c => ?_)
  · rw [if_pos (by omega)] at he
    dsimp only
    rw [show y.toInt.toNat = j.toInt.toNat + 1 by omega]; exact he
  · rw [if_neg (by omega)] at he
    refine wp_bd (s_plainWay ho hf (by omega)) ?_
    rintro x2 _ ⟨rfl, hx2⟩
    exact wp_ret ⟨rfl, by omega⟩
theorem s_pairWay {v c b : Int32} (ho : okall w) (hf : wyC w f m) (hm : m ≤ 40) (hv : 0 ≤ v.toInt ∧ v.toInt < c.toInt) (hc : c.toInt < m) (hb : b.toInt = 0 ∨ b.toInt = 1) :
    Wp (f_X3_pairWay v c b w) (fun r w' => w = w' ∧ r.toInt = pw f v.toInt.toNat c.toInt.toNat b.toInt) := by
  have L := LIT
  have l3 : (3 : Int32).toInt = 3 := by decide
  have main : ∀ t : Int32, t.toInt = 1 - b.toInt → Wp (f_X3_pairWay_9 v c b t w) (fun r w' => w = w' ∧ r.toInt = pw f v.toInt.toNat c.toInt.toNat b.toInt) := by
    intro t ht
    unfold f_X3_pairWay_9
    refine wp_add (by omega) (fun z hz => ?_)
    unfold f_X3_pairWay_19
    rw [FUv]
    have e0 : ∀ x : Int, exw f x v.toInt.toNat (v.toInt.toNat + 1) = 0 := by
      intro x
      rcases exw_01 (f := f) (v := x) (a := v.toInt.toNat) (v.toInt.toNat + 1) with h | h
      · exact h
      · obtain ⟨j, j1, j2, _⟩ := (exw_iff _).mp h
        omega
    refine wp_loop (fun σ : Int32 × Int32 × Int32 × Int32 × Int32 × Int32 × Wd => σ.1 = v ∧ σ.2.1 = c ∧ σ.2.2.1 = b ∧ σ.2.2.2.1 = t ∧ σ.2.2.2.2.2.2 = w ∧ v.toInt < σ.2.2.2.2.2.1.toInt ∧ σ.2.2.2.2.2.1.toInt ≤ c.toInt ∧ exw f b.toInt v.toInt.toNat σ.2.2.2.2.2.1.toInt.toNat = 0 ∧ σ.2.2.2.2.1.toInt = exw f (1 - b.toInt) v.toInt.toNat σ.2.2.2.2.2.1.toInt.toNat)
      (fun σ => (42 - σ.2.2.2.2.2.1.toInt).toNat) ?_ 100000 _ ⟨rfl, rfl, rfl, rfl, rfl, by dsimp only; omega, by dsimp only; omega, by dsimp only; rw [show z.toInt.toNat = v.toInt.toNat + 1 by omega, e0], by dsimp only; rw [show z.toInt.toNat = v.toInt.toNat + 1 by omega, e0, L.1]⟩ (by dsimp only; omega)
    rintro rc ⟨v', c', b', t', x, j, u⟩ ⟨rfl, rfl, rfl, rfl, rfl, hj, hj2, h1, h2⟩ ih
    dsimp only at *
    unfold g_X3_pairWay_19
    refine wp_ifle (fun q => ?_) (fun q => ?_)
    · rw [show j.toInt.toNat = c'.toInt.toNat by omega] at h1 h2
      refine wp_ifeq (fun q2 => wp_ret ⟨rfl, ?_⟩) (fun q2 => ?_)
      · unfold pw; rw [if_neg (by omega), if_pos (by omega)]; exact l3
      · refine wp_bd (s_wayAhead ho hf hm (by omega)) ?_
        rintro y _ ⟨rfl, hy⟩
        refine wp_ifeq (fun q3 => wp_ret ⟨rfl, ?_⟩) (fun q3 => wp_ret ⟨rfl, ?_⟩)
        · unfold pw; rw [if_neg (by omega), if_neg (by omega), if_pos (by omega)]; exact ht
        · unfold pw; rw [if_neg (by omega), if_neg (by omega), if_neg (by omega)]
    · refine wp_bd (s_plainWay ho hf (by omega)) ?_
      rintro y _ ⟨rfl, hy⟩
      have go : plw (f j.toInt.toNat) ≠ b'.toInt → ∀ x2 z2 : Int32, z2.toInt = j.toInt + (1 : Int32).toInt → x2.toInt = (if plw (f j.toInt.toNat) = 1 - b'.toInt then 1 else exw f (1 - b'.toInt) v'.toInt.toNat j.toInt.toNat) → Wp (rc (v', c', b', t', x2, z2, u)) (fun r w' => u = w' ∧ r.toInt = pw f v'.toInt.toNat c'.toInt.toNat b'.toInt) := by
        intro n1 x2 z2 hz2 hx2
        have e2 : z2.toInt.toNat = j.toInt.toNat + 1 := by omega
        refine ih (v', c', b', t', x2, z2, u) ⟨rfl, rfl, rfl, rfl, rfl, by dsimp only; omega, by dsimp only; omega, ?_, ?_⟩ (by dsimp only; omega)
        · dsimp only; rw [e2, exw_s, if_neg (fun q => n1 q.2)]; exact h1
        · dsimp only
          rw [e2, exw_s, hx2]
          by_cases d : plw (f j.toInt.toNat) = 1 - b'.toInt
          · rw [if_pos d, if_pos ⟨by omega, d⟩]
          · rw [if_neg d, if_neg (fun q => d q.2)]
      have E1 := exw_01 (f := f) (v := 1 - b'.toInt) (a := v'.toInt.toNat) j.toInt.toNat
      refine wp_ifeq (fun q2 => wp_ret ⟨rfl, ?_⟩) (fun q2 => wp_ifeq (fun q3 => wp_ifeq (fun q4 => wp_add (by omega) (fun z2 hz2 => go (by omega) 1 z2 hz2 ?_)) (fun q4 => wp_add (by omega) (fun z2 hz2 => go (by omega) 0 z2 hz2 ?_))) (fun q3 => wp_add (by omega) (fun z2 hz2 => go (by omega) 1 z2 hz2 ?_)))
      · unfold pw
        rw [if_pos ((exw_iff _).mpr ⟨j.toInt.toNat, by omega, by omega, by omega⟩)]
      · rw [if_pos (by omega)]; exact L.2.1
      · rw [if_neg (by omega)]; omega
      · split <;> omega
  unfold f_X3_pairWay
  exact wp_ifeq (fun q => main 1 (by omega)) (fun q => main 0 (by omega))
end
theorem ps_s {f cl : Nat → Int} {b : Int} {i : Nat} : ps f cl b (i + 1) = if cl i = -1 then ps f cl b i else if pw (ps f cl b i) i (cl i).toNat b = 3 then ps f cl b i else fun j => if j = i ∨ j = (cl i).toNat then pw (ps f cl b i) i (cl i).toNat b else ps f cl b i j := by rw [ps]
theorem s_settlePartners {w : Wd} {tab : Nat → Int} {l P : List Int} {b : Int32} {f : Nat → Int} (hk : tok tab) (h : trel w 1 tab) (ho : okall w) (Y : lok40 l) (hP : PI P l.length) (hL : rl w 661 = P.map (gt l)) (hf : wyC w f P.length) (hb : b.toInt = 0 ∨ b.toInt = 1) :
    Wp (f_X3_settlePartners b w) (fun _ w' => cr 663 668 w w' ∧ wyC w' (ps f (mp tab l P P.length).2 b.toInt P.length) P.length) := by
  have L := LIT
  have l3 : (3 : Int32).toInt = 3 := by decide
  have K := KLR
  have h40 := Y.1
  have hPl := hP.1
  unfold f_X3_settlePartners
  refine wp_bd (s_matchPartners hk h ho Y hP hL) ?_
  rintro _ w1 ⟨V1, C1⟩
  have I := mp_I (tab := tab) (l := l) (P := P) P.length
  generalize mp tab l P P.length = st at C1 I ⊢
  have f1 : wyC w1 f P.length := by
    have := cr_rl V1 (o := 663) (by omega)
    unfold wyC; rw [this]; exact hf
  unfold f_X3_settlePartners_6
  rw [FUv]
  refine wp_loop (fun σ : Int32 × Int32 × Wd => σ.1 = b ∧ cr 663 668 w σ.2.2 ∧ rl σ.2.2 667 = rl w1 667 ∧ rl σ.2.2 661 = rl w 661 ∧ 0 ≤ σ.2.1.toInt ∧ σ.2.1.toInt ≤ P.length ∧ wyC σ.2.2 (ps f st.2 b.toInt σ.2.1.toInt.toNat) P.length)
    (fun σ => (42 - σ.2.1.toInt).toNat) ?_ 100000 _ ⟨rfl, cr_mono V1 (by decide) (by decide), rfl, cr_rl V1 (by omega), by dsimp only; omega, by dsimp only; omega, by dsimp only; rw [L.1]; exact f1⟩ (by dsimp only; omega)
  rintro rc ⟨b', k, u⟩ ⟨rfl, V, r7, r1, hk0, hk1, hw⟩ ih
  dsimp only at *
  have ck : ((k.toInt.toNat : Nat) : Int) = k.toInt := by omega
  unfold g_X3_settlePartners_6
  refine wp_bd (s_size (V.2 _ K.2.2.2.2.2.1)) ?_
  rintro n _ ⟨rfl, hn⟩
  rw [r1, hL, List.length_map] at hn
  refine wp_ifle (fun q => wp_ret ⟨V, ?_⟩) (fun q => ?_)
  · rw [show k.toInt.toNat = P.length by omega] at hw; exact hw
  refine wp_bd (s_get (V.2 _ K.2.2.2.2.2.2.2.2.1)) ?_
  rintro x _ ⟨rfl, hx⟩
  have c2 := C1.2.2 k.toInt.toNat (by omega)
  rw [ck] at c2
  rw [r7, c2] at hx
  have fin : ∀ (z : Int32) (u2 : Wd), z.toInt = k.toInt + (1 : Int32).toInt → cr 663 668 w u2 → rl u2 667 = rl w1 667 → rl u2 661 = rl w 661 → wyC u2 (ps f st.2 b'.toInt (k.toInt.toNat + 1)) P.length → Wp (rc (b', z, u2)) (fun _ w' => cr 663 668 w w' ∧ wyC w' (ps f st.2 b'.toInt P.length) P.length) := by
    intro z u2 hz g0 g1 g2 g3
    refine ih (b', z, u2) ⟨rfl, g0, g1, g2, by dsimp only; omega, by dsimp only; omega, ?_⟩ (by dsimp only; omega)
    dsimp only; rw [show z.toInt.toNat = k.toInt.toNat + 1 by omega]; exact g3
  refine wp_ifeq (fun c => ?_) (fun c => ?_)
  · unfold f_X3_settlePartners_42
    rw [if_pos rfl]
    refine wp_add (by omega) (fun z hz => fin z u hz V r7 r1 ?_)
    rw [ps_s, if_pos (by omega)]; exact hw
  · have Ic := I.2.2 k.toInt.toNat
    refine wp_bd (s_pairWay (v := k) (c := x) V.2 hw (by omega) (by omega) (by omega) hb) ?_
    rintro y _ ⟨rfl, hy⟩
    rw [hx] at hy
    unfold f_X3_settlePartners_42
    refine wp_ifeq (fun d => wp_add (by omega) (fun z hz => fin z u hz V r7 r1 ?_)) (fun d => ?_)
    · rw [ps_s, if_neg (by omega), if_pos (by omega)]; exact hw
    · refine wp_bd (s_set_in (V.2 _ K.2.2.2.2.2.2.1) hk0) ?_
      rintro _ u1 p1
      have V2 := cr_rs V p1 (by decide) (by decide)
      refine wp_bd (s_set_in (V2.2 _ K.2.2.2.2.2.2.1) (by omega)) ?_
      rintro _ u2 p2
      have p3 := rs_tr p1 p2
      refine wp_add (by omega) (fun z hz => fin z u2 hz (cr_rs V p3 (by decide) (by decide)) ?_ ?_ ?_)
      · rw [rs_rl p3 (k := 667) K.2.2.2.2.2.2.2.2.1 (by decide)]; exact r7
      · rw [rs_rl p3 (k := 661) K.2.2.2.2.2.1 (by decide)]; exact r1
      · rw [ps_s, if_neg (by omega), if_neg (by omega)]
        refine ⟨by rw [rs_l p2, rs_l p1, List.length_set, List.length_set]; exact hw.1, fun i hi => ?_⟩
        rw [rs_l p2, rs_l p1, gt_setn (by rw [List.length_set, hw.1]; omega), gt_setn (by rw [hw.1]; omega), hx]
        dsimp only
        by_cases e1 : i = (st.2 k.toInt.toNat).toNat
        · rw [if_pos e1, if_pos (Or.inr e1)]; exact hy
        · rw [if_neg e1]
          by_cases e2 : i = k.toInt.toNat
          · rw [if_pos e2, if_pos (Or.inl e2)]; exact hy
          · rw [if_neg e2, if_neg (fun q => q.elim e2 e1)]; exact hw.2 i hi
theorem s_settleRest {w : Wd} {b : Int32} {f : Nat → Int} {m : Nat} (ho : okall w) (hm : m ≤ 40) (hf : wyC w f m) (hb : b.toInt = 0 ∨ b.toInt = 1) :
    Wp (f_X3_settleRest b w) (fun _ w' => cr 663 664 w w' ∧ wyC w' (oth f b.toInt m) m) := by
  have L := LIT
  have l3 : (3 : Int32).toInt = 3 := by decide
  have K := KLR
  unfold f_X3_settleRest f_X3_settleRest_2
  rw [FUv]
  refine wp_loop (fun σ : Int32 × Int32 × Wd => σ.1 = b ∧ cr 663 664 w σ.2.2 ∧ 0 ≤ σ.2.1.toInt ∧ σ.2.1.toInt ≤ m ∧ wyC σ.2.2 (fun i => if i < σ.2.1.toInt.toNat then oth f b.toInt m i else f i) m)
    (fun σ => (42 - σ.2.1.toInt).toNat) ?_ 100000 _ ⟨rfl, cr_rf ho, by dsimp only; omega, by dsimp only; omega, by dsimp only; rw [L.1]; exact ⟨hf.1, fun i hi => by dsimp only; rw [if_neg (by omega)]; exact hf.2 i hi⟩⟩ (by dsimp only; omega)
  rintro rc ⟨b', k, u⟩ ⟨rfl, V, hk0, hk1, hw⟩ ih
  dsimp only at *
  have ck : ((k.toInt.toNat : Nat) : Int) = k.toInt := by omega
  unfold g_X3_settleRest_2
  refine wp_bd (s_size (V.2 _ K.2.2.2.2.2.2.1)) ?_
  rintro n _ ⟨rfl, hn⟩
  rw [hw.1] at hn
  refine wp_ifle (fun q => wp_ret ⟨V, hw.1, fun i hi => ?_⟩) (fun q => ?_)
  · rw [hw.2 i hi]; dsimp only; rw [if_pos (by omega)]
  refine wp_bd (s_get (V.2 _ K.2.2.2.2.2.2.1)) ?_
  rintro x _ ⟨rfl, hx⟩
  have hx2 := hw.2 k.toInt.toNat (by omega)
  dsimp only at hx2
  rw [ck, if_neg (Nat.lt_irrefl _)] at hx2
  rw [hx2] at hx
  refine wp_ifeq (fun c => ?_) (fun c => wp_add (by omega) (fun z hz => ih (b', z, u) ⟨rfl, V, by dsimp only; omega, by dsimp only; omega, hw.1, fun i hi => ?_⟩ (by dsimp only; omega)))
  · refine wp_bd (s_wayAhead (v := k) (o := b') V.2 hw hm (by omega)) ?_
    rintro a _ ⟨rfl, ha⟩
    refine wp_bd (s_wayBehind (v := k) (o := b') V.2 hw hm (by omega)) ?_
    rintro e _ ⟨rfl, he⟩
    have hcg : bhn (fun i => if i < k.toInt.toNat then oth f b'.toInt m i else f i) b'.toInt m (m - (k.toInt.toNat + 1)) = bhn f b'.toInt m (m - (k.toInt.toNat + 1)) :=
      bhn_cg _ (by omega) (fun j h1 h2 => by rw [if_neg (by omega)])
    rw [hcg] at he
    have run := oth_run (f := f) (b := b'.toInt) (m := m) (k := k.toInt.toNat) hb (by omega) (by omega)
    rw [← ha, ← he] at run
    have go : ∀ t : Int32, t.toInt = oth f b'.toInt m k.toInt.toNat → Wp (f_X3_settleRest_52 rc b' k 663 k t u) (fun _ w' => cr 663 664 w w' ∧ wyC w' (oth f b'.toInt m) m) := by
      intro t ht
      unfold f_X3_settleRest_52
      refine wp_bd (s_set_in (V.2 _ K.2.2.2.2.2.2.1) hk0) ?_
      rintro _ u2 p2
      refine wp_add (by omega) (fun z hz => ih (b', z, u2) ⟨rfl, cr_rs V p2 (by decide) (by decide), by dsimp only; omega, by dsimp only; omega, ?_, fun i hi => ?_⟩ (by dsimp only; omega))
      · dsimp only; rw [rs_l p2, List.length_set]; exact hw.1
      · dsimp only
        rw [rs_l p2, gt_setn (by rw [hw.1]; omega), show z.toInt.toNat = k.toInt.toNat + 1 by omega]
        by_cases e : i = k.toInt.toNat
        · rw [if_pos e, if_pos (by omega), e]; exact ht
        · rw [if_neg e, hw.2 i hi]; dsimp only
          by_cases e2 : i < k.toInt.toNat
          · rw [if_pos e2, if_pos (by omega)]
          · rw [if_neg e2, if_neg (by omega)]
    refine wp_ifeq (fun d => go a ?_) (fun d => go b' ?_)
    · rw [if_pos (by omega)] at run; exact run
    · rw [if_neg (by omega)] at run; exact run
  · dsimp only
    rw [show z.toInt.toNat = k.toInt.toNat + 1 by omega, hw.2 i hi]; dsimp only
    by_cases e : i = k.toInt.toNat
    · rw [if_neg (by omega), if_pos (by omega), e]
      unfold oth; rw [if_neg (by omega)]
    · by_cases e2 : i < k.toInt.toNat
      · rw [if_pos e2, if_pos (by omega)]
      · rw [if_neg e2, if_neg (by omega)]

