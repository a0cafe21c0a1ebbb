/-! ===== directions: the base ===== -/
/-- the direction of a letter of a text -/
def dr (tab : Nat → Int) (l : List Int) (k : Int) : Int := tab (9 * (gt l k).toNat + 1)
/-- the base of what has so many letters left, so deep within isolates -/
def bf (tab : Nat → Int) (l : List Int) (x : Int) : Nat → Nat → Int
  | 0, _ => 0
  | m + 1, d => if 7 ≤ dr tab l (l.length - ((m + 1 : Nat) : Int)) ∧ dr tab l (l.length - ((m + 1 : Nat) : Int)) ≤ 9 then bf tab l x m (d + 1)
    else if dr tab l (l.length - ((m + 1 : Nat) : Int)) = 10 then (if d = 0 ∧ x ≠ 0 then 0 else bf tab l x m (d - 1))
    else if d = 0 ∧ (dr tab l (l.length - ((m + 1 : Nat) : Int)) = 0 ∨ dr tab l (l.length - ((m + 1 : Nat) : Int)) = 1) then (if dr tab l (l.length - ((m + 1 : Nat) : Int)) = 1 then 1 else 0) else bf tab l x m d
/-- how many letters are left where it closes -/
def cl (tab : Nat → Int) (l : List Int) : Nat → Nat → Nat
  | 0, _ => 0
  | m + 1, d => if 7 ≤ dr tab l (l.length - ((m + 1 : Nat) : Int)) ∧ dr tab l (l.length - ((m + 1 : Nat) : Int)) ≤ 9 then cl tab l m (d + 1)
    else if dr tab l (l.length - ((m + 1 : Nat) : Int)) = 10 then (if d = 0 then m + 1 else cl tab l m (d - 1)) else cl tab l m d
theorem bf_s {tab : Nat → Int} {l : List Int} {x : Int} {m d : Nat} {i : Int} (hi : i = l.length - ((m + 1 : Nat) : Int)) : bf tab l x (m + 1) d = if 7 ≤ dr tab l i ∧ dr tab l i ≤ 9 then bf tab l x m (d + 1) else if dr tab l i = 10 then (if d = 0 ∧ x ≠ 0 then 0 else bf tab l x m (d - 1)) else if d = 0 ∧ (dr tab l i = 0 ∨ dr tab l i = 1) then (if dr tab l i = 1 then 1 else 0) else bf tab l x m d := by
  subst hi; rw [bf]
theorem cl_s {tab : Nat → Int} {l : List Int} {m d : Nat} {i : Int} (hi : i = l.length - ((m + 1 : Nat) : Int)) : cl tab l (m + 1) d = if 7 ≤ dr tab l i ∧ dr tab l i ≤ 9 then cl tab l m (d + 1) else if dr tab l i = 10 then (if d = 0 then m + 1 else cl tab l m (d - 1)) else cl tab l m d := by
  subst hi; rw [cl]
theorem cl_le {tab : Nat → Int} {l : List Int} : ∀ m d : Nat, cl tab l m d ≤ m := by
  intro m
  induction m with
  | zero => intro d; exact Nat.le_refl _
  | succ m ih =>
    intro d
    rw [cl_s rfl]
    split
    · have := ih (d + 1); omega
    · split
      · split
        · omega
        · have := ih (d - 1); omega
      · have := ih d; omega
theorem cl_top {tab : Nat → Int} {l : List Int} {m : Nat} {i : Int} (hi : i = l.length - ((m + 1 : Nat) : Int)) : cl tab l (m + 1) 0 = m + 1 ↔ dr tab l i = 10 := by
  rw [cl_s hi]
  by_cases c : 7 ≤ dr tab l i ∧ dr tab l i ≤ 9
  · rw [if_pos c]
    have := cl_le (tab := tab) (l := l) m (0 + 1)
    constructor
    · intro q; omega
    · intro q; omega
  · rw [if_neg c]
    by_cases d : dr tab l i = 10
    · rw [if_pos d, if_pos rfl]; exact ⟨fun _ => d, fun _ => rfl⟩
    · rw [if_neg d]
      have := cl_le (tab := tab) (l := l) m 0
      exact ⟨fun q => by omega, fun q => absurd q d⟩
theorem cl_jump {tab : Nat → Int} {l : List Int} {d : Nat} : ∀ m e : Nat, cl tab l m (d + 1 + e) = cl tab l (cl tab l m e - 1) d := by
  intro m
  induction m with
  | zero => intro e; rfl
  | succ m ih =>
    intro e
    rw [cl_s rfl, cl_s (d := e) rfl]
    split
    · rw [show d + 1 + e + 1 = d + 1 + (e + 1) by omega, ih (e + 1)]
    · split
      · rw [if_neg (by omega)]
        by_cases c : e = 0
        · subst c
          rw [if_pos rfl, show m + 1 - 1 = m by omega, show d + 1 + 0 - 1 = d by omega]
        · rw [if_neg c, show d + 1 + e - 1 = d + 1 + (e - 1) by omega, ih (e - 1)]
      · rw [ih e]
theorem bf_jump {tab : Nat → Int} {l : List Int} {x : Int} {d : Nat} : ∀ m e : Nat, bf tab l x m (d + 1 + e) = bf tab l x (cl tab l m e - 1) d := by
  intro m
  induction m with
  | zero => intro e; rfl
  | succ m ih =>
    intro e
    rw [bf_s rfl, cl_s (d := e) rfl]
    split
    · rw [show d + 1 + e + 1 = d + 1 + (e + 1) by omega, ih (e + 1)]
    · split
      · rw [if_neg (by omega)]
        by_cases c : e = 0
        · subst c
          rw [if_pos rfl, show m + 1 - 1 = m by omega, show d + 1 + 0 - 1 = d by omega]
        · rw [if_neg c, show d + 1 + e - 1 = d + 1 + (e - 1) by omega, ih (e - 1)]
      · rw [if_neg (by omega), ih e]
/-- how many isolates are open ahead of a letter -/
def opn (tab : Nat → Int) (l : List Int) : Nat → Nat
  | 0 => 0
  | k + 1 => if 7 ≤ dr tab l k ∧ dr tab l k ≤ 9 then opn tab l k + 1 else if dr tab l k = 10 then opn tab l k - 1 else opn tab l k
theorem opn_s {tab : Nat → Int} {l : List Int} {k : Nat} : opn tab l (k + 1) = if 7 ≤ dr tab l k ∧ dr tab l k ≤ 9 then opn tab l k + 1 else if dr tab l k = 10 then opn tab l k - 1 else opn tab l k := by rw [opn]
theorem opn_le {tab : Nat → Int} {l : List Int} : ∀ k : Nat, opn tab l k ≤ k := by
  intro k
  induction k with
  | zero => exact Nat.le_refl _
  | succ k ih =>
    rw [opn_s]
    split
    · omega
    · split <;> omega
theorem dr_rng {tab : Nat → Int} {l : List Int} (hk : tok tab) (Y : lok40 l) {k : Int} (h0 : 0 ≤ k) (h1 : k < l.length) : 0 ≤ dr tab l k ∧ dr tab l k ≤ 10 := by
  have g := lok_gt Y h0 h1
  exact (hk.1 (gt l k).toNat (by omega)).2.1
/-! the class's base -/
theorem s_dirOf {w : Wd} {tab : Nat → Int} {o : Nat} {v : Int32} {l : List Int} (h : trel w 1 tab) (hl : rl w o = l) (Y : lok40 l) (hv : 0 ≤ v.toInt ∧ v.toInt < l.length) {x : Int32} (hx : x.toInt = gt l v.toInt) :
    Wp (f_X9_directionOf 1 x w) (fun x w' => w = w' ∧ x.toInt = dr tab l v.toInt) := by
  have g := lok_gt Y hv.1 hv.2
  refine (s_directionOf (by decide +kernel) (by omega) (by omega) h).mono ?_
  rintro y _ ⟨rfl, hy⟩
  refine ⟨rfl, ?_⟩
  rw [hy, hx]; rfl
theorem e_isIsolate (x : Int32) (w : Wd) : f_X3_isIsolate x w = some (zo (7 ≤ x.toInt ∧ x.toInt ≤ 9), w) := by
  have L := LIT
  have l7 : (7 : Int32).toInt = 7 := by decide
  have l8 : (8 : Int32).toInt = 8 := by decide
  have l9 : (9 : Int32).toInt = 9 := by decide
  unfold f_X3_isIsolate zo
  simp only [i_eq, l7, l8, l9]
  by_cases a : x.toInt = 7
  · rw [if_pos a, if_pos (by omega)]
  · rw [if_neg a]
    by_cases b : x.toInt = 8
    · rw [if_pos b, if_pos (by omega)]
    · rw [if_neg b]
      by_cases c : x.toInt = 9
      · rw [if_pos c, if_pos (by omega)]
      · rw [if_neg c, if_neg (by omega)]
theorem s_baseFrom {w : Wd} {tab : Nat → Int} {o : Nat} {p x : Int32} {l : List Int} (hk : tok tab) (h : trel w 1 tab) (ho : okr w o) (hl : rl w o = l) (Y : lok40 l) (hp : 0 ≤ p.toInt ∧ p.toInt ≤ l.length) :
    Wp (f_X3_baseFrom o p x w) (fun r w' => w = w' ∧ r.toInt = bf tab l x.toInt (l.length - p.toInt).toNat 0) := by
  have L := LIT
  have h40 := Y.1
  have l10 : (10 : Int32).toInt = 10 := by decide
  unfold f_X3_baseFrom f_X3_baseFrom_6
  rw [FUv]
  refine wp_loop (fun σ : Nat × Int32 × Int32 × Int32 × Wd => σ.1 = o ∧ σ.2.1 = x ∧ σ.2.2.2.2 = w ∧ 0 ≤ σ.2.2.2.1.toInt ∧ σ.2.2.2.1.toInt ≤ l.length ∧ 0 ≤ σ.2.2.1.toInt ∧ σ.2.2.1.toInt ≤ σ.2.2.2.1.toInt ∧ bf tab l x.toInt (l.length - σ.2.2.2.1.toInt).toNat σ.2.2.1.toInt.toNat = bf tab l x.toInt (l.length - p.toInt).toNat 0)
    (fun σ => (42 - σ.2.2.2.1.toInt).toNat) ?_ 100000 _ ⟨rfl, rfl, rfl, by dsimp only; omega, by dsimp only; omega, by dsimp only; omega, by dsimp only; omega, by dsimp only; rw [L.1]; rfl⟩ (by dsimp only; omega)
  rintro rc ⟨o', x', d, i, u⟩ ⟨rfl, rfl, rfl, hi, hi2, hd, hd2, he⟩ ih
  dsimp only at *
  unfold g_X3_baseFrom_6
  refine wp_bd (s_size ho) ?_
  rintro n _ ⟨rfl, hn⟩
  rw [hl] at hn
  refine wp_ifle (fun q => wp_ret ⟨rfl, ?_⟩) (fun q => ?_)
  · rw [show ((l.length : Int) - i.toInt).toNat = 0 by omega] at he
    rw [← he, L.1]; rfl
  refine wp_bd (s_get ho) ?_
  rintro y _ ⟨rfl, hy⟩
  rw [hl] at hy
  refine wp_bd (s_dirOf h hl Y (by omega) hy) ?_
  rintro z _ ⟨rfl, hz⟩
  obtain ⟨m, hm⟩ : ∃ m, ((l.length : Int) - i.toInt).toNat = m + 1 := ⟨((l.length : Int) - i.toInt).toNat - 1, by omega⟩
  rw [hm, bf_s (i := i.toInt) (by omega), ← hz] at he
  have R := dr_rng hk Y hi (by omega)
  rw [← hz] at R
  have next : ∀ (d2 j : Int32), j.toInt = i.toInt + (1 : Int32).toInt → 0 ≤ d2.toInt → d2.toInt ≤ i.toInt + 1 → bf tab l x'.toInt m d2.toInt.toNat = bf tab l x'.toInt (l.length - p.toInt).toNat 0 → Wp (rc (o', x', d2, j, u)) (fun r w' => u = w' ∧ r.toInt = bf tab l x'.toInt (l.length - p.toInt).toNat 0) := by
    intro d2 j hj h1 h2 h3
    have hj2 : j.toInt = i.toInt + 1 := by omega
    refine ih (o', x', d2, j, u) ⟨rfl, rfl, rfl, by dsimp only; omega, by dsimp only; omega, h1, by dsimp only; omega, ?_⟩ (by dsimp only; omega)
    dsimp only
    rw [show ((l.length : Int) - j.toInt).toNat = m by omega]; exact h3
  rw [e_isIsolate, bd_r, ite_zo]
  refine wp_if (fun c => ?_) (fun c => ?_)
  · rw [if_pos c] at he
    refine wp_add (by omega) (fun d2 hd3 => wp_add (by omega) (fun j hj => next d2 j hj (by omega) (by omega) ?_))
    rw [show d2.toInt.toNat = d.toInt.toNat + 1 by omega]; exact he
  rw [if_neg c] at he
  refine wp_ifeq (fun c2 => ?_) (fun c2 => ?_)
  · rw [if_pos (by omega)] at he
    have down : ¬ (d.toInt.toNat = 0 ∧ x'.toInt ≠ 0) → Wp (f_X3_baseFrom_62 rc o' x' d i u) (fun r w' => u = w' ∧ r.toInt = bf tab l x'.toInt (l.length - p.toInt).toNat 0) := by
      intro nf
      rw [if_neg nf] at he
      unfold f_X3_baseFrom_62
      refine wp_ifle (fun c3 => wp_add (by omega) (fun j hj => next 0 j hj (by omega) (by omega) ?_)) (fun c3 => wp_sub (by omega) (fun d2 hd3 => wp_add (by omega) (fun j hj => next d2 j hj (by omega) (by omega) ?_)))
      · rw [L.1]; rw [show d.toInt.toNat - 1 = 0 by omega] at he; exact he
      · rw [show d2.toInt.toNat = d.toInt.toNat - 1 by omega]; exact he
    refine wp_ifeq (fun c3 => wp_ifeq (fun c4 => down (by omega)) (fun c4 => wp_ret ⟨rfl, ?_⟩)) (fun c3 => down (by omega))
    rw [if_pos (by omega)] at he
    rw [L.1]; exact he
  rw [if_neg (by omega)] at he
  have ans : d.toInt.toNat = 0 → (z.toInt = 0 ∨ z.toInt = 1) → Wp (f_X3_baseFrom_96 z u) (fun r w' => u = w' ∧ r.toInt = bf tab l x'.toInt (l.length - p.toInt).toNat 0) := by
    intro h1 h2
    rw [if_pos ⟨h1, h2⟩] at he
    unfold f_X3_baseFrom_96
    refine wp_ifeq (fun c5 => wp_ret ⟨rfl, ?_⟩) (fun c5 => wp_ret ⟨rfl, ?_⟩)
    · rw [if_pos (by omega)] at he; omega
    · rw [if_neg (by omega)] at he; omega
  have go : ¬ (d.toInt.toNat = 0 ∧ (z.toInt = 0 ∨ z.toInt = 1)) → ∀ j : Int32, j.toInt = i.toInt + (1 : Int32).toInt → Wp (rc (o', x', d, j, u)) (fun r w' => u = w' ∧ r.toInt = bf tab l x'.toInt (l.length - p.toInt).toNat 0) := by
    intro nf j hj
    rw [if_neg nf] at he
    exact next d j hj (by omega) (by omega) he
  refine wp_ifeq (fun c3 => wp_ifeq (fun c4 => ans (by omega) (by omega)) (fun c4 => wp_ifeq (fun c5 => ans (by omega) (by omega)) (fun c5 => wp_add (by omega) (go (by omega))))) (fun c3 => wp_add (by omega) (go (by omega)))
theorem k_base {w : Wd} {tab : Nat → Int} {txt : Nat → List Int} {s : Int32} (hk : tok tab) (h : trel w 1 tab) (ho : okall w) (hx : ctx w txt) (hkx : xok txt) :
    Wp (f_X10_base s w) (fun r w' => w = w' ∧ ((bad_s1 s.toInt ∧ r = .inl 1) ∨ (¬ bad_s1 s.toInt ∧ ∃ x : Int32, r = .inr x ∧ x.toInt = bf tab (txt s.toInt.toNat) 0 (txt s.toInt.toNat).length 0))) := by
  have L := LIT
  unfold f_X10_base
  simp only [e_textOf, bdx_c]
  refine wp_if (fun hs => ?_) (fun hs => wp_ret ⟨rfl, Or.inl ⟨hs, rfl⟩⟩)
  have hsN := slot_lt hs
  have K := slot_kd _ hsN
  refine wp_bd (s_baseFrom hk h (ho _ K.1) (hx _ hsN) (hkx _ hsN) (by omega)) ?_
  rintro r _ ⟨rfl, hr⟩
  rw [L.1, show (((txt s.toInt.toNat).length : Int) - 0).toNat = (txt s.toInt.toNat).length by omega] at hr
  exact wp_ret ⟨rfl, Or.inr ⟨fun q => q hs, r, rfl, hr⟩⟩
/-! the reference's base -/
