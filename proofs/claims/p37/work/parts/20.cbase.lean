/-! ===== total correctness of the functional side ===== -/
def Wp {R : Type} (o : Option (R × Wd)) (Q : R → Wd → Prop) : Prop := ∃ r w, o = some (r, w) ∧ Q r w
theorem wp_ret {R : Type} {r : R} {w : Wd} {Q : R → Wd → Prop} (h : Q r w) : Wp (some (r, w)) Q := ⟨r, w, rfl, h⟩
theorem wp_of {R : Type} {o : Option (R × Wd)} {r : R} {w : Wd} {Q : R → Wd → Prop} (e : o = some (r, w)) (h : Q r w) : Wp o Q := ⟨r, w, e, h⟩
theorem wp_none {R : Type} {Q : R → Wd → Prop} : ¬ Wp (none : Option (R × Wd)) Q := by
  rintro ⟨r, w, h, _⟩; cases h
theorem Wp.mono {R : Type} {o : Option (R × Wd)} {P Q : R → Wd → Prop} (h : Wp o P) (hq : ∀ r w, P r w → Q r w) : Wp o Q := by
  obtain ⟨r, w, h1, h2⟩ := h; exact ⟨r, w, h1, hq r w h2⟩
theorem wp_bd {R R2 : Type} {o : Option (R × Wd)} {k : R → Wd → Option (R2 × Wd)} {P : R → Wd → Prop} {Q : R2 → Wd → Prop} (h : Wp o P) (hk : ∀ r w, P r w → Wp (k r w) Q) : Wp (bd o k) Q := by
  obtain ⟨r, w, rfl, h2⟩ := h; exact hk r w h2
theorem wp_bdq {R2 : Type} {o : Option (Option Nat × Wd)} {k0 : Wd → Option (R2 × Wd)} {k1 : Nat → Wd → Option (R2 × Wd)} {P : Option Nat → Wd → Prop} {Q : R2 → Wd → Prop} (h : Wp o P) (h0 : ∀ w, P none w → Wp (k0 w) Q) (h1 : ∀ r w, P (some r) w → Wp (k1 r w) Q) : Wp (bdq o k0 k1) Q := by
  obtain ⟨_ | r, w, rfl, h2⟩ := h
  · exact h0 w h2
  · exact h1 r w h2
theorem wp_bdx {R R2 : Type} {o : Option ((Nat ⊕ R) × Wd)} {k : R → Wd → Option ((Nat ⊕ R2) × Wd)} {P : Nat ⊕ R → Wd → Prop} {Q : Nat ⊕ R2 → Wd → Prop} (h : Wp o P) (hx : ∀ e w, P (.inl e) w → Q (.inl e) w) (hk : ∀ r w, P (.inr r) w → Wp (k r w) Q) : Wp (bdx o k) Q := by
  obtain ⟨e | r, w, rfl, h2⟩ := h
  · exact ⟨_, _, rfl, hx e w h2⟩
  · exact hk r w h2
theorem wp_bdc {R R2 : Type} {o : Option ((Nat ⊕ R) × Wd)} {kx : Nat → Wd → Option (R2 × Wd)} {k : R → Wd → Option (R2 × Wd)} {P : Nat ⊕ R → Wd → Prop} {Q : R2 → Wd → Prop} (h : Wp o P) (hx : ∀ e w, P (.inl e) w → Wp (kx e w) Q) (hk : ∀ r w, P (.inr r) w → Wp (k r w) Q) : Wp (bdc o kx k) Q := by
  obtain ⟨e | r, w, rfl, h2⟩ := h
  · exact hx e w h2
  · exact hk r w h2
theorem wp_lt {A R : Type} {x : A} {k : A → Option (R × Wd)} {Q : R → Wd → Prop} (h : ∀ y, y = x → Wp (k y) Q) : Wp (lt x k) Q := h x rfl
theorem wp_wr {R : Type} {w : Wd} {k : Wd → Option (R × Wd)} {Q : R → Wd → Prop} (h : Wp (k w) Q) : Wp (wr w k) Q := h
theorem wp_if {R : Type} {c : Prop} [Decidable c] {a b : Option (R × Wd)} {Q : R → Wd → Prop} (h1 : c → Wp a Q) (h2 : ¬ c → Wp b Q) : Wp (if c then a else b) Q := by
  by_cases h : c
  · rw [if_pos h]; exact h1 h
  · rw [if_neg h]; exact h2 h
theorem inb_iff {i : Int32} {n : Nat} : inb i n = true ↔ 0 ≤ i.toInt ∧ i.toInt < n := by
  unfold inb
  simp only [Bool.and_eq_true, Bool.not_eq_true', decide_eq_false_iff_not, decide_eq_true_eq, Int32.lt_iff_toInt_lt, Int32.toInt_zero]
  unfold Int32.toNatClampNeg
  omega
theorem wp_ald {R : Type} {w : Wd} {q : Nat} {i : Int32} {k : Int32 → Option (R × Wd)} {Q : R → Wd → Prop} (hi : 0 ≤ i.toInt ∧ i.toInt < LEN q) (h : Wp (k (w.1 q i.toInt.toNat)) Q) : Wp (ald w q i k) Q := by
  unfold ald
  rw [if_pos (inb_iff.mpr hi)]
  exact h
theorem wp_ast {R : Type} {w : Wd} {q : Nat} {i x : Int32} {k : Wd → Option (R × Wd)} {Q : R → Wd → Prop} (hi : 0 ≤ i.toInt ∧ i.toInt < LEN q) (h : Wp (k (setI w q i.toInt.toNat x)) Q) : Wp (ast w q i x k) Q := by
  unfold ast
  rw [if_pos (inb_iff.mpr hi)]
  exact h
theorem wp_ard {R : Type} {q : Nat} {i : Int32} {k : Nat → Option (R × Wd)} {Q : R → Wd → Prop} (hi : 0 ≤ i.toInt ∧ i.toInt < LEN q) (h : Wp (k (RV q i.toInt.toNat)) Q) : Wp (ard q i k) Q := by
  unfold ard
  rw [if_pos (inb_iff.mpr hi)]
  exact h
theorem wp_lst {R : Type} {w : Wd} {q : Nat} {i : Int32} {x : Int64} {k : Wd → Option (R × Wd)} {Q : R → Wd → Prop} (hi : 0 ≤ i.toInt ∧ i.toInt < LEN q) (h : Wp (k (setL w x)) Q) : Wp (lst w q i x k) Q := by
  unfold lst
  rw [if_pos (inb_iff.mpr hi)]
  exact h
theorem wp_lld {R : Type} {w : Wd} {q : Nat} {i : Int32} {k : Int64 → Option (R × Wd)} {Q : R → Wd → Prop} (hi : 0 ≤ i.toInt ∧ i.toInt < LEN q) (h : Wp (k w.2.2.2) Q) : Wp (lld w q i k) Q := by
  unfold lld
  rw [if_pos (inb_iff.mpr hi)]
  exact h
theorem wp_dv {R : Type} {y : Int32} {k : Option (R × Wd)} {Q : R → Wd → Prop} (hy : y.toInt ≠ 0) (h : Wp k Q) : Wp (dv y k) Q := by
  unfold dv
  rw [if_neg (fun e => hy (by rw [e]; rfl))]
  exact h
theorem wp_ite {R : Type} {Q : R → Wd → Prop} (c : Prop) [Decidable c] (a b : Option (R × Wd)) : Wp (if c then a else b) Q ↔ (c → Wp a Q) ∧ (¬ c → Wp b Q) := by
  by_cases h : c
  · rw [if_pos h]; exact ⟨fun k => ⟨fun _ => k, fun n => (n h).elim⟩, fun k => k.1 h⟩
  · rw [if_neg h]; exact ⟨fun k => ⟨fun n => (h n).elim, fun _ => k⟩, fun k => k.2 h⟩
/-- all of them at once, for simp -/
theorem WPS {R : Type} {Q : R → Wd → Prop} : (∀ r w, Wp (some (r, w)) Q ↔ Q r w) ∧ (∀ (A : Type) (x : A) (k : A → Option (R × Wd)), Wp (lt x k) Q ↔ Wp (k x) Q) ∧ (∀ (w : Wd) (k : Wd → Option (R × Wd)), Wp (wr w k) Q ↔ Wp (k w) Q) ∧
    (∀ (w : Wd) (q : Nat) (i : Int32) (k : Int32 → Option (R × Wd)), Wp (ald w q i k) Q ↔ (0 ≤ i.toInt ∧ i.toInt < LEN q) ∧ Wp (k (w.1 q i.toInt.toNat)) Q) ∧
    (∀ (w : Wd) (q : Nat) (i x : Int32) (k : Wd → Option (R × Wd)), Wp (ast w q i x k) Q ↔ (0 ≤ i.toInt ∧ i.toInt < LEN q) ∧ Wp (k (setI w q i.toInt.toNat x)) Q) ∧
    (∀ (q : Nat) (i : Int32) (k : Nat → Option (R × Wd)), Wp (ard q i k) Q ↔ (0 ≤ i.toInt ∧ i.toInt < LEN q) ∧ Wp (k (RV q i.toInt.toNat)) Q) ∧
    (∀ (R2 : Type) (r : R2) (w : Wd) (k : R2 → Wd → Option (R × Wd)), Wp (bd (some (r, w)) k) Q ↔ Wp (k r w) Q) := by
  refine ⟨fun r w => ⟨?_, wp_ret⟩, fun _ _ _ => Iff.rfl, fun _ _ => Iff.rfl, fun w q i k => ⟨?_, fun h => wp_ald h.1 h.2⟩, fun w q i x k => ⟨?_, fun h => wp_ast h.1 h.2⟩, fun q i k => ⟨?_, fun h => wp_ard h.1 h.2⟩, fun _ _ _ _ => Iff.rfl⟩
  · rintro ⟨r1, w1, h, hq⟩; cases h; exact hq
  · unfold ald
    by_cases h : inb i (LEN q) = true
    · rw [if_pos h]; exact fun k => ⟨inb_iff.mp h, k⟩
    · rw [if_neg h]; exact fun k => (wp_none k).elim
  · unfold ast
    by_cases h : inb i (LEN q) = true
    · rw [if_pos h]; exact fun k => ⟨inb_iff.mp h, k⟩
    · rw [if_neg h]; exact fun k => (wp_none k).elim
  · unfold ard
    by_cases h : inb i (LEN q) = true
    · rw [if_pos h]; exact fun k => ⟨inb_iff.mp h, k⟩
    · rw [if_neg h]; exact fun k => (wp_none k).elim
/-- a loop, by an invariant and a measure -/
theorem wp_loop {S R : Type} {body : (S → Option (R × Wd)) → S → Option (R × Wd)} {Q : R → Wd → Prop} (I : S → Prop) (μ : S → Nat)
    (h : ∀ (rc : S → Option (R × Wd)) (s : S), I s → (∀ s', I s' → μ s' < μ s → Wp (rc s') Q) → Wp (body rc s) Q) : ∀ (n : Nat) (s : S), I s → μ s < n → Wp (loopN body n s) Q := by
  intro n
  induction n with
  | zero => intro s _ h0; omega
  | succ n ih =>
    intro s hs hm
    exact h _ s hs (fun s' hs' hm' => ih s' hs' (by omega))
/-! numbers -/
theorem bm {x : Int} (h1 : -2147483648 ≤ x) (h2 : x < 2147483648) : x.bmod 4294967296 = x := Int.bmod_eq_of_le (by omega) (by omega)
theorem i_rng (x : Int32) : -2147483648 ≤ x.toInt ∧ x.toInt < 2147483648 := ⟨x.le_toInt, x.toInt_lt⟩
theorem i_add {x y : Int32} (h : -2147483648 ≤ x.toInt + y.toInt ∧ x.toInt + y.toInt < 2147483648) : (x + y).toInt = x.toInt + y.toInt := by
  rw [Int32.toInt_add]; exact bm h.1 h.2
theorem i_sub {x y : Int32} (h : -2147483648 ≤ x.toInt - y.toInt ∧ x.toInt - y.toInt < 2147483648) : (x - y).toInt = x.toInt - y.toInt := by
  rw [Int32.toInt_sub]; exact bm h.1 h.2
theorem i_mul {x y : Int32} (h : -2147483648 ≤ x.toInt * y.toInt ∧ x.toInt * y.toInt < 2147483648) : (x * y).toInt = x.toInt * y.toInt := by
  rw [Int32.toInt_mul]; exact bm h.1 h.2
theorem i_mul' {x y : Int32} {n : Int} (hx : x.toInt = n) (h : -2147483648 ≤ n * y.toInt ∧ n * y.toInt < 2147483648) : (x * y).toInt = n * y.toInt := by
  subst hx; exact i_mul h
theorem i_neg {x : Int32} (h : -2147483648 < x.toInt) : (-x).toInt = -x.toInt := by
  rw [Int32.toInt_neg]; exact bm (by have := x.toInt_lt; omega) (by omega)
theorem i_lit (n : Nat) (h : n < 2147483648) : (OfNat.ofNat n : Int32).toInt = n := by
  rw [Int32.toInt_ofNat]; exact bm (by omega) (by omega)
theorem i_nlit (n : Nat) (h : n < 2147483648) : (-(OfNat.ofNat n : Int32)).toInt = -(n : Int) := by
  rw [i_neg (by rw [i_lit n h]; omega), i_lit n h]
theorem i_ofNat {n : Nat} (h : n < 2147483648) : (Int32.ofNat n).toInt = n := Int32.toInt_ofNat_of_lt h
theorem i_eq {x y : Int32} : x = y ↔ x.toInt = y.toInt := Int32.toInt_inj.symm
theorem ICMP : (∀ x y : Int32, x < y ↔ x.toInt < y.toInt) ∧ (∀ x y : Int32, x ≤ y ↔ x.toInt ≤ y.toInt) ∧ (∀ x y : Int32, x = y ↔ x.toInt = y.toInt) :=
  ⟨fun _ _ => Int32.lt_iff_toInt_lt, fun _ _ => Int32.le_iff_toInt_le, fun _ _ => i_eq⟩
theorem setI_at (w : Wd) (o j : Nat) (v : Int32) (a b : Nat) : (setI w o j v).1 a b = if a = o ∧ b = j then v else w.1 a b := rfl
theorem setI_2 (w : Wd) (o j : Nat) (v : Int32) : (setI w o j v).2 = w.2 := rfl
/-! rows of cells as lists -/
def sg (w : Wd) (a off n : Nat) : List Int := (List.range n).map (fun i => (w.1 a (off + i)).toInt)
theorem sg_len (w : Wd) (a off n : Nat) : (sg w a off n).length = n := by simp [sg]
theorem sg_at {w : Wd} {a off n i : Nat} (h : i < n) : (sg w a off n)[i]? = some (w.1 a (off + i)).toInt := by
  simp [sg, List.getElem?_map, List.getElem?_range h]
theorem sg_at_none {w : Wd} {a off n i : Nat} (h : n ≤ i) : (sg w a off n)[i]? = none := by
  rw [List.getElem?_eq_none]; rw [sg_len]; exact h
theorem sg_getD {w : Wd} {a off n i : Nat} {d : Int} (h : i < n) : (sg w a off n).getD i d = (w.1 a (off + i)).toInt := by
  rw [List.getD_eq_getElem?_getD, sg_at h]; rfl
theorem sg_ext {w w' : Wd} {a a' off off' n : Nat} (h : ∀ i, i < n → (w.1 a (off + i)).toInt = (w'.1 a' (off' + i)).toInt) : sg w a off n = sg w' a' off' n := by
  apply List.ext_getElem?
  intro i
  rcases Nat.lt_or_ge i n with q | q
  · rw [sg_at q, sg_at q, h i q]
  · rw [sg_at_none q, sg_at_none q]
theorem sg_snoc (w : Wd) (a off n : Nat) : sg w a off (n + 1) = sg w a off n ++ [(w.1 a (off + n)).toInt] := by
  simp [sg, List.range_succ]
theorem sg_cons (w : Wd) (a off n : Nat) : sg w a off (n + 1) = (w.1 a off).toInt :: sg w a (off + 1) n := by
  simp only [sg, List.range_succ_eq_map, List.map_cons, List.map_map, Nat.add_zero]
  congr 1
  apply List.map_congr_left
  intro i _
  show (w.1 a (off + (i + 1))).toInt = (w.1 a (off + 1 + i)).toInt
  rw [show off + (i + 1) = off + 1 + i by omega]
theorem sg_take (w : Wd) (a off : Nat) {k n : Nat} (h : k ≤ n) : (sg w a off n).take k = sg w a off k := by
  apply List.ext_getElem?
  intro i
  rw [List.getElem?_take]
  rcases Nat.lt_or_ge i k with q | q
  · rw [if_pos q, sg_at (by omega), sg_at q]
  · rw [if_neg (by omega), sg_at_none q]
theorem sg_drop (w : Wd) (a off : Nat) {k n : Nat} (h : k ≤ n) : (sg w a off n).drop k = sg w a (off + k) (n - k) := by
  apply List.ext_getElem?
  intro i
  rw [List.getElem?_drop]
  rcases Nat.lt_or_ge i (n - k) with q | q
  · rw [sg_at (by omega), sg_at q, show off + (k + i) = off + k + i by omega]
  · rw [sg_at_none (by omega), sg_at_none q]
theorem sg_set {w : Wd} {a off n j : Nat} {v : Int32} (h : j < n) : sg (setI w a (off + j) v) a off n = (sg w a off n).set j v.toInt := by
  apply List.ext_getElem?
  intro i
  rw [List.getElem?_set, sg_len]
  rcases Nat.lt_or_ge i n with q | q
  · rw [sg_at q, setI_at]
    by_cases hj : j = i
    · subst hj; simp [q]
    · rw [if_neg hj, if_neg (by omega), sg_at q]
  · rw [sg_at_none q, if_neg (by omega), sg_at_none q]
theorem sg_setI_out {w : Wd} {a off n o j : Nat} {v : Int32} (h : ¬ (a = o ∧ off ≤ j ∧ j < off + n)) : sg (setI w o j v) a off n = sg w a off n := by
  apply sg_ext
  intro i hi
  rw [setI_at, if_neg (by rintro ⟨h1, h2⟩; exact h ⟨h1, by omega, by omega⟩)]
/-- a number of a list; -1 outside -/
def gt (l : List Int) (i : Int) : Int := if i < 0 then -1 else l.getD i.toNat (-1)
theorem gt_in {l : List Int} {i : Int} (h0 : 0 ≤ i) : gt l i = l.getD i.toNat (-1) := by unfold gt; rw [if_neg (by omega)]
theorem gt_out {l : List Int} {i : Int} (h : i < 0 ∨ l.length ≤ i) : gt l i = -1 := by
  unfold gt
  by_cases q : i < 0
  · rw [if_pos q]
  · rw [if_neg q, List.getD_eq_getElem?_getD, List.getElem?_eq_none (by omega)]; rfl
theorem gt_nat (l : List Int) (i : Nat) : gt l i = l.getD i (-1) := by
  rw [gt_in (by omega)]; congr 1
theorem L01 : (0 : Int32).toInt = 0 ∧ (1 : Int32).toInt = 1 ∧ (-1 : Int32).toInt = -1 := by decide
theorem wp_iflt {R : Type} {x y : Int32} {a b : Option (R × Wd)} {Q : R → Wd → Prop} (h1 : x.toInt < y.toInt → Wp a Q) (h2 : y.toInt ≤ x.toInt → Wp b Q) : Wp (if x < y then a else b) Q :=
  wp_if (fun h => h1 (Int32.lt_iff_toInt_lt.mp h)) (fun h => h2 (Int.not_lt.mp (fun q => h (Int32.lt_iff_toInt_lt.mpr q))))
theorem wp_ifle {R : Type} {x y : Int32} {a b : Option (R × Wd)} {Q : R → Wd → Prop} (h1 : x.toInt ≤ y.toInt → Wp a Q) (h2 : y.toInt < x.toInt → Wp b Q) : Wp (if x ≤ y then a else b) Q :=
  wp_if (fun h => h1 (Int32.le_iff_toInt_le.mp h)) (fun h => h2 (Int.not_le.mp (fun q => h (Int32.le_iff_toInt_le.mpr q))))
theorem wp_ifeq {R : Type} {x y : Int32} {a b : Option (R × Wd)} {Q : R → Wd → Prop} (h1 : x.toInt = y.toInt → Wp a Q) (h2 : x.toInt ≠ y.toInt → Wp b Q) : Wp (if x = y then a else b) Q :=
  wp_if (fun h => h1 (i_eq.mp h)) (fun h => h2 (fun q => h (i_eq.mpr q)))
theorem wp_add {R : Type} {x y : Int32} {k : Int32 → Option (R × Wd)} {Q : R → Wd → Prop} (hr : -2147483648 ≤ x.toInt + y.toInt ∧ x.toInt + y.toInt < 2147483648) (h : ∀ z : Int32, z.toInt = x.toInt + y.toInt → Wp (k z) Q) : Wp (lt (x + y) k) Q := h _ (i_add hr)
theorem wp_sub {R : Type} {x y : Int32} {k : Int32 → Option (R × Wd)} {Q : R → Wd → Prop} (hr : -2147483648 ≤ x.toInt - y.toInt ∧ x.toInt - y.toInt < 2147483648) (h : ∀ z : Int32, z.toInt = x.toInt - y.toInt → Wp (k z) Q) : Wp (lt (x - y) k) Q := h _ (i_sub hr)

