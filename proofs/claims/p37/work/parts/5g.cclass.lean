/-! ===== classOf ===== -/
theorem i_div {x y : Int32} (hx : 0 ≤ x.toInt) (hy : 1 ≤ y.toInt) : (x / y).toInt = x.toInt / y.toInt := by
  have R := i_rng x
  have h1 := Int.ediv_nonneg (a := x.toInt) (b := y.toInt) hx (by omega)
  have h2 := Int.ediv_le_self (a := x.toInt) y.toInt hx
  rw [Int32.toInt_div, Int.tdiv_eq_ediv_of_nonneg hx]
  exact bm (by omega) (by omega)
theorem i_rem {x y : Int32} (hx : 0 ≤ x.toInt) (hy : 1 ≤ y.toInt) : (x - x / y * y).toInt = x.toInt % y.toInt := by
  have R := i_rng x
  have D := i_div hx hy
  have h1 := Int.ediv_nonneg (a := x.toInt) (b := y.toInt) hx (by omega)
  have h2 := Int.ediv_mul_le x.toInt (b := y.toInt) (by omega)
  have h3 : 0 ≤ x.toInt / y.toInt * y.toInt := Int.mul_nonneg h1 (by omega)
  have M : (x / y * y).toInt = x.toInt / y.toInt * y.toInt := i_mul' D (by omega)
  rw [i_sub (by rw [M]; omega), M, Int.emod_def, Int.mul_comm]
/-- a plural rule fits a number -/
abbrev cfs (tab : Nat → Int) (A : Nat) (x : Int) : Prop :=
  ¬ (0 < tab (A + 4) ∧ tab (A + 5) ≤ x % tab (A + 4) ∧ x % tab (A + 4) ≤ tab (A + 6)) ∧ tab (A + 2) ≤ x % tab (A + 1) ∧ x % tab (A + 1) ≤ tab (A + 3)
def clf (tab : Nat → Int) (n : Nat) (x : Int) : Nat → Int → Int
  | 0, _ => -1
  | k + 1, i => if i < tab (1678 + n) then (if cfs tab (1680 + 7 * (4 * n + i.toNat)) x then tab (1680 + 7 * (4 * n + i.toNat)) else clf tab n x k (i + 1)) else -1
theorem clf_in {tab : Nat → Int} {n : Nat} {x : Int} {k : Nat} {i : Int} (h : i < tab (1678 + n)) : clf tab n x (k + 1) i = if cfs tab (1680 + 7 * (4 * n + i.toNat)) x then tab (1680 + 7 * (4 * n + i.toNat)) else clf tab n x k (i + 1) := by
  rw [clf, if_pos h]
theorem clf_out {tab : Nat → Int} {n : Nat} {x : Int} {k : Nat} {i : Int} (h : tab (1678 + n) ≤ i) : clf tab n x k i = -1 := by
  cases k with
  | zero => rfl
  | succ k => rw [clf, if_neg (by omega)]
/-- the class of a number, -1 if no rule fits -/
abbrev pcl (tab : Nat → Int) (n : Nat) (x : Int) : Int := clf tab n x 6 0
theorem s_remainder {x y : Int32} {w : Wd} (hx : 0 ≤ x.toInt) (hy : 1 ≤ y.toInt) : ∃ z : Int32, f_X6_remainder x y w = some (z, w) ∧ z.toInt = x.toInt % y.toInt := by
  unfold f_X6_remainder dv
  rw [if_pos (Int32.le_iff_toInt_le.mpr (by rw [LIT.2.1]; exact hy)), if_neg (fun e => by rw [e, LIT.1] at hy; omega)]
  exact ⟨_, rfl, i_rem hx hy⟩
theorem s_fits6 {w : Wd} {o A : Nat} {tab : Nat → Int} {v : Int32} (h : ∀ f, f < 7 → (w.1 o f).toInt = tab (A + f)) (hv : 0 ≤ v.toInt) (h1 : 1 ≤ tab (A + 1)) :
    Wp (f_X6_fits o v w) (fun r w' => w = w' ∧ r = zo (cfs tab A v.toInt)) := by
  have L := LIT
  unfold f_X6_fits f_X6_fits_33
  have fit0 : ¬ (0 < tab (A + 4) ∧ tab (A + 5) ≤ v.toInt % tab (A + 4) ∧ v.toInt % tab (A + 4) ≤ tab (A + 6)) → Wp (f_X6_fits_34 o v 0 w) (fun r w' => w = w' ∧ r = zo (cfs tab A v.toInt)) := by
    intro n
    unfold f_X6_fits_34
    obtain ⟨z, e1, e2⟩ := s_remainder (x := v) (y := w.1 o 1) (w := w) hv (by rw [h 1 (by omega)]; exact h1)
    rw [h 1 (by omega)] at e2
    refine wp_ifeq (fun _ => ?_) (fun q => absurd rfl q)
    rw [e1, bd_r, e_isWithin, bd_r, ite_zo, e2, h 2 (by omega), h 3 (by omega)]
    refine wp_if (fun c => wp_ret ⟨rfl, (zo_T (⟨n, c⟩ : cfs tab A v.toInt)).symm⟩) (fun c => wp_ret ⟨rfl, (zo_F (fun q : cfs tab A v.toInt => c q.2)).symm⟩)
  refine wp_ifle (fun c => ?_) (fun c => ?_)
  · rw [h 4 (by omega), L.1] at c
    exact fit0 (fun q => by omega)
  · rw [h 4 (by omega), L.1] at c
    obtain ⟨z, e1, e2⟩ := s_remainder (x := v) (y := w.1 o 4) (w := w) hv (by rw [h 4 (by omega)]; omega)
    rw [h 4 (by omega)] at e2
    rw [e1, bd_r, e_isWithin, bd_r, ite_zo, e2, h 5 (by omega), h 6 (by omega)]
    refine wp_if (fun c2 => ?_) (fun c2 => fit0 (fun q => c2 q.2))
    unfold f_X6_fits_34
    exact wp_ifeq (fun q => by omega) (fun _ => wp_ret ⟨rfl, (zo_F (fun q : cfs tab A v.toInt => q.1 ⟨c, c2⟩)).symm⟩)
theorem s_classFor {w : Wd} {tab : Nat → Int} {v : Int32} {n : Nat} (hn : n < 2) (hk : tok tab) (h : trel w 1 tab) (hv : 0 ≤ v.toInt) :
    Wp (f_X2_classFor (13 + 13 * n) v w) (fun r w' => w = w' ∧ r.toInt = pcl tab n v.toInt) := by
  have L := LIT
  have u := h.2.1 n hn
  rw [show 1 + 12 + 13 * n = 13 + 13 * n by omega] at u
  have k2 := (hk.2.1 n hn).2
  have lf := lang_facts _ (lang_kd n hn)
  have l4 : LEN (13 + 13 * n + 8) = 4 := lf.2.2.2.2.2.1
  have rv := lf.2.2.2.2.2.2
  obtain ⟨u1, u2⟩ := u.2.2.2.2
  unfold f_X2_classFor f_X2_classFor_2
  rw [FUv]
  refine wp_loop (fun σ : Nat × Int32 × Int32 × Wd => σ.1 = 13 + 13 * n ∧ σ.2.1 = v ∧ σ.2.2.2 = w ∧ 0 ≤ σ.2.2.1.toInt ∧ σ.2.2.1.toInt ≤ 4 ∧ ∃ k : Nat, clf tab n v.toInt k σ.2.2.1.toInt = pcl tab n v.toInt ∧ 6 - σ.2.2.1.toInt ≤ k)
    (fun σ => (4 - σ.2.2.1.toInt).toNat) ?_ 100000 _ ⟨rfl, rfl, rfl, by dsimp only; omega, by dsimp only; omega, 6, by dsimp only; rw [L.1], by dsimp only; omega⟩ (by dsimp only; omega)
  rintro rc ⟨o, v', i, w'⟩ ⟨rfl, rfl, rfl, hi, hi2, k, hkk, hk2⟩ ih
  dsimp only at *
  unfold g_X2_classFor_2
  refine wp_ifle (fun q => wp_ret ⟨rfl, by rw [← hkk, clf_out (by omega)]; exact L.2.2.1⟩) (fun q => ?_)
  rw [u1] at q
  refine wp_ifle (fun z => ?_) (fun _ => ?_)
  · rw [l4, show (Int32.ofNat 4).toInt = 4 by decide] at z; omega
  refine wp_ard (by rw [l4]; omega) ?_
  rw [(rv i.toInt.toNat (by omega)).1]
  obtain ⟨k', rfl⟩ : ∃ k', k = k' + 1 := ⟨k - 1, by omega⟩
  rw [clf_in q] at hkk
  refine wp_bd (s_fits6 (A := 1680 + 7 * (4 * n + i.toInt.toNat)) (u2 i.toInt.toNat (by omega)) hv (k2.2.2.2 i.toInt.toNat (by omega)).1.1) ?_
  rintro x _ ⟨rfl, rfl⟩
  rw [ite_zo]
  refine wp_if (fun c => ?_) (fun c => ?_)
  · rw [if_pos c] at hkk
    refine wp_ard (by rw [l4]; omega) ?_
    rw [(rv i.toInt.toNat (by omega)).1]
    unfold f_X6_classTold
    rw [bd_r]
    exact wp_ret ⟨rfl, by rw [u2 i.toInt.toNat (by omega) 0 (by omega)]; exact hkk⟩
  · rw [if_neg c] at hkk
    refine wp_add (by omega) (fun y hy => ?_)
    have hy3 : y.toInt = i.toInt + 1 := by omega
    exact ih (13 + 13 * n, v', y, w') ⟨rfl, rfl, rfl, by dsimp only; omega, by dsimp only; omega, k', by dsimp only; rw [hy3]; exact hkk, by dsimp only; omega⟩ (by dsimp only; omega)
def bad_lang (n : Int) : Prop := ¬ (0 ≤ n ∧ n ≤ 1)
def bad_num (x : Int) : Prop := ¬ (0 ≤ x ∧ x ≤ 999999)
theorem k_classOf {w : Wd} {tab : Nat → Int} {n v : Int32} (hk : tok tab) (h : trel w 1 tab) :
    Wp (f_X10_classOf n v w) (fun r w' => w = w' ∧ ((bad_lang n.toInt ∧ r = .inl 1) ∨ (¬ bad_lang n.toInt ∧ bad_num v.toInt ∧ r = .inl 2) ∨ (¬ bad_lang n.toInt ∧ ¬ bad_num v.toInt ∧ ∃ x : Int32, r = .inr x ∧ x.toInt = pcl tab n.toInt.toNat v.toInt))) := by
  unfold f_X10_classOf
  simp only [e_languageOf, e_isNumber, bd_r, e_checkArgument, bdx_c]
  refine wp_if (fun hn => ?_) (fun hn => wp_ret ⟨rfl, Or.inl ⟨hn, rfl⟩⟩)
  refine wp_if (fun hv => ?_) (fun hv => wp_ret ⟨rfl, Or.inr (Or.inl ⟨fun q => q hn, hv, rfl⟩)⟩)
  refine wp_bd (s_classFor (n := n.toInt.toNat) (by omega) hk h hv.1) ?_
  rintro x _ ⟨rfl, hx⟩
  exact wp_ret ⟨rfl, Or.inr (Or.inr ⟨fun q => q hn, fun q => q hv, x, rfl, hx⟩)⟩
/-! the reference's -/
