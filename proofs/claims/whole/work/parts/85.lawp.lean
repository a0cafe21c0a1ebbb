/-! ===== the law as a function ends with true ===== -/
theorem i746 : inb (0 : Int32) (LEN 746) = true := by decide +kernel
theorem lst_1 {Z : Type} {w : Wd} {x : Int64} {k : Wd → Option Z} : lst w 746 (0 : Int32) x k = k (setL w x) := by
  unfold lst; rw [if_pos i746]
theorem lld_1 {Z : Type} {w : Wd} {k : Int64 → Option Z} : lld w 746 (0 : Int32) k = k w.2.2.2 := by
  unfold lld; rw [if_pos i746]
theorem thr_1 {w : Wd} : f_X11_thrown w = some (w.1 713 0, w) := rfl
theorem bd_1 {R Z : Type} {r : R} {w : Wd} {k : R → Wd → Option Z} : bd (some (r, w)) k = k r w := rfl
theorem bdc_l {R Z : Type} {e : Nat} {w : Wd} {kx : Nat → Wd → Option Z} {k : R → Wd → Option Z} : bdc (some ((.inl e : Nat ⊕ R), w)) kx k = kx e w := rfl
theorem bdc_r {R Z : Type} {r : R} {w : Wd} {kx : Nat → Wd → Option Z} {k : R → Wd → Option Z} : bdc (some ((.inr r : Nat ⊕ R), w)) kx k = k r w := rfl
theorem lt_1 {A Z : Type} {x : A} {k : A → Option Z} : lt x k = k x := rfl
theorem setL_4 {w : Wd} {x : Int64} : (setL w x).2.2.2 = x := rfl
theorem cmp_self (x : Int64) : lg_cmp x x = 0 := by
  unfold lg_cmp
  rw [if_neg (by rw [gt_iff_lt, Int64.lt_iff_toInt_lt]; omega), if_pos rfl]
def hk_ok (c : Nat → Int) (KX : Nat → Wd → Option (Int32 × Wd)) : Prop := ∀ (e : Nat) (w1 : Wd), c e ≠ 0 → ∃ k : Int32, k.toInt = c e ∧ KX e w1 = some (k, w1)
theorem hk1 : hk_ok kc1 (fun k w1 => if k = 1 then some ((1 : Int32), w1) else none) := by
  intro e w1 h
  unfold kc1 at *
  by_cases h1 : e = 1
  · exact ⟨1, by rw [if_pos h1]; decide, by dsimp only; rw [if_pos h1]⟩
  · rw [if_neg h1] at h; exact absurd rfl h
theorem hk3 : hk_ok kc3 (fun k w1 => if k = 3 then some ((1 : Int32), w1) else none) := by
  intro e w1 h
  unfold kc3 at *
  by_cases h1 : e = 3
  · exact ⟨1, by rw [if_pos h1]; decide, by dsimp only; rw [if_pos h1]⟩
  · rw [if_neg h1] at h; exact absurd rfl h
theorem hk12 : hk_ok kc12 (fun k w1 => if k = 1 then some ((1 : Int32), w1) else if k = 2 then some ((2 : Int32), w1) else none) := by
  intro e w1 h
  unfold kc12 at *
  by_cases h1 : e = 1
  · exact ⟨1, by rw [if_pos h1]; decide, by dsimp only; rw [if_pos h1]⟩
  · rw [if_neg h1] at h
    by_cases h2 : e = 2
    · exact ⟨2, by rw [if_neg h1, if_pos h2]; decide, by dsimp only; rw [if_neg h1, if_pos h2]⟩
    · rw [if_neg h2] at h; exact absurd rfl h
theorem hk13 : hk_ok kc13 (fun k w1 => if k = 1 then some ((1 : Int32), w1) else if k = 3 then some ((2 : Int32), w1) else none) := by
  intro e w1 h
  unfold kc13 at *
  by_cases h1 : e = 1
  · exact ⟨1, by rw [if_pos h1]; decide, by dsimp only; rw [if_pos h1]⟩
  · rw [if_neg h1] at h
    by_cases h2 : e = 3
    · exact ⟨2, by rw [if_neg h1, if_pos h2]; decide, by dsimp only; rw [if_neg h1, if_pos h2]⟩
    · rw [if_neg h2] at h; exact absurd rfl h
theorem hk23 : hk_ok kc23 (fun k w1 => if k = 2 then some ((1 : Int32), w1) else if k = 3 then some ((2 : Int32), w1) else none) := by
  intro e w1 h
  unfold kc23 at *
  by_cases h1 : e = 2
  · exact ⟨1, by rw [if_pos h1]; decide, by dsimp only; rw [if_pos h1]⟩
  · rw [if_neg h1] at h
    by_cases h2 : e = 3
    · exact ⟨2, by rw [if_neg h1, if_pos h2]; decide, by dsimp only; rw [if_neg h1, if_pos h2]⟩
    · rw [if_neg h2] at h; exact absurd rfl h
theorem hk123 : hk_ok kc123 (fun k w1 => if k = 1 then some ((1 : Int32), w1) else if k = 2 then some ((2 : Int32), w1) else if k = 3 then some ((3 : Int32), w1) else none) := by
  intro e w1 h
  unfold kc123 at *
  by_cases h1 : e = 1
  · exact ⟨1, by rw [if_pos h1]; decide, by dsimp only; rw [if_pos h1]⟩
  · rw [if_neg h1] at h
    by_cases h2 : e = 2
    · exact ⟨2, by rw [if_neg h1, if_pos h2]; decide, by dsimp only; rw [if_neg h1, if_pos h2]⟩
    · rw [if_neg h2] at h
      by_cases h3 : e = 3
      · exact ⟨3, by rw [if_neg h1, if_neg h2, if_pos h3]; decide, by dsimp only; rw [if_neg h1, if_neg h2, if_pos h3]⟩
      · rw [if_neg h3] at h; exact absurd rfl h
section
variable {c : Nat → Int} {KX : Nat → Wd → Option (Int32 × Wd)} {rc : Int32 × Wd → Option Unit} {i : Int32} {w : Wd}
theorem x_ne0 {k : Int32} {n : Int} (h : k.toInt = n) (h0 : n ≠ 0) : ¬ k = 0 := fun e => h0 (by rw [← h, e]; rfl)
theorem x_eq0 {k : Int32} (h : k.toInt = 0) : k = 0 := i_eq.mpr (by rw [h]; rfl)
/-- an answer that is an int -/
theorem fin_v {A : Option ((Nat ⊕ Int32) × Wd)} {Bf : Wd → Option (Int32 × Wd)} (h : Wp A (fun r w1 => ∀ u : Wd, sameW w1 u → Wp (Bf u) (fun v w2 => INW u w2 ∧ ag c r (w2.1 713 0) v))) (hkx : hk_ok c KX) (hrc : ∀ w' : Wd, INV w' → rc (i, w') = some ()) :
    bd (bdc A KX (fun x w1 => lst w1 746 (0 : Int32) x.toInt64 (fun w3 => some ((0 : Int32), w3)))) (fun x5 w4 => bd (Bf w4) (fun x10 w9 => bd (f_X11_thrown w9) (fun x12 w11 => (if x12 = x5 then (if x5 = 0 then lld w11 746 (0 : Int32) (fun y14 => (if (lg_cmp y14 x10.toInt64) = 0 then lt i (fun x15 => rc (x15, w11)) else none)) else lt i (fun x13 => rc (x13, w11))) else none)))) = some () := by
  obtain ⟨r, w1, rfl, h⟩ := h
  rcases r with e | x
  · obtain ⟨v, w2, e2, hI, hag⟩ := h w1 sameW_rf
    rcases hag with ⟨e', he, h3, h4⟩ | ⟨v', he, -⟩
    · cases he
      obtain ⟨k, hk, hkx⟩ := hkx e w1 h4
      rw [bdc_l, hkx, bd_1, e2, bd_1, thr_1, bd_1, if_pos (i_eq.mpr (h3.trans hk.symm)), if_neg (x_ne0 hk h4), lt_1]
      exact hrc _ hI.1
    · cases he
  · obtain ⟨v, w2, e2, hI, hag⟩ := h (setL w1 x.toInt64) sameW_L
    rcases hag with ⟨e', he, -⟩ | ⟨v', he, h3, h4⟩
    · cases he
    · cases he
      subst h4
      rw [bdc_r, lst_1, bd_1, e2, bd_1, thr_1, bd_1, if_pos (x_eq0 h3), if_pos rfl, lld_1, hI.2, setL_4]
      rw [if_pos (cmp_self _), lt_1]
      exact hrc _ hI.1
/-- no answer -/
theorem fin_u {A : Option ((Nat ⊕ Unit) × Wd)} {V : Type} {Bf : Wd → Option (V × Wd)} (h : Wp A (fun r w1 => ∀ u : Wd, sameW w1 u → Wp (Bf u) (fun _ w2 => INW u w2 ∧ agu c r (w2.1 713 0)))) (hkx : hk_ok c KX) (hrc : ∀ w' : Wd, INV w' → rc (i, w') = some ()) :
    bd (bdc A KX (fun _ w1 => some ((0 : Int32), w1))) (fun x5 w4 => bd (Bf w4) (fun _ w9 => bd (f_X11_thrown w9) (fun x12 w11 => (if x12 = x5 then lt i (fun x13 => rc (x13, w11)) else none)))) = some () := by
  obtain ⟨r, w1, rfl, h⟩ := h
  obtain ⟨v, w2, e2, hI, hag⟩ := h w1 sameW_rf
  rcases r with e | x
  · rcases hag with ⟨e', he, h3, h4⟩ | ⟨he, -⟩
    · cases he
      obtain ⟨k, hk, hkx⟩ := hkx e w1 h4
      rw [bdc_l, hkx, bd_1, e2, bd_1, thr_1, bd_1, if_pos (i_eq.mpr (h3.trans hk.symm)), lt_1]
      exact hrc _ hI.1
    · cases he
  · rcases hag with ⟨e', he, -⟩ | ⟨he, h3⟩
    · cases he
    · rw [bdc_r, bd_1, e2, bd_1, thr_1, bd_1, if_pos (x_eq0 h3), lt_1]
      exact hrc _ hI.1
/-- an answer that is a long -/
theorem fin_l {A : Option ((Nat ⊕ Int64) × Wd)} {Bf : Wd → Option (Int64 × Wd)} (h : Wp A (fun r w1 => ∀ u : Wd, sameW w1 u → Wp (Bf u) (fun v w2 => INW u w2 ∧ agl c r (w2.1 713 0) v))) (hkx : hk_ok c KX) (hrc : ∀ w' : Wd, INV w' → rc (i, w') = some ()) :
    bd (bdc A KX (fun x w1 => lst w1 746 (0 : Int32) x (fun w3 => some ((0 : Int32), w3)))) (fun x5 w4 => bd (Bf w4) (fun x10 w9 => bd (f_X11_thrown w9) (fun x12 w11 => (if x12 = x5 then (if x5 = 0 then lld w11 746 (0 : Int32) (fun y14 => (if (lg_cmp y14 x10) = 0 then lt i (fun x15 => rc (x15, w11)) else none)) else lt i (fun x13 => rc (x13, w11))) else none)))) = some () := by
  obtain ⟨r, w1, rfl, h⟩ := h
  rcases r with e | x
  · obtain ⟨v, w2, e2, hI, hag⟩ := h w1 sameW_rf
    rcases hag with ⟨e', he, h3, h4⟩ | ⟨v', he, -⟩
    · cases he
      obtain ⟨k, hk, hkx⟩ := hkx e w1 h4
      rw [bdc_l, hkx, bd_1, e2, bd_1, thr_1, bd_1, if_pos (i_eq.mpr (h3.trans hk.symm)), if_neg (x_ne0 hk h4), lt_1]
      exact hrc _ hI.1
    · cases he
  · obtain ⟨v, w2, e2, hI, hag⟩ := h (setL w1 x) sameW_L
    rcases hag with ⟨e', he, -⟩ | ⟨v', he, h3, h4⟩
    · cases he
    · cases he
      subst h4
      rw [bdc_r, lst_1, bd_1, e2, bd_1, thr_1, bd_1, if_pos (x_eq0 h3), if_pos rfl, lld_1, hI.2, setL_4]
      rw [if_pos (cmp_self _), lt_1]
      exact hrc _ hI.1
/-- an answer that is a boolean -/
theorem fin_z {A : Option ((Nat ⊕ Int32) × Wd)} {Bf : Wd → Option (Int32 × Wd)} (h : Wp A (fun r w1 => ∀ u : Wd, sameW w1 u → Wp (Bf u) (fun v w2 => INW u w2 ∧ ag c r (w2.1 713 0) v))) (hkx : hk_ok c KX) (hrc : ∀ w' : Wd, INV w' → rc (i, w') = some ()) :
    bd (bdc A KX (fun x w1 => (if x = 0 then lst w1 746 (0 : Int32) (0 : Int64) (fun w3 => some ((0 : Int32), w3)) else lst w1 746 (0 : Int32) (1 : Int64) (fun w3 => some ((0 : Int32), w3))))) (fun x5 w4 => bd (Bf w4) (fun x10 w9 => bd (f_X11_thrown w9) (fun x12 w11 => (if x12 = x5 then (if x5 = 0 then lld w11 746 (0 : Int32) (fun y14 => (if x10 = 0 then (if (lg_cmp y14 (0 : Int64)) = 0 then lt i (fun x15 => rc (x15, w11)) else none) else (if (lg_cmp y14 (1 : Int64)) = 0 then lt i (fun x15 => rc (x15, w11)) else none))) else lt i (fun x13 => rc (x13, w11))) else none)))) = some () := by
  obtain ⟨r, w1, rfl, h⟩ := h
  rcases r with e | x
  · obtain ⟨v, w2, e2, hI, hag⟩ := h w1 sameW_rf
    rcases hag with ⟨e', he, h3, h4⟩ | ⟨v', he, -⟩
    · cases he
      obtain ⟨k, hk, hkx⟩ := hkx e w1 h4
      rw [bdc_l, hkx, bd_1, e2, bd_1, thr_1, bd_1, if_pos (i_eq.mpr (h3.trans hk.symm)), if_neg (x_ne0 hk h4), lt_1]
      exact hrc _ hI.1
    · cases he
  · by_cases hx : x = 0
    · obtain ⟨v, w2, e2, hI, hag⟩ := h (setL w1 0) sameW_L
      rcases hag with ⟨e', he, -⟩ | ⟨v', he, h3, h4⟩
      · cases he
      · cases he
        subst h4
        rw [bdc_r, if_pos hx, lst_1, bd_1, e2, bd_1, thr_1, bd_1, if_pos (x_eq0 h3), if_pos rfl, lld_1, hI.2, setL_4, if_pos hx]
        rw [if_pos (cmp_self _), lt_1]
        exact hrc _ hI.1
    · obtain ⟨v, w2, e2, hI, hag⟩ := h (setL w1 1) sameW_L
      rcases hag with ⟨e', he, -⟩ | ⟨v', he, h3, h4⟩
      · cases he
      · cases he
        subst h4
        rw [bdc_r, if_neg hx, lst_1, bd_1, e2, bd_1, thr_1, bd_1, if_pos (x_eq0 h3), if_pos rfl, lld_1, hI.2, setL_4, if_neg hx]
        rw [if_pos (cmp_self _), lt_1]
        exact hrc _ hI.1
/-- word -/
theorem fin_w {A : Option (Int64 × Wd)} {Bf : Wd → Option (Int64 × Wd)} (h : Wp A (fun r w1 => ∀ u : Wd, sameW w1 u → Wp (Bf u) (fun v w2 => INW u w2 ∧ r = v ∧ (w2.1 713 0).toInt = 0))) (hrc : ∀ w' : Wd, INV w' → rc (i, w') = some ()) :
    bd A (fun y3 w2 => bd (Bf w2) (fun y6 w5 => (if (lg_cmp y3 y6) = 0 then lt i (fun x7 => rc (x7, w5)) else none))) = some () := by
  obtain ⟨r, w1, rfl, h⟩ := h
  obtain ⟨v, w2, e2, hI, rfl, -⟩ := h w1 sameW_rf
  rw [bd_1, e2, bd_1, if_pos (cmp_self _), lt_1]
  exact hrc _ hI.1
variable {L j : Nat} {xs : Nat → Int32} {v4 : Int32}
theorem sld_ev {Z : Type} (hL : L ≤ 4608) (hj : 9 * j + 9 ≤ L) (hv : v4.toInt = ((9 * j : Nat) : Int)) (k : Nat) (hk : k < 9) {kk : Int32} (hkk : kk.toInt = k) (K : Int32 → Option Z) : sld L xs (v4 + kk) K = K (xs (9 * j + k)) := by
  have e : (v4 + kk).toInt = ((9 * j + k : Nat) : Int) := by
    rw [i_add (by omega)]; omega
  unfold sld
  rw [if_pos (inb_iff.mpr (by rw [e]; omega))]
  congr 1
  unfold Int32.toNatClampNeg
  rw [e]
  rfl
theorem sld_e0 {Z : Type} (hL : L ≤ 4608) (hj : 9 * j + 9 ≤ L) (hv : v4.toInt = ((9 * j : Nat) : Int)) (K : Int32 → Option Z) : sld L xs v4 K = K (xs (9 * j)) := by
  unfold sld
  rw [if_pos (inb_iff.mpr (by rw [hv]; omega))]
  congr 1
  unfold Int32.toNatClampNeg
  rw [hv]
  rfl
theorem ev_192 (hL : L ≤ 4608) (hj : 9 * j + 9 ≤ L) (hv : v4.toInt = ((9 * j : Nat) : Int)) (h : INV w) (hrc : ∀ w' : Wd, INV w' → rc (v4 + 9, w') = some ()) : f_L_law_192 L xs rc v4 w = some () := by
  have s1 := fun (K : Int32 → Option Unit) => sld_ev (xs := xs) hL hj hv 1 (by omega) (kk := (1 : Int32)) (by decide) K
  have s2 := fun (K : Int32 → Option Unit) => sld_ev (xs := xs) hL hj hv 2 (by omega) (kk := (2 : Int32)) (by decide) K
  have s3 := fun (K : Int32 → Option Unit) => sld_ev (xs := xs) hL hj hv 3 (by omega) (kk := (3 : Int32)) (by decide) K
  unfold f_L_law_192 f_L_feed
  simp only [s1, s2, s3]
  exact fin_v (law_feed h) hk23 hrc
theorem ev_292 (hL : L ≤ 4608) (hj : 9 * j + 9 ≤ L) (hv : v4.toInt = ((9 * j : Nat) : Int)) (h : INV w) (hrc : ∀ w' : Wd, INV w' → rc (v4 + 9, w') = some ()) : f_L_law_292 L xs rc v4 w = some () := by
  have s1 := fun (K : Int32 → Option Unit) => sld_ev (xs := xs) hL hj hv 1 (by omega) (kk := (1 : Int32)) (by decide) K
  have s2 := fun (K : Int32 → Option Unit) => sld_ev (xs := xs) hL hj hv 2 (by omega) (kk := (2 : Int32)) (by decide) K
  have s3 := fun (K : Int32 → Option Unit) => sld_ev (xs := xs) hL hj hv 3 (by omega) (kk := (3 : Int32)) (by decide) K
  have s4 := fun (K : Int32 → Option Unit) => sld_ev (xs := xs) hL hj hv 4 (by omega) (kk := (4 : Int32)) (by decide) K
  have s5 := fun (K : Int32 → Option Unit) => sld_ev (xs := xs) hL hj hv 5 (by omega) (kk := (5 : Int32)) (by decide) K
  unfold f_L_law_292 f_L_letter
  simp only [s1, s2, s3, s4, s5]
  exact fin_u (law_letter h) hk12 hrc
theorem ev_376 (hL : L ≤ 4608) (hj : 9 * j + 9 ≤ L) (hv : v4.toInt = ((9 * j : Nat) : Int)) (h : INV w) (hrc : ∀ w' : Wd, INV w' → rc (v4 + 9, w') = some ()) : f_L_law_376 L xs rc v4 w = some () := by
  have s1 := fun (K : Int32 → Option Unit) => sld_ev (xs := xs) hL hj hv 1 (by omega) (kk := (1 : Int32)) (by decide) K
  have s2 := fun (K : Int32 → Option Unit) => sld_ev (xs := xs) hL hj hv 2 (by omega) (kk := (2 : Int32)) (by decide) K
  have s3 := fun (K : Int32 → Option Unit) => sld_ev (xs := xs) hL hj hv 3 (by omega) (kk := (3 : Int32)) (by decide) K
  unfold f_L_law_376 f_L_split
  simp only [s1, s2, s3]
  exact fin_u (law_split h) hk12 hrc
theorem ev_436 (hL : L ≤ 4608) (hj : 9 * j + 9 ≤ L) (hv : v4.toInt = ((9 * j : Nat) : Int)) (h : INV w) (hrc : ∀ w' : Wd, INV w' → rc (v4 + 9, w') = some ()) : f_L_law_436 L xs rc v4 w = some () := by
  have s1 := fun (K : Int32 → Option Unit) => sld_ev (xs := xs) hL hj hv 1 (by omega) (kk := (1 : Int32)) (by decide) K
  have s2 := fun (K : Int32 → Option Unit) => sld_ev (xs := xs) hL hj hv 2 (by omega) (kk := (2 : Int32)) (by decide) K
  have s3 := fun (K : Int32 → Option Unit) => sld_ev (xs := xs) hL hj hv 3 (by omega) (kk := (3 : Int32)) (by decide) K
  unfold f_L_law_436 f_L_capital
  simp only [s1, s2, s3]
  exact fin_u (law_capital h) hk12 hrc
theorem ev_496 (hL : L ≤ 4608) (hj : 9 * j + 9 ≤ L) (hv : v4.toInt = ((9 * j : Nat) : Int)) (h : INV w) (hrc : ∀ w' : Wd, INV w' → rc (v4 + 9, w') = some ()) : f_L_law_496 L xs rc v4 w = some () := by
  have s1 := fun (K : Int32 → Option Unit) => sld_ev (xs := xs) hL hj hv 1 (by omega) (kk := (1 : Int32)) (by decide) K
  have s2 := fun (K : Int32 → Option Unit) => sld_ev (xs := xs) hL hj hv 2 (by omega) (kk := (2 : Int32)) (by decide) K
  unfold f_L_law_496 f_L_partners
  simp only [s1, s2]
  exact fin_u (law_partners h) hk13 hrc
theorem ev_544 (hL : L ≤ 4608) (hj : 9 * j + 9 ≤ L) (hv : v4.toInt = ((9 * j : Nat) : Int)) (h : INV w) (hrc : ∀ w' : Wd, INV w' → rc (v4 + 9, w') = some ()) : f_L_law_544 L xs rc v4 w = some () := by
  have s1 := fun (K : Int32 → Option Unit) => sld_ev (xs := xs) hL hj hv 1 (by omega) (kk := (1 : Int32)) (by decide) K
  have s2 := fun (K : Int32 → Option Unit) => sld_ev (xs := xs) hL hj hv 2 (by omega) (kk := (2 : Int32)) (by decide) K
  have s3 := fun (K : Int32 → Option Unit) => sld_ev (xs := xs) hL hj hv 3 (by omega) (kk := (3 : Int32)) (by decide) K
  have s4 := fun (K : Int32 → Option Unit) => sld_ev (xs := xs) hL hj hv 4 (by omega) (kk := (4 : Int32)) (by decide) K
  have s5 := fun (K : Int32 → Option Unit) => sld_ev (xs := xs) hL hj hv 5 (by omega) (kk := (5 : Int32)) (by decide) K
  unfold f_L_law_544 f_L_weigh
  simp only [s1, s2, s3, s4, s5]
  exact fin_u (law_weigh h) hk12 hrc
theorem ev_628 (hL : L ≤ 4608) (hj : 9 * j + 9 ≤ L) (hv : v4.toInt = ((9 * j : Nat) : Int)) (h : INV w) (hrc : ∀ w' : Wd, INV w' → rc (v4 + 9, w') = some ()) : f_L_law_628 L xs rc v4 w = some () := by
  have s1 := fun (K : Int32 → Option Unit) => sld_ev (xs := xs) hL hj hv 1 (by omega) (kk := (1 : Int32)) (by decide) K
  have s2 := fun (K : Int32 → Option Unit) => sld_ev (xs := xs) hL hj hv 2 (by omega) (kk := (2 : Int32)) (by decide) K
  have s3 := fun (K : Int32 → Option Unit) => sld_ev (xs := xs) hL hj hv 3 (by omega) (kk := (3 : Int32)) (by decide) K
  have s4 := fun (K : Int32 → Option Unit) => sld_ev (xs := xs) hL hj hv 4 (by omega) (kk := (4 : Int32)) (by decide) K
  have s5 := fun (K : Int32 → Option Unit) => sld_ev (xs := xs) hL hj hv 5 (by omega) (kk := (5 : Int32)) (by decide) K
  have s6 := fun (K : Int32 → Option Unit) => sld_ev (xs := xs) hL hj hv 6 (by omega) (kk := (6 : Int32)) (by decide) K
  unfold f_L_law_628 f_L_contract
  simp only [s1, s2, s3, s4, s5, s6]
  exact fin_v (law_contract h) hk123 hrc
theorem ev_746 (hL : L ≤ 4608) (hj : 9 * j + 9 ≤ L) (hv : v4.toInt = ((9 * j : Nat) : Int)) (h : INV w) (hrc : ∀ w' : Wd, INV w' → rc (v4 + 9, w') = some ()) : f_L_law_746 L xs rc v4 w = some () := by
  have s1 := fun (K : Int32 → Option Unit) => sld_ev (xs := xs) hL hj hv 1 (by omega) (kk := (1 : Int32)) (by decide) K
  have s2 := fun (K : Int32 → Option Unit) => sld_ev (xs := xs) hL hj hv 2 (by omega) (kk := (2 : Int32)) (by decide) K
  have s3 := fun (K : Int32 → Option Unit) => sld_ev (xs := xs) hL hj hv 3 (by omega) (kk := (3 : Int32)) (by decide) K
  have s4 := fun (K : Int32 → Option Unit) => sld_ev (xs := xs) hL hj hv 4 (by omega) (kk := (4 : Int32)) (by decide) K
  have s5 := fun (K : Int32 → Option Unit) => sld_ev (xs := xs) hL hj hv 5 (by omega) (kk := (5 : Int32)) (by decide) K
  have s6 := fun (K : Int32 → Option Unit) => sld_ev (xs := xs) hL hj hv 6 (by omega) (kk := (6 : Int32)) (by decide) K
  have s7 := fun (K : Int32 → Option Unit) => sld_ev (xs := xs) hL hj hv 7 (by omega) (kk := (7 : Int32)) (by decide) K
  have s8 := fun (K : Int32 → Option Unit) => sld_ev (xs := xs) hL hj hv 8 (by omega) (kk := (8 : Int32)) (by decide) K
  unfold f_L_law_746 f_L_plural
  simp only [s1, s2, s3, s4, s5, s6, s7, s8]
  exact fin_v (law_plural h) hk123 hrc
theorem ev_892 (hL : L ≤ 4608) (hj : 9 * j + 9 ≤ L) (hv : v4.toInt = ((9 * j : Nat) : Int)) (h : INV w) (hrc : ∀ w' : Wd, INV w' → rc (v4 + 9, w') = some ()) : f_L_law_892 L xs rc v4 w = some () := by
  have s1 := fun (K : Int32 → Option Unit) => sld_ev (xs := xs) hL hj hv 1 (by omega) (kk := (1 : Int32)) (by decide) K
  unfold f_L_law_892 f_L_addWord
  simp only [s1]
  exact fin_v (law_addWord h) hk13 hrc
theorem ev_948 (hL : L ≤ 4608) (hj : 9 * j + 9 ≤ L) (hv : v4.toInt = ((9 * j : Nat) : Int)) (h : INV w) (hrc : ∀ w' : Wd, INV w' → rc (v4 + 9, w') = some ()) : f_L_law_948 L xs rc v4 w = some () := by
  have s1 := fun (K : Int32 → Option Unit) => sld_ev (xs := xs) hL hj hv 1 (by omega) (kk := (1 : Int32)) (by decide) K
  have s2 := fun (K : Int32 → Option Unit) => sld_ev (xs := xs) hL hj hv 2 (by omega) (kk := (2 : Int32)) (by decide) K
  have s3 := fun (K : Int32 → Option Unit) => sld_ev (xs := xs) hL hj hv 3 (by omega) (kk := (3 : Int32)) (by decide) K
  have s4 := fun (K : Int32 → Option Unit) => sld_ev (xs := xs) hL hj hv 4 (by omega) (kk := (4 : Int32)) (by decide) K
  have s5 := fun (K : Int32 → Option Unit) => sld_ev (xs := xs) hL hj hv 5 (by omega) (kk := (5 : Int32)) (by decide) K
  unfold f_L_law_948 f_L_addRule
  simp only [s1, s2, s3, s4, s5]
  exact fin_v (law_addRule h) hk123 hrc
theorem ev_1052 (hL : L ≤ 4608) (hj : 9 * j + 9 ≤ L) (hv : v4.toInt = ((9 * j : Nat) : Int)) (h : INV w) (hrc : ∀ w' : Wd, INV w' → rc (v4 + 9, w') = some ()) : f_L_law_1052 L xs rc v4 w = some () := by
  unfold f_L_law_1052 f_L_save
  exact fin_v (law_save h) hk3 hrc
theorem ev_1096 (hL : L ≤ 4608) (hj : 9 * j + 9 ≤ L) (hv : v4.toInt = ((9 * j : Nat) : Int)) (h : INV w) (hrc : ∀ w' : Wd, INV w' → rc (v4 + 9, w') = some ()) : f_L_law_1096 L xs rc v4 w = some () := by
  have s1 := fun (K : Int32 → Option Unit) => sld_ev (xs := xs) hL hj hv 1 (by omega) (kk := (1 : Int32)) (by decide) K
  unfold f_L_law_1096 f_L_use
  simp only [s1]
  exact fin_u (law_use h) hk1 hrc
theorem ev_1132 (hL : L ≤ 4608) (hj : 9 * j + 9 ≤ L) (hv : v4.toInt = ((9 * j : Nat) : Int)) (h : INV w) (hrc : ∀ w' : Wd, INV w' → rc (v4 + 9, w') = some ()) : f_L_law_1132 L xs rc v4 w = some () := by
  have s1 := fun (K : Int32 → Option Unit) => sld_ev (xs := xs) hL hj hv 1 (by omega) (kk := (1 : Int32)) (by decide) K
  have s2 := fun (K : Int32 → Option Unit) => sld_ev (xs := xs) hL hj hv 2 (by omega) (kk := (2 : Int32)) (by decide) K
  unfold f_L_law_1132 f_L_put
  simp only [s1, s2]
  exact fin_v (law_put h) hk13 hrc
theorem ev_1200 (hL : L ≤ 4608) (hj : 9 * j + 9 ≤ L) (hv : v4.toInt = ((9 * j : Nat) : Int)) (h : INV w) (hrc : ∀ w' : Wd, INV w' → rc (v4 + 9, w') = some ()) : f_L_law_1200 L xs rc v4 w = some () := by
  have s1 := fun (K : Int32 → Option Unit) => sld_ev (xs := xs) hL hj hv 1 (by omega) (kk := (1 : Int32)) (by decide) K
  unfold f_L_law_1200 f_L_clear
  simp only [s1]
  exact fin_v (law_clear h) hk1 hrc
theorem ev_1256 (hL : L ≤ 4608) (hj : 9 * j + 9 ≤ L) (hv : v4.toInt = ((9 * j : Nat) : Int)) (h : INV w) (hrc : ∀ w' : Wd, INV w' → rc (v4 + 9, w') = some ()) : f_L_law_1256 L xs rc v4 w = some () := by
  have s1 := fun (K : Int32 → Option Unit) => sld_ev (xs := xs) hL hj hv 1 (by omega) (kk := (1 : Int32)) (by decide) K
  have s2 := fun (K : Int32 → Option Unit) => sld_ev (xs := xs) hL hj hv 2 (by omega) (kk := (2 : Int32)) (by decide) K
  unfold f_L_law_1256 f_L_at
  simp only [s1, s2]
  exact fin_v (law_at h) hk1 hrc
theorem ev_1324 (hL : L ≤ 4608) (hj : 9 * j + 9 ≤ L) (hv : v4.toInt = ((9 * j : Nat) : Int)) (h : INV w) (hrc : ∀ w' : Wd, INV w' → rc (v4 + 9, w') = some ()) : f_L_law_1324 L xs rc v4 w = some () := by
  have s1 := fun (K : Int32 → Option Unit) => sld_ev (xs := xs) hL hj hv 1 (by omega) (kk := (1 : Int32)) (by decide) K
  have s2 := fun (K : Int32 → Option Unit) => sld_ev (xs := xs) hL hj hv 2 (by omega) (kk := (2 : Int32)) (by decide) K
  have s3 := fun (K : Int32 → Option Unit) => sld_ev (xs := xs) hL hj hv 3 (by omega) (kk := (3 : Int32)) (by decide) K
  unfold f_L_law_1324 f_L_form
  simp only [s1, s2, s3]
  exact fin_v (law_form h) hk123 hrc
theorem ev_1404 (hL : L ≤ 4608) (hj : 9 * j + 9 ≤ L) (hv : v4.toInt = ((9 * j : Nat) : Int)) (h : INV w) (hrc : ∀ w' : Wd, INV w' → rc (v4 + 9, w') = some ()) : f_L_law_1404 L xs rc v4 w = some () := by
  have s1 := fun (K : Int32 → Option Unit) => sld_ev (xs := xs) hL hj hv 1 (by omega) (kk := (1 : Int32)) (by decide) K
  have s2 := fun (K : Int32 → Option Unit) => sld_ev (xs := xs) hL hj hv 2 (by omega) (kk := (2 : Int32)) (by decide) K
  unfold f_L_law_1404 f_L_looksLike
  simp only [s1, s2]
  exact fin_z (law_looksLike h) hk13 hrc
theorem ev_1479 (hL : L ≤ 4608) (hj : 9 * j + 9 ≤ L) (hv : v4.toInt = ((9 * j : Nat) : Int)) (h : INV w) (hrc : ∀ w' : Wd, INV w' → rc (v4 + 9, w') = some ()) : f_L_law_1479 L xs rc v4 w = some () := by
  have s1 := fun (K : Int32 → Option Unit) => sld_ev (xs := xs) hL hj hv 1 (by omega) (kk := (1 : Int32)) (by decide) K
  unfold f_L_law_1479 f_L_base
  simp only [s1]
  exact fin_v (law_base h) hk1 hrc
theorem ev_1535 (hL : L ≤ 4608) (hj : 9 * j + 9 ≤ L) (hv : v4.toInt = ((9 * j : Nat) : Int)) (h : INV w) (hrc : ∀ w' : Wd, INV w' → rc (v4 + 9, w') = some ()) : f_L_law_1535 L xs rc v4 w = some () := by
  have s1 := fun (K : Int32 → Option Unit) => sld_ev (xs := xs) hL hj hv 1 (by omega) (kk := (1 : Int32)) (by decide) K
  have s2 := fun (K : Int32 → Option Unit) => sld_ev (xs := xs) hL hj hv 2 (by omega) (kk := (2 : Int32)) (by decide) K
  have s3 := fun (K : Int32 → Option Unit) => sld_ev (xs := xs) hL hj hv 3 (by omega) (kk := (3 : Int32)) (by decide) K
  unfold f_L_law_1535 f_L_level
  simp only [s1, s2, s3]
  exact fin_v (law_level h) hk12 hrc
theorem ev_1615 (hL : L ≤ 4608) (hj : 9 * j + 9 ≤ L) (hv : v4.toInt = ((9 * j : Nat) : Int)) (h : INV w) (hrc : ∀ w' : Wd, INV w' → rc (v4 + 9, w') = some ()) : f_L_law_1615 L xs rc v4 w = some () := by
  have s1 := fun (K : Int32 → Option Unit) => sld_ev (xs := xs) hL hj hv 1 (by omega) (kk := (1 : Int32)) (by decide) K
  have s2 := fun (K : Int32 → Option Unit) => sld_ev (xs := xs) hL hj hv 2 (by omega) (kk := (2 : Int32)) (by decide) K
  have s3 := fun (K : Int32 → Option Unit) => sld_ev (xs := xs) hL hj hv 3 (by omega) (kk := (3 : Int32)) (by decide) K
  unfold f_L_law_1615 f_L_shown
  simp only [s1, s2, s3]
  exact fin_v (law_shown h) hk12 hrc
theorem ev_1695 (hL : L ≤ 4608) (hj : 9 * j + 9 ≤ L) (hv : v4.toInt = ((9 * j : Nat) : Int)) (h : INV w) (hrc : ∀ w' : Wd, INV w' → rc (v4 + 9, w') = some ()) : f_L_law_1695 L xs rc v4 w = some () := by
  have s1 := fun (K : Int32 → Option Unit) => sld_ev (xs := xs) hL hj hv 1 (by omega) (kk := (1 : Int32)) (by decide) K
  have s2 := fun (K : Int32 → Option Unit) => sld_ev (xs := xs) hL hj hv 2 (by omega) (kk := (2 : Int32)) (by decide) K
  have s3 := fun (K : Int32 → Option Unit) => sld_ev (xs := xs) hL hj hv 3 (by omega) (kk := (3 : Int32)) (by decide) K
  unfold f_L_law_1695 f_L_bySight
  simp only [s1, s2, s3]
  by_cases hz : xs (9 * j + 3) = 0
  · simp only [if_pos hz]
    exact fin_v (law_bySight h) hk1 hrc
  · simp only [if_neg hz]
    exact fin_v (law_bySight h) hk1 hrc
theorem ev_1791 (hL : L ≤ 4608) (hj : 9 * j + 9 ≤ L) (hv : v4.toInt = ((9 * j : Nat) : Int)) (h : INV w) (hrc : ∀ w' : Wd, INV w' → rc (v4 + 9, w') = some ()) : f_L_law_1791 L xs rc v4 w = some () := by
  have s1 := fun (K : Int32 → Option Unit) => sld_ev (xs := xs) hL hj hv 1 (by omega) (kk := (1 : Int32)) (by decide) K
  have s2 := fun (K : Int32 → Option Unit) => sld_ev (xs := xs) hL hj hv 2 (by omega) (kk := (2 : Int32)) (by decide) K
  unfold f_L_law_1791 f_L_breaks
  simp only [s1, s2]
  exact fin_l (law_breaks h) hk12 hrc
theorem ev_1858 (hL : L ≤ 4608) (hj : 9 * j + 9 ≤ L) (hv : v4.toInt = ((9 * j : Nat) : Int)) (h : INV w) (hrc : ∀ w' : Wd, INV w' → rc (v4 + 9, w') = some ()) : f_L_law_1858 L xs rc v4 w = some () := by
  have s1 := fun (K : Int32 → Option Unit) => sld_ev (xs := xs) hL hj hv 1 (by omega) (kk := (1 : Int32)) (by decide) K
  have s2 := fun (K : Int32 → Option Unit) => sld_ev (xs := xs) hL hj hv 2 (by omega) (kk := (2 : Int32)) (by decide) K
  have s3 := fun (K : Int32 → Option Unit) => sld_ev (xs := xs) hL hj hv 3 (by omega) (kk := (3 : Int32)) (by decide) K
  unfold f_L_law_1858 f_L_bySense
  simp only [s1, s2, s3]
  by_cases hz : xs (9 * j + 3) = 0
  · simp only [if_pos hz]
    exact fin_v (law_bySense h) hk1 hrc
  · simp only [if_neg hz]
    exact fin_v (law_bySense h) hk1 hrc
theorem ev_1954 (hL : L ≤ 4608) (hj : 9 * j + 9 ≤ L) (hv : v4.toInt = ((9 * j : Nat) : Int)) (h : INV w) (hrc : ∀ w' : Wd, INV w' → rc (v4 + 9, w') = some ()) : f_L_law_1954 L xs rc v4 w = some () := by
  have s1 := fun (K : Int32 → Option Unit) => sld_ev (xs := xs) hL hj hv 1 (by omega) (kk := (1 : Int32)) (by decide) K
  have s2 := fun (K : Int32 → Option Unit) => sld_ev (xs := xs) hL hj hv 2 (by omega) (kk := (2 : Int32)) (by decide) K
  have s3 := fun (K : Int32 → Option Unit) => sld_ev (xs := xs) hL hj hv 3 (by omega) (kk := (3 : Int32)) (by decide) K
  unfold f_L_law_1954 f_L_compare
  simp only [s1, s2, s3]
  exact fin_v (law_compare h) hk13 hrc
theorem ev_2034 (hL : L ≤ 4608) (hj : 9 * j + 9 ≤ L) (hv : v4.toInt = ((9 * j : Nat) : Int)) (h : INV w) (hrc : ∀ w' : Wd, INV w' → rc (v4 + 9, w') = some ()) : f_L_law_2034 L xs rc v4 w = some () := by
  have s1 := fun (K : Int32 → Option Unit) => sld_ev (xs := xs) hL hj hv 1 (by omega) (kk := (1 : Int32)) (by decide) K
  have s2 := fun (K : Int32 → Option Unit) => sld_ev (xs := xs) hL hj hv 2 (by omega) (kk := (2 : Int32)) (by decide) K
  have s3 := fun (K : Int32 → Option Unit) => sld_ev (xs := xs) hL hj hv 3 (by omega) (kk := (3 : Int32)) (by decide) K
  unfold f_L_law_2034 f_L_key
  simp only [s1, s2, s3]
  exact fin_v (law_key h) hk13 hrc
theorem ev_2114 (hL : L ≤ 4608) (hj : 9 * j + 9 ≤ L) (hv : v4.toInt = ((9 * j : Nat) : Int)) (h : INV w) (hrc : ∀ w' : Wd, INV w' → rc (v4 + 9, w') = some ()) : f_L_law_2114 L xs rc v4 w = some () := by
  have s1 := fun (K : Int32 → Option Unit) => sld_ev (xs := xs) hL hj hv 1 (by omega) (kk := (1 : Int32)) (by decide) K
  have s2 := fun (K : Int32 → Option Unit) => sld_ev (xs := xs) hL hj hv 2 (by omega) (kk := (2 : Int32)) (by decide) K
  have s3 := fun (K : Int32 → Option Unit) => sld_ev (xs := xs) hL hj hv 3 (by omega) (kk := (3 : Int32)) (by decide) K
  unfold f_L_law_2114 f_L_find
  simp only [s1, s2, s3]
  exact fin_v (law_find h) hk123 hrc
theorem ev_2194 (hL : L ≤ 4608) (hj : 9 * j + 9 ≤ L) (hv : v4.toInt = ((9 * j : Nat) : Int)) (h : INV w) (hrc : ∀ w' : Wd, INV w' → rc (v4 + 9, w') = some ()) : f_L_law_2194 L xs rc v4 w = some () := by
  unfold f_L_law_2194 f_L_pattern
  exact fin_v (law_pattern h) hk3 hrc
theorem ev_2238 (hL : L ≤ 4608) (hj : 9 * j + 9 ≤ L) (hv : v4.toInt = ((9 * j : Nat) : Int)) (h : INV w) (hrc : ∀ w' : Wd, INV w' → rc (v4 + 9, w') = some ()) : f_L_law_2238 L xs rc v4 w = some () := by
  have s1 := fun (K : Int32 → Option Unit) => sld_ev (xs := xs) hL hj hv 1 (by omega) (kk := (1 : Int32)) (by decide) K
  have s2 := fun (K : Int32 → Option Unit) => sld_ev (xs := xs) hL hj hv 2 (by omega) (kk := (2 : Int32)) (by decide) K
  unfold f_L_law_2238 f_L_match
  simp only [s1, s2]
  exact fin_v (law_match h) hk13 hrc
theorem ev_2306 (hL : L ≤ 4608) (hj : 9 * j + 9 ≤ L) (hv : v4.toInt = ((9 * j : Nat) : Int)) (h : INV w) (hrc : ∀ w' : Wd, INV w' → rc (v4 + 9, w') = some ()) : f_L_law_2306 L xs rc v4 w = some () := by
  have s1 := fun (K : Int32 → Option Unit) => sld_ev (xs := xs) hL hj hv 1 (by omega) (kk := (1 : Int32)) (by decide) K
  have s2 := fun (K : Int32 → Option Unit) => sld_ev (xs := xs) hL hj hv 2 (by omega) (kk := (2 : Int32)) (by decide) K
  have s3 := fun (K : Int32 → Option Unit) => sld_ev (xs := xs) hL hj hv 3 (by omega) (kk := (3 : Int32)) (by decide) K
  unfold f_L_law_2306 f_L_transliterate
  simp only [s1, s2, s3]
  by_cases hz : xs (9 * j + 3) = 0
  · simp only [if_pos hz]
    exact fin_v (law_transliterate h) hk13 hrc
  · simp only [if_neg hz]
    exact fin_v (law_transliterate h) hk13 hrc
theorem ev_2402 (hL : L ≤ 4608) (hj : 9 * j + 9 ≤ L) (hv : v4.toInt = ((9 * j : Nat) : Int)) (h : INV w) (hrc : ∀ w' : Wd, INV w' → rc (v4 + 9, w') = some ()) : f_L_law_2402 L xs rc v4 w = some () := by
  have s1 := fun (K : Int32 → Option Unit) => sld_ev (xs := xs) hL hj hv 1 (by omega) (kk := (1 : Int32)) (by decide) K
  have s2 := fun (K : Int32 → Option Unit) => sld_ev (xs := xs) hL hj hv 2 (by omega) (kk := (2 : Int32)) (by decide) K
  unfold f_L_law_2402 f_L_classOf
  simp only [s1, s2]
  exact fin_v (law_classOf h) hk12 hrc
theorem ev_2470 (hL : L ≤ 4608) (hj : 9 * j + 9 ≤ L) (hv : v4.toInt = ((9 * j : Nat) : Int)) (h : INV w) (hrc : ∀ w' : Wd, INV w' → rc (v4 + 9, w') = some ()) : f_L_law_2470 L xs rc v4 w = some () := by
  have s1 := fun (K : Int32 → Option Unit) => sld_ev (xs := xs) hL hj hv 1 (by omega) (kk := (1 : Int32)) (by decide) K
  have s2 := fun (K : Int32 → Option Unit) => sld_ev (xs := xs) hL hj hv 2 (by omega) (kk := (2 : Int32)) (by decide) K
  have s3 := fun (K : Int32 → Option Unit) => sld_ev (xs := xs) hL hj hv 3 (by omega) (kk := (3 : Int32)) (by decide) K
  have s4 := fun (K : Int32 → Option Unit) => sld_ev (xs := xs) hL hj hv 4 (by omega) (kk := (4 : Int32)) (by decide) K
  have s5 := fun (K : Int32 → Option Unit) => sld_ev (xs := xs) hL hj hv 5 (by omega) (kk := (5 : Int32)) (by decide) K
  unfold f_L_law_2470 f_L_message
  simp only [s1, s2, s3, s4, s5]
  exact fin_v (law_message h) hk123 hrc
theorem ev_2574 (hL : L ≤ 4608) (hj : 9 * j + 9 ≤ L) (hv : v4.toInt = ((9 * j : Nat) : Int)) (h : INV w) (hrc : ∀ w' : Wd, INV w' → rc (v4 + 9, w') = some ()) : f_L_law_2574 L xs rc v4 w = some () := by
  have s1 := fun (K : Int32 → Option Unit) => sld_ev (xs := xs) hL hj hv 1 (by omega) (kk := (1 : Int32)) (by decide) K
  unfold f_L_law_2574
  simp only [s1]
  exact fin_w (law_word h) hrc
theorem ev_2600 (hL : L ≤ 4608) (hj : 9 * j + 9 ≤ L) (hv : v4.toInt = ((9 * j : Nat) : Int)) (h : INV w) (hrc : ∀ w' : Wd, INV w' → rc (v4 + 9, w') = some ()) : f_L_law_2600 L xs rc v4 w = some () := by
  have s1 := fun (K : Int32 → Option Unit) => sld_ev (xs := xs) hL hj hv 1 (by omega) (kk := (1 : Int32)) (by decide) K
  unfold f_L_law_2600 f_L_encode
  simp only [s1]
  exact fin_v (law_encode h) hk1 hrc
theorem ev_2656 (hL : L ≤ 4608) (hj : 9 * j + 9 ≤ L) (hv : v4.toInt = ((9 * j : Nat) : Int)) (h : INV w) (hrc : ∀ w' : Wd, INV w' → rc (v4 + 9, w') = some ()) : f_L_law_2656 L xs rc v4 w = some () := by
  have s1 := fun (K : Int32 → Option Unit) => sld_ev (xs := xs) hL hj hv 1 (by omega) (kk := (1 : Int32)) (by decide) K
  unfold f_L_law_2656 f_L_decode
  simp only [s1]
  exact fin_v (law_decode h) hk13 hrc
theorem ev_23 (hL : L ≤ 4608) (hjl : j ≤ 512) (hv : v4.toInt = ((9 * j : Nat) : Int)) (h : INV w) (hrc : 9 * j + 9 ≤ L → ∀ w' : Wd, INV w' → rc (v4 + 9, w') = some ()) : f_L_law_23 L xs rc v4 w = some () := by
  have e9 : ((Int32.ofNat L) - (9 : Int32)).toInt = (L : Int) - 9 := by
    rw [i_sub (by rw [i_ofNat (by omega), i_lit 9 (by omega)]; omega), i_ofNat (by omega), i_lit 9 (by omega)]
    rfl
  unfold f_L_law_23
  by_cases hlt : ((Int32.ofNat L) - (9 : Int32)) < v4
  · rw [if_pos hlt]
  · rw [if_neg hlt]
    have hj : 9 * j + 9 ≤ L := by
      rw [Int32.lt_iff_toInt_lt, e9, hv] at hlt
      omega
    have hrc := hrc hj
    rw [sld_e0 hL hj hv, lt_1]
    generalize xs (9 * j) &&& (63 : Int32) = x2
    by_cases h0 : x2 = 0
    · rw [if_pos h0]; exact ev_192 hL hj hv h hrc
    rw [if_neg h0]
    by_cases h1 : x2 = 1
    · rw [if_pos h1]; exact ev_292 hL hj hv h hrc
    rw [if_neg h1]
    by_cases h2 : x2 = 2
    · rw [if_pos h2]; exact ev_376 hL hj hv h hrc
    rw [if_neg h2]
    by_cases h3 : x2 = 3
    · rw [if_pos h3]; exact ev_436 hL hj hv h hrc
    rw [if_neg h3]
    by_cases h4 : x2 = 4
    · rw [if_pos h4]; exact ev_496 hL hj hv h hrc
    rw [if_neg h4]
    by_cases h5 : x2 = 5
    · rw [if_pos h5]; exact ev_544 hL hj hv h hrc
    rw [if_neg h5]
    by_cases h6 : x2 = 6
    · rw [if_pos h6]; exact ev_628 hL hj hv h hrc
    rw [if_neg h6]
    by_cases h7 : x2 = 7
    · rw [if_pos h7]; exact ev_746 hL hj hv h hrc
    rw [if_neg h7]
    by_cases h8 : x2 = 8
    · rw [if_pos h8]; exact ev_892 hL hj hv h hrc
    rw [if_neg h8]
    by_cases h9 : x2 = 9
    · rw [if_pos h9]; exact ev_948 hL hj hv h hrc
    rw [if_neg h9]
    by_cases h10 : x2 = 10
    · rw [if_pos h10]; exact ev_1052 hL hj hv h hrc
    rw [if_neg h10]
    by_cases h11 : x2 = 11
    · rw [if_pos h11]; exact ev_1096 hL hj hv h hrc
    rw [if_neg h11]
    by_cases h12 : x2 = 12
    · rw [if_pos h12]; exact ev_1132 hL hj hv h hrc
    rw [if_neg h12]
    by_cases h13 : x2 = 13
    · rw [if_pos h13]; exact ev_1200 hL hj hv h hrc
    rw [if_neg h13]
    by_cases h14 : x2 = 14
    · rw [if_pos h14]; exact ev_1256 hL hj hv h hrc
    rw [if_neg h14]
    by_cases h15 : x2 = 15
    · rw [if_pos h15]; exact ev_1324 hL hj hv h hrc
    rw [if_neg h15]
    by_cases h16 : x2 = 16
    · rw [if_pos h16]; exact ev_1404 hL hj hv h hrc
    rw [if_neg h16]
    by_cases h17 : x2 = 17
    · rw [if_pos h17]; exact ev_1479 hL hj hv h hrc
    rw [if_neg h17]
    by_cases h18 : x2 = 18
    · rw [if_pos h18]; exact ev_1535 hL hj hv h hrc
    rw [if_neg h18]
    by_cases h19 : x2 = 19
    · rw [if_pos h19]; exact ev_1615 hL hj hv h hrc
    rw [if_neg h19]
    by_cases h20 : x2 = 20
    · rw [if_pos h20]; exact ev_1695 hL hj hv h hrc
    rw [if_neg h20]
    by_cases h21 : x2 = 21
    · rw [if_pos h21]; exact ev_1791 hL hj hv h hrc
    rw [if_neg h21]
    by_cases h22 : x2 = 22
    · rw [if_pos h22]; exact ev_1858 hL hj hv h hrc
    rw [if_neg h22]
    by_cases h23 : x2 = 23
    · rw [if_pos h23]; exact ev_1954 hL hj hv h hrc
    rw [if_neg h23]
    by_cases h24 : x2 = 24
    · rw [if_pos h24]; exact ev_2034 hL hj hv h hrc
    rw [if_neg h24]
    by_cases h25 : x2 = 25
    · rw [if_pos h25]; exact ev_2114 hL hj hv h hrc
    rw [if_neg h25]
    by_cases h26 : x2 = 26
    · rw [if_pos h26]; exact ev_2194 hL hj hv h hrc
    rw [if_neg h26]
    by_cases h27 : x2 = 27
    · rw [if_pos h27]; exact ev_2238 hL hj hv h hrc
    rw [if_neg h27]
    by_cases h28 : x2 = 28
    · rw [if_pos h28]; exact ev_2306 hL hj hv h hrc
    rw [if_neg h28]
    by_cases h29 : x2 = 29
    · rw [if_pos h29]; exact ev_2402 hL hj hv h hrc
    rw [if_neg h29]
    by_cases h30 : x2 = 30
    · rw [if_pos h30]; exact ev_2470 hL hj hv h hrc
    rw [if_neg h30]
    by_cases h31 : x2 = 31
    · rw [if_pos h31]; exact ev_2574 hL hj hv h hrc
    rw [if_neg h31]
    by_cases h32 : x2 = 32
    · rw [if_pos h32]; exact ev_2600 hL hj hv h hrc
    rw [if_neg h32]
    by_cases h33 : x2 = 33
    · rw [if_pos h33]; exact ev_2656 hL hj hv h hrc
    rw [if_neg h33]
    exact hrc w h
theorem law_true (hL : L ≤ 4608) : ∀ (n j : Nat) (v4 : Int32) (w : Wd), 513 ≤ n + j → j ≤ 512 → v4.toInt = ((9 * j : Nat) : Int) → INV w → loopN (fun (rc : Int32 × Wd → Option Unit) (σ : Int32 × Wd) => f_L_law_23 L xs rc σ.1 σ.2) n (v4, w) = some () := by
  intro n
  induction n with
  | zero => intro j v4 w h1 h2; omega
  | succ n ih =>
    intro j v4 w h1 h2 hv h
    rw [loopN_s]
    refine ev_23 hL h2 hv h (fun hj w' h' => ih (j + 1) (v4 + 9) w' (by omega) (by omega) ?_ h')
    rw [i_add (by rw [hv, i_lit 9 (by omega)]; omega), hv, i_lit 9 (by omega)]
    omega
end
