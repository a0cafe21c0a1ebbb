/-! ===== the law as a function ends with true ===== -/
theorem mask_pos (a : Int32) : 0 ≤ (a &&& (2147483647 : Int32)).toInt := by
  show 0 ≤ (a &&& (2147483647 : Int32)).toBitVec.toInt
  rw [Int32.toBitVec_and]
  refine BitVec.toInt_nonneg_of_msb_false ?_
  rw [BitVec.msb_and, show (2147483647 : Int32).toBitVec.msb = false by decide, Bool.and_false]
theorem lowV_rng {a n : Int32} (hn : 1 ≤ n.toInt) : 0 ≤ (lowV a n).toInt ∧ (lowV a n).toInt < n.toInt := by
  unfold lowV
  rw [i_rem (mask_pos a) hn]
  exact ⟨Int.emod_nonneg _ (by omega), Int.emod_lt_of_pos _ (by omega)⟩
theorem cel_ok {L : Nat} {xs : Nat → Int32} {k : Int32} (hL : L ≤ 260) (hk : 0 ≤ k.toInt) : ∃ x, celV L xs k = some x := by
  unfold celV
  by_cases c : k < Int32.ofNat L
  · rw [if_pos c]
    rw [Int32.lt_iff_toInt_lt, i_ofNat (by omega)] at c
    rw [if_pos (inb_iff.mpr ⟨hk, c⟩)]
    exact ⟨_, rfl⟩
  · rw [if_neg c]
    exact ⟨_, rfl⟩
section
variable {S : ST} {w v : Wd} {L : Nat} {xs : Nat → Int32} {rc : Int32 × Int32 × Wd × Wd → Option Unit} {i x : Int32}
def INVL (w v : Wd) : Prop := ∃ S : ST, GS S ∧ CS w S ∧ CS v S
theorem alike_0 {K1 K2 : Int32 → Wd → Wd → Option Unit} (hS : GS S) (hw : CS w S) (hv : CS v S) (k : ∀ w' v', CS w' S → CS v' S → K2 1 w' v' = some ()) : bd2 (f2_L_areAlike w v) (fun x w' v' => if x = 0 then K1 x w' v' else K2 x w' v') = some () := by
  obtain ⟨w', v', e, a, b⟩ := alike_so hS hw hv
  rw [e]
  have h : (if (1 : Int32) = 0 then K1 1 w' v' else K2 1 w' v') = some () := by
    rw [if_neg (by decide)]
    exact k w' v' a b
  exact h
theorem bdr_nz {K1 K2 : Int32 → Wd → Option Unit} : bdr (some ((.inr 1 : Nat ⊕ Int32), w)) (fun x w1 => if x = 0 then K1 x w1 else K2 x w1) = K2 1 w := by
  have h : (if (1 : Int32) = 0 then K1 1 w else K2 1 w) = K2 1 w := if_neg (by decide)
  exact h
theorem law_120 (hi : 0 ≤ i.toInt ∧ i.toInt < 140) (hr : ∀ w' v', INVL w' v' → rc (1, i + 1, w', v') = some ()) (hI : INVL w v) : f2_L_law_120 L xs rc 1 i x w v = some () := by
  obtain ⟨S, hS, hw, hv⟩ := hI
  unfold f2_L_law_120
  by_cases c : (i - i / (7 : Int32) * (7 : Int32)) = 3
  · rw [if_pos c, if_neg (by decide), low_e (by decide)]
    have R := lowV_rng (a := x >>> ((4 : Int32) &&& 31)) (n := 3) (by decide)
    have R2 := lowV_rng (a := x >>> ((6 : Int32) &&& 31)) (n := 3) (by decide)
    have e3 : (3 : Int32).toInt = 3 := by decide
    rw [e3] at R R2
    show bdr (f_L_areFormsSo _ w) _ = _
    generalize lowV (x >>> ((4 : Int32) &&& 31)) 3 = s at R ⊢
    obtain ⟨T, d, hT⟩ := forms_so (s := s) hS (by omega)
    obtain ⟨w1, ew, hw1⟩ := d w hw
    obtain ⟨v1, ev, hv1⟩ := d v hv
    have ew' : f_L_areFormsSo s w = some (.inr 1, w1) := ew
    have ev' : f_L_areFormsSo s v = some (.inr 1, v1) := ev
    have hs : slo s := ⟨R.1, by omega⟩
    rw [ew', bdr_nz, ev', bdr_nz, low_e (by decide)]
    show bdr (f_L_isShownSo s _ w1) _ = _
    have e1 : (1 : Int32).toInt = 1 := by decide
    have eb : (lowV (x >>> ((6 : Int32) &&& 31)) 3 - 1).toInt = (lowV (x >>> ((6 : Int32) &&& 31)) 3).toInt - 1 := by rw [i_sub (by rw [e1]; omega), e1]
    generalize lowV (x >>> ((6 : Int32) &&& 31)) 3 - 1 = b at eb ⊢
    obtain ⟨r2, w2, e2, e2', hw2⟩ := shown_so (s := s) (b := b) hT.1 hs (by omega) hw1
    rw [e2, e2', bdr_nz]
    obtain ⟨r3, w3, e4, e4', hw3⟩ := breaks_so (s := s) hT.1 hs hw2
    rw [e4, e4', bdr_nz]
    exact hr w3 v1 ⟨T, hT, hw3, hv1⟩
  · rw [if_neg c]
    exact hr w v ⟨S, hS, hw, hv⟩
theorem law_96 (hi : 0 ≤ i.toInt ∧ i.toInt < 140) (hr : ∀ w' v', INVL w' v' → rc (1, i + 1, w', v') = some ()) (hI : INVL w v) : f2_L_law_96 L xs rc i x w v = some () := by
  obtain ⟨S, hS, hw, hv⟩ := hI
  unfold f2_L_law_96
  by_cases c : (i - i / (9 : Int32) * (9 : Int32)) = 8
  · rw [if_pos c]
    exact alike_0 hS hw hv (fun w' v' a b => law_120 hi hr ⟨S, hS, a, b⟩)
  · rw [if_neg c]
    exact law_120 hi hr ⟨S, hS, hw, hv⟩
theorem q61_all : ∀ n, n < 140 → 0 ≤ ((Int32.ofNat n) - (Int32.ofNat n) / (61 : Int32) * (61 : Int32)).toInt := by decide +kernel
theorem law_21 (hL : L ≤ 260) (hi : 0 ≤ i.toInt ∧ i.toInt ≤ 140) (hr : i.toInt < 140 → ∀ w' v', INVL w' v' → rc (1, i + 1, w', v') = some ()) (hI : INVL w v) : f2_L_law_21 L xs rc 1 i w v = some () := by
  obtain ⟨S, hS, hw, hv⟩ := hI
  have e140 : (140 : Int32).toInt = 140 := by decide
  unfold f2_L_law_21
  by_cases c : (140 : Int32) ≤ i
  · rw [if_pos c, if_neg (by decide)]
    exact alike_0 hS hw hv (fun w' v' a b => rfl)
  · rw [if_neg c, if_neg (by decide)]
    rw [Int32.le_iff_toInt_le, e140] at c
    have hi2 : i.toInt < 140 := by omega
    have Q := q61_all i.toInt.toNat (by omega)
    rw [i_back hi.1] at Q
    obtain ⟨y, hy⟩ := cel_ok (xs := xs) hL Q
    unfold cel
    rw [hy]
    show lt _ _ = _
    unfold lt
    generalize y + ((1571 : Int32) * (i / (61 : Int32))) = z
    show bd (f_L_low z 56 w) _ = _
    rw [low_e (by decide), bd_r]
    obtain ⟨a, T, d, hT, h1, -⟩ := ao_act (v1 := z) hS
    obtain ⟨w1, ew, hw1⟩ := d w hw
    obtain ⟨v1, ev, hv1⟩ := d v hv
    have ew' : f_L_act z w = some (a, w1) := ew
    have ev' : f_L_act z v = some (a, v1) := ev
    rw [ew', bd_r]
    have both : INVL w1 v1 := ⟨T, hT, hw1, hv1⟩
    have fin : bd (f_L_act z v) (fun x16 w15 => (if x16 = a then f2_L_law_96 L xs rc i z w1 w15 else f2_L_law_120 L xs rc (0 : Int32) i z w1 w15)) = some () := by
      rw [ev', bd_r, if_pos rfl]
      exact law_96 ⟨hi.1, hi2⟩ (hr hi2) both
    by_cases c9 : a = -9999999
    · rw [if_pos c9]
      by_cases c47 : lowV z 56 < 47
      · rw [if_pos c47]
        have e := h1 c9 c47
        rw [e] at hw1
        exact law_96 ⟨hi.1, hi2⟩ (hr hi2) ⟨S, hS, hw1, hv⟩
      · rw [if_neg c47]
        exact fin
    · rw [if_neg c9]
      exact fin
/-- the law's loop, round by round -/
theorem law_loopN (hL : L ≤ 260) : ∀ (m : Nat) (i : Int32) (w v : Wd), 0 ≤ i.toInt ∧ i.toInt ≤ 140 → 140 < i.toInt + m → INVL w v → loopN (fun rc σ => f2_L_law_21 L xs rc σ.1 σ.2.1 σ.2.2.1 σ.2.2.2) m (1, i, w, v) = some () := by
  intro m
  induction m with
  | zero => intro i w v h1 h2 _; omega
  | succ m ih =>
    intro i w v h1 h2 hI
    show f2_L_law_21 L xs (loopN (fun rc σ => f2_L_law_21 L xs rc σ.1 σ.2.1 σ.2.2.1 σ.2.2.2) m) 1 i w v = some ()
    refine law_21 hL h1 (fun hlt w' v' hI' => ?_) hI
    have e1 : (1 : Int32).toInt = 1 := by decide
    have e : (i + 1).toInt = i.toInt + 1 := by rw [i_add (by rw [e1]; omega), e1]
    exact ih (i + 1) w' v' (by omega) (by omega) hI'
end
