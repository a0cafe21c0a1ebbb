/-! ===== the class's split form ===== -/
theorem s_splitInto {w : Wd} {tab : Nat → Int} {t into : Nat} {xs : List Int} (hk : tok tab) (h : trel w 1 tab) (ho : okall w) (ht : KD t = 7) (hi : KD into = 7) (h125 : 125 ≤ into) (hti : t ≠ into) (ht6 : t ≠ 640) (hne : into ≠ 640) (hcap : LEN (into + 1) = 80) (hxs : rl w t = xs) (hl : lets xs) (h80 : xs.length ≤ 80) :
    Wp (f_X1_splitInto t into w) (fun r w' => okall w' ∧ trel w' 1 tab ∧ oc (fcl into) w w' ∧ ((r = 1 ∧ (xls tab xs).length ≤ 80 ∧ rl w' into = srt tab (xls tab xs)) ∨ (r = 0 ∧ 80 < (xls tab xs).length))) := by
  have L := LIT
  unfold f_X1_splitInto
  refine wp_bd (s_cut0 (ho _ hi)) ?_
  rintro _ w1 h1
  have ok1 := okall_rs ho h1
  have e1 : rl w1 t = xs := by rw [rs_rl h1 ht hti, hxs]
  refine wp_bd (s_size (ok1 _ ht)) ?_
  rintro n _ ⟨rfl, hn⟩
  rw [e1] at hn
  unfold f_X1_splitInto_13
  refine wp_loop (fun (σ : Nat × Nat × Int32 × Int32 × Wd) => σ.1 = t ∧ σ.2.1 = into ∧ okall σ.2.2.2.2 ∧ trel σ.2.2.2.2 1 tab ∧ oc (fcl into) w σ.2.2.2.2 ∧ rl σ.2.2.2.2 t = xs ∧ 0 ≤ σ.2.2.2.1.toInt ∧ σ.2.2.2.1.toInt ≤ xs.length ∧ rl σ.2.2.2.2 into = xls tab (xs.take σ.2.2.2.1.toInt.toNat) ∧
    σ.2.2.1.toInt = (xls tab (xs.take σ.2.2.2.1.toInt.toNat)).length + (xs.length - σ.2.2.2.1.toInt) ∧ σ.2.2.1.toInt ≤ 80) (fun (σ : Nat × Nat × Int32 × Int32 × Wd) => xs.length - σ.2.2.2.1.toInt.toNat) ?_ FU _
    ⟨rfl, rfl, ok1, trel_rs hk h h1 h125, oc_fcl h1 (Or.inl rfl), e1, by dsimp only; omega, by dsimp only; omega, by dsimp only; rw [rs_l h1, L.1]; rfl, by dsimp only; rw [L.1]; show n.toInt = (0 : Int) + _; omega, by dsimp only; omega⟩ (by rw [FUv]; dsimp only; omega)
  rintro rc ⟨t', into', tot, i, u⟩ ⟨q1, q2, oku, tu, ocu, eu, hi0, hi1, hin, htot, ht80⟩ ih
  dsimp only at q1 q2 oku tu ocu eu hi0 hi1 hin htot ht80
  subst q1; subst q2
  show Wp (g_X1_splitInto_13 rc t' into' tot i u) _
  unfold g_X1_splitInto_13
  refine wp_bd (s_size (oku _ ht)) ?_
  rintro x _ ⟨rfl, hx⟩
  rw [eu] at hx
  refine wp_ifle (fun q => ?_) (fun q => ?_)
  · rw [List.take_of_length_le (by omega)] at hin htot
    refine wp_bd (s_sortMarks hk tu oku hi h125 (by rw [hin]; exact xls_let hk hl)) ?_
    rintro _ w3 h3
    rw [hin] at h3
    exact wp_ret ⟨okall_rs oku h3, trel_rs hk tu h3 h125, oc_tr ocu (oc_fcl h3 (Or.inl rfl)), Or.inl ⟨rfl, by omega, rs_l h3⟩⟩
  · refine wp_bd (s_get (oku _ ht)) ?_
    rintro y _ ⟨rfl, hy⟩
    rw [eu, show i.toInt = ((i.toInt.toNat : Nat) : Int) by omega] at hy
    have ly := lets_gt hl (k := ((i.toInt.toNat : Nat) : Int)) (by omega) (by omega)
    rw [← hy] at ly
    have tk : xs.take (i.toInt.toNat + 1) = xs.take i.toInt.toNat ++ [y.toInt] := by rw [take_succ_gt (by omega), hy]
    have xt : xls tab (xs.take (i.toInt.toNat + 1)) = xls tab (xs.take i.toInt.toNat) ++ xl tab y.toInt := by rw [tk, xls_app, xls_1]
    have xlen := congrArg List.length xt
    rw [List.length_append] at xlen
    refine wp_bd (s_splitLetter hk tu oku hi h125 hne (by omega) ly (by omega) (by rw [hin]; omega)) ?_
    rintro r w2 ⟨ok2, t2, oc2, hr⟩
    refine wp_ifle (fun q3 => ?_) (fun q3 => ?_)
    · rcases hr with ⟨r1, r2, r3⟩ | ⟨r1, _⟩
      · refine wp_add (by omega) (fun z hz => ?_)
        have e2 : rl w2 t' = xs := by
          have k1 := row_ne hi ht
          have k2 := row_ne ht hi
          have k3 := row_ne row_640.1 ht
          have k4 := row_ne ht row_640.1
          rw [rl_fr (oc2.1 t' (by unfold fcl; omega)) (oc2.1 (t' + 1) (by unfold fcl; omega)), eu]
        refine ih (t', into', r, z, w2) ⟨rfl, rfl, ok2, t2, oc_tr ocu oc2, e2, by dsimp only; omega, by dsimp only; omega, ?_, ?_, r1⟩ (by dsimp only; omega)
        · dsimp only
          rw [r3, hin, show z.toInt.toNat = i.toInt.toNat + 1 by omega, xt]
        · dsimp only
          rw [show z.toInt.toNat = i.toInt.toNat + 1 by omega]
          omega
      · have e80 : (80 : Int32).toInt = 80 := by decide
        omega
    · rcases hr with ⟨r1, r2, r3⟩ | ⟨r1, r2⟩
      · have e80 : (80 : Int32).toInt = 80 := by decide
        omega
      · have spl : xs = xs.take (i.toInt.toNat + 1) ++ xs.drop (i.toInt.toNat + 1) := (List.take_append_drop _ _).symm
        have l2 : (xls tab xs).length = (xls tab (xs.take (i.toInt.toNat + 1))).length + (xls tab (xs.drop (i.toInt.toNat + 1))).length := by
          conv => lhs; rw [spl, xls_app, List.length_append]
        have l3 := xls_len tab (xs.drop (i.toInt.toNat + 1))
        rw [List.length_drop] at l3
        exact wp_ret ⟨ok2, t2, oc_tr ocu oc2, Or.inr ⟨rfl, by omega⟩⟩

/-! ===== the reference's row of work ===== -/
/-- fields and cells that making a form changes -/
def wkf (f : Nat) : Prop := f = 11 ∨ f = 12
/-- a letter becomes two -/
def dbl (xs : List Int) (p : Nat) (a b : Int) : List Int := xs.take p ++ a :: b :: xs.drop (p + 1)
theorem dbl_len {xs : List Int} {p : Nat} {a b : Int} (h : p < xs.length) : (dbl xs p a b).length = xs.length + 1 := by
  unfold dbl
  rw [List.length_append, List.length_cons, List.length_cons, List.length_take, List.length_drop]; omega
theorem dbl_gt {xs : List Int} {p : Nat} {a b : Int} (h : p < xs.length) (k : Nat) (hk : k < xs.length + 1) : gt (dbl xs p a b) k = if k < p then gt xs k else if k = p then a else if k = p + 1 then b else gt xs (k - 1 : Nat) := by
  unfold dbl
  have lp : (xs.take p).length = p := by rw [List.length_take]; omega
  by_cases c1 : k < p
  · rw [if_pos c1, gt_app_l (by omega), gt_take c1]
  · rw [if_neg c1, gt_app_r (by omega), lp]
    by_cases c2 : k = p
    · rw [if_pos c2, show k - p = 0 by omega]; rfl
    · rw [if_neg c2]
      by_cases c3 : k = p + 1
      · rw [if_pos c3, show k - p = 1 by omega]; rfl
      · rw [if_neg c3, show k - p = (k - p - 2) + 1 + 1 by omega, gt_nat, List.getD_cons_succ, List.getD_cons_succ, ← gt_nat, gt_drop]
        congr 1
        omega
