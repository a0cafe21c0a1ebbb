/-! ===== the class splits and sorts ===== -/
theorem trel_rs {w w' : Wd} {tab : Nat → Int} {o : Nat} {l : List Int} (hk : tok tab) (h : trel w 1 tab) (hr : rs w w' o l) (ho : 125 ≤ o) : trel w' 1 tab :=
  trel_fr hk h (fun k a b => hr.1 k (by omega) (by omega))
def fcl (into k : Nat) : Prop := (640 ≤ k ∧ k < 642) ∨ k = into ∨ k = into + 1
theorem oc_fcl {w w' : Wd} {into o : Nat} {l : List Int} (hr : rs w w' o l) (h : o = into ∨ (640 ≤ o ∧ o < 641)) : oc (fcl into) w w' :=
  oc_rs hr (by unfold fcl; omega) (by unfold fcl; omega)
theorem row_640 : KD 640 = 7 ∧ LEN (640 + 1) = 81 := by decide +kernel
theorem kd1 : KD 1 = 9 := by decide +kernel
theorem s_splitLetter {w : Wd} {tab : Nat → Int} {l before : Int32} {into : Nat} (hk : tok tab) (h : trel w 1 tab) (ho : okall w) (hi : KD into = 7) (h125 : 125 ≤ into) (hne : into ≠ 640) (hcap : 80 ≤ LEN (into + 1))
    (hl : 0 ≤ l.toInt ∧ l.toInt ≤ 95) (hb : 1 ≤ before.toInt ∧ before.toInt ≤ 80) (hO : (rl w into).length + 1 ≤ before.toInt) :
    Wp (f_X1_splitLetter l before into w) (fun r w' => okall w' ∧ trel w' 1 tab ∧ oc (fcl into) w w' ∧ ((r.toInt ≤ 80 ∧ r.toInt = before.toInt - 1 + (xl tab l.toInt).length ∧ rl w' into = rl w into ++ xl tab l.toInt) ∨ (80 < r.toInt ∧ r.toInt ≤ before.toInt - 1 + (xl tab l.toInt).length))) := by
  have L := LIT
  have e320 : (320 : Int32).toInt = 320 := by decide
  unfold f_X1_splitLetter
  refine wp_bd (s_cut0 (ho _ row_640.1)) ?_
  rintro _ w1 h1
  have ok1 := okall_rs ho h1
  have l1 : (rl w1 640).length = 0 := by rw [rs_l h1]; rfl
  refine wp_bd (s_add (ok1 _ row_640.1) (by rw [l1, row_640.2]; omega)) ?_
  rintro _ w2 ⟨rfl, h2⟩
  have ok2 := okall_rs ok1 h2
  rw [rs_l h1, List.nil_append] at h2
  have t2 := trel_rs hk (trel_rs hk h h1 (by omega)) h2 (by omega)
  have oc2 : oc (fcl into) w w2 := oc_tr (oc_fcl h1 (Or.inr (by omega))) (oc_fcl h2 (Or.inr (by omega)))
  have i2 : rl w2 into = rl w into := by rw [rs_rl h2 hi hne, rs_rl h1 hi hne]
  unfold f_X1_splitLetter_23
  refine wp_loop (fun (σ : Nat × Int32 × Int32 × Wd) => σ.1 = into ∧ okall σ.2.2.2 ∧ trel σ.2.2.2 1 tab ∧ oc (fcl into) w σ.2.2.2 ∧ lets (rl σ.2.2.2 640) ∧ ∃ D : List Int, rl σ.2.2.2 into = rl w into ++ D ∧ D ++ xls tab (rl σ.2.2.2 640).reverse = xl tab l.toInt ∧
    σ.2.1.toInt = before.toInt - 1 + D.length + (rl σ.2.2.2 640).length ∧ σ.2.1.toInt ≤ 81 ∧ before.toInt ≤ σ.2.1.toInt ∧ σ.2.2.1.toInt = D.length + (σ.2.1.toInt - before.toInt)) (fun (σ : Nat × Int32 × Int32 × Wd) => 320 - σ.2.2.1.toInt.toNat) ?_ FU _
    ⟨rfl, ok2, t2, oc2, by dsimp only; rw [rs_l h2]; exact lets_cons.mpr ⟨hl, lets_nil⟩, [], by dsimp only; rw [i2, List.append_nil], by dsimp only; rw [rs_l h2]; show [] ++ xls tab [l.toInt] = _; rw [xls_1]; rfl, by dsimp only; rw [rs_l h2]; simp only [List.length_nil, List.length_singleton]; omega, by dsimp only; omega, by dsimp only; omega, by dsimp only; simp only [List.length_nil]; omega⟩ (by rw [FUv]; dsimp only; omega)
  rintro rc ⟨v, tot, st, u⟩ ⟨e1, oku, tu, ocu, lp, D, hD, hx, ht, ht1, ht2, hst⟩ ih
  dsimp only at e1 oku tu ocu lp hD hx ht ht1 ht2 hst
  subst e1
  show Wp (g_X1_splitLetter_23 rc v tot st u) _
  unfold g_X1_splitLetter_23
  have hxl := congrArg List.length hx
  rw [List.length_append] at hxl
  have hge := xls_len tab (rl u 640).reverse
  rw [List.length_reverse] at hge
  refine wp_ifle (fun q => by omega) (fun q => ?_)
  refine wp_bd (s_size (oku _ row_640.1)) ?_
  rintro x _ ⟨rfl, hx1⟩
  refine wp_ifle (fun q1 => ?_) (fun q1 => wp_iflt (fun q2 => ?_) (fun q2 => ?_))
  · have e : rl u 640 = [] := List.eq_nil_of_length_eq_zero (by omega)
    rw [e] at hx ht
    rw [show xls tab ([] : List Int).reverse = [] from rfl, List.append_nil] at hx
    simp only [List.length_nil] at ht
    refine wp_ret ⟨oku, tu, ocu, ?_⟩
    rw [hx] at ht hD
    by_cases c : tot.toInt ≤ 80
    · exact Or.inl ⟨c, by omega, hD⟩
    · exact Or.inr ⟨by omega, by omega⟩
  · exact wp_ret ⟨oku, tu, ocu, Or.inr ⟨by omega, by omega⟩⟩
  · refine wp_bd (s_removeLast (oku _ row_640.1)) ?_
    rintro y u1 ⟨hr1, hy⟩
    obtain ⟨P, z, hP⟩ : ∃ P z, rl u 640 = P ++ [z] := by
      refine ⟨(rl u 640).dropLast, (rl u 640).getLast (by rintro e; rw [e] at hx1; simp only [List.length_nil] at hx1; omega), ?_⟩
      exact (List.dropLast_concat_getLast _).symm
    rw [hP] at hx ht lp hr1 hy hge hxl hx1
    rw [List.dropLast_concat] at hr1
    have hyz : y.toInt = z := by
      rw [hy, List.length_append, List.length_singleton, show (((P.length + 1 : Nat) : Int) - 1) = ((P.length : Nat) : Int) by omega, gt_app_r (Nat.le_refl _), Nat.sub_self]
      rfl
    have lz := lets_app.mp lp
    have lz1 := (lets_cons.mp lz.2).1
    rw [← hyz] at lz1
    have ok1 := okall_rs oku hr1
    have tr1 := trel_rs hk tu hr1 (by omega)
    have oc1 : oc (fcl v) w u1 := oc_tr ocu (oc_fcl hr1 (Or.inr (by omega)))
    have iv : rl u1 v = rl u v := rs_rl hr1 hi hne
    rw [List.reverse_append, show [z].reverse ++ P.reverse = z :: P.reverse from rfl, xls_cons, ← hyz] at hx
    rw [List.length_append, List.length_singleton] at ht
    refine wp_bd (s_splitOneOf kd1 lz1.1 (by omega) tr1) ?_
    rintro a _ ⟨rfl, ha⟩
    have ha' : a.toInt = s1 tab y.toInt := ha
    have S := s12 hk lz1
    refine wp_ifeq (fun c => ?_) (fun c => ?_)
    · have lenO : (rl u1 v).length = (rl w v).length + D.length := by rw [iv, hD, List.length_append]
      refine wp_bd (s_add (ok1 _ hi) (by omega)) ?_
      rintro _ u2 ⟨rfl, hr2⟩
      refine wp_add (by omega) (fun n hn => ?_)
      have r6 : rl u2 640 = P := by rw [rs_rl hr2 row_640.1 (Ne.symm hne), rs_l hr1]
      refine ih (v, tot, n, u2) ⟨rfl, okall_rs ok1 hr2, trel_rs hk tr1 hr2 h125, oc_tr oc1 (oc_fcl hr2 (Or.inl rfl)), by dsimp only; rw [r6]; exact lz.1, D ++ [y.toInt], ?_, ?_, ?_, by dsimp only; omega, by dsimp only; omega, ?_⟩ (by dsimp only; omega)
      · dsimp only; rw [rs_l hr2, iv, hD, List.append_assoc]
      · dsimp only; rw [r6, List.append_assoc, ← hx, xl_1 hk lz1 (by omega)]
      · dsimp only; rw [r6, List.length_append, List.length_singleton]; omega
      · dsimp only; rw [List.length_append, List.length_singleton]; omega
    · refine wp_add (by omega) (fun t ht3 => ?_)
      refine wp_bd (s_splitOtherOf kd1 lz1.1 (by omega) tr1) ?_
      rintro b _ ⟨rfl, hb2⟩
      have hb' : b.toInt = s2 tab y.toInt := hb2
      have lenP : (rl u1 640).length = P.length := by rw [rs_l hr1]
      refine wp_bd (s_add (ok1 _ row_640.1) (by rw [lenP, row_640.2]; omega)) ?_
      rintro _ u2 ⟨rfl, hr2⟩
      rw [rs_l hr1] at hr2
      have lenP2 : (rl u2 640).length = P.length + 1 := by rw [rs_l hr2, List.length_append, List.length_singleton]
      refine wp_bd (s_add (okall_rs ok1 hr2 _ row_640.1) (by rw [lenP2, row_640.2]; omega)) ?_
      rintro _ u3 ⟨rfl, hr3⟩
      rw [rs_l hr2] at hr3
      refine wp_add (by omega) (fun n hn => ?_)
      have i3 : rl u3 v = rl u v := by rw [rs_rl hr3 hi hne, rs_rl hr2 hi hne, iv]
      have r6 := rs_l hr3
      refine ih (v, t, n, u3) ⟨rfl, okall_rs (okall_rs ok1 hr2) hr3, trel_rs hk (trel_rs hk tr1 hr2 (by omega)) hr3 (by omega), oc_tr (oc_tr oc1 (oc_fcl hr2 (Or.inr (by omega)))) (oc_fcl hr3 (Or.inr (by omega))), ?_, D, by dsimp only; rw [i3, hD], ?_, ?_, by dsimp only; omega, by dsimp only; omega, by dsimp only; omega⟩ (by dsimp only; omega)
      · dsimp only
        rw [r6]
        exact lets_app.mpr ⟨lets_app.mpr ⟨lz.1, lets_cons.mpr ⟨by omega, lets_nil⟩⟩, lets_cons.mpr ⟨by omega, lets_nil⟩⟩
      · dsimp only
        rw [r6, ← hx, xl_2 hk lz1 (by omega), List.reverse_append, List.reverse_append, ha', hb']
        show D ++ xls tab (s1 tab y.toInt :: s2 tab y.toInt :: P.reverse) = _
        rw [xls_cons, xls_cons, List.append_assoc]
      · dsimp only
        rw [r6, List.length_append, List.length_append, List.length_singleton, List.length_singleton]
        omega
/-! the sort -/
theorem insr_app {tab : Nat → Int} {x : Int} : ∀ (D C : List Int), (∀ y ∈ D, 0 < jo tab x ∧ jo tab x < jo tab y) → insr tab x (D ++ C) = D ++ insr tab x C := by
  intro D
  induction D with
  | nil => intro C _; rfl
  | cons y D ih =>
    intro C h
    rw [List.cons_append]
    simp only [insr]
    rw [if_pos (h y List.mem_cons_self), ih C (fun z hz => h z (List.mem_cons_of_mem _ hz))]
    rfl
theorem insr_at {tab : Nat → Int} {x : Int} {A : List Int} {p : Nat} (hp : p ≤ A.length) (h1 : ∀ k : Nat, p ≤ k → k < A.length → 0 < jo tab x ∧ jo tab x < jo tab (gt A k)) (h2 : p = 0 ∨ ¬ (0 < jo tab x ∧ jo tab x < jo tab (gt A (p - 1 : Nat)))) :
    (insr tab x A.reverse).reverse = A.take p ++ x :: A.drop p := by
  have e : A.reverse = (A.drop p).reverse ++ (A.take p).reverse := by rw [← List.reverse_append, List.take_append_drop]
  rw [e, insr_app]
  · have hc : insr tab x (A.take p).reverse = x :: (A.take p).reverse := by
      rcases h2 with h2 | h2
      · subst h2; rfl
      · cases p with
        | zero => rfl
        | succ m =>
          rw [take_succ_gt (by omega), List.reverse_append]
          show insr tab x (gt A m :: (A.take m).reverse) = x :: gt A m :: (A.take m).reverse
          simp only [insr]
          rw [Nat.add_sub_cancel] at h2
          rw [if_neg h2]
    rw [hc, List.reverse_append, List.reverse_cons, List.reverse_reverse, List.reverse_reverse, List.append_assoc]
    rfl
  · intro y hy
    have hy2 := List.mem_reverse.mp hy
    obtain ⟨i, hi, rfl⟩ := List.mem_iff_getElem.mp hy2
    rw [List.length_drop] at hi
    rw [List.getElem_drop, ← gt_getElem (by omega)]
    exact h1 (p + i) (by omega) (by omega)
theorem gt_drop {xs : List Int} {n k : Nat} : gt (xs.drop n) k = gt xs ((n + k : Nat) : Int) := by
  rw [gt_nat, gt_nat, List.getD_eq_getElem?_getD, List.getD_eq_getElem?_getD, List.getElem?_drop]
theorem gt_take {xs : List Int} {n k : Nat} (h : k < n) : gt (xs.take n) k = gt xs k := by
  rw [gt_nat, gt_nat, List.getD_eq_getElem?_getD, List.getD_eq_getElem?_getD, List.getElem?_take_of_lt h]
theorem gt_setn {l : List Int} {i : Nat} {x : Int} {k : Nat} (hi : i < l.length) : gt (l.set i x) k = if k = i then x else gt l k := by
  rw [gt_set (by omega) hi]
  by_cases e : k = i
  · rw [if_pos (by omega), if_pos e]
  · rw [if_neg (by omega), if_neg e]
theorem s_sortMarks {w : Wd} {tab : Nat → Int} {row : Nat} (hk : tok tab) (h : trel w 1 tab) (ho : okall w) (hi : KD row = 7) (h125 : 125 ≤ row) (hl : lets (rl w row)) :
    Wp (f_X1_sortMarks row w) (fun _ w' => rs w w' row (srt tab (rl w row))) := by
  have L := LIT
  have hb := okr_len (ho _ hi)
  have hle := rl_le (ho _ hi)
  generalize hxs : rl w row = xs at *
  unfold f_X1_sortMarks f_X1_sortMarks_2
  refine wp_loop (fun (σ : Nat × Int32 × Wd) => σ.1 = row ∧ 1 ≤ σ.2.1.toInt ∧ (σ.2.1.toInt ≤ xs.length ∨ σ.2.1.toInt = 1) ∧ rs w σ.2.2 row ((srr tab (xs.take σ.2.1.toInt.toNat)).reverse ++ xs.drop σ.2.1.toInt.toNat)) (fun (σ : Nat × Int32 × Wd) => xs.length + 1 - σ.2.1.toInt.toNat) ?_ FU _
    ⟨rfl, by dsimp only; omega, by dsimp only; omega, ?_⟩ (by rw [FUv]; dsimp only; omega)
  · rintro rc ⟨r, i, u⟩ ⟨e1, hi0, hi1, hr⟩ ih
    dsimp only at e1 hi0 hi1 hr
    subst e1
    show Wp (g_X1_sortMarks_2 rc r i u) _
    unfold g_X1_sortMarks_2
    have oku := okall_rs ho hr
    have lu : ∀ n, n ≤ xs.length → ((srr tab (xs.take n)).reverse ++ xs.drop n).length = xs.length := fun n hn => by
      rw [List.length_append, List.length_reverse, srr_len tab xs n hn, List.length_drop]; omega
    refine wp_bd (s_size (oku _ hi)) ?_
    rintro x _ ⟨rfl, hx⟩
    rw [rs_l hr] at hx
    refine wp_ifle (fun q => wp_ret ?_) (fun q => ?_)
    · have hge : xs.length ≤ i.toInt.toNat := by
        rcases hi1 with q2 | q2
        · rw [lu _ (by omega)] at hx; omega
        · by_cases c : xs.length ≤ 1
          · omega
          · rw [lu _ (by omega)] at hx; omega
      rw [List.take_of_length_le hge, List.drop_of_length_le hge, List.append_nil] at hr
      exact hr
    · have hlt : i.toInt.toNat < xs.length := by
        rcases hi1 with q2 | q2
        · rw [lu _ (by omega)] at hx; omega
        · by_cases c : xs.length = 0
          · have : xs = [] := List.eq_nil_of_length_eq_zero c
            rw [this] at hx
            have : ((srr tab (List.take i.toInt.toNat [])).reverse ++ List.drop i.toInt.toNat []).length = 0 := by rw [List.take_nil, List.drop_nil]; rfl
            omega
          · rw [lu _ (by omega)] at hx; omega
      clear hx q
      have lenA : (srr tab (xs.take i.toInt.toNat)).reverse.length = i.toInt.toNat := by rw [List.length_reverse, srr_len tab xs _ (by omega)]
      have letA : lets (srr tab (xs.take i.toInt.toNat)).reverse := fun z hz => srr_let (fun y hy => hl y (List.mem_of_mem_take hy)) z (List.mem_reverse.mp hz)
      generalize hA : (srr tab (xs.take i.toInt.toNat)).reverse = A at *
      generalize hn : i.toInt.toNat = n at *
      have tu := trel_rs hk h hr h125
      refine wp_bd (s_get (oku _ hi)) ?_
      rintro y _ ⟨rfl, hy⟩
      rw [rs_l hr, show i.toInt = (n : Int) by omega, gt_app_r (by omega), lenA, show ((n - n : Nat) : Int) = ((0 : Nat) : Int) by omega, gt_drop, Nat.add_zero] at hy
      have ly := lets_gt hl (k := n) (by omega) (by omega)
      rw [← hy] at ly
      refine wp_bd (s_joinsOf kd1 ly.1 (by omega) tu) ?_
      rintro j _ ⟨rfl, hj⟩
      have hj' : j.toInt = jo tab y.toInt := hj
      -- the way back
      have out : ∀ (p : Nat) (pv : Int32) (u2 : Wd) (l2 : List Int), pv.toInt = p → p ≤ n → rs w u2 r l2 → l2.length = xs.length → (∀ k : Nat, k < xs.length → k ≠ p → gt l2 k = if k < p then gt A k else if k ≤ n then gt A (k - 1 : Nat) else gt xs k) →
          (∀ k : Nat, p ≤ k → k < n → 0 < jo tab y.toInt ∧ jo tab y.toInt < jo tab (gt A k)) → (p = 0 ∨ ¬ (0 < jo tab y.toInt ∧ jo tab y.toInt < jo tab (gt A (p - 1 : Nat)))) →
          Wp (f_X1_sortMarks_79 rc r i y pv u2) (fun _ w' => rs w w' r (srt tab xs)) := by
        intro p pv u2 l2 hpv hp hr2 hlen hg h1 h2
        unfold f_X1_sortMarks_79
        refine wp_bd (s_set_in (okall_rs ho hr2 _ hi) (by omega)) ?_
        rintro _ u3 hr3
        refine wp_add (by omega) (fun z hz => ?_)
        refine ih (r, z, u3) ⟨rfl, by dsimp only; omega, by dsimp only; omega, ?_⟩ (by dsimp only; omega)
        dsimp only
        have h3 := rs_tr hr2 hr3
        rw [rs_l hr2, show pv.toInt.toNat = p by omega] at h3
        have goal : (srr tab (xs.take z.toInt.toNat)).reverse ++ xs.drop z.toInt.toNat = l2.set p y.toInt := by
          rw [show z.toInt.toNat = n + 1 by omega, take_succ_gt hlt, srr_snoc, ← hy]
          have eA : srr tab (xs.take n) = A.reverse := by rw [← hA, List.reverse_reverse]
          rw [eA, insr_at (p := p) (by omega) (fun k a b => h1 k a (by omega)) h2]
          apply gt_ext
          · rw [List.length_append, List.length_append, List.length_cons, List.length_take, List.length_drop, List.length_drop, List.length_set]; omega
          · intro k hk2
            rw [List.length_append, List.length_append, List.length_cons, List.length_take, List.length_drop, List.length_drop] at hk2
            rw [gt_setn (by omega)]
            by_cases c1 : k < p
            · rw [if_neg (by omega), hg k (by omega) (by omega), if_pos c1, List.append_assoc, gt_app_l (by rw [List.length_take]; omega), gt_take c1]
            · by_cases c2 : k = p
              · rw [if_pos c2, List.append_assoc, gt_app_r (by rw [List.length_take]; omega), List.length_take, List.cons_append, show ((k - min p A.length : Nat) : Int) = ((0 : Nat) : Int) by omega]
                rfl
              · rw [if_neg c2, hg k (by omega) c2, if_neg c1]
                by_cases c3 : k ≤ n
                · rw [if_pos c3, List.append_assoc, gt_app_r (by rw [List.length_take]; omega), List.length_take, List.cons_append]
                  rw [show (k - min p A.length) = (k - 1 - p) + 1 by omega]
                  show gt (y.toInt :: (A.drop p ++ xs.drop (n + 1))) ((k - 1 - p + 1 : Nat) : Int) = _
                  rw [gt_nat, List.getD_cons_succ, ← gt_nat, gt_app_l (by rw [List.length_drop]; omega), gt_drop]
                  congr 1
                  omega
                · rw [if_neg c3, gt_app_r (by rw [List.length_append, List.length_cons, List.length_take, List.length_drop]; omega), List.length_append, List.length_cons, List.length_take, List.length_drop, gt_drop]
                  congr 1
                  omega
        rw [goal]; exact h3
      unfold f_X1_sortMarks_29
      refine wp_loop (fun (σ : Nat × Int32 × Int32 × Int32 × Int32 × Wd) => σ.1 = r ∧ σ.2.1 = i ∧ σ.2.2.1 = y ∧ σ.2.2.2.1 = j ∧ 0 ≤ σ.2.2.2.2.1.toInt ∧ σ.2.2.2.2.1.toInt ≤ n ∧ ∃ l2, rs w σ.2.2.2.2.2 r l2 ∧ l2.length = xs.length ∧ (∀ k : Nat, k < xs.length → (k : Int) ≠ σ.2.2.2.2.1.toInt → gt l2 k = if k < σ.2.2.2.2.1.toInt then gt A k else if k ≤ n then gt A (k - 1 : Nat) else gt xs k) ∧
        (∀ k : Nat, σ.2.2.2.2.1.toInt ≤ k → k < n → 0 < jo tab y.toInt ∧ jo tab y.toInt < jo tab (gt A k))) (fun (σ : Nat × Int32 × Int32 × Int32 × Int32 × Wd) => σ.2.2.2.2.1.toInt.toNat) ?_ FU _
        ⟨rfl, rfl, rfl, rfl, by dsimp only; omega, by dsimp only; omega, _, hr, by rw [List.length_append, List.length_drop]; omega, fun k hk2 hk3 => ?_, fun k hk2 hk3 => by dsimp only at hk2; omega⟩ (by rw [FUv]; dsimp only; omega)
      · rintro rc2 ⟨r', i', y', j', p, u2⟩ ⟨e1, e2, e3, e4, hp0, hp1, l2, hr2, hlen, hg, hm⟩ ih2
        dsimp only at e1 e2 e3 e4 hp0 hp1 hr2 hlen hg hm
        subst e1; subst e2; subst e3; subst e4
        show Wp (g_X1_sortMarks_29 rc2 rc r' i' y' j' p u2) _
        unfold g_X1_sortMarks_29
        have pn : p.toInt = ((p.toInt.toNat : Nat) : Int) := by omega
        have go := fun hq => out p.toInt.toNat p u2 l2 pn (by omega) hr2 hlen (fun k a b => by rw [hg k a (by omega)]; by_cases c : k < p.toInt.toNat; rw [if_pos c, if_pos (by omega)]; rw [if_neg c, if_neg (by omega)]) (fun k a b => hm k (by omega) b) hq
        refine wp_ifle (fun q => go (Or.inr (by omega))) (fun q => wp_ifle (fun q2 => go (Or.inl (by omega))) (fun q2 => ?_))
        have ok2 := okall_rs ho hr2
        have tr2 := trel_rs hk h hr2 h125
        have p1 : (p - 1).toInt = p.toInt - 1 := by rw [i_sub (by omega), L.2.1]
        refine wp_bd (s_get (ok2 _ hi)) ?_
        rintro a _ ⟨rfl, ha⟩
        rw [rs_l hr2, p1, show p.toInt - 1 = ((p.toInt.toNat - 1 : Nat) : Int) by omega, hg _ (by omega) (by omega), if_pos (by omega)] at ha
        have la := lets_gt letA (k := ((p.toInt.toNat - 1 : Nat) : Int)) (by omega) (by omega)
        rw [← ha] at la
        refine wp_bd (s_joinsOf kd1 la.1 (by omega) tr2) ?_
        rintro ja _ ⟨rfl, hja⟩
        have hja' : ja.toInt = jo tab a.toInt := hja
        rw [ha] at hja'
        refine wp_ifle (fun q3 => go (Or.inr (by omega))) (fun q3 => ?_)
        refine wp_bd (s_get (ok2 _ hi)) ?_
        rintro a2 _ ⟨rfl, ha2⟩
        rw [rs_l hr2, p1, show p.toInt - 1 = ((p.toInt.toNat - 1 : Nat) : Int) by omega, hg _ (by omega) (by omega), if_pos (by omega)] at ha2
        refine wp_bd (s_set_in (ok2 _ hi) hp0) ?_
        rintro _ u3 hr3
        rw [rs_l hr2] at hr3
        refine wp_add (by omega) (fun z hz => ?_)
        refine ih2 (r', i', y', j', z, u3) ⟨rfl, rfl, rfl, rfl, by dsimp only; omega, by dsimp only; omega, _, rs_tr hr2 hr3, by rw [List.length_set]; exact hlen, fun k hk2 hk3 => ?_, fun k hk2 hk3 => ?_⟩ (by dsimp only; omega)
        · dsimp only at hk3 ⊢
          rw [gt_setn (by omega)]
          by_cases c : k = p.toInt.toNat
          · rw [if_pos c, if_neg (by omega), if_pos (by omega), ha2, c]
          · rw [if_neg c, hg k hk2 (by omega)]
            by_cases c2 : k < p.toInt
            · rw [if_pos c2, if_pos (by omega)]
            · rw [if_neg c2, if_neg (show ¬ (k : Int) < z.toInt by omega)]
        · dsimp only at hk2
          by_cases c : k = p.toInt.toNat - 1
          · rw [c]; omega
          · exact hm k (by omega) hk3
      · dsimp only at hk3 ⊢
        by_cases c : k < n
        · rw [if_pos (by omega), gt_app_l (by omega)]
        · rw [if_neg (by omega), if_neg (by omega), gt_app_r (by omega), lenA, gt_drop]
          congr 1
          omega
  · dsimp only
    rw [L.2.1]
    have : (srr tab (xs.take 1)).reverse = xs.take 1 := by
      cases xs with
      | nil => rfl
      | cons a t => rfl
    rw [show (1 : Int).toNat = 1 from rfl, this, List.take_append_drop, ← hxs]
    exact rs_rf (ho _ hi)

