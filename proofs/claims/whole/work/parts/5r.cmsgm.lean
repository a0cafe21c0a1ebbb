/-! ===== message: the reference ===== -/
theorem s_readsCase {w : Wd} {tab : Nat → Int} {tp nums : List Int} {n d : Int32} {q wh : Int} {c : Bool} (hk : tok tab) (hT : rtab w = tab) (ht : rta w tp) (hb : tpok tp) (hn : 0 ≤ n.toInt ∧ n.toInt ≤ 1) (hN : nmr w nums) (hnn : ∀ k : Int, 0 ≤ k → k < 4 → 0 ≤ gt nums k ∧ gt nums k ≤ 999999) (hq : (w.1 713 44).toInt = q) (h0 : 0 ≤ q ∧ q ≤ 900) (hd : 1 ≤ d.toInt ∧ d.toInt ≤ 6) (hwh : (w.1 742 d.toInt.toNat).toInt = wh) (hw4 : 0 ≤ wh ∧ wh < 4) (hc : w.1 743 d.toInt.toNat = bo c) :
    Wp (f_X11_readsCase n d w) (fun r w' => rcg f44 o434 w w' ∧ (∀ j, j ≠ d.toInt.toNat → w'.1 743 j = w.1 743 j ∧ w'.1 744 j = w.1 744 j) ∧ ((r = 0 ∧ kend tp q = -1) ∨ (r = 1 ∧ kend tp q ≠ -1 ∧ (w'.1 713 44).toInt = kend tp q ∧
      w'.1 743 d.toInt.toNat = bo (c || kfit tp nums (fun x => pcl tab n.toInt.toNat x) q wh) ∧ w'.1 744 d.toInt.toNat = bo (kfit tp nums (fun x => pcl tab n.toInt.toNat x) q wh && !c)))) := by
  have L := LIT
  have l4 := L74
  have e35 : (35 : Int32).toInt = 35 := by decide
  have e48 : (48 : Int32).toInt = 48 := by decide
  have e51 : (51 : Int32).toInt = 51 := by decide
  have e102 : (102 : Int32).toInt = 102 := by decide
  have e109 : (109 : Int32).toInt = 109 := by decide
  have e111 : (111 : Int32).toInt = 111 := by decide
  have e120 : (120 : Int32).toInt = 120 := by decide
  unfold f_X11_readsCase
  refine wp_bd (s_taping ht hb hq h0.1) ?_
  rintro x _ ⟨rfl, hx⟩
  refine wp_wr ?_
  have hx255 := tp_rng hb q
  -- the world one on
  have A1 : rcg f44 o434 w (setI w 713 44 (w.1 713 44 + 1)) := rcg_fld rfl
  have A2 : ((setI w 713 44 (w.1 713 44 + 1)).1 713 44).toInt = q + 1 := by rw [setI_at, if_pos ⟨rfl, rfl⟩, i_add (by rw [hq]; omega), hq, L.2.1]
  have A3 : ∀ k, k ≠ 713 → (setI w 713 44 (w.1 713 44 + 1)).1 k = w.1 k := fun k h => by funext b; rw [setI_at, if_neg (by omega)]
  generalize setI w 713 44 (w.1 713 44 + 1) = u at *
  have hTu : rtab u = tab := by rw [rtab_fr (A3 714 (by decide))]; exact hT
  have htu : rta u tp := ⟨by rw [A1.2.1 7 (by unfold f44; decide)]; exact ht.1, (sg_ext (fun i _ => by rw [A3 718 (by decide)])).trans ht.2⟩
  have hcu : u.1 743 d.toInt.toNat = bo c := by rw [A3 743 (by decide)]; exact hc
  have hNu : nmr u nums := fun k h => by rw [A3 745 (by decide)]; exact hN k h
  have hwu : (u.1 742 d.toInt.toNat).toInt = wh := by rw [A3 742 (by decide)]; exact hwh
  let cl : Int → Int := fun x => pcl tab n.toInt.toNat x
  -- with what fits (f), and what is well said (ok), from place q2
  have fin : ∀ (u2 : Wd) (q2 : Int) (v7 v4 : Int32) (f ok : Bool), rcg f44 o434 w u2 → (∀ j, u2.1 743 j = w.1 743 j ∧ u2.1 744 j = w.1 744 j) → (u2.1 713 44).toInt = q2 → 0 ≤ q2 ∧ q2 ≤ 1000 → v7 = bo f → v4 = bo ok → (kend tp q = if (ok && decide (gt tp q2 = 61)) = true then q2 + 1 else -1) → (ok = true → f = kfit tp nums cl q wh) →
      Wp (f_X11_readsCase_164 d v4 v7 u2) (fun r w' => rcg f44 o434 w w' ∧ (∀ j, j ≠ d.toInt.toNat → w'.1 743 j = w.1 743 j ∧ w'.1 744 j = w.1 744 j) ∧ ((r = 0 ∧ kend tp q = -1) ∨ (r = 1 ∧ kend tp q ≠ -1 ∧ (w'.1 713 44).toInt = kend tp q ∧
      w'.1 743 d.toInt.toNat = bo (c || kfit tp nums cl q wh) ∧ w'.1 744 d.toInt.toNat = bo (kfit tp nums cl q wh && !c)))) := by
    intro u2 q2 v7 v4 f ok b1 b2 b3 b4 h7 h4 hke hf
    have T2 : rta u2 tp := ⟨by rw [b1.2.1 7 (by unfold f44; decide)]; exact ht.1, (sg_ext (fun i _ => by rw [b1.1 718 (by decide) (by unfold o434; decide)])).trans ht.2⟩
    refine (s_case164 (c := c) (f := f) (ok := ok) T2 hb b3 b4 hd (by rw [(b2 _).1]; exact hc) h7 h4).mono ?_
    rintro r w' ⟨c1, c2, c3, c4, c5, c6⟩
    refine ⟨rcg_tr b1 c1, fun j hj => ?_, ?_⟩
    · rw [(c2 j hj).1, (c2 j hj).2]; exact b2 j
    · cases e : (ok && decide (gt tp q2 = 61)) with
      | true =>
        rw [e] at c6 hke
        rw [if_pos rfl] at hke
        have ok1 : ok = true := (Bool.and_eq_true_iff.mp e).1
        rw [hf ok1] at c4 c5
        exact Or.inr ⟨c6, by omega, by rw [hke]; exact c3, c4, c5⟩
      | false =>
        rw [e] at c6 hke
        rw [if_neg (by decide)] at hke
        exact Or.inl ⟨c6, hke⟩
  have fitE : ∀ f : Bool, (f = true ↔ kfp tp nums cl q wh) → f = kfit tp nums cl q wh := by
    intro f hf
    unfold kfit
    cases f with
    | true => exact (decide_eq_true (hf.mp rfl)).symm
    | false => exact (decide_eq_false (fun z => absurd (hf.mpr z) (by decide))).symm
  have letter : (x.toInt = 111 ∨ x.toInt = 102 ∨ x.toInt = 109 ∨ x.toInt = 120) → kend tp q = if (true && decide (gt tp (q + 1) = 61)) = true then q + 1 + 1 else -1 := by
    intro h
    unfold kend
    rw [if_pos (by omega), Bool.true_and]
    by_cases e : gt tp (q + 1) = 61
    · rw [if_pos e, if_pos (decide_eq_true e)]; omega
    · rw [if_neg e, if_neg (fun z => e (of_decide_eq_true z))]
  have noletter : ¬ (x.toInt = 111 ∨ x.toInt = 102 ∨ x.toInt = 109 ∨ x.toInt = 120) → x.toInt ≠ 35 → kend tp q = -1 := by
    intro h h2
    unfold kend
    rw [if_neg (by omega), if_neg (by omega)]
  -- from the numbers on
  have go : ∀ (t0 : Int32) (ok : Bool), t0 = bo ok → (ok = true ↔ (x.toInt = 111 ∨ x.toInt = 102 ∨ x.toInt = 109 ∨ x.toInt = 120)) → Wp (f_X11_readsCase_44 n d x t0 u) (fun r w' => rcg f44 o434 w w' ∧ (∀ j, j ≠ d.toInt.toNat → w'.1 743 j = w.1 743 j ∧ w'.1 744 j = w.1 744 j) ∧ ((r = 0 ∧ kend tp q = -1) ∨ (r = 1 ∧ kend tp q ≠ -1 ∧ (w'.1 713 44).toInt = kend tp q ∧
      w'.1 743 d.toInt.toNat = bo (c || kfit tp nums cl q wh) ∧ w'.1 744 d.toInt.toNat = bo (kfit tp nums cl q wh && !c)))) := by
    intro t0 ok ht0 hok
    unfold f_X11_readsCase_44
    refine wp_ald (by rw [l4.1]; omega) (wp_ald (by rw [l4.2.2.2]; omega) ?_)
    have n1 : (u.1 745 (u.1 742 d.toInt.toNat).toInt.toNat).toInt = gt nums wh := by
      rw [hwu, hNu _ (by omega), show ((wh.toNat : Nat) : Int) = wh by omega]
    generalize u.1 745 (u.1 742 d.toInt.toNat).toInt.toNat = num at n1 ⊢
    have nr := hnn wh hw4.1 hw4.2
    refine wp_bd (s_classForR hn hk hTu (by omega)) ?_
    rintro k _ ⟨rfl, hkc⟩
    rw [n1] at hkc
    have U2 : ∀ j, u.1 743 j = w.1 743 j ∧ u.1 744 j = w.1 744 j := fun j => by rw [A3 743 (by decide), A3 744 (by decide)]; exact ⟨rfl, rfl⟩
    -- the end: whether it fits by the letter
    have e114 : ∀ (t : Int32) (f : Bool), t = bo f → (ok = true → (f = true ↔ kfp tp nums cl q wh)) → Wp (f_X11_readsCase_114 d x t0 num t u) (fun r w' => rcg f44 o434 w w' ∧ (∀ j, j ≠ d.toInt.toNat → w'.1 743 j = w.1 743 j ∧ w'.1 744 j = w.1 744 j) ∧ ((r = 0 ∧ kend tp q = -1) ∨ (r = 1 ∧ kend tp q ≠ -1 ∧ (w'.1 713 44).toInt = kend tp q ∧
      w'.1 743 d.toInt.toNat = bo (c || kfit tp nums cl q wh) ∧ w'.1 744 d.toInt.toNat = bo (kfit tp nums cl q wh && !c)))) := by
      intro t f htf hff
      unfold f_X11_readsCase_114
      refine wp_ifeq (fun z => ?_) (fun z => ?_)
      · -- a digit
        refine wp_bd (s_taping htu hb A2 (by omega)) ?_
        rintro y _ ⟨rfl, hy⟩
        rw [e_in, bd_r]
        refine wp_bd (s_taping htu hb A2 (by omega)) ?_
        rintro y2 _ ⟨rfl, hy2⟩
        have R1 := tp_rng hb (q + 1)
        have s48 : (y2 - (48 : Int32)).toInt = gt tp (q + 1) - 48 := by rw [i_sub (by omega), e48, hy2]
        have zb : zo ((48 : Int32).toInt ≤ y.toInt ∧ y.toInt ≤ (51 : Int32).toInt) = bo (decide (48 ≤ gt tp (q + 1) ∧ gt tp (q + 1) ≤ 51)) := by
          rw [e48, e51, hy]
          unfold zo bo
          by_cases g : 48 ≤ gt tp (q + 1) ∧ gt tp (q + 1) ≤ 51
          · rw [if_pos g, if_pos (decide_eq_true g)]
          · rw [if_neg g, if_neg (fun q => g (of_decide_eq_true q))]
        rw [zb]
        have dig : ∀ (t2 : Int32) (f2 : Bool), t2 = bo f2 → (f2 = true ↔ gt nums wh = gt tp (q + 1) - 48) → Wp (f_X11_readsCase_152 d (bo (decide (48 ≤ gt tp (q + 1) ∧ gt tp (q + 1) ≤ 51))) t2 u) (fun r w' => rcg f44 o434 w w' ∧ (∀ j, j ≠ d.toInt.toNat → w'.1 743 j = w.1 743 j ∧ w'.1 744 j = w.1 744 j) ∧ ((r = 0 ∧ kend tp q = -1) ∨ (r = 1 ∧ kend tp q ≠ -1 ∧ (w'.1 713 44).toInt = kend tp q ∧
      w'.1 743 d.toInt.toNat = bo (c || kfit tp nums cl q wh) ∧ w'.1 744 d.toInt.toNat = bo (kfit tp nums cl q wh && !c)))) := by
          intro t2 f2 h2 hf2
          unfold f_X11_readsCase_152
          refine wp_wr ?_
          refine fin _ (q + 2) t2 _ f2 (decide (48 ≤ gt tp (q + 1) ∧ gt tp (q + 1) ≤ 51)) (rcg_tr A1 (rcg_fld rfl)) (fun j => ?_) ?_ (by omega) h2 rfl ?_ (fun z2 => fitE f2 ?_)
          · rw [setI_at, if_neg (by omega), setI_at, if_neg (by omega)]; exact U2 j
          · rw [setI_at, if_pos ⟨rfl, rfl⟩, i_add (by rw [A2]; omega), A2, L.2.1]; omega
          · unfold kend
            rw [if_neg (by omega)]
            by_cases g : 48 ≤ gt tp (q + 1) ∧ gt tp (q + 1) ≤ 51
            · rw [if_pos ⟨by omega, g⟩, decide_eq_true g, Bool.true_and]
              by_cases e : gt tp (q + 2) = 61
              · rw [if_pos e, if_pos (decide_eq_true e)]; omega
              · rw [if_neg e, if_neg (fun z => e (of_decide_eq_true z))]
            · rw [if_neg (fun q => g q.2), decide_eq_false g, Bool.false_and, if_neg (by decide)]
          · rw [hf2]
            refine ⟨fun q2 => Or.inr (Or.inr (Or.inr (Or.inr ⟨by omega, q2⟩))), fun q2 => ?_⟩
            rcases q2 with q2 | q2 | q2 | q2 | q2 <;> omega
        refine wp_ifeq (fun g => dig 1 true rfl ⟨fun _ => by omega, fun _ => rfl⟩) (fun g => dig 0 false rfl ⟨fun z => absurd z (by decide), fun z => absurd (show num.toInt = (y2 - (48 : Int32)).toInt by omega) g⟩)
      · cases hoo : ok with
        | true =>
          have hl := hok.mp hoo
          exact fin u (q + 1) t t0 f true A1 U2 A2 (by omega) htf (by rw [ht0, hoo]) (letter hl) (fun _ => fitE f (hff hoo))
        | false =>
          have hl : ¬ (x.toInt = 111 ∨ x.toInt = 102 ∨ x.toInt = 109 ∨ x.toInt = 120) := fun z => by
            have := hok.mpr z; rw [hoo] at this; cases this
          exact fin u (q + 1) t t0 f false A1 U2 A2 (by omega) htf (by rw [ht0, hoo]) (by rw [Bool.false_and, if_neg (by decide)]; exact noletter hl (by omega)) (fun z => absurd z (by decide))
    have clE : cl (gt nums wh) = k.toInt := hkc.symm
    have T1 : kfp tp nums cl q wh → Wp (f_X11_readsCase_114 d x t0 num 1 u) _ := fun z => e114 1 true rfl (fun _ => ⟨fun _ => z, fun _ => rfl⟩)
    have T0 : (ok = true → ¬ kfp tp nums cl q wh) → Wp (f_X11_readsCase_114 d x t0 num 0 u) _ := fun z => e114 0 false rfl (fun h => ⟨fun q => absurd q (by decide), fun q => absurd q (z h)⟩)
    unfold f_X11_readsCase_85 f_X11_readsCase_97 f_X11_readsCase_113
    have n97 : x.toInt ≠ 120 → (x.toInt = 111 → k.toInt ≠ 0) → (x.toInt = 102 → k.toInt ≠ 1) → Wp (if x = (109 : Int32) then (if k = (2 : Int32) then f_X11_readsCase_114 d x t0 num (1 : Int32) u else f_X11_readsCase_114 d x t0 num (0 : Int32) u) else f_X11_readsCase_114 d x t0 num (0 : Int32) u) (fun r w' => rcg f44 o434 w w' ∧ (∀ j, j ≠ d.toInt.toNat → w'.1 743 j = w.1 743 j ∧ w'.1 744 j = w.1 744 j) ∧ ((r = 0 ∧ kend tp q = -1) ∨ (r = 1 ∧ kend tp q ≠ -1 ∧ (w'.1 713 44).toInt = kend tp q ∧
      w'.1 743 d.toInt.toNat = bo (c || kfit tp nums cl q wh) ∧ w'.1 744 d.toInt.toNat = bo (kfit tp nums cl q wh && !c)))) := by
      intro h1 h2 h3
      refine wp_ifeq (fun z => wp_ifeq (fun z2 => T1 (Or.inr (Or.inr (Or.inr (Or.inl ⟨by omega, by omega⟩))))) (fun z2 => T0 (fun h q2 => ?_))) (fun z => T0 (fun h q2 => ?_))
      · rcases q2 with q2 | q2 | q2 | q2 | q2 <;> omega
      · have := hok.mp h
        rcases q2 with q2 | q2 | q2 | q2 | q2 <;> omega
    have n85 : x.toInt ≠ 120 → (x.toInt = 111 → k.toInt ≠ 0) → Wp (if x = (102 : Int32) then (if k = (1 : Int32) then f_X11_readsCase_114 d x t0 num (1 : Int32) u else (if x = (109 : Int32) then (if k = (2 : Int32) then f_X11_readsCase_114 d x t0 num (1 : Int32) u else f_X11_readsCase_114 d x t0 num (0 : Int32) u) else f_X11_readsCase_114 d x t0 num (0 : Int32) u)) else (if x = (109 : Int32) then (if k = (2 : Int32) then f_X11_readsCase_114 d x t0 num (1 : Int32) u else f_X11_readsCase_114 d x t0 num (0 : Int32) u) else f_X11_readsCase_114 d x t0 num (0 : Int32) u)) (fun r w' => rcg f44 o434 w w' ∧ (∀ j, j ≠ d.toInt.toNat → w'.1 743 j = w.1 743 j ∧ w'.1 744 j = w.1 744 j) ∧ ((r = 0 ∧ kend tp q = -1) ∨ (r = 1 ∧ kend tp q ≠ -1 ∧ (w'.1 713 44).toInt = kend tp q ∧
      w'.1 743 d.toInt.toNat = bo (c || kfit tp nums cl q wh) ∧ w'.1 744 d.toInt.toNat = bo (kfit tp nums cl q wh && !c)))) := by
      intro h1 h2
      exact wp_ifeq (fun z => wp_ifeq (fun z2 => T1 (Or.inr (Or.inr (Or.inl ⟨by omega, by omega⟩)))) (fun z2 => n97 h1 h2 (fun _ q => z2 (by omega)))) (fun z => n97 h1 h2 (fun q => absurd q (by omega)))
    exact wp_ifeq (fun z => T1 (Or.inl (by omega))) (fun z => wp_ifeq (fun z1 => wp_ifeq (fun z2 => T1 (Or.inr (Or.inl ⟨by omega, by omega⟩))) (fun z2 => n85 (by omega) (fun _ q => z2 (by omega)))) (fun z1 => n85 (by omega) (fun q => absurd q (by omega))))
  refine wp_ifeq (fun z => go 1 true rfl ⟨fun _ => by omega, fun _ => rfl⟩) (fun z1 => ?_)
  refine wp_ifeq (fun z => go 1 true rfl ⟨fun _ => by omega, fun _ => rfl⟩) (fun z2 => ?_)
  refine wp_ifeq (fun z => go 1 true rfl ⟨fun _ => by omega, fun _ => rfl⟩) (fun z3 => ?_)
  refine wp_ifeq (fun z => go 1 true rfl ⟨fun _ => by omega, fun _ => rfl⟩) (fun z4 => go 0 false rfl ⟨fun q => absurd q (by decide), fun q => by omega⟩)
