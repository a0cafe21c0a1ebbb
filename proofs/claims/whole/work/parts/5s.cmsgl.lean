/-! ===== message: the reference's loop ===== -/
def fml (f : Nat) : Prop := f = 44 ∨ f = 9
def oml (k : Nat) : Prop := k = 719 ∨ k = 742 ∨ k = 743 ∨ k = 744
/-- the part of the world that reading leaves -/
theorem s_readsMessage {w : Wd} {tab : Nat → Int} {tp nums : List Int} {n b : Int32} {out0 : List Int} (hk : tok tab) (hT : rtab w = tab) (ht : rta w tp) (hb : tpok tp) (hn : 0 ≤ n.toInt ∧ n.toInt ≤ 1) (hN : nmr w nums) (hnn : ∀ k : Int, 0 ≤ k → k < 4 → 0 ≤ gt nums k ∧ gt nums k ≤ 999999) (hB : b.toInt = 0 ∨ (b.toInt = 1 ∧ rou w out0 ∧ out0.length ≤ 200)) :
    Wp (f_X11_readsMessage n b w) (fun r w' => rcg fml oml w w' ∧ (b.toInt = 0 → w'.1 713 9 = w.1 713 9 ∧ w'.1 719 = w.1 719) ∧ ((r = 0 ∧ RUN tp nums (fun x => pcl tab n.toInt.toNat x) 0 [] out0 = none) ∨ (r = 1 ∧ ∃ os, RUN tp nums (fun x => pcl tab n.toInt.toNat x) 0 [] out0 = some os ∧ (b.toInt = 1 → rou w' os)))) := by
  have L := LIT
  have l4 := L74
  have e123 : (123 : Int32).toInt = 123 := by decide
  have e124 : (124 : Int32).toInt = 124 := by decide
  have e125 : (125 : Int32).toInt = 125 := by decide
  have e126 : (126 : Int32).toInt = 126 := by decide
  have e32 : (32 : Int32).toInt = 32 := by decide
  have e48 : (48 : Int32).toInt = 48 := by decide
  have e58 : (58 : Int32).toInt = 58 := by decide
  have t160 := hb.1
  generalize hR0 : RUN tp nums (fun x => pcl tab n.toInt.toNat x) 0 [] out0 = R0
  unfold f_X11_readsMessage
  refine wp_wr ?_
  unfold f_X11_readsMessage_7
  rw [FUv]
  refine wp_loop (fun σ : Int32 × Int32 × Int32 × Wd => σ.1 = n ∧ σ.2.1 = b ∧ rcg fml oml w σ.2.2.2 ∧ (b.toInt = 0 → σ.2.2.2.1 713 9 = w.1 713 9 ∧ σ.2.2.2.1 719 = w.1 719) ∧ 0 ≤ (σ.2.2.2.1 713 44).toInt ∧ (σ.2.2.2.1 713 44).toInt ≤ tp.length ∧ ∃ (st : List Fch) (o1 : List Int), σ.2.2.1.toInt = st.length ∧ st.length ≤ 6 ∧ RS σ.2.2.2 st ∧ (b.toInt = 1 → rou σ.2.2.2 o1 ∧ o1.length ≤ 200) ∧ RUN tp nums (fun x => pcl tab n.toInt.toNat x) (σ.2.2.2.1 713 44).toInt st o1 = R0)
    (fun σ => (200 - (σ.2.2.2.1 713 44).toInt).toNat) ?_ 100000 _ ⟨rfl, rfl, rcg_fld (Or.inl rfl), fun _ => ⟨by dsimp only; rw [setI_at, if_neg (by omega)], by dsimp only; funext k; rw [setI_at, if_neg (by omega)]⟩, by dsimp only; rw [setI_at, if_pos ⟨rfl, rfl⟩, L.1]; omega, by dsimp only; rw [setI_at, if_pos ⟨rfl, rfl⟩, L.1]; omega, [], out0, L.1, Nat.zero_le _, trivial, fun h => ?_, by dsimp only; rw [setI_at, if_pos ⟨rfl, rfl⟩, L.1]; exact hR0⟩ (by dsimp only; rw [setI_at, if_pos ⟨rfl, rfl⟩, L.1]; omega)
  rotate_left
  · rcases hB with q | q
    · omega
    · refine ⟨⟨?_, fun k hk2 => ?_⟩, q.2.2⟩
      · dsimp only; rw [setI_at, if_neg (by omega)]; exact q.2.1.1
      · dsimp only; rw [setI_at, if_neg (by omega)]; exact q.2.1.2 k hk2
  rintro rc ⟨n', b', d, u⟩ ⟨rfl, rfl, hr, h9, hq0, hq1, st, o1, hd, h6, hS, hou, hrun⟩ ih
  dsimp only at *
  generalize hq : (u.1 713 44).toInt = q at *
  have frT : ∀ u2, rcg fml oml w u2 → rtab u2 = tab ∧ rta u2 tp ∧ nmr u2 nums := by
    intro u2 h2
    refine ⟨by rw [rtab_fr (h2.1 714 (by decide) (by unfold oml; decide))]; exact hT, ⟨by rw [h2.2.1 7 (by unfold fml; decide)]; exact ht.1, (sg_ext (fun i _ => by rw [h2.1 718 (by decide) (by unfold oml; decide)])).trans ht.2⟩, fun k h => by rw [h2.1 745 (by decide) (by unfold oml; decide)]; exact hN k h⟩
  obtain ⟨hTu, htu, hNu⟩ := frT u hr
  have fail : ∀ u2, rcg fml oml w u2 → (b'.toInt = 0 → u2.1 713 9 = w.1 713 9 ∧ u2.1 719 = w.1 719) → R0 = none → Wp (some ((0 : Int32), u2)) (fun r w' => rcg fml oml w w' ∧ (b'.toInt = 0 → w'.1 713 9 = w.1 713 9 ∧ w'.1 719 = w.1 719) ∧ ((r = 0 ∧ R0 = none) ∨ (r = 1 ∧ ∃ os, R0 = some os ∧ (b'.toInt = 1 → rou w' os)))) :=
    fun u2 h1 h2 h3 => wp_ret ⟨h1, h2, Or.inl ⟨rfl, h3⟩⟩
  unfold g_X11_readsMessage_7
  refine wp_ifle (fun z => ?_) (fun z => ?_)
  · rw [htu.1, hq] at z
    rw [RUN_end z] at hrun
    refine wp_ifeq (fun c => wp_ret ⟨hr, h9, Or.inr ⟨rfl, o1, ?_, fun h => (hou h).1⟩⟩) (fun c => fail u hr h9 ?_)
    · rw [← hrun, if_pos (List.eq_nil_of_length_eq_zero (by omega))]
    · rw [← hrun, if_neg (fun q2 => by rw [q2, List.length_nil] at hd; omega)]
  rw [htu.1, hq] at z
  rw [RUN_step t160 hq0 z] at hrun
  refine wp_bd (s_taping htu hb hq hq0) ?_
  rintro x _ ⟨rfl, hx⟩
  refine wp_wr ?_
  -- on by one
  have one : ∀ (u2 : Wd) (q2 : Int), rcg fml oml w u2 → (b'.toInt = 0 → u2.1 713 9 = w.1 713 9 ∧ u2.1 719 = w.1 719) → RS u2 st → (b'.toInt = 1 → rou u2 o1 ∧ o1.length ≤ 200) → (u2.1 713 44).toInt = q2 → 0 ≤ q2 → q2 ≤ 500 → ∃ u3, setI u2 713 44 (u2.1 713 44 + 1) = u3 ∧ rcg fml oml w u3 ∧ (b'.toInt = 0 → u3.1 713 9 = w.1 713 9 ∧ u3.1 719 = w.1 719) ∧ RS u3 st ∧ (b'.toInt = 1 → rou u3 o1 ∧ o1.length ≤ 200) ∧ (u3.1 713 44).toInt = q2 + 1 := by
    intro u2 q2 a1 a2 a3 a4 a5 a6 a7
    refine ⟨_, rfl, rcg_tr a1 (rcg_fld (Or.inl rfl)), fun h => ?_, RS_fr a3 (fun j _ _ => ?_), fun h => ⟨⟨?_, fun k hk2 => ?_⟩, (a4 h).2⟩, ?_⟩
    · rw [setI_at, if_neg (by omega)]; exact ⟨(a2 h).1, by funext k; rw [setI_at, if_neg (by omega)]; exact congrFun (a2 h).2 k⟩
    · rw [setI_at, if_neg (by omega), setI_at, if_neg (by omega), setI_at, if_neg (by omega)]; exact ⟨rfl, rfl, rfl⟩
    · rw [setI_at, if_neg (by omega)]; exact (a4 h).1.1
    · rw [setI_at, if_neg (by omega)]; exact (a4 h).1.2 k hk2
    · rw [setI_at, if_pos ⟨rfl, rfl⟩, i_add (by rw [a5]; omega), a5, L.2.1]
  obtain ⟨u1, e1, r1, n1, S1, o1r, q1⟩ := one u q hr h9 hS hou hq hq0 (by omega)
  rw [e1]
  -- one more round
  have again : ∀ (u2 : Wd) (d2 : Int32) (st2 : List Fch) (o2 : List Int), rcg fml oml w u2 → (b'.toInt = 0 → u2.1 713 9 = w.1 713 9 ∧ u2.1 719 = w.1 719) → q < (u2.1 713 44).toInt → (u2.1 713 44).toInt ≤ tp.length → d2.toInt = st2.length → st2.length ≤ 6 → RS u2 st2 → (b'.toInt = 1 → rou u2 o2 ∧ o2.length ≤ 200) → RUN tp nums (fun x => pcl tab n'.toInt.toNat x) (u2.1 713 44).toInt st2 o2 = R0 → Wp (rc (n', b', d2, u2)) (fun r w' => rcg fml oml w w' ∧ (b'.toInt = 0 → w'.1 713 9 = w.1 713 9 ∧ w'.1 719 = w.1 719) ∧ ((r = 0 ∧ R0 = none) ∨ (r = 1 ∧ ∃ os, R0 = some os ∧ (b'.toInt = 1 → rou w' os)))) := by
    intro u2 d2 st2 o2 a1 a2 a3 a4 a5 a6 a7 a8 a9
    exact ih (n', b', d2, u2) ⟨rfl, rfl, a1, a2, by dsimp only; omega, a4, st2, o2, a5, a6, a7, a8, a9⟩ (by dsimp only; omega)
  -- a case that begins at place qq of level dd
  have cas : ∀ (u2 : Wd) (dd : Int32) (f : Fch) (s2 : List Fch) (qq : Int), rcg fml oml w u2 → (b'.toInt = 0 → u2.1 713 9 = w.1 713 9 ∧ u2.1 719 = w.1 719) → q < qq → qq ≤ 500 → (u2.1 713 44).toInt = qq → dd.toInt = s2.length + 1 → s2.length + 1 ≤ 6 → (u2.1 742 (s2.length + 1)).toInt = f.1 → u2.1 743 (s2.length + 1) = bo f.2.1 → 0 ≤ f.1 ∧ f.1 < 4 → RS u2 s2 → (b'.toInt = 1 → rou u2 o1 ∧ o1.length ≤ 200) → (if kend tp qq ≠ -1 then RUN tp nums (fun x => pcl tab n'.toInt.toNat x) (kend tp qq) (nxt tp nums (fun x => pcl tab n'.toInt.toNat x) qq (f :: s2)) o1 else none) = R0 →
      Wp (f_X11_readsCase n' dd u2) (fun y u3 => (y = 0 ∧ rcg fml oml w u3 ∧ (b'.toInt = 0 → u3.1 713 9 = w.1 713 9 ∧ u3.1 719 = w.1 719) ∧ R0 = none) ∨ (y = 1 ∧ ∀ d2 : Int32, d2.toInt = s2.length + 1 → Wp (rc (n', b', d2, u3)) (fun r w' => rcg fml oml w w' ∧ (b'.toInt = 0 → w'.1 713 9 = w.1 713 9 ∧ w'.1 719 = w.1 719) ∧ ((r = 0 ∧ R0 = none) ∨ (r = 1 ∧ ∃ os, R0 = some os ∧ (b'.toInt = 1 → rou w' os)))))) := by
    intro u2 dd f s2 qq a1 a2 a3 a4 a5 a6 a7 a8 a9 a10 a11 a12 a13
    obtain ⟨hT2, ht2, hN2⟩ := frT u2 a1
    have dn : dd.toInt.toNat = s2.length + 1 := by omega
    refine (s_readsCase (wh := f.1) (c := f.2.1) hk hT2 ht2 hb hn hN2 hnn a5 (by omega) (by omega) (by rw [dn]; exact a8) a10 (by rw [dn]; exact a9)).mono ?_
    rintro y u3 ⟨b1, b2, b3⟩
    rw [dn] at b2 b3
    have b1' : rcg fml oml w u3 := rcg_tr a1 (rcg_mono b1 (fun _ q => Or.inl q) (fun _ q => q.elim (fun e => Or.inr (Or.inr (Or.inl e))) (fun e => Or.inr (Or.inr (Or.inr e)))))
    have b9 : b'.toInt = 0 → u3.1 713 9 = w.1 713 9 ∧ u3.1 719 = w.1 719 := fun h => by rw [b1.2.1 9 (by unfold f44; decide), b1.1 719 (by decide) (by unfold o434; decide)]; exact a2 h
    rcases b3 with ⟨rfl, c1⟩ | ⟨rfl, c1, c2, c3, c4⟩
    · exact Or.inl ⟨rfl, b1', b9, by rw [← a13, if_neg (fun z => z c1)]⟩
    · refine Or.inr ⟨rfl, fun d2 hd2 => ?_⟩
      rw [if_pos c1] at a13
      have KG := kend_gt c1
      have KL := kend_le c1
      refine again u3 d2 (nxt tp nums (fun x => pcl tab n'.toInt.toNat x) qq (f :: s2)) o1 b1' b9 (by omega) (by omega) (by rw [hd2]; unfold nxt; rw [List.length_cons]; omega) (by unfold nxt; rw [List.length_cons]; omega) ⟨⟨?_, c3, c4, a10.1, a10.2⟩, RS_fr a11 (fun j j1 j2 => ?_)⟩ (fun h => ⟨⟨?_, fun k hk2 => ?_⟩, (a12 h).2⟩) (by rw [c2]; exact a13)
      · rw [b1.1 742 (by decide) (by unfold o434; decide)]; exact a8
      · rw [b1.1 742 (by decide) (by unfold o434; decide), (b2 j (by omega)).1, (b2 j (by omega)).2]; exact ⟨rfl, rfl, rfl⟩
      · rw [b1.2.1 9 (by unfold f44; decide)]; exact (a12 h).1.1
      · rw [b1.1 719 (by decide) (by unfold o434; decide)]; exact (a12 h).1.2 k hk2
  have outs : ∀ (u2 u3 : Wd) (o2 : List Int), rcg fml oml w u2 → RS u2 st → rcg f9 o719 u2 u3 → rou u3 o2 → o2.length ≤ 200 → b'.toInt ≠ 0 → q < (u2.1 713 44).toInt → (u2.1 713 44).toInt ≤ tp.length → RUN tp nums (fun x => pcl tab n'.toInt.toNat x) (u2.1 713 44).toInt st o2 = R0 → Wp (rc (n', b', d, u3)) (fun r w' => rcg fml oml w w' ∧ (b'.toInt = 0 → w'.1 713 9 = w.1 713 9 ∧ w'.1 719 = w.1 719) ∧ ((r = 0 ∧ R0 = none) ∨ (r = 1 ∧ ∃ os, R0 = some os ∧ (b'.toInt = 1 → rou w' os)))) := by
    intro u2 u3 o2 a1 a2 a3 a4 a5 a6 a7 a8 a9
    have e44 : u3.1 713 44 = u2.1 713 44 := a3.2.1 44 (by unfold f9; decide)
    refine again u3 d st o2 (rcg_tr a1 (rcg_mono a3 (fun _ q => Or.inr q) (fun _ q => Or.inl q))) (fun h => absurd h a6) (by rw [e44]; exact a7) (by rw [e44]; exact a8) hd h6 (RS_fr a2 (fun j _ _ => ?_)) (fun _ => ⟨a4, a5⟩) (by rw [e44]; exact a9)
    rw [a3.1 742 (by decide) (by unfold o719; decide), a3.1 743 (by decide) (by unfold o719; decide), a3.1 744 (by decide) (by unfold o719; decide)]
    exact ⟨rfl, rfl, rfl⟩
  refine wp_ifeq (fun c => ?_) (fun c => ?_)
  · -- {
    rw [if_pos (by omega)] at hrun
    obtain ⟨hT1, ht1, hN1⟩ := frT u1 r1
    refine wp_bd (s_taping ht1 hb q1 (by omega)) ?_
    rintro y _ ⟨rfl, hy⟩
    have R1 := tp_rng hb (q + 1)
    refine wp_sub (by omega) (fun dg hdg => wp_wr ?_)
    obtain ⟨u2, e2, r2, n2, S2, o2r, q2⟩ := one u1 (q + 1) r1 n1 S1 o1r q1 (by omega) (by omega)
    rw [e2]
    obtain ⟨hT2, ht2, hN2⟩ := frT u2 r2
    refine wp_bd (s_taping ht2 hb q2 (by omega)) ?_
    rintro v _ ⟨rfl, hv⟩
    rw [show q + 1 + 1 = q + 2 by omega] at hv
    refine wp_wr ?_
    obtain ⟨u3, e3, r3, n3, S3, o3r, q3⟩ := one u2 (q + 1 + 1) r2 n2 S2 o2r q2 (by omega) (by omega)
    rw [e3]
    obtain ⟨hT3, ht3, hN3⟩ := frT u3 r3
    rw [e_in, bd_r, ite_zo, L.1, L.2.2.2.2.1]
    refine wp_if (fun cd => ?_) (fun cd => fail u3 r3 n3 (by rw [← hrun, if_neg (by omega)]))
    rw [if_pos (by omega)] at hrun
    unfold f_X11_readsMessage_108
    refine wp_ifeq (fun c2 => ?_) (fun c2 => ?_)
    · -- }
      rw [if_pos (by omega)] at hrun
      have lt3 := (gt_len (tp := tp) (p := q + 2) (by omega)).2
      refine wp_ifeq (fun c3 => by omega) (fun _ => ?_)
      have q33 : (u3.1 713 44).toInt = q + 3 := by omega
      refine wp_ifeq (fun c0 => ?_) (fun c0 => ?_)
      · exact again u3 d st _ r3 n3 (by omega) (by omega) hd h6 S3 (fun h => absurd h (by omega)) (by rw [q33]; exact hrun)
      · refine wp_bd (s_isHeard S3 h6 hd) ?_
        rintro hh _ ⟨rfl, rfl⟩
        refine wp_ifeq (fun c4 => ?_) (fun c4 => ?_)
        · rw [bo_0.mp c4, if_neg (by decide)] at hrun
          exact again u3 d st o1 r3 n3 (by omega) (by omega) hd h6 S3 o3r (by rw [q33]; exact hrun)
        · have ht1 : hrd st = true := by
            cases e : hrd st with
            | true => rfl
            | false => exact absurd (bo_0.mpr e) c4
          rw [if_pos ht1] at hrun
          have b1 := (hB.resolve_left (fun z => c0 (by rw [z]; exact L.1.symm))).1
          refine wp_ald (by rw [l4.2.2.2]; omega) ?_
          have nv : (u3.1 745 dg.toInt.toNat).toInt = gt nums (gt tp (q + 1) - 48) := by
            rw [hN3 _ (by omega), show ((dg.toInt.toNat : Nat) : Int) = gt tp (q + 1) - 48 by omega]
          have nr := hnn (gt tp (q + 1) - 48) (by omega) (by omega)
          refine wp_bd (s_putsNumber (n := u3.1 745 dg.toInt.toNat) (o3r b1).1 (o3r b1).2 (by omega)) ?_
          rintro _ u4 ⟨g1, g2⟩
          rw [nv] at g2
          exact outs u3 u4 _ r3 S3 g1 g2 (cps_len _ _ (o3r b1).2) (by omega) (by omega) (by omega) (by rw [q33]; exact hrun)
    · -- :
      rw [if_neg (by omega)] at hrun
      refine wp_ifeq (fun c3 => wp_ifeq (fun c4 => fail u3 r3 n3 (by rw [← hrun, if_neg (fun z => by omega)])) (fun c4 => ?_)) (fun c3 => fail u3 r3 n3 (by rw [← hrun, if_neg (fun z => by omega)]))
      have d6 : st.length < 6 := by
        have e6 : (6 : Int32).toInt = 6 := by decide
        omega
      refine wp_ifeq (fun _ => ?_) (fun z => absurd c3 z)
      refine wp_add (by omega) (fun d5 hd5 => ?_)
      have hd5' : d5.toInt = st.length + 1 := by omega
      have dn : d5.toInt.toNat = st.length + 1 := by omega
      refine wp_ast (by rw [l4.1]; omega) (wp_ast (by rw [l4.2.1]; omega) ?_)
      rw [dn]
      have r4 : rcg fml oml w (setI (setI u3 742 (st.length + 1) dg) 743 (st.length + 1) 0) := rcg_tr (rcg_tr r3 (rcg_set (by decide) (Or.inr (Or.inl rfl)))) (rcg_set (by decide) (Or.inr (Or.inr (Or.inl rfl))))
      have g42 : (setI (setI u3 742 (st.length + 1) dg) 743 (st.length + 1) 0).1 742 (st.length + 1) = dg := by rw [setI_at, if_neg (by omega), setI_at, if_pos ⟨rfl, rfl⟩]
      have g43 : (setI (setI u3 742 (st.length + 1) dg) 743 (st.length + 1) 0).1 743 (st.length + 1) = bo false := by rw [setI_at, if_pos ⟨rfl, rfl⟩]; rfl
      have g44 : ((setI (setI u3 742 (st.length + 1) dg) 743 (st.length + 1) 0).1 713 44).toInt = q + 3 := by rw [setI_at, if_neg (by omega), setI_at, if_neg (by omega)]; omega
      have gS : RS (setI (setI u3 742 (st.length + 1) dg) 743 (st.length + 1) 0) st := RS_fr S3 (fun j j1 j2 => by
        rw [setI_at, if_neg (by omega), setI_at, if_neg (by omega), setI_at, if_neg (by omega), setI_at, if_neg (by omega), setI_at, if_neg (by omega), setI_at, if_neg (by omega)]; exact ⟨rfl, rfl, rfl⟩)
      have g9 : b'.toInt = 0 → (setI (setI u3 742 (st.length + 1) dg) 743 (st.length + 1) 0).1 713 9 = w.1 713 9 ∧ (setI (setI u3 742 (st.length + 1) dg) 743 (st.length + 1) 0).1 719 = w.1 719 := fun h => by
        rw [setI_at, if_neg (by omega), setI_at, if_neg (by omega)]
        exact ⟨(n3 h).1, by funext k; rw [setI_at, if_neg (by omega), setI_at, if_neg (by omega)]; exact congrFun (n3 h).2 k⟩
      have gO : b'.toInt = 1 → rou (setI (setI u3 742 (st.length + 1) dg) 743 (st.length + 1) 0) o1 ∧ o1.length ≤ 200 := fun h => ⟨⟨by rw [setI_at, if_neg (by omega), setI_at, if_neg (by omega)]; exact (o3r h).1.1, fun k hk2 => by rw [setI_at, if_neg (by omega), setI_at, if_neg (by omega)]; exact (o3r h).1.2 k hk2⟩, (o3r h).2⟩
      generalize setI (setI u3 742 (st.length + 1) dg) 743 (st.length + 1) 0 = u4 at *
      refine wp_bd (cas u4 d5 (gt tp (q + 1) - 48, false, false) st (q + 3) r4 g9 (by omega) (by omega) g44 hd5' (by omega) (by rw [g42]; exact (by omega : dg.toInt = gt tp (q + 1) - 48)) g43 ⟨by show 0 ≤ gt tp (q + 1) - 48; omega, by show gt tp (q + 1) - 48 < 4; omega⟩ gS gO ?_) ?_
      · rw [← hrun]
        by_cases g : kend tp (q + 3) ≠ -1
        · rw [if_pos g, if_pos ⟨by omega, d6, g⟩]
        · rw [if_neg g, if_neg (fun z => g z.2.2)]
      · rintro y5 u5 hy5
        rcases hy5 with ⟨rfl, m1, m2, m3⟩ | ⟨rfl, m1⟩
        · exact wp_ifeq (fun _ => fail u5 m1 m2 m3) (fun z => absurd rfl z)
        · exact wp_ifeq (fun z => absurd z (by decide)) (fun _ => m1 d5 hd5')
  · rw [if_neg (by omega)] at hrun
    unfold f_X11_readsMessage_184 f_X11_readsMessage_206
    refine wp_ifeq (fun c2 => ?_) (fun c2 => ?_)
    · -- |
      rw [if_pos (by omega)] at hrun
      refine wp_ifeq (fun c3 => fail u1 r1 n1 ?_) (fun c3 => ?_)
      · rw [← hrun, if_neg (fun z => z.1 (List.eq_nil_of_length_eq_zero (by omega)))]
      · cases hst : st with
        | nil => rw [hst, List.length_nil] at hd; omega
        | cons f s2 =>
          rw [hst] at hrun S1 h6 hd
          rw [List.length_cons] at h6 hd
          refine wp_ifeq (fun _ => ?_) (fun z => absurd c2 z)
          refine wp_bd (cas u1 d f s2 (q + 1) r1 n1 (by omega) (by omega) q1 (by omega) h6 S1.1.1 S1.1.2.1 S1.1.2.2.2 S1.2 o1r ?_) ?_
          · rw [← hrun]
            by_cases g : kend tp (q + 1) ≠ -1
            · rw [if_pos g, if_pos ⟨List.cons_ne_nil _ _, g⟩]
            · rw [if_neg g, if_neg (fun z => g z.2)]
          · rintro y5 u5 hy5
            rcases hy5 with ⟨rfl, m1, m2, m3⟩ | ⟨rfl, m1⟩
            · exact wp_ifeq (fun _ => fail u5 m1 m2 m3) (fun z => absurd rfl z)
            · refine wp_ifeq (fun z => absurd z (by decide)) (fun _ => wp_ifeq (fun z => by omega) (fun _ => wp_sub (by omega) (fun d2 hd2 => m1 d2 (by omega))))
    refine wp_ifeq (fun c3 => ?_) (fun c3 => ?_)
    · -- }
      rw [if_neg (by omega), if_pos (by omega)] at hrun
      refine wp_ifeq (fun c4 => fail u1 r1 n1 ?_) (fun c4 => ?_)
      · rw [← hrun, if_neg (fun z => z (List.eq_nil_of_length_eq_zero (by omega)))]
      · cases hst : st with
        | nil => rw [hst, List.length_nil] at hd; omega
        | cons f s2 =>
          rw [hst] at hrun S1 h6 hd
          rw [List.length_cons] at h6 hd
          rw [if_pos (List.cons_ne_nil _ _), List.tail_cons] at hrun
          refine wp_ifeq (fun z => by omega) (fun _ => wp_ifeq (fun _ => wp_sub (by omega) (fun d2 hd2 => ?_)) (fun z => absurd c3 z))
          exact again u1 d2 s2 o1 r1 n1 (by omega) (by omega) (by omega) (by omega) S1.2 o1r (by rw [q1]; exact hrun)
    · rw [if_neg (by omega), if_neg (by omega)] at hrun
      rw [e_in, bd_r, ite_zo, e32, e126]
      refine wp_if (fun c4 => ?_) (fun c4 => fail u1 r1 n1 (by rw [← hrun, if_neg (by omega)]))
      rw [if_pos (by omega)] at hrun
      refine wp_ifeq (fun c0 => ?_) (fun c0 => ?_)
      · exact again u1 d st _ r1 n1 (by omega) (by omega) hd h6 S1 (fun h => absurd h (by omega)) (by rw [q1]; exact hrun)
      · refine wp_bd (s_isHeard S1 h6 hd) ?_
        rintro hh _ ⟨rfl, rfl⟩
        refine wp_ifeq (fun c5 => ?_) (fun c5 => ?_)
        · rw [bo_0.mp c5, if_neg (by decide)] at hrun
          exact again u1 d st o1 r1 n1 (by omega) (by omega) hd h6 S1 o1r (by rw [q1]; exact hrun)
        · have ht1 : hrd st = true := by
            cases e : hrd st with
            | true => rfl
            | false => exact absurd (bo_0.mpr e) c5
          rw [if_pos ht1] at hrun
          have b1 := (hB.resolve_left (fun z => c0 (by rw [z]; exact L.1.symm))).1
          refine wp_bd (s_puts (o1r b1).1 (o1r b1).2) ?_
          rintro _ u4 ⟨g1, g2⟩
          rw [hx] at g2
          exact outs u1 u4 _ r1 S1 g1 g2 (cpp_len (o1r b1).2) (by omega) (by omega) (by omega) (by rw [q1]; exact hrun)
