/-! ===== the reference's passes, transliterate ===== -/
theorem s_202 {w : Wd} {d : List Int} (hw : (w.1 713 11).toInt = d.length) (hg : ∀ k : Nat, k < d.length → (w.1 741 k).toInt = gt d k) (d40 : d.length ≤ 40) :
    Wp (f_X11_passes_202 0 w) (fun r w' => r = 1 ∧ rcg (fun _ => False) (fun k => k = 720) w w' ∧ rwk w' d) := by
  have L := LIT
  unfold f_X11_passes_202
  rw [FUv]
  refine wp_loop (fun σ : Int32 × Wd => 0 ≤ σ.1.toInt ∧ σ.1.toInt ≤ d.length ∧ rcg (fun _ => False) (fun k => k = 720) w σ.2 ∧ ∀ k : Nat, k < σ.1.toInt → (σ.2.1 720 k).toInt = gt d k)
    (fun σ => (d.length - σ.1.toInt).toNat) ?_ 100000 _ ⟨by dsimp only; omega, by dsimp only; omega, rcg_rf, fun k hk => by dsimp only at hk; omega⟩ (by dsimp only; omega)
  rintro rc ⟨k, u⟩ ⟨hk0, hk1, hr, h7⟩ ih
  dsimp only at *
  unfold g_X11_passes_202
  have e11 : (u.1 713 11).toInt = d.length := by rw [hr.2.1 11 (fun q => q)]; exact hw
  have e41 : ∀ k, u.1 741 k = w.1 741 k := fun k => by rw [hr.1 741 (by decide) (by decide)]
  refine wp_ifle (fun z => wp_ret ⟨rfl, hr, rwk_mk e11 (fun j hj => h7 j (by omega))⟩) (fun z => ?_)
  refine wp_ald (by rw [L741]; omega) (wp_ast (by rw [L720]; omega) (wp_add (by omega) (fun z3 hz3 => ?_)))
  refine ih (z3, _) ⟨by dsimp only; omega, by dsimp only; omega, rcg_tr hr (rcg_set (by decide) rfl), fun j hj => ?_⟩ (by dsimp only; omega)
  dsimp only at hj ⊢
  rw [setI_at]
  by_cases c : j = k.toInt.toNat
  · rw [if_pos ⟨rfl, c⟩, e41, hg _ (by omega), c]
  · rw [if_neg (fun q => c q.2)]; exact h7 j (by omega)
def fps (f : Nat) : Prop := f = 11 ∨ f = 39
def ops (k : Nat) : Prop := k = 720 ∨ k = 741
theorem rtab_741 {F : Nat → Prop} {w w' : Wd} (h : rcg F (fun k => k = 741) w w') : rtab w' = rtab w := rtab_fr (h.1 714 (by decide) (by decide))
theorem rwk_741 {w w' : Wd} {l : List Int} (h : rcg (fun f => f = 39) (fun k => k = 741) w w') (hw : rwk w l) : rwk w' l := rwk_fr hw (h.2.1 11 (by decide)) (h.1 720 (by decide) (by decide))
theorem s_passes {w : Wd} {tab : Nat → Int} {pass b : Int32} {l : List Int} (hk : tok tab) (ht : rtab w = tab) (hw : rwk w l) (l40 : l.length ≤ 40) :
    Wp (f_X11_passes pass b w) (fun r w' => rcg fps ops w w' ∧ ((r = 1 ∧ ∃ ys, ps1 tab pass.toInt b.toInt l 42 0 [] = some ys ∧ rwk w' ys) ∨ (r = 0 ∧ ps1 tab pass.toInt b.toInt l 42 0 [] = none))) := by
  have L := LIT
  have h714 := LENs.2.2.1
  have e40 : (40 : Int32).toInt = 40 := by decide
  have e12 : (12 : Int32).toInt = 12 := by decide
  unfold f_X11_passes
  refine wp_wr ?_
  unfold f_X11_passes_7
  rw [FUv]
  have R0 : rcg (fun f => f = 39) (fun k => k = 741) w (setI w 713 39 0) := rcg_fld rfl
  have Z0 : ((setI w 713 39 0).1 713 39).toInt = 0 := by rw [setI_at, if_pos ⟨rfl, rfl⟩]; exact L.1
  have up : ∀ u, rcg (fun f => f = 39) (fun k => k = 741) w u → rcg fps ops w u := fun u h => rcg_mono h (fun _ q => Or.inr q) (fun _ q => Or.inr q)
  refine wp_loop (fun σ : Int32 × Int32 × Int32 × Wd => σ.1 = pass ∧ σ.2.1 = b ∧ 0 ≤ σ.2.2.1.toInt ∧ σ.2.2.1.toInt ≤ l.length ∧ rcg (fun f => f = 39) (fun k => k = 741) w σ.2.2.2 ∧ ∃ d : List Int, r74 σ.2.2.2 d ∧ d.length ≤ 40 ∧ ∃ k : Nat, ps1 tab pass.toInt b.toInt l k σ.2.2.1.toInt d = ps1 tab pass.toInt b.toInt l 42 0 [] ∧ 42 - σ.2.2.1.toInt ≤ k)
    (fun σ => (l.length - σ.2.2.1.toInt).toNat) ?_ 100000 _ ⟨rfl, rfl, by dsimp only; omega, by dsimp only; omega, R0, [], ⟨Z0, fun k hk => absurd hk (Nat.not_lt_zero _)⟩, Nat.zero_le _, 42, by dsimp only; rw [L.1], by dsimp only; omega⟩ (by dsimp only; omega)
  rintro rc ⟨pass', b', p, u⟩ ⟨rfl, rfl, hp0, hp1, hr, d, hd, d40, k, hkk, hk2⟩ ih
  dsimp only at *
  unfold g_X11_passes_7
  have tu : rtab u = tab := by rw [rtab_741 hr]; exact ht
  have wu : rwk u l := rwk_741 hr hw
  obtain ⟨k', rfl⟩ : ∃ k', k = k' + 1 := ⟨k - 1, by omega⟩
  refine wp_ifle (fun z => ?_) (fun z => ?_)
  · rw [wu.1] at z
    rw [ps1_out (by omega)] at hkk
    refine wp_wr ?_
    refine (s_202 (d := d) (by rw [setI_at, if_pos ⟨rfl, rfl⟩]; exact hd.1) (fun k hk => by rw [setI_at, if_neg (by omega)]; exact hd.2 k hk) d40).mono ?_
    rintro r w' ⟨rfl, hr2, hw2⟩
    exact ⟨rcg_tr (up _ hr) (rcg_tr (rcg_fld (Or.inl rfl)) (rcg_mono hr2 (fun _ q => q.elim) (fun _ q => Or.inl q))), Or.inl ⟨rfl, d, hkk.symm, hw2⟩⟩
  rw [wu.1] at z
  rw [ps1_in (by omega)] at hkk
  refine wp_bd (s_ruleFor (pass := pass') (b := b') hk tu wu hd l40 d40 (by omega)) ?_
  rintro x _ ⟨rfl, hx⟩
  -- laying of what comes out: T, then on by n
  have lay : ∀ (T : List Int) (t0 : Int32) (n : Int), t0.toInt = T.length → T.length ≤ 3 → 0 < n → p.toInt + n ≤ l.length →
      (∀ (u2 : Wd) (d2 : List Int), rcg (fun f => f = 39) (fun k => k = 741) w u2 → r74 u2 d2 → d2.length ≤ 40 → ps1 tab pass'.toInt b'.toInt l k' (p.toInt + n) d2 = ps1 tab pass'.toInt b'.toInt l 42 0 [] → Wp (if x = (-1 : Int32) then lt (p + (1 : Int32)) (fun x5 => rc (pass', b', x5, u2)) else (if b' = 0 then ald u2 714 (x + (2 : Int32)) (fun x1 => lt (p + x1) (fun x2 => rc (pass', b', x2, u2))) else ald u2 714 (x + (4 : Int32)) (fun x3 => lt (p + x3) (fun x4 => rc (pass', b', x4, u2))))) (fun r w' => rcg fps ops w w' ∧ ((r = 1 ∧ ∃ ys, ps1 tab pass'.toInt b'.toInt l 42 0 [] = some ys ∧ rwk w' ys) ∨ (r = 0 ∧ ps1 tab pass'.toInt b'.toInt l 42 0 [] = none)))) →
      (∀ (u2 : Wd) (v6 : Int32) (rc78 : Int32 × Int32 × Int32 × Int32 × Int32 × Int32 × Wd → Option (Int32 × Wd)) (Q : Int32 → Wd → Prop), rcg (fun f => f = 39) (fun k => k = 741) w u2 → 0 ≤ v6.toInt ∧ v6.toInt < T.length → (∀ c : Int32, c.toInt = gt T v6.toInt.toNat → Wp (f_X11_passes_133 rc78 pass' b' p x t0 v6 741 (u2.1 713 39) c u2) Q) → Wp (if x = (-1 : Int32) then ald u2 720 p (fun x6 => f_X11_passes_133 rc78 pass' b' p x t0 v6 741 (u2.1 713 39) x6 u2) else (if b' = 0 then f_X11_passes_129 rc78 pass' b' p x t0 v6 741 (u2.1 713 39) 714 (x + (12 : Int32)) u2 else f_X11_passes_129 rc78 pass' b' p x t0 v6 741 (u2.1 713 39) 714 (x + (7 : Int32)) u2)) Q) →
      (if d.length + T.length ≤ 40 then ps1 tab pass'.toInt b'.toInt l k' (p.toInt + n) (d ++ T) else none) = ps1 tab pass'.toInt b'.toInt l 42 0 [] →
      Wp (f_X11_passes_59 rc pass' b' p x t0 u) (fun r w' => rcg fps ops w w' ∧ ((r = 1 ∧ ∃ ys, ps1 tab pass'.toInt b'.toInt l 42 0 [] = some ys ∧ rwk w' ys) ∨ (r = 0 ∧ ps1 tab pass'.toInt b'.toInt l 42 0 [] = none))) := by
    intro T t0 n h0 h3 hn hpn hend hrd hspec
    unfold f_X11_passes_59
    have s1 : ((u.1 713 39) + t0).toInt = d.length + T.length := by rw [i_add (by rw [hd.1]; omega), hd.1, h0]
    refine wp_ifle (fun c => ?_) (fun c => ?_)
    · rw [s1, e40] at c
      rw [if_pos (by omega)] at hspec
      unfold f_X11_passes_78
      rw [FUv]
      refine wp_loop (fun σ : Int32 × Int32 × Int32 × Int32 × Int32 × Int32 × Wd => σ.1 = pass' ∧ σ.2.1 = b' ∧ σ.2.2.1 = p ∧ σ.2.2.2.1 = x ∧ σ.2.2.2.2.1 = t0 ∧ 0 ≤ σ.2.2.2.2.2.1.toInt ∧ σ.2.2.2.2.2.1.toInt ≤ T.length ∧ rcg (fun f => f = 39) (fun k => k = 741) w σ.2.2.2.2.2.2 ∧ r74 σ.2.2.2.2.2.2 (d ++ T.take σ.2.2.2.2.2.1.toInt.toNat))
        (fun σ => (T.length - σ.2.2.2.2.2.1.toInt).toNat) ?_ 100000 _ ⟨rfl, rfl, rfl, rfl, rfl, by dsimp only; omega, by dsimp only; omega, hr, by
          dsimp only
          rw [L.1, show Int.toNat 0 = 0 from rfl, List.take_zero, List.append_nil]; exact hd⟩ (by dsimp only; omega)
      rintro rc78 ⟨pass2, b2, p2, x2, t2, j, u2⟩ ⟨rfl, rfl, rfl, rfl, rfl, hj0, hj1, hr2, hd2⟩ ih2
      dsimp only at *
      unfold g_X11_passes_78
      refine wp_ifle (fun z2 => ?_) (fun z2 => ?_)
      · rw [List.take_of_length_le (by omega)] at hd2
        exact hend u2 _ hr2 hd2 (by rw [List.length_append]; omega) hspec
      · refine hrd u2 j rc78 _ hr2 ⟨hj0, by omega⟩ (fun c1 hc1 => ?_)
        unfold f_X11_passes_133
        have ln : (d ++ T.take j.toInt.toNat).length = d.length + j.toInt.toNat := by rw [List.length_append, List.length_take]; omega
        have q39 := hd2.1
        rw [ln] at q39
        refine wp_ast (by rw [L741]; omega) (wp_wr (wp_add (by omega) (fun z3 hz3 => ?_)))
        have s39 : ((setI u2 741 (u2.1 713 39).toInt.toNat c1).1 713 39 + 1).toInt = d.length + j.toInt.toNat + 1 := by
          rw [setI_at, if_neg (by omega), i_add (by omega), q39, L.2.1]; omega
        refine ih2 (pass2, b2, p2, x2, t2, z3, _) ⟨rfl, rfl, rfl, rfl, rfl, by dsimp only; omega, by dsimp only; omega, rcg_tr hr2 (rcg_tr (rcg_set (by decide) rfl) (rcg_fld rfl)), ?_⟩ (by dsimp only; omega)
        dsimp only
        rw [show z3.toInt.toNat = j.toInt.toNat + 1 by omega, tk_s (by omega), ← List.append_assoc]
        refine ⟨?_, fun m hm => ?_⟩
        · rw [setI_at, if_pos ⟨rfl, rfl⟩, s39, List.length_append, ln, List.length_singleton]; omega
        · rw [List.length_append, ln, List.length_singleton] at hm
          rw [setI_at, if_neg (by omega), setI_at, gt_snoc, ln]
          by_cases e : m = d.length + j.toInt.toNat
          · rw [if_pos ⟨rfl, by omega⟩, if_pos (by omega), hc1]
          · rw [if_neg (by omega), if_neg (by omega)]; exact hd2.2 m (by rw [ln]; omega)
    · rw [s1, e40] at c
      rw [if_neg (by omega)] at hspec
      exact wp_ret ⟨up _ hr, Or.inr ⟨rfl, hspec.symm⟩⟩
  rcases hx with ⟨hx, x1⟩ | ⟨hx, x1⟩
  · have xe : x = -1 := i_eq.mpr (by rw [x1]; exact L.2.2.1.symm)
    rw [if_pos hx] at hkk
    rw [if_pos xe]
    refine lay [gt l p.toInt] 1 1 L.2.1 (by rw [List.length_singleton]; omega) (by omega) (by omega) (fun u2 d2 a1 a2 a3 a4 => ?_) (fun u2 v6 rc78 Q a1 a2 a3 => ?_) ?_
    · rw [if_pos xe]
      refine wp_add (by omega) (fun z3 hz3 => ?_)
      have hz4 : z3.toInt = p.toInt + 1 := by omega
      exact ih (pass', b', z3, u2) ⟨rfl, rfl, by dsimp only; omega, by dsimp only; omega, a1, d2, a2, a3, k', by dsimp only; rw [hz4]; exact a4, by dsimp only; omega⟩ (by dsimp only; omega)
    · rw [if_pos xe]
      rw [List.length_singleton] at a2
      refine wp_ald (by rw [L720]; omega) (a3 _ ?_)
      rw [rwk_at (rwk_741 a1 hw) (by omega), show v6.toInt.toNat = 0 by omega, show ((p.toInt.toNat : Nat) : Int) = p.toInt by omega, gt_nat, List.getD_cons_zero]
    · rw [List.length_singleton]; exact hkk
  · have R := (ftr_rng (tab := tab) (pass := pass'.toInt) (b := b'.toInt) (l := l) (d := d) (p := p.toInt) 10 0 (by omega)).resolve_left hx
    rw [if_neg hx] at hkk
    generalize ftr tab pass'.toInt b'.toInt l d p.toInt 10 0 = j at *
    have k4 := hk.2.2.2
    obtain ⟨r0, r1, r2, r3, r4, r5, r6⟩ := k4.2.2 j.toNat (by omega)
    have F := R.2.2
    have B := F.2.2.1.2.1
    have Bp := F.2.1
    have hj8 : j.toNat < 8 := by omega
    have xe : x ≠ -1 := fun q => by rw [q, L.2.2.1] at x1; omega
    rw [if_neg xe]
    have ad : ∀ (i : Int32) (n : Nat), i.toInt = n → n < 15 → (x + i).toInt = (1558 + 15 * j.toNat + n : Nat) := by
      intro i n hi hn
      rw [i_add (by omega), hi, x1]; omega
    have cell : ∀ (u2 : Wd), rtab u2 = tab → ∀ (i : Int32) (n : Nat), i.toInt = n → n < 15 → (u2.1 714 (x + i).toInt.toNat).toInt = tab (1558 + 15 * j.toNat + n) := by
      intro u2 hu i n hi hn
      rw [ad i n hi hn, Int.toNat_natCast]; exact congrFun hu _
    have inr : ∀ (i : Int32) (n : Nat), i.toInt = n → n < 15 → 0 ≤ (x + i).toInt ∧ (x + i).toInt < LEN 714 := by
      intro i n hi hn
      have := ad i n hi hn; omega
    by_cases c : b' = 0
    · have cb : b'.toInt = 0 := by rw [c]; exact L.1
      rw [if_pos c]
      have eS : rlS b'.toInt tab j.toNat = rl1 tab j.toNat := by unfold rlS; rw [if_pos cb]
      have eT : rlT b'.toInt tab j.toNat = rl2 tab j.toNat := by unfold rlT; rw [if_pos cb]
      have lS : (rl1 tab j.toNat).length = (tab (1558 + 15 * j.toNat + 2)).toNat := tl_len _ _ _
      have lT : (rl2 tab j.toNat).length = (tab (1558 + 15 * j.toNat + 4)).toNat := tl_len _ _ _
      rw [eS] at B Bp hkk
      rw [eT] at hkk
      refine wp_ald (inr 4 4 (by decide) (by omega)) ?_
      refine lay (rl2 tab j.toNat) _ (rl1 tab j.toNat).length (by rw [cell u tu 4 4 (by decide) (by omega)]; omega) (by omega) (by omega) (by omega) (fun u2 d2 a1 a2 a3 a4 => ?_) (fun u2 v6 rc78 Q a1 a2 a3 => ?_) hkk
      · rw [if_neg xe, if_pos c]
        refine wp_ald (inr 2 2 (by decide) (by omega)) ?_
        have cc := cell u2 (by rw [rtab_741 a1]; exact ht) 2 2 (by decide) (by omega)
        refine wp_add (by omega) (fun z3 hz3 => ?_)
        have hz4 : z3.toInt = p.toInt + (rl1 tab j.toNat).length := by omega
        exact ih (pass', b', z3, u2) ⟨rfl, rfl, by dsimp only; omega, by dsimp only; omega, a1, d2, a2, a3, k', by dsimp only; rw [hz4]; exact a4, by dsimp only; omega⟩ (by dsimp only; omega)
      · rw [if_neg xe, if_pos c]
        unfold f_X11_passes_129
        have a12 := ad 12 12 e12 (by omega)
        have s2 : ((x + (12 : Int32)) + v6).toInt = (1558 + 15 * j.toNat + 12 : Nat) + v6.toInt := by rw [i_add (by omega), a12]
        refine wp_ald (by omega) (a3 _ ?_)
        rw [show ((x + (12 : Int32)) + v6).toInt.toNat = 1558 + 15 * j.toNat + 12 + v6.toInt.toNat by omega]
        unfold rl2
        rw [tl_gtn (by omega)]
        exact congrFun ((rtab_741 a1).trans ht) _
    · have cb : ¬ b'.toInt = 0 := fun q => c (i_eq.mpr (by rw [q]; exact L.1.symm))
      rw [if_neg c]
      have eS : rlS b'.toInt tab j.toNat = rl2 tab j.toNat := by unfold rlS; rw [if_neg cb]
      have eT : rlT b'.toInt tab j.toNat = rl1 tab j.toNat := by unfold rlT; rw [if_neg cb]
      have lS : (rl1 tab j.toNat).length = (tab (1558 + 15 * j.toNat + 2)).toNat := tl_len _ _ _
      have lT : (rl2 tab j.toNat).length = (tab (1558 + 15 * j.toNat + 4)).toNat := tl_len _ _ _
      rw [eS] at B Bp hkk
      rw [eT] at hkk
      refine wp_ald (inr 2 2 (by decide) (by omega)) ?_
      refine lay (rl1 tab j.toNat) _ (rl2 tab j.toNat).length (by rw [cell u tu 2 2 (by decide) (by omega)]; omega) (by omega) (by omega) (by omega) (fun u2 d2 a1 a2 a3 a4 => ?_) (fun u2 v6 rc78 Q a1 a2 a3 => ?_) hkk
      · rw [if_neg xe, if_neg c]
        refine wp_ald (inr 4 4 (by decide) (by omega)) ?_
        have cc := cell u2 (by rw [rtab_741 a1]; exact ht) 4 4 (by decide) (by omega)
        refine wp_add (by omega) (fun z3 hz3 => ?_)
        have hz4 : z3.toInt = p.toInt + (rl2 tab j.toNat).length := by omega
        exact ih (pass', b', z3, u2) ⟨rfl, rfl, by dsimp only; omega, by dsimp only; omega, a1, d2, a2, a3, k', by dsimp only; rw [hz4]; exact a4, by dsimp only; omega⟩ (by dsimp only; omega)
      · rw [if_neg xe, if_neg c]
        unfold f_X11_passes_129
        have a7 := ad 7 7 (by decide) (by omega)
        have s2 : ((x + (7 : Int32)) + v6).toInt = (1558 + 15 * j.toNat + 7 : Nat) + v6.toInt := by rw [i_add (by omega), a7]
        refine wp_ald (by omega) (a3 _ ?_)
        rw [show ((x + (7 : Int32)) + v6).toInt.toNat = 1558 + 15 * j.toNat + 7 + v6.toInt.toNat by omega]
        unfold rl1
        rw [tl_gtn (by omega)]
        exact congrFun ((rtab_741 a1).trans ht) _
