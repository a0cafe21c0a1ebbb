/-! ===== transliterate: the class ===== -/
theorem tk_s {l : List Int} {k : Nat} (h : k < l.length) : l.take (k + 1) = l.take k ++ [gt l k] := by
  rw [gt_nat, List.getD_eq_getElem?_getD, List.getElem?_eq_getElem h]
  exact (List.take_append_getElem h).symm
theorem s_put19 {w : Wd} {q t : Nat} {l d : List Int} (ho : okall w) (hq : KD q = 7) (ht : KD t = 7) (hne : q ≠ t) (h40 : LEN (t + 1) = 40) (hl : rl w q = l) (hd : rl w t = d) :
    Wp (f_X8_putTarget_19 t q 0 w) (fun r w' => (d.length + l.length ≤ 40 ∧ r = 1 ∧ rs w w' t (d ++ l)) ∨ (¬ d.length + l.length ≤ 40 ∧ r = 0 ∧ ∃ l', rs w w' t l')) := by
  have L := LIT
  have d40 : d.length ≤ 40 := by have := rl_le (ho _ ht); rw [hd] at this; omega
  have l242 : l.length ≤ 242 := by have := rl_le (ho _ hq); have := okr_len (ho _ hq); rw [hl] at *; omega
  unfold f_X8_putTarget_19
  rw [FUv]
  refine wp_loop (fun σ : Nat × Nat × Int32 × Wd => σ.1 = t ∧ σ.2.1 = q ∧ 0 ≤ σ.2.2.1.toInt ∧ σ.2.2.1.toInt ≤ l.length ∧ d.length + σ.2.2.1.toInt ≤ 40 ∧ rs w σ.2.2.2 t (d ++ l.take σ.2.2.1.toInt.toNat))
    (fun σ => (l.length - σ.2.2.1.toInt).toNat) ?_ 100000 _ ⟨rfl, rfl, by dsimp only; omega, by dsimp only; omega, by dsimp only; omega, by
      dsimp only
      rw [L.1, show Int.toNat 0 = 0 from rfl, List.take_zero, List.append_nil, ← hd]
      exact rs_rf (ho _ ht)⟩ (by dsimp only; omega)
  rintro rc ⟨t', q', k, u⟩ ⟨rfl, rfl, hk0, hk1, hk2, hr⟩ ih
  dsimp only at *
  unfold g_X8_putTarget_19
  have oku := okall_rs ho hr
  have rq : rl u q' = l := by rw [rs_rl hr hq hne, hl]
  refine wp_bd (s_size (oku _ hq)) ?_
  rintro n _ ⟨rfl, hn⟩
  rw [rq] at hn
  refine wp_ifle (fun z => wp_ret (Or.inl ⟨by omega, rfl, ?_⟩)) (fun z => ?_)
  · rw [List.take_of_length_le (by omega)] at hr; exact hr
  refine wp_bd (s_get (oku _ hq)) ?_
  rintro x _ ⟨rfl, hx⟩
  rw [rq] at hx
  have ln : (d ++ l.take k.toInt.toNat).length = d.length + k.toInt.toNat := by rw [List.length_append, List.length_take]; omega
  have rt : rl u t' = d ++ l.take k.toInt.toNat := rs_l hr
  by_cases c : d.length + k.toInt.toNat < 40
  · refine wp_bd (s_add (oku _ ht) (by rw [rt, ln, h40]; exact c)) ?_
    rintro y u2 ⟨rfl, h2⟩
    rw [rt, hx, List.append_assoc, show k.toInt = ((k.toInt.toNat : Nat) : Int) by omega, Int.toNat_natCast, ← tk_s (by omega)] at h2
    refine wp_ifeq (fun z => by omega) (fun _ => wp_add (by omega) (fun z hz => ?_))
    refine ih (t', q', z, u2) ⟨rfl, rfl, by dsimp only; omega, by dsimp only; omega, by dsimp only; omega, ?_⟩ (by dsimp only; omega)
    dsimp only
    rw [show z.toInt.toNat = k.toInt.toNat + 1 by omega]
    exact rs_tr hr h2
  · refine wp_bd (s_add_full (oku _ ht) (by rw [rt, ln, h40]; omega)) ?_
    rintro y _ ⟨rfl, rfl⟩
    exact wp_ifeq (fun _ => wp_ret (Or.inr ⟨by omega, rfl, _, hr⟩)) (fun z => by omega)
theorem s_putTarget {w : Wd} {o t : Nat} {tab : Nat → Int} {b : Int32} {i : Nat} {d : List Int} (ho : okall w) (h8 : KD o = 8) (ol : o + 8 < t) (h : ruel w o tab i) (ht : KD t = 7) (h40 : LEN (t + 1) = 40) (hd : rl w t = d) :
    Wp (f_X8_putTarget o b t w) (fun r w' => (d.length + (rlT b.toInt tab i).length ≤ 40 ∧ r = 1 ∧ rs w w' t (d ++ rlT b.toInt tab i)) ∨ (¬ d.length + (rlT b.toInt tab i).length ≤ 40 ∧ r = 0 ∧ ∃ l', rs w w' t l')) := by
  have L := LIT
  have RF := rule_facts o h8
  obtain ⟨c0, c1, c2, c3, c4⟩ := h
  unfold f_X8_putTarget f_X8_putTarget_15
  refine wp_ifeq (fun c => ?_) (fun c => ?_)
  · unfold rlT
    rw [if_pos (by rw [c]; exact L.1)]
    exact s_put19 ho RF.2.2.2.2.2.2.1 ht (by omega) h40 c4 hd
  · unfold rlT
    rw [if_neg (fun q => c (by rw [q]; exact L.1.symm))]
    exact s_put19 ho RF.2.2.1 ht (by omega) h40 c2 hd
theorem s_passInto {w : Wd} {tab : Nat → Int} {pass b : Int32} {f t : Nat} {l : List Int} (hk : tok tab) (h : trel w 1 tab) (ho : okall w) (hf : KD f = 7) (ht : KD t = 7) (hne : f ≠ t) (h125 : 125 ≤ t) (h40 : LEN (t + 1) = 40) (hl : rl w f = l) (l40 : l.length ≤ 40) :
    Wp (f_X9_passInto 1 pass b f t w) (fun r w' => ∃ l', rs w w' t l' ∧ ((r = 1 ∧ ps1 tab pass.toInt b.toInt l 42 0 [] = some l') ∨ (r = 0 ∧ ps1 tab pass.toInt b.toInt l 42 0 [] = none))) := by
  have L := LIT
  have e40 : (40 : Int32).toInt = 40 := by decide
  unfold f_X9_passInto
  refine wp_bd (s_cut0 (ho _ ht)) ?_
  rintro _ w0 h0
  unfold f_X9_passInto_12
  rw [FUv]
  refine wp_loop (fun σ : Nat × Int32 × Int32 × Nat × Nat × Int32 × Int32 × Wd => σ.1 = 1 ∧ σ.2.1 = pass ∧ σ.2.2.1 = b ∧ σ.2.2.2.1 = f ∧ σ.2.2.2.2.1 = t ∧ 0 ≤ σ.2.2.2.2.2.2.1.toInt ∧ σ.2.2.2.2.2.2.1.toInt ≤ σ.2.2.2.2.2.1.toInt ∧ σ.2.2.2.2.2.1.toInt ≤ l.length ∧ ∃ d : List Int, rs w σ.2.2.2.2.2.2.2 t d ∧ ∃ k : Nat, ps1 tab pass.toInt b.toInt l k σ.2.2.2.2.2.1.toInt d = ps1 tab pass.toInt b.toInt l 42 0 [] ∧ 42 - σ.2.2.2.2.2.1.toInt ≤ k)
    (fun σ => (l.length - σ.2.2.2.2.2.1.toInt).toNat) ?_ 100000 _ ⟨rfl, rfl, rfl, rfl, rfl, by dsimp only; omega, by dsimp only; omega, by dsimp only; omega, [], h0, 42, by dsimp only; rw [L.1], by dsimp only; omega⟩ (by dsimp only; omega)
  rintro rc ⟨o1, pass', b', f', t', p, st, u⟩ ⟨rfl, rfl, rfl, rfl, rfl, hs0, hs1, hp1, d, hr, k, hkk, hk2⟩ ih
  dsimp only at *
  unfold g_X9_passInto_12
  have oku := okall_rs ho hr
  have tu := trel_rs hk h hr h125
  have rf : rl u f' = l := by rw [rs_rl hr hf hne, hl]
  have rt : rl u t' = d := rs_l hr
  have d40 : d.length ≤ 40 := by have := rl_le (oku _ ht); rw [rt] at this; omega
  obtain ⟨k', rfl⟩ : ∃ k', k = k' + 1 := ⟨k - 1, by omega⟩
  refine wp_ifle (fun z => wp_ret ⟨d, hr, Or.inl ⟨rfl, by rw [← hkk, ps1_out (by omega)]⟩⟩) (fun z => ?_)
  refine wp_bd (s_size (oku _ hf)) ?_
  rintro n _ ⟨rfl, hn⟩
  rw [rf] at hn
  refine wp_ifle (fun z => wp_ret ⟨d, hr, Or.inl ⟨rfl, by rw [← hkk, ps1_out (by omega)]⟩⟩) (fun z2 => ?_)
  rw [ps1_in (by omega)] at hkk
  have fail : ∀ u2 l2, rs w u2 t' l2 → none = ps1 tab pass'.toInt b'.toInt l 42 0 [] → ∀ x1 x2 : Int32, Wp (f_X9_passInto_89 rc 1 pass' b' f' t' x1 x2 0 u2) (fun r w' => ∃ l', rs w w' t' l' ∧ ((r = 1 ∧ ps1 tab pass'.toInt b'.toInt l 42 0 [] = some l') ∨ (r = 0 ∧ ps1 tab pass'.toInt b'.toInt l 42 0 [] = none))) := by
    intro u2 l2 h2 hn x1 x2
    unfold f_X9_passInto_89
    exact wp_ifeq (fun _ => wp_ret ⟨l2, h2, Or.inr ⟨rfl, hn.symm⟩⟩) (fun q => absurd rfl q)
  have next : ∀ u2 l2, rs w u2 t' l2 → ∀ x1 : Int32, p.toInt < x1.toInt → x1.toInt ≤ l.length → ps1 tab pass'.toInt b'.toInt l k' x1.toInt l2 = ps1 tab pass'.toInt b'.toInt l 42 0 [] → Wp (f_X9_passInto_89 rc 1 pass' b' f' t' x1 st 1 u2) (fun r w' => ∃ l', rs w w' t' l' ∧ ((r = 1 ∧ ps1 tab pass'.toInt b'.toInt l 42 0 [] = some l') ∨ (r = 0 ∧ ps1 tab pass'.toInt b'.toInt l 42 0 [] = none))) := by
    intro u2 l2 h2 x1 a1 a2 he
    unfold f_X9_passInto_89
    refine wp_ifeq (fun q => by omega) (fun _ => wp_add (by omega) (fun y hy => ?_))
    exact ih (1, pass', b', f', t', x1, y, u2) ⟨rfl, rfl, rfl, rfl, rfl, by dsimp only; omega, by dsimp only; omega, by dsimp only; omega, l2, h2, k', he, by dsimp only; omega⟩ (by dsimp only; omega)
  refine wp_bdq (s_fittingRule (b := b') (pass := pass') hk tu oku hf ht rf rt (by omega)) ?_ ?_
  · rintro _ ⟨rfl, hA | hA⟩
    · rw [if_pos hA.1] at hkk
      refine wp_bd (s_get (oku _ hf)) ?_
      rintro x _ ⟨rfl, hx⟩
      rw [rf] at hx
      by_cases c : d.length + 1 ≤ 40
      · rw [if_pos c] at hkk
        refine wp_bd (s_add (oku _ ht) (by rw [rt, h40]; omega)) ?_
        rintro y u2 ⟨rfl, h2⟩
        rw [rt, hx] at h2
        refine wp_add (by omega) (fun z3 hz3 => ?_)
        refine next _ _ (rs_tr hr h2) _ (by omega) (by omega) ?_
        rw [show z3.toInt = p.toInt + 1 by omega]; exact hkk
      · rw [if_neg c] at hkk
        refine wp_bd (s_add_full (oku _ ht) (by rw [rt, h40]; omega)) ?_
        rintro y _ ⟨rfl, rfl⟩
        exact wp_add (by omega) (fun z3 hz3 => fail _ _ hr hkk _ _)
    · cases hA.2
  · rintro r _ ⟨rfl, hA | hA⟩
    · cases hA.2
    · rw [if_neg hA.1] at hkk
      have R := (ftr_rng (tab := tab) (pass := pass'.toInt) (b := b'.toInt) (l := l) (d := d) (p := p.toInt) 10 0 (by omega)).resolve_left hA.1
      have hA2 := Option.some.inj hA.2
      have hi8 := hk.2.2.2.2.1
      generalize ftr tab pass'.toInt b'.toInt l d p.toInt 10 0 = j at *
      have RU := tu.2.2.2.2 j.toNat (by omega)
      have K8 := KD_53 j.toNat (by omega)
      rw [← hA2] at RU K8
      refine wp_bd (s_putTarget (b := b') oku K8 (by omega) RU ht h40 rt) ?_
      rintro x u2 hx
      have SP : ∀ (l2 : List Int), rs u u2 t' l2 → ∀ x17, x17 ∈ [x] → Wp (bd (f_X8_sourceOf r b' u2) (fun r14 w13 => bd (f_X7_size r14 w13) (fun x16 w15 => lt (p + x16) (fun x17 => f_X9_passInto_89 rc 1 pass' b' f' t' x17 st x w15)))) (fun r w' => ∃ l', rs w w' t' l' ∧ ((r = 1 ∧ ps1 tab pass'.toInt b'.toInt l 42 0 [] = some l') ∨ (r = 0 ∧ ps1 tab pass'.toInt b'.toInt l 42 0 [] = none))) := by
        intro l2 h2 _ _
        have ok2 := okall_rs oku h2
        have RU2 := (trel_rs hk tu h2 h125).2.2.2.2 j.toNat (by omega)
        rw [← hA2] at RU2
        obtain ⟨q, e1, k7, hq⟩ := rule_src (b := b') K8 RU2
        rw [e1, bd_r]
        refine wp_bd (s_size (ok2 _ k7)) ?_
        rintro m _ ⟨rfl, hm⟩
        rw [hq] at hm
        have F := R.2.2
        have B := F.2.2.1.2.1
        refine wp_add (by omega) (fun z3 hz3 => ?_)
        rcases hx with ⟨g1, rfl, g2⟩ | ⟨g1, rfl, l3, g2⟩
        · rw [if_pos g1] at hkk
          refine next _ _ (rs_tr hr g2) _ (by have := F.2.1; omega) (by omega) ?_
          rw [show z3.toInt = p.toInt + (rlS b'.toInt tab j.toNat).length by omega]; exact hkk
        · rw [if_neg g1] at hkk
          exact fail _ _ (rs_tr hr g2) hkk _ _
      rcases hx with ⟨g1, rfl, g2⟩ | ⟨g1, rfl, l3, g2⟩
      · exact SP _ g2 _ (List.mem_singleton.mpr rfl)
      · exact SP _ g2 _ (List.mem_singleton.mpr rfl)
theorem row_pass : (KD 709 = 7 ∧ LEN (709 + 1) = 40) ∧ (KD 711 = 7 ∧ LEN (711 + 1) = 40) := by decide +kernel
theorem k_transliterate {w : Wd} {tab : Nat → Int} {txt : Nat → List Int} {s t b : Int32} (hk : tok tab) (h : trel w 1 tab) (ho : okall w) (hx : ctx w txt) (hkx : xok txt) :
    Wp (f_X10_transliterate s t b w) (fun r w' => okall w' ∧ trel w' 1 tab ∧ oc (fun k => scr k ∨ xin k) w w' ∧
      ((bad_two s.toInt t.toInt ∧ r = .inl 1 ∧ ctx w' txt) ∨ (¬ bad_two s.toInt t.toInt ∧ tra tab b.toInt (txt s.toInt.toNat) = none ∧ r = .inl 3 ∧ ctx w' txt) ∨
      (¬ bad_two s.toInt t.toInt ∧ ∃ ys, tra tab b.toInt (txt s.toInt.toNat) = some ys ∧ (∃ x : Int32, r = .inr x ∧ x.toInt = ys.length) ∧ ctx w' (xset txt t.toInt.toNat ys)))) := by
  have L := LIT
  unfold f_X10_transliterate
  simp only [e_textOf, bdx_c]
  refine wp_if (fun hs => ?_) (fun hs => wp_ret ⟨ho, h, oc_rf, Or.inl ⟨fun q => hs q.1, rfl, hx⟩⟩)
  refine wp_if (fun hT => ?_) (fun hT => wp_ret ⟨ho, h, oc_rf, Or.inl ⟨fun q => hT q.2, rfl, hx⟩⟩)
  have nb1 : ¬ bad_two s.toInt t.toInt := fun q => q ⟨hs, hT⟩
  have hsN := slot_lt hs
  have hTN := slot_lt hT
  have Y := hkx _ hsN
  have go : ∀ fp : Int32, fp.toInt = (if b.toInt = 0 then 0 else 1) → Wp (f_X10_transliterate_23 b (623 + 2 * s.toInt.toNat) (623 + 2 * t.toInt.toNat) fp w) (fun r w' => okall w' ∧ trel w' 1 tab ∧ oc (fun k => scr k ∨ xin k) w w' ∧
      ((bad_two s.toInt t.toInt ∧ r = .inl 1 ∧ ctx w' txt) ∨ (¬ bad_two s.toInt t.toInt ∧ tra tab b.toInt (txt s.toInt.toNat) = none ∧ r = .inl 3 ∧ ctx w' txt) ∨
      (¬ bad_two s.toInt t.toInt ∧ ∃ ys, tra tab b.toInt (txt s.toInt.toNat) = some ys ∧ (∃ x : Int32, r = .inr x ∧ x.toInt = ys.length) ∧ ctx w' (xset txt t.toInt.toNat ys)))) := by
    intro fp hfp
    have f1 : 0 ≤ fp.toInt ∧ fp.toInt ≤ 1 := by rw [hfp]; split <;> omega
    unfold f_X10_transliterate_23 f_X10_transliterate_67
    refine wp_bd (s_passInto (f := 623 + 2 * s.toInt.toNat) (t := 709) (b := b) (pass := fp) hk h ho (slot_kd _ hsN).1 row_pass.1.1 (by omega) (by omega) row_pass.1.2 (hx _ hsN) Y.1) ?_
    rintro r w1 ⟨m, h1, hr⟩
    have ok1 := okall_rs ho h1
    have t1 := trel_rs hk h h1 (by omega)
    have o1 : oc (fun k => scr k ∨ xin k) w w1 := oc_rs h1 (by unfold scr; omega) (by unfold scr; omega)
    have cx1 : ctx w1 txt := ctx_fr hx (fun k a b => h1.1 k (by omega) (by omega))
    have T : tra tab b.toInt (txt s.toInt.toNat) = (ps1 tab fp.toInt b.toInt (txt s.toInt.toNat) 42 0 []).bind (fun m => ps1 tab (1 - fp.toInt) b.toInt m 42 0 []) := by unfold tra; rw [hfp]
    rcases hr with ⟨rfl, hp⟩ | ⟨rfl, hp⟩
    · refine wp_ifeq (fun q => by omega) (fun _ => ?_)
      rw [hp, Option.bind_some] at T
      have s1 : ((1 : Int32) - fp).toInt = 1 - fp.toInt := by rw [i_sub (by omega), L.2.1]
      have m40 : m.length ≤ 40 := by have := rl_le (ok1 _ row_pass.1.1); rw [rs_l h1, row_pass.1.2] at this; exact this
      refine wp_bd (s_passInto (f := 709) (t := 711) (b := b) (pass := (1 : Int32) - fp) hk t1 ok1 row_pass.1.1 row_pass.2.1 (by omega) (by omega) row_pass.2.2 (rs_l h1) m40) ?_
      rintro r2 w2 ⟨ys, h2, hr2⟩
      rw [s1, ← T] at hr2
      have ok2 := okall_rs ok1 h2
      have t2 := trel_rs hk t1 h2 (by omega)
      have o2 : oc (fun k => scr k ∨ xin k) w w2 := oc_tr o1 (oc_rs h2 (by unfold scr; omega) (by unfold scr; omega))
      have cx2 : ctx w2 txt := ctx_fr cx1 (fun k a b => h2.1 k (by omega) (by omega))
      rcases hr2 with ⟨rfl, hp2⟩ | ⟨rfl, hp2⟩
      · refine wp_ifeq (fun q => by omega) (fun _ => ?_)
        have KT := slot_kd _ hTN
        have y40 : ys.length ≤ 40 := by have := rl_le (ok2 _ row_pass.2.1); rw [rs_l h2, row_pass.2.2] at this; exact this
        refine wp_bd (s_takeOver (ok2 _ KT.1) (ok2 _ row_pass.2.1) (by rw [rs_l h2, KT.2]; exact y40)) ?_
        rintro _ w3 h3
        rw [rs_l h2] at h3
        refine wp_bd (s_size (okall_rs ok2 h3 _ KT.1)) ?_
        rintro x _ ⟨rfl, hx2⟩
        rw [rs_l h3] at hx2
        exact wp_ret ⟨okall_rs ok2 h3, trel_rs hk t2 h3 (by omega), oc_tr o2 (oc_mono (oc_xin hTN h3) (fun k q => Or.inr q)), Or.inr (Or.inr ⟨nb1, ys, hp2, ⟨x, rfl, hx2⟩, ctx_rs hTN cx2 h3⟩)⟩
      · exact wp_ifeq (fun _ => wp_ret ⟨ok2, t2, o2, Or.inr (Or.inl ⟨nb1, hp2, rfl, cx2⟩)⟩) (fun q => by omega)
    · rw [hp] at T
      exact wp_ifeq (fun _ => wp_ret ⟨ok1, t1, o1, Or.inr (Or.inl ⟨nb1, T, rfl, cx1⟩)⟩) (fun q => by omega)
  refine wp_ifeq (fun c => go 0 (by rw [if_pos (by rw [c]; exact L.1)]; exact L.1)) (fun c => go 1 (by rw [if_neg (fun q => c (by rw [q]; exact L.1.symm))]; exact L.2.1))

