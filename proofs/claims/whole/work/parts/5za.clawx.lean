/-! ===== the law's cases: texts, tape, what is put out ===== -/
section
variable {w w1 w2 : Wd} {tab : Nat → Int} {txt txt' : Nat → List Int} {nv : Nat} {sav : Nat → Nat → Int} {tp tp' os os' : List Int} {pt : Option (List PC)} {F S : Nat → Prop}
theorem g_cls (hO : OKS tab txt nv sav tp os) (hc : CLS w tab txt nv sav tp os pt) (hr : REF w tab txt nv sav tp os pt) (o : oc S w w1) (ok : okall w1) (s : ∀ k, S k → scr k ∨ (623 ≤ k ∧ k < 639)) (x : ctx w1 txt') (a : cta w1 tp') (u : cou w1 os') : CLS w1 tab txt' nv sav tp' os' pt ∧ REF w1 tab txt nv sav tp os pt := by
  have P := pat_rng hc.2.2.2.2.2.2.2.1
  have no : ∀ k, ¬ (623 ≤ k ∧ k < 674) → ¬ (692 ≤ k ∧ k < 713) → ¬ S k := fun k h1 h2 q => by have := s k q; unfold scr at this; omega
  exact ⟨CLS_oc hO hc o ok (no _ (by omega) (by omega)) (fun k _ _ => no _ (by omega) (by omega)) (fun k _ _ => no _ (by omega) (by omega)) (trel_oc hO.1 hc.2.1 o (fun k _ _ => no _ (by omega) (by omega))) x a u, REF_oc hr o (fun k _ => no _ (by omega) (by omega))⟩
theorem g_ref (hO : OKS tab txt' nv sav tp' os') (hc : CLS w1 tab txt' nv sav tp' os' pt) (hr : REF w1 tab txt nv sav tp os pt) (r : rcg F S w1 w2) (f : ∀ k, F k → k ≠ 3 ∧ k ≠ 31 ∧ k ≠ 32) (s : ∀ k, S k → 716 ≤ k ∧ k ≠ 736 ∧ k ≠ 737 ∧ k ≠ 738) (x : rtx w2 txt') (a : rta w2 tp') (u : rou w2 os') : INW w1 w2 := by
  obtain ⟨h1, h2, h3, h4, h5, h6⟩ := hr
  have no : ∀ k, k < 716 → ¬ S k := fun k hk q => by have := s k q; omega
  exact ⟨⟨tab, txt', nv, sav, tp', os', pt, CLS_fr hO hc r (fun k hk => no k (by omega)), ⟨rtab_rcg h1 r (no _ (by omega)), x, rvr_rcg h3 r (fun q => (f 3 q).1 rfl) (no _ (by omega)), a, u, hasR_rcg h6 r (fun q => (f 31 q).2.1 rfl) (fun q => (f 32 q).2.2 rfl) (fun q => (s _ q).2.1 rfl) (fun q => (s _ q).2.2.1 rfl) (fun q => (s _ q).2.2.2 rfl)⟩, hO⟩, r.2.2⟩
/-- texts alone -/
theorem x_ref (hO : OKS tab txt' nv sav tp os) (hc : CLS w1 tab txt' nv sav tp os pt) (hr : REF w1 tab txt nv sav tp os pt) (r : rcg F S w1 w2) (f : ∀ k, F k → k ≠ 3 ∧ k ≠ 31 ∧ k ≠ 32 ∧ k ≠ 7 ∧ k ≠ 9) (s : ∀ k, S k → 716 ≤ k ∧ k ≠ 736 ∧ k ≠ 737 ∧ k ≠ 738 ∧ k ≠ 718 ∧ k ≠ 719) (x : rtx w2 txt') : INW w1 w2 :=
  g_ref hO hc hr r (fun k q => by have := f k q; omega) (fun k q => by have := s k q; omega) x (rta_rcg hr.2.2.2.1 r (fun q => (f 7 q).2.2.2.1 rfl) (fun q => (s _ q).2.2.2.2.1 rfl)) (rou_rcg hr.2.2.2.2.1 r (fun q => (f 9 q).2.2.2.2 rfl) (fun q => (s _ q).2.2.2.2.2 rfl))
theorem rxs_s : ∀ k, rxs k → 716 ≤ k ∧ k ≠ 736 ∧ k ≠ 737 ∧ k ≠ 738 ∧ k ≠ 718 ∧ k ≠ 719 := fun k q => by unfold rxs at q; omega
theorem f0_x : ∀ k, (fun f => f = 0) k → k ≠ 3 ∧ k ≠ 31 ∧ k ≠ 32 ∧ k ≠ 7 ∧ k ≠ 9 := fun k h => by have h2 : k = 0 := h; omega
theorem law_put {s l : Int32} (h : INV w) : Wp (f_X10_put s l w) (fun r w1 => ∀ u : Wd, sameW w1 u → Wp (f_X11_put s l u) (fun v w2 => INW u w2 ∧ ag kc13 r (w2.1 713 0) v)) := by
  obtain ⟨tab, txt, nv, sav, tp, os, pt, hc, hr, hO⟩ := h
  refine (k_put hc.1 hc.2.2.1 hO.2.1).mono ?_
  rintro r w1 hk u su
  rcases hk with ⟨b1, rfl, rfl⟩ | ⟨b1, b2, rfl, rfl⟩ | ⟨b1, b2, ⟨x, rfl, hx⟩, cx, ok, o⟩
  · have hc := CLS_same su hc
    have hr := REF_same su hr
    refine (r_put hr.2.1 hO.2.1).mono ?_
    rintro v w2 ⟨rr, hv⟩
    rcases hv with ⟨e1, e2, e3⟩ | ⟨e1, e⟩ | ⟨e1, e⟩
    · exact ⟨x_ref hO hc hr rr f0_x rxs_s e3, agE e2 rfl (by decide)⟩
    · exact absurd b1 e1
    · exact absurd b1 e1
  · have hc := CLS_same su hc
    have hr := REF_same su hr
    refine (r_put hr.2.1 hO.2.1).mono ?_
    rintro v w2 ⟨rr, hv⟩
    rcases hv with ⟨e1, e2, e3⟩ | ⟨e1, e2, e3, e4⟩ | ⟨e1, e2, e⟩
    · exact absurd e1 b1
    · exact ⟨x_ref hO hc hr rr f0_x rxs_s e4, agE e3 rfl (by decide)⟩
    · exact absurd b2 e2
  · have B := not_or.mp b1
    have B1 := Classical.not_not.mp B.1
    have B2 := Classical.not_not.mp B.2
    have C := g_cls hO hc hr o ok (fun k q => by unfold xin at q; omega) cx (cta_oc hc.2.2.2.2.1 o (by unfold xin; omega) (by unfold xin; omega)) (cou_oc hc.2.2.2.2.2.1 o (by unfold xin; omega) (by unfold xin; omega))
    have C := And.imp (CLS_same su) (REF_same su) C
    refine (r_put C.2.2.1 hO.2.1).mono ?_
    rintro v w2 ⟨rr, hv⟩
    rcases hv with ⟨e1, e2, e3⟩ | ⟨e1, e2, e3, e4⟩ | ⟨e1, e2, e3, e4, e5⟩
    · exact absurd e1 b1
    · exact absurd e2 b2
    · exact ⟨x_ref (OKS_x hO (xok_put hO.2.1 (slot_lt B1) b2 B2)) C.1 C.2 rr f0_x rxs_s e5, agV e3 hx e4⟩
theorem law_clear {s : Int32} (h : INV w) : Wp (f_X10_clear s w) (fun r w1 => ∀ u : Wd, sameW w1 u → Wp (f_X11_clear s u) (fun v w2 => INW u w2 ∧ ag kc1 r (w2.1 713 0) v)) := by
  obtain ⟨tab, txt, nv, sav, tp, os, pt, hc, hr, hO⟩ := h
  refine (k_clear hc.1 hc.2.2.1).mono ?_
  rintro r w1 hk u su
  rcases hk with ⟨b1, rfl, rfl⟩ | ⟨b1, ⟨x, rfl, hx⟩, cx, ok, o⟩
  · have hc := CLS_same su hc
    have hr := REF_same su hr
    refine (r_clear hr.2.1).mono ?_
    rintro v w2 ⟨rr, hv⟩
    rcases hv with ⟨e1, e2, e3⟩ | ⟨e1, e⟩
    · exact ⟨x_ref hO hc hr rr f0_x rxs_s e3, agE e2 rfl (by decide)⟩
    · exact absurd b1 e1
  · have C := g_cls hO hc hr o ok (fun k q => by unfold xin at q; omega) cx (cta_oc hc.2.2.2.2.1 o (by unfold xin; omega) (by unfold xin; omega)) (cou_oc hc.2.2.2.2.2.1 o (by unfold xin; omega) (by unfold xin; omega))
    have C := And.imp (CLS_same su) (REF_same su) C
    refine (r_clear C.2.2.1).mono ?_
    rintro v w2 ⟨rr, hv⟩
    rcases hv with ⟨e1, e2, e3⟩ | ⟨e1, e3, e4, e5⟩
    · exact absurd e1 b1
    · exact ⟨x_ref (OKS_x hO (xok_nil hO.2.1)) C.1 C.2 rr f0_x rxs_s e5, agV e3 hx e4⟩
theorem law_form {s f t : Int32} (h : INV w) : Wp (f_X10_form s f t w) (fun r w1 => ∀ u : Wd, sameW w1 u → Wp (f_X11_form s f t u) (fun v w2 => INW u w2 ∧ ag kc123 r (w2.1 713 0) v)) := by
  obtain ⟨tab, txt, nv, sav, tp, os, pt, hc, hr, hO⟩ := h
  refine (k_form hO.1 hc.2.1 hc.1 hc.2.2.1 hO.2.1).mono ?_
  rintro r w1 ⟨ok, -, o, hk⟩ u su
  have CG : ∀ txt', ctx w1 txt' → CLS w1 tab txt' nv sav tp os pt ∧ REF w1 tab txt nv sav tp os pt := fun txt' cx => g_cls hO hc hr o ok (fun k q => q.elim Or.inl (fun z => Or.inr (by unfold xin at z; omega))) cx (cta_oc hc.2.2.2.2.1 o (by unfold xin scr; omega) (by unfold xin scr; omega)) (cou_oc hc.2.2.2.2.2.1 o (by unfold xin scr; omega) (by unfold xin scr; omega))
  have fF : ∀ k, fwk k → k ≠ 3 ∧ k ≠ 31 ∧ k ≠ 32 ∧ k ≠ 7 ∧ k ≠ 9 := fun k q => by unfold fwk at q; omega
  have fS : ∀ k, owk k → 716 ≤ k ∧ k ≠ 736 ∧ k ≠ 737 ∧ k ≠ 738 ∧ k ≠ 718 ∧ k ≠ 719 := fun k q => by unfold owk at q; omega
  rcases hk with ⟨b, rfl, cx⟩ | ⟨b, c, rfl, cx⟩ | ⟨b, c, d, rfl, cx⟩ | ⟨b, c, ys, hy, ⟨x, rfl, hx⟩, cx⟩
  · have C := CG txt cx
    have C := And.imp (CLS_same su) (REF_same su) C
    refine (r_form hO.1 C.2.1 C.2.2.1 hO.2.1).mono ?_
    rintro v w2 ⟨rr, hv⟩
    rcases hv with ⟨b2, t, x2⟩ | ⟨b2, _⟩ | ⟨b2, _⟩ | ⟨b2, _⟩
    · exact ⟨x_ref hO C.1 C.2 rr fF fS x2, agE t rfl (by decide)⟩
    · exact absurd b b2
    · exact absurd b b2
    · exact absurd b b2
  · have C := CG txt cx
    have C := And.imp (CLS_same su) (REF_same su) C
    refine (r_form hO.1 C.2.1 C.2.2.1 hO.2.1).mono ?_
    rintro v w2 ⟨rr, hv⟩
    rcases hv with ⟨b2, _⟩ | ⟨b2, c2, t, x2⟩ | ⟨b2, c2, _⟩ | ⟨b2, c2, _⟩
    · exact absurd b2 b
    · exact ⟨x_ref hO C.1 C.2 rr fF fS x2, agE t rfl (by decide)⟩
    · exact absurd c c2
    · exact absurd c c2
  · have C := CG txt cx
    have C := And.imp (CLS_same su) (REF_same su) C
    refine (r_form hO.1 C.2.1 C.2.2.1 hO.2.1).mono ?_
    rintro v w2 ⟨rr, hv⟩
    rcases hv with ⟨b2, _⟩ | ⟨b2, c2, _⟩ | ⟨b2, c2, d2, t, x2⟩ | ⟨b2, c2, _, ys, hy, _⟩
    · exact absurd b2 b
    · exact absurd c2 c
    · exact ⟨x_ref hO C.1 C.2 rr fF fS x2, agE t rfl (by decide)⟩
    · exact absurd hy (d ys)
  · have C := CG _ cx
    have C := And.imp (CLS_same su) (REF_same su) C
    refine (r_form hO.1 C.2.1 C.2.2.1 hO.2.1).mono ?_
    rintro v w2 ⟨rr, hv⟩
    rcases hv with ⟨b2, _⟩ | ⟨b2, c2, _⟩ | ⟨b2, c2, d2, _⟩ | ⟨b2, c2, t, zs, hz, hvv, x2⟩
    · exact absurd b2 b
    · exact absurd c2 c
    · exact absurd hy (d2 ys)
    · have e : zs = ys := Option.some.inj (hz.1.symm.trans hy.1)
      subst e
      have B := Classical.not_not.mp b
      exact ⟨x_ref (OKS_x hO (xset_ok hO.2.1 hy.2 (fsp_ok hO.1 (hO.2.1 _ (slot_lt B.1)).2 hy.1).1)) C.1 C.2 rr fF fS x2, agV t hx hvv⟩
theorem law_transliterate {s t b : Int32} (h : INV w) : Wp (f_X10_transliterate s t b w) (fun r w1 => ∀ u : Wd, sameW w1 u → Wp (f_X11_transliterate s t b u) (fun v w2 => INW u w2 ∧ ag kc13 r (w2.1 713 0) v)) := by
  obtain ⟨tab, txt, nv, sav, tp, os, pt, hc, hr, hO⟩ := h
  refine (k_transliterate hO.1 hc.2.1 hc.1 hc.2.2.1 hO.2.1).mono ?_
  rintro r w1 ⟨ok, -, o, hk⟩ u su
  have CG : ∀ txt', ctx w1 txt' → CLS w1 tab txt' nv sav tp os pt ∧ REF w1 tab txt nv sav tp os pt := fun txt' cx => g_cls hO hc hr o ok (fun k q => q.elim Or.inl (fun z => Or.inr (by unfold xin at z; omega))) cx (cta_oc hc.2.2.2.2.1 o (by unfold xin scr; omega) (by unfold xin scr; omega)) (cou_oc hc.2.2.2.2.2.1 o (by unfold xin scr; omega) (by unfold xin scr; omega))
  have fF : ∀ k, ftl k → k ≠ 3 ∧ k ≠ 31 ∧ k ≠ 32 ∧ k ≠ 7 ∧ k ≠ 9 := fun k q => by unfold ftl at q; omega
  have fS : ∀ k, otl k → 716 ≤ k ∧ k ≠ 736 ∧ k ≠ 737 ∧ k ≠ 738 ∧ k ≠ 718 ∧ k ≠ 719 := fun k q => by unfold otl at q; omega
  rcases hk with ⟨b1, rfl, cx⟩ | ⟨b1, c, rfl, cx⟩ | ⟨b1, ys, hy, ⟨x, rfl, hx⟩, cx⟩
  · have C := CG txt cx
    have C := And.imp (CLS_same su) (REF_same su) C
    refine (r_transliterate hO.1 C.2.1 C.2.2.1 hO.2.1).mono ?_
    rintro v w2 ⟨rr, hv⟩
    rcases hv with ⟨b2, t, x2⟩ | ⟨b2, _⟩ | ⟨b2, _⟩
    · exact ⟨x_ref hO C.1 C.2 rr fF fS x2, agE t rfl (by decide)⟩
    · exact absurd b1 b2
    · exact absurd b1 b2
  · have C := CG txt cx
    have C := And.imp (CLS_same su) (REF_same su) C
    refine (r_transliterate hO.1 C.2.1 C.2.2.1 hO.2.1).mono ?_
    rintro v w2 ⟨rr, hv⟩
    rcases hv with ⟨b2, _⟩ | ⟨b2, c2, t, x2⟩ | ⟨b2, _, ys, hy, _⟩
    · exact absurd b2 b1
    · exact ⟨x_ref hO C.1 C.2 rr fF fS x2, agE t rfl (by decide)⟩
    · rw [c] at hy; cases hy
  · have C := CG _ cx
    have C := And.imp (CLS_same su) (REF_same su) C
    refine (r_transliterate hO.1 C.2.1 C.2.2.1 hO.2.1).mono ?_
    rintro v w2 ⟨rr, hv⟩
    rcases hv with ⟨b2, _⟩ | ⟨b2, c2, _⟩ | ⟨b2, t, zs, hz, hvv, x2⟩
    · exact absurd b2 b1
    · rw [c2] at hy; cases hy
    · have e : zs = ys := Option.some.inj (hz.symm.trans hy)
      subst e
      have B := Classical.not_not.mp b1
      have Y := tra_ok hO.1 (hO.2.1 _ (slot_lt B.1)).2 hy
      exact ⟨x_ref (OKS_x hO (xset_ok hO.2.1 Y.1 Y.2)) C.1 C.2 rr fF fS x2, agV t hx hvv⟩
theorem law_feed {b : Int64} {n : Int32} (h : INV w) : Wp (f_X10_feed b n w) (fun r w1 => ∀ u : Wd, sameW w1 u → Wp (f_X11_feed b n u) (fun v w2 => INW u w2 ∧ ag kc23 r (w2.1 713 0) v)) := by
  obtain ⟨tab, txt, nv, sav, tp, os, pt, hc, hr, hO⟩ := h
  have ref : ∀ {u tp' w2}, OKS tab txt nv sav tp' os → CLS u tab txt nv sav tp' os pt → REF u tab txt nv sav tp os pt → rcg (fun f => f = 0 ∨ f = 7) (fun k => k = 718) u w2 → rta w2 tp' → INW u w2 := fun {u tp' w2} hO' c1 r1 rr a => g_ref hO' c1 r1 rr (fun k q => by omega) (fun k q => by omega) (rtx_rcg r1.2.1 rr (by omega) (by omega)) a (rou_rcg r1.2.2.2.2.1 rr (by omega) (by omega))
  refine (k_feed hc.1 hc.2.2.2.2.1 hO.2.2.2.2.1).mono ?_
  rintro r w1 hk u su
  rcases hk with ⟨b1, rfl, rfl⟩ | ⟨b1, b2, rfl, rfl⟩ | ⟨b1, b2, ⟨x, rfl, hx⟩, cx, ok, o⟩
  · have hc := CLS_same su hc
    have hr := REF_same su hr
    refine (r_feed hr.2.2.2.1 hO.2.2.2.2.1).mono ?_
    rintro v w2 ⟨rr, hv⟩
    rcases hv with ⟨e1, e2, e3⟩ | ⟨e1, e⟩ | ⟨e1, e⟩
    · exact ⟨ref hO hc hr rr e3, agE e2 rfl (by decide)⟩
    · exact absurd b1 e1
    · exact absurd b1 e1
  · have hc := CLS_same su hc
    have hr := REF_same su hr
    refine (r_feed hr.2.2.2.1 hO.2.2.2.2.1).mono ?_
    rintro v w2 ⟨rr, hv⟩
    rcases hv with ⟨e1, e2, e3⟩ | ⟨e1, e2, e3, e4⟩ | ⟨e1, e2, e⟩
    · exact absurd e1 b1
    · exact ⟨ref hO hc hr rr e4, agE e3 rfl (by decide)⟩
    · exact absurd b2 e2
  · have C := g_cls hO hc hr o ok (fun k q => by omega) (ctx_oc hc.2.2.1 o (fun k _ _ => by omega)) cx (cou_oc hc.2.2.2.2.2.1 o (by omega) (by omega))
    have C := And.imp (CLS_same su) (REF_same su) C
    refine (r_feed C.2.2.2.2.1 hO.2.2.2.2.1).mono ?_
    rintro v w2 ⟨rr, hv⟩
    rcases hv with ⟨e1, e2, e3⟩ | ⟨e1, e2, e3, e4⟩ | ⟨e1, e2, e3, e4, e5⟩
    · exact absurd e1 b1
    · exact absurd e2 b2
    · have B1 := Classical.not_not.mp b1
      have T : tpok (tp ++ byts b n.toInt.toNat) := by
        refine ⟨by rw [List.length_append, byts_len]; omega, fun y hy => ?_⟩
        rcases List.mem_append.mp hy with q | q
        · exact hO.2.2.2.2.1.2 y q
        · exact byts_rng _ _ y q
      exact ⟨ref (⟨hO.1, hO.2.1, hO.2.2.1, hO.2.2.2.1, T, hO.2.2.2.2.2⟩ : OKS tab txt nv sav _ os) C.1 C.2 rr e5, agV e3 hx e4⟩
end
