/-! ===== the law's cases: encode, decode, message, use, save ===== -/
section
variable {w : Wd}
theorem law_encode {s : Int32} (h : INV w) : Wp (f_X10_encode s w) (fun r w1 => ∀ u : Wd, sameW w1 u → Wp (f_X11_encode s u) (fun v w2 => INW u w2 ∧ ag kc1 r (w2.1 713 0) v)) := by
  obtain ⟨tab, txt, nv, sav, tp, os, pt, hc, hr, hO⟩ := h
  have ref : ∀ {u os' w2}, OKS tab txt nv sav tp os' → CLS u tab txt nv sav tp os' pt → REF u tab txt nv sav tp os pt → rcg (fun f => f = 0 ∨ f = 9) (fun k => k = 719) u w2 → rou w2 os' → INW u w2 := fun {u os' w2} hO' c1 r1 rr a => g_ref hO' c1 r1 rr (fun k q => by omega) (fun k q => by omega) (rtx_rcg r1.2.1 rr (by omega) (by omega)) (rta_rcg r1.2.2.2.1 rr (by omega) (by omega)) a
  refine (k_encode hc.1 hc.2.2.1 hO.2.1).mono ?_
  rintro r w1 ⟨ok, o, hk⟩ u su
  rcases hk with ⟨b1, rfl, rfl⟩ | ⟨b1, ⟨x, rfl, hx⟩, cx⟩
  · have hc := CLS_same su hc
    have hr := REF_same su hr
    refine (r_encode hr.2.1 hO.2.1).mono ?_
    rintro v w2 ⟨rr, hv⟩
    rcases hv with ⟨e1, e2, e3, e4⟩ | ⟨e1, e⟩
    · exact ⟨ref hO hc hr rr ⟨by rw [e3]; exact hr.2.2.2.2.1.1, fun k hk => by rw [e4]; exact hr.2.2.2.2.1.2 k hk⟩, agE e2 rfl (by decide)⟩
    · exact absurd b1 e1
  · have C := g_cls hO hc hr o ok (fun k q => by unfold oob at q; omega) (ctx_oc hc.2.2.1 o (fun k _ _ => by unfold oob; omega)) (cta_oc hc.2.2.2.2.1 o (by unfold oob; omega) (by unfold oob; omega)) cx
    have C := And.imp (CLS_same su) (REF_same su) C
    refine (r_encode C.2.2.1 hO.2.1).mono ?_
    rintro v w2 ⟨rr, hv⟩
    rcases hv with ⟨e1, e2⟩ | ⟨e1, e2, e3, e4⟩
    · exact absurd e1 b1
    · have B1 := Classical.not_not.mp b1
      have Y := hO.2.1 _ (slot_lt B1)
      have E := enc_ok (txt s.toInt.toNat) 0 Y.2
      exact ⟨ref (⟨hO.1, hO.2.1, hO.2.2.1, hO.2.2.2.1, hO.2.2.2.2.1, ⟨by have := Y.1; have := E.1; omega, E.2⟩⟩ : OKS tab txt nv sav tp _) C.1 C.2 rr e4, agV e2 hx e3⟩
theorem tpok_nil : tpok [] := ⟨Nat.zero_le _, fun x q => (List.not_mem_nil q).elim⟩
theorem law_decode {s : Int32} (h : INV w) : Wp (f_X10_decode s w) (fun r w1 => ∀ u : Wd, sameW w1 u → Wp (f_X11_decode s u) (fun v w2 => INW u w2 ∧ ag kc13 r (w2.1 713 0) v)) := by
  obtain ⟨tab, txt, nv, sav, tp, os, pt, hc, hr, hO⟩ := h
  have ref : ∀ {u txt' tp' w2}, OKS tab txt' nv sav tp' os → CLS u tab txt' nv sav tp' os pt → REF u tab txt nv sav tp os pt → rcg fdc rdc u w2 → rtx w2 txt' → rta w2 tp' → INW u w2 := fun {u txt' tp' w2} hO' c1 r1 rr x a => g_ref hO' c1 r1 rr (fun k q => by unfold fdc at q; omega) (fun k q => by unfold rdc at q; omega) x a (rou_rcg r1.2.2.2.2.1 rr (by unfold fdc; omega) (by unfold rdc; omega))
  refine (k_decode hc.1 hc.2.2.1 hc.2.2.2.2.1 hO.2.2.2.2.1).mono ?_
  rintro r w1 ⟨ok, o, hk⟩ u su
  have CG : ∀ txt' tp', ctx w1 txt' → cta w1 tp' → CLS w1 tab txt' nv sav tp' os pt ∧ REF w1 tab txt nv sav tp os pt := fun txt' tp' cx ct => g_cls hO hc hr o ok (fun k q => by unfold odc xin at q; unfold scr; omega) cx ct (cou_oc hc.2.2.2.2.2.1 o (by unfold odc xin; omega) (by unfold odc xin; omega))
  rcases hk with ⟨b1, rfl, rfl⟩ | ⟨b1, b2, rfl, cx, ct⟩ | ⟨b1, b2, ⟨x, rfl, hx⟩, cx, ct⟩
  · have hc := CLS_same su hc
    have hr := REF_same su hr
    refine (r_decode hr.2.1 hO.2.1 hr.2.2.2.1 hO.2.2.2.2.1).mono ?_
    rintro v w2 ⟨rr, hv⟩
    rcases hv with ⟨e1, e2, e3, e4⟩ | ⟨e1, e⟩ | ⟨e1, e⟩
    · exact ⟨ref hO hc hr rr e3 e4, agE e2 rfl (by decide)⟩
    · exact absurd b1 e1
    · exact absurd b1 e1
  · have C := CG _ _ cx ct
    have C := And.imp (CLS_same su) (REF_same su) C
    refine (r_decode C.2.2.1 hO.2.1 C.2.2.2.2.1 hO.2.2.2.2.1).mono ?_
    rintro v w2 ⟨rr, hv⟩
    rcases hv with ⟨e1, e2⟩ | ⟨e1, e2, e3, e4, e5⟩ | ⟨e1, e2, e⟩
    · exact absurd e1 b1
    · exact ⟨ref (⟨hO.1, hO.2.1, hO.2.2.1, hO.2.2.2.1, tpok_nil, hO.2.2.2.2.2⟩ : OKS tab txt nv sav [] os) C.1 C.2 rr e4 e5, agE e3 rfl (by decide)⟩
    · exact absurd b2 e2
  · have C := CG _ _ cx ct
    have C := And.imp (CLS_same su) (REF_same su) C
    refine (r_decode C.2.2.1 hO.2.1 C.2.2.2.2.1 hO.2.2.2.2.1).mono ?_
    rintro v w2 ⟨rr, hv⟩
    rcases hv with ⟨e1, e2⟩ | ⟨e1, e2, e3⟩ | ⟨e1, e2, e3, e4, e5, e6⟩
    · exact absurd e1 b1
    · exact absurd e2 b2
    · have D := dcl_ok tp 0 (Or.inl rfl)
      exact ⟨ref (⟨hO.1, xset_ok hO.2.1 (by omega) D.1, hO.2.2.1, hO.2.2.2.1, tpok_nil, hO.2.2.2.2.2⟩ : OKS tab _ nv sav [] os) C.1 C.2 rr e5 e6, agV e3 hx e4⟩
theorem law_message {n a b c d : Int32} (h : INV w) : Wp (f_X10_message n a b c d w) (fun r w1 => ∀ u : Wd, sameW w1 u → Wp (f_X11_message n a b c d u) (fun v w2 => INW u w2 ∧ ag kc123 r (w2.1 713 0) v)) := by
  obtain ⟨tab, txt, nv, sav, tp, os, pt, hc, hr, hO⟩ := h
  have ref : ∀ {u tp' os' w2}, OKS tab txt nv sav tp' os' → CLS u tab txt nv sav tp' os' pt → REF u tab txt nv sav tp os pt → rcg fmg omg u w2 → rta w2 tp' → rou w2 os' → INW u w2 := fun {u tp' os' w2} hO' c1 r1 rr a x => g_ref hO' c1 r1 rr (fun k q => by unfold fmg at q; omega) (fun k q => by unfold omg at q; omega) (rtx_rcg r1.2.1 rr (by unfold omg; omega) (by unfold omg; omega)) a x
  have same : ∀ {u w2}, rou u os → w2.1 713 9 = u.1 713 9 → w2.1 719 = u.1 719 → rou w2 os := fun {u w2} h h1 h2 => ⟨by rw [h1]; exact h.1, fun k hk => by rw [h2]; exact h.2 k hk⟩
  refine (k_message hO.1 hc.2.1 hc.1 hc.2.2.2.2.1 hO.2.2.2.2.1).mono ?_
  rintro r w1 ⟨ok, -, o, hk⟩ u su
  have CG : ∀ tp' os', cta w1 tp' → cou w1 os' → CLS w1 tab txt nv sav tp' os' pt ∧ REF w1 tab txt nv sav tp os pt := fun tp' os' ct cu => g_cls hO hc hr o ok (fun k q => by unfold oms at q; unfold scr; omega) (ctx_oc hc.2.2.1 o (fun k _ _ => by unfold oms; omega)) ct cu
  rcases hk with ⟨b1, rfl, rfl⟩ | ⟨b1, b2, rfl, rfl⟩ | ⟨b1, b2, b3, rfl, ct, cu⟩ | ⟨b1, b2, zs, hz, ⟨x, rfl, hx⟩, ct, cu⟩
  · have hc := CLS_same su hc
    have hr := REF_same su hr
    refine (r_message hO.1 hr.1 hr.2.2.2.1 hO.2.2.2.2.1).mono ?_
    rintro v w2 ⟨rr, hv⟩
    rcases hv with ⟨e1, e2, e3, e4, e5⟩ | ⟨e1, _⟩ | ⟨e1, _⟩ | ⟨e1, _⟩
    · exact ⟨ref hO hc hr rr e3 (same hr.2.2.2.2.1 e4 e5), agE e2 rfl (by decide)⟩
    · exact absurd b1 e1
    · exact absurd b1 e1
    · exact absurd b1 e1
  · have hc := CLS_same su hc
    have hr := REF_same su hr
    refine (r_message hO.1 hr.1 hr.2.2.2.1 hO.2.2.2.2.1).mono ?_
    rintro v w2 ⟨rr, hv⟩
    rcases hv with ⟨e1, _⟩ | ⟨e1, e, e2, e3, e4, e5⟩ | ⟨e1, e2, _⟩ | ⟨e1, e2, _⟩
    · exact absurd e1 b1
    · exact ⟨ref hO hc hr rr e3 (same hr.2.2.2.2.1 e4 e5), agE e2 rfl (by decide)⟩
    · exact absurd b2 e2
    · exact absurd b2 e2
  · have C := CG [] os ct (cu.trans hc.2.2.2.2.2.1)
    have C := And.imp (CLS_same su) (REF_same su) C
    refine (r_message hO.1 C.2.1 C.2.2.2.2.1 hO.2.2.2.2.1).mono ?_
    rintro v w2 ⟨rr, hv⟩
    rcases hv with ⟨e1, _⟩ | ⟨e1, e2, _⟩ | ⟨e1, e2, e3, e4, e5, e6, e7⟩ | ⟨e1, e2, ys, hy, _⟩
    · exact absurd e1 b1
    · exact absurd e2 b2
    · exact ⟨ref (⟨hO.1, hO.2.1, hO.2.2.1, hO.2.2.2.1, tpok_nil, hO.2.2.2.2.2⟩ : OKS tab txt nv sav [] os) C.1 C.2 rr e5 (same C.2.2.2.2.2.1 e6 e7), agE e4 rfl (by decide)⟩
    · rw [b3] at hy; cases hy
  · have C := CG [] zs ct cu
    have C := And.imp (CLS_same su) (REF_same su) C
    refine (r_message hO.1 C.2.1 C.2.2.2.2.1 hO.2.2.2.2.1).mono ?_
    rintro v w2 ⟨rr, hv⟩
    rcases hv with ⟨e1, _⟩ | ⟨e1, e2, _⟩ | ⟨e1, e2, e3, _⟩ | ⟨e1, e2, ys, hy, e3, e4, e5, e6⟩
    · exact absurd e1 b1
    · exact absurd e2 b2
    · rw [e3] at hz; cases hz
    · have e : ys = zs := Option.some.inj (hy.symm.trans hz)
      subst e
      exact ⟨ref (⟨hO.1, hO.2.1, hO.2.2.1, hO.2.2.2.1, tpok_nil, msg_ok hz⟩ : OKS tab txt nv sav [] _) C.1 C.2 rr e5 e6, agV e3 hx e4⟩
theorem law_use {v : Int32} (h : INV w) : Wp (f_X10_use v w) (fun r w1 => ∀ u : Wd, sameW w1 u → Wp (f_X11_use v u) (fun _ w2 => INW u w2 ∧ agu kc1 r (w2.1 713 0))) := by
  obtain ⟨tab, txt, nv, sav, tp, os, pt, hc, hr, hO⟩ := h
  refine (k_use hO.2.2.1 hO.2.2.2.1 hc.2.2.2.1 hc.1).mono ?_
  rintro r w1 hk u su
  rcases hk with ⟨b1, rfl, rfl⟩ | ⟨b1, rfl, t, ok, o⟩
  · have hc := CLS_same su hc
    have hr := REF_same su hr
    refine (r_use hO.2.2.1 hr.2.2.1).mono ?_
    rintro _ w2 ⟨rr, hv⟩
    rcases hv with ⟨e1, e2, e3⟩ | ⟨e1, e⟩
    · exact ⟨t_ref hO hc hr rr (e3.trans hr.1), aguE e2 rfl (by decide)⟩
    · exact absurd b1 e1
  · have C := t_cls hO hc hr t ok o
    have C := And.imp (CLS_same su) (REF_same su) C
    refine (r_use hO.2.2.1 C.2.2.2.1).mono ?_
    rintro _ w2 ⟨rr, hv⟩
    rcases hv with ⟨e1, e2, e3⟩ | ⟨e1, e2, e3⟩
    · exact absurd e1 b1
    · have B1 := Classical.not_not.mp b1
      have K := hO.2.2.2.1 v.toInt.toNat (by omega)
      have C1 : CLS u (rtab w2) txt nv sav tp os pt := ⟨C.1.1, trel_ext K e3 C.1.2.1, C.1.2.2⟩
      exact ⟨t_ref (OKS_t hO (tok_ext e3 K)) C1 C.2 rr rfl, Or.inr ⟨rfl, e2⟩⟩
theorem law_save (h : INV w) : Wp (f_X10_save w) (fun r w1 => ∀ u : Wd, sameW w1 u → Wp (f_X11_save u) (fun v w2 => INW u w2 ∧ ag kc3 r (w2.1 713 0) v)) := by
  obtain ⟨tab, txt, nv, sav, tp, os, pt, hc, hr, hO⟩ := h
  refine (k_save hO.2.2.1 hO.1 hO.2.2.2.1 hc.2.1 hc.2.2.2.1 hc.1).mono ?_
  rintro r w1 hk u su
  have refS : ∀ {u w2 nv' sav'}, OKS tab txt nv' sav' tp os → CLS u tab txt nv' sav' tp os pt → REF u tab txt nv sav tp os pt → rcg (fun f => f = 0 ∨ f = 3) (fun k => k = 715) u w2 → rvr w2 nv' sav' → INW u w2 := fun {u w2 nv' sav'} hO' c1 r1 rr a =>
    ⟨⟨tab, txt, nv', sav', tp, os, pt, CLS_fr hO' c1 rr (fun k hk q => by have : k = 715 := q; omega), ⟨rtab_rcg r1.1 rr (by decide), rtx_rcg r1.2.1 rr (by decide) (by decide), a, rta_rcg r1.2.2.2.1 rr (by omega) (by decide), rou_rcg r1.2.2.2.2.1 rr (by omega) (by decide), hasR_rcg r1.2.2.2.2.2 rr (by omega) (by omega) (by decide) (by decide) (by decide)⟩, hO'⟩, rr.2.2⟩
  rcases hk with ⟨b1, rfl, rfl⟩ | ⟨b1, ⟨x, rfl, hx⟩, cv, ok, o, f0⟩
  · have hc := CLS_same su hc
    have hr := REF_same su hr
    refine (r_save hO.2.2.1 hr.2.2.1).mono ?_
    rintro v w2 ⟨rr, hv⟩
    rcases hv with ⟨e1, e2, e3⟩ | ⟨e1, e⟩
    · exact ⟨refS hO hc hr rr e3, agE e2 rfl (by decide)⟩
    · exact absurd b1 e1
  · have P := pat_rng hc.2.2.2.2.2.2.2.1
    have no : ∀ k, k ≠ 0 → ¬ (126 ≤ k ∧ k < 622) → ¬ vin k := fun k h1 h2 q => by unfold vin at q; omega
    have hC : hasC w1 pt := by
      have h7 := hc.2.2.2.2.2.2.1
      cases pt with
      | none => show (w1.1 0 11).toInt = 0; rw [f0 11 (by decide)]; exact h7
      | some l =>
        obtain ⟨h1, h2, h3⟩ := h7
        refine ⟨by rw [f0 11 (by decide)]; exact h1, ?_, h3⟩
        rw [o.2]
        unfold patC at *
        rw [rl_fr (o.1 (w.2.1 + 1) (no _ (by omega) (by omega))) (o.1 (w.2.1 + 1 + 1) (no _ (by omega) (by omega))), rl_fr (o.1 (w.2.1 + 3) (no _ (by omega) (by omega))) (o.1 (w.2.1 + 3 + 1) (no _ (by omega) (by omega))), rl_fr (o.1 (w.2.1 + 5) (no _ (by omega) (by omega))) (o.1 (w.2.1 + 5 + 1) (no _ (by omega) (by omega)))]
        exact h2
    have C1 : CLS w1 tab txt (nv + 1) (svset sav nv tab) tp os pt := ⟨ok, trel_oc hO.1 hc.2.1 o (fun k _ _ => no k (by omega) (by omega)), ctx_oc hc.2.2.1 o (fun k _ _ => no k (by omega) (by omega)), cv, cta_oc hc.2.2.2.2.1 o (no _ (by omega) (by omega)) (no _ (by omega) (by omega)), cou_oc hc.2.2.2.2.2.1 o (no _ (by omega) (by omega)) (no _ (by omega) (by omega)), hC, by rw [o.2]; exact hc.2.2.2.2.2.2.2⟩
    have r1 := REF_oc hr o (fun k hk => no k (by omega) (by omega))
    have O1 : OKS tab txt (nv + 1) (svset sav nv tab) tp os := ⟨hO.1, hO.2.1, by have := hO.2.2.1; omega, fun v hv => by
      unfold svset
      by_cases e : v = nv
      · rw [if_pos e]; exact hO.1
      · rw [if_neg e]; exact hO.2.2.2.1 v (by omega), hO.2.2.2.2⟩
    have C1 := CLS_same su C1
    have r1 := REF_same su r1
    refine (r_save hO.2.2.1 r1.2.2.1).mono ?_
    rintro v w2 ⟨rr, hv⟩
    rcases hv with ⟨e1, e2, e3⟩ | ⟨e1, e2, e3, e4⟩
    · exact absurd e1 b1
    · rw [r1.1] at e4
      exact ⟨refS O1 C1 r1 rr e4, agV e2 hx e3⟩
end
