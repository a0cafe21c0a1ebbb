/-! ===== the law's cases: what is told ===== -/
section
variable {w w1 w2 : Wd} {tab tab' : Nat → Int} {txt txt' : Nat → List Int} {nv : Nat} {sav : Nat → Nat → Int} {tp tp' os os' : List Int} {pt : Option (List PC)}
theorem OKS_t (h : OKS tab txt nv sav tp os) (hk : tok tab') : OKS tab' txt nv sav tp os := ⟨hk, h.2⟩
theorem OKS_x (h : OKS tab txt nv sav tp os) (hk : xok txt') : OKS tab txt' nv sav tp os := ⟨h.1, hk, h.2.2⟩
theorem t_cls (hO : OKS tab txt nv sav tp os) (hc : CLS w tab txt nv sav tp os pt) (hr : REF w tab txt nv sav tp os pt) (t : trel w1 1 tab') (ok : okall w1) (o : oc tin w w1) : CLS w1 tab' txt nv sav tp os pt ∧ REF w1 tab txt nv sav tp os pt := by
  have P := pat_rng hc.2.2.2.2.2.2.2.1
  have no : ∀ k, ¬ (1 ≤ k ∧ k < 125) → ¬ tin k := fun k h q => h q
  exact ⟨CLS_oc hO hc o ok (no _ (by omega)) (fun k _ _ => no _ (by omega)) (fun k _ _ => no _ (by omega)) t (ctx_oc hc.2.2.1 o (fun k _ _ => no _ (by omega))) (cta_oc hc.2.2.2.2.1 o (no _ (by omega)) (no _ (by omega))) (cou_oc hc.2.2.2.2.2.1 o (no _ (by omega)) (no _ (by omega))), REF_oc hr o (fun k _ => no _ (by omega))⟩
theorem t_ref (hO : OKS tab' txt nv sav tp os) (hc : CLS w1 tab' txt nv sav tp os pt) (hr : REF w1 tab txt nv sav tp os pt) (r : rcg (fun f => f = 0) (fun k => k = 714) w1 w2) (e : rtab w2 = tab') : INW w1 w2 := by
  obtain ⟨h1, h2, h3, h4, h5, h6⟩ := hr
  exact ⟨⟨tab', txt, nv, sav, tp, os, pt, CLS_fr hO hc r (fun k hk q => by have : k = 714 := q; omega), ⟨e, rtx_rcg h2 r (by decide) (by decide), rvr_rcg h3 r (by decide) (by decide), rta_rcg h4 r (by decide) (by decide), rou_rcg h5 r (by decide) (by decide), hasR_rcg h6 r (by decide) (by decide) (by decide) (by decide) (by decide)⟩, hO⟩, r.2.2⟩
theorem tell_law {R V : Type} {A : Option ((Nat ⊕ R) × Wd)} {B : Wd → Option (V × Wd)} {c2 : Nat} {bad bad2 : Prop} {good : R → Prop} {good2 : V → Prop} {G : Nat ⊕ R → Int32 → V → Prop} (hO : OKS tab txt nv sav tp os) (hc : CLS w tab txt nv sav tp os pt) (hr : REF w tab txt nv sav tp os pt) (hO' : ¬ bad → ¬ bad2 → tok tab')
    (a : Wp A (tout w tab' bad bad2 c2 good)) (b : ∀ w1, rtab w1 = tab → rtx w1 txt → Wp (B w1) (fun v w2 => rout w1 tab' bad bad2 w2 ∧ (¬ bad → ¬ bad2 → good2 v)))
    (g1 : ∀ t v, t.toInt = 1 → G (.inl 1) t v) (g2 : ∀ t v, t.toInt = 2 → G (.inl c2) t v) (g3 : ∀ x t v, t.toInt = 0 → good x → good2 v → G (.inr x) t v) :
    Wp A (fun r w1 => ∀ u : Wd, sameW w1 u → Wp (B u) (fun v w2 => INW u w2 ∧ G r (w2.1 713 0) v)) := by
  refine a.mono ?_
  rintro r w1 hk u su
  rcases hk with ⟨hb, rfl, rfl⟩ | ⟨hb, hb2, rfl, rfl⟩ | ⟨hb, hb2, ⟨x, rfl, hx⟩, t, ok, o⟩
  · have hc := CLS_same su hc
    have hr := REF_same su hr
    refine (b u hr.1 hr.2.1).mono ?_
    rintro v w2 ⟨⟨rr, h2⟩, -⟩
    rcases h2 with ⟨e1, e2, e3⟩ | ⟨e1, e2, e3, e4⟩ | ⟨e1, e2, e3, e4⟩
    · exact ⟨t_ref hO hc hr rr (e3.trans hr.1), g1 _ _ e2⟩
    · exact absurd hb e1
    · exact absurd hb e1
  · have hc := CLS_same su hc
    have hr := REF_same su hr
    refine (b u hr.1 hr.2.1).mono ?_
    rintro v w2 ⟨⟨rr, h2⟩, -⟩
    rcases h2 with ⟨e1, e2, e3⟩ | ⟨e1, e2, e3, e4⟩ | ⟨e1, e2, e3, e4⟩
    · exact absurd e1 hb
    · exact ⟨t_ref hO hc hr rr (e4.trans hr.1), g2 _ _ e3⟩
    · exact absurd hb2 e2
  · have C := t_cls hO hc hr t ok o
    have C := And.imp (CLS_same su) (REF_same su) C
    refine (b u C.2.1 C.2.2.1).mono ?_
    rintro v w2 ⟨⟨rr, h2⟩, hg⟩
    rcases h2 with ⟨e1, e2, e3⟩ | ⟨e1, e2, e3, e4⟩ | ⟨e1, e2, e3, e4⟩
    · exact absurd e1 hb
    · exact absurd e2 hb2
    · exact ⟨t_ref (OKS_t hO (hO' hb hb2)) C.1 C.2 rr e4, g3 _ _ _ e3 hx (hg hb hb2)⟩
theorem aguE {c : Nat → Int} {e : Nat} {t : Int32} {n : Int} (h : t.toInt = n) (hn : n = c e) (h0 : c e ≠ 0) : agu c (.inl e) t := Or.inl ⟨e, rfl, h.trans hn, h0⟩
theorem law_letter {l j d k e : Int32} (h : INV w) : Wp (f_X10_letter l j d k e w) (fun r w1 => ∀ u : Wd, sameW w1 u → Wp (f_X11_letter l j d k e u) (fun _ w2 => INW u w2 ∧ agu kc12 r (w2.1 713 0))) := by
  obtain ⟨tab, txt, nv, sav, tp, os, pt, hc, hr, hO⟩ := h
  exact tell_law (G := fun r t _ => agu kc12 r t) (good2 := fun _ => True) hO hc hr (fun h1 h2 => tok_letter hO.1 h1 h2) (k_letter hO.1 hc.2.1 hc.1) (fun w1 e1 _ => (r_letter (w := w1)).mono (fun v w2 hv => ⟨by rw [e1] at hv; exact hv, fun _ _ => trivial⟩)) (fun t v h => aguE h rfl (by decide)) (fun t v h => aguE h rfl (by decide)) (fun x t v h _ _ => Or.inr ⟨rfl, h⟩)
theorem law_split {l a b : Int32} (h : INV w) : Wp (f_X10_split l a b w) (fun r w1 => ∀ u : Wd, sameW w1 u → Wp (f_X11_split l a b u) (fun _ w2 => INW u w2 ∧ agu kc12 r (w2.1 713 0))) := by
  obtain ⟨tab, txt, nv, sav, tp, os, pt, hc, hr, hO⟩ := h
  exact tell_law (G := fun r t _ => agu kc12 r t) (good2 := fun _ => True) hO hc hr (fun h1 h2 => tok_split hO.1 h1 h2) (k_split hO.1 hc.2.1 hc.1) (fun w1 e1 _ => (r_split (w := w1)).mono (fun v w2 hv => ⟨by rw [e1] at hv; exact hv, fun _ _ => trivial⟩)) (fun t v h => aguE h rfl (by decide)) (fun t v h => aguE h rfl (by decide)) (fun x t v h _ _ => Or.inr ⟨rfl, h⟩)
theorem law_capital {l a b : Int32} (h : INV w) : Wp (f_X10_capital l a b w) (fun r w1 => ∀ u : Wd, sameW w1 u → Wp (f_X11_capital l a b u) (fun _ w2 => INW u w2 ∧ agu kc12 r (w2.1 713 0))) := by
  obtain ⟨tab, txt, nv, sav, tp, os, pt, hc, hr, hO⟩ := h
  exact tell_law (G := fun r t _ => agu kc12 r t) (good2 := fun _ => True) hO hc hr (fun h1 h2 => tok_cap hO.1 h1 h2) (k_capital hO.1 hc.2.1 hc.1) (fun w1 e1 _ => (r_capital (w := w1)).mono (fun v w2 hv => ⟨by rw [e1] at hv; exact hv, fun _ _ => trivial⟩)) (fun t v h => aguE h rfl (by decide)) (fun t v h => aguE h rfl (by decide)) (fun x t v h _ _ => Or.inr ⟨rfl, h⟩)
theorem law_partners {a b : Int32} (h : INV w) : Wp (f_X10_partners a b w) (fun r w1 => ∀ u : Wd, sameW w1 u → Wp (f_X11_partners a b u) (fun _ w2 => INW u w2 ∧ agu kc13 r (w2.1 713 0))) := by
  obtain ⟨tab, txt, nv, sav, tp, os, pt, hc, hr, hO⟩ := h
  exact tell_law (G := fun r t _ => agu kc13 r t) (good2 := fun _ => True) hO hc hr (fun h1 h2 => tok_part hO.1 h1 h2) (k_partners hO.1 hc.2.1 hc.1) (fun w1 e1 _ => (r_partners (w := w1) (by rw [e1]; exact hO.1)).mono (fun v w2 hv => ⟨by rw [e1] at hv; exact hv, fun _ _ => trivial⟩)) (fun t v h => aguE h rfl (by decide)) (fun t v h => aguE h rfl (by decide)) (fun x t v h _ _ => Or.inr ⟨rfl, h⟩)
theorem law_weigh {n l f s t : Int32} (h : INV w) : Wp (f_X10_weigh n l f s t w) (fun r w1 => ∀ u : Wd, sameW w1 u → Wp (f_X11_weigh n l f s t u) (fun _ w2 => INW u w2 ∧ agu kc12 r (w2.1 713 0))) := by
  obtain ⟨tab, txt, nv, sav, tp, os, pt, hc, hr, hO⟩ := h
  exact tell_law (G := fun r t _ => agu kc12 r t) (good2 := fun _ => True) hO hc hr (fun h1 h2 => tok_weigh hO.1 (by have B := Classical.not_not.mp h1; omega)) (k_weigh hO.1 hc.2.1 hc.1) (fun w1 e1 _ => (r_weigh (w := w1)).mono (fun v w2 hv => ⟨by rw [e1] at hv; exact hv, fun _ _ => trivial⟩)) (fun t v h => aguE h rfl (by decide)) (fun t v h => aguE h rfl (by decide)) (fun x t v h _ _ => Or.inr ⟨rfl, h⟩)
theorem law_addWord {s : Int32} (h : INV w) : Wp (f_X10_addWord s w) (fun r w1 => ∀ u : Wd, sameW w1 u → Wp (f_X11_addWord s u) (fun v w2 => INW u w2 ∧ ag kc13 r (w2.1 713 0) v)) := by
  obtain ⟨tab, txt, nv, sav, tp, os, pt, hc, hr, hO⟩ := h
  exact tell_law (G := fun r t v => ag kc13 r t v) (good2 := fun v => v.toInt = tab 1502 + 1) hO hc hr (fun h1 h2 => tok_word hO.1 h2) (k_addWord hO.1 hc.2.1 hc.1 hc.2.2.1) (fun w1 e1 x1 => (r_addWord (w := w1) (by rw [e1]; exact hO.1) x1 hO.2.1).mono (fun v w2 hv => by rw [e1] at hv; exact hv)) (fun t v h => agE h rfl (by decide)) (fun t v h => agE h rfl (by decide)) (fun x t v h h1 h2 => agV h h1 h2)
theorem law_contract {n a b f s t : Int32} (h : INV w) : Wp (f_X10_contract n a b f s t w) (fun r w1 => ∀ u : Wd, sameW w1 u → Wp (f_X11_contract n a b f s t u) (fun v w2 => INW u w2 ∧ ag kc123 r (w2.1 713 0) v)) := by
  obtain ⟨tab, txt, nv, sav, tp, os, pt, hc, hr, hO⟩ := h
  refine (k_contract hO.1 hc.2.1 hc.1).mono ?_
  rintro r w1 hk u su
  have ref : ∀ u : Wd, rtab u = tab → Wp (f_X11_contract n a b f s t u) _ := fun u e => r_contract (w := u) (by rw [e]; exact hO.1)
  rcases hk with ⟨b1, rfl, rfl⟩ | ⟨b1, b2, rfl, rfl⟩ | ⟨b1, b2, b3, rfl, rfl⟩ | ⟨b1, b2, i, d, x, hcon, rfl, hx, t1, ok, o⟩
  · have hc := CLS_same su hc
    have hr := REF_same su hr
    refine (ref u hr.1).mono ?_
    rintro v w2 ⟨rr, hv⟩
    rcases hv with ⟨e1, e2, e3⟩ | ⟨e1, e⟩ | ⟨e1, e⟩ | ⟨e1, e⟩
    · exact ⟨t_ref hO hc hr rr (e3.trans hr.1), agE e2 rfl (by decide)⟩
    · exact absurd b1 e1
    · exact absurd b1 e1
    · exact absurd b1 e1
  · have hc := CLS_same su hc
    have hr := REF_same su hr
    refine (ref u hr.1).mono ?_
    rintro v w2 ⟨rr, hv⟩
    rcases hv with ⟨e1, e2, e3⟩ | ⟨e1, e2, e3, e4⟩ | ⟨e1, e2, e⟩ | ⟨e1, e2, e⟩
    · exact absurd e1 b1
    · exact ⟨t_ref hO hc hr rr (e4.trans hr.1), agE e3 rfl (by decide)⟩
    · exact absurd b2 e2
    · exact absurd b2 e2
  · have hc := CLS_same su hc
    have hr := REF_same su hr
    refine (ref u hr.1).mono ?_
    rintro v w2 ⟨rr, hv⟩
    rw [hr.1] at hv
    rcases hv with ⟨e1, e2, e3⟩ | ⟨e1, e2, e3, e4⟩ | ⟨e1, e2, e3, e4, e5⟩ | ⟨e1, e2, e3, i, d, hcon, e4⟩
    · exact absurd e1 b1
    · exact absurd e2 b2
    · exact ⟨t_ref hO hc hr rr e5, agE e4 rfl (by decide)⟩
    · rcases hcon with ⟨_, q1, q2⟩ | ⟨_, q1, q2, q3⟩
      · exact absurd q2 (b3.2 i q1)
      · have := b3.1; omega
  · have C := t_cls hO hc hr t1 ok o
    have C := And.imp (CLS_same su) (REF_same su) C
    refine (ref u C.2.1).mono ?_
    rintro v w2 ⟨rr, hv⟩
    rw [C.2.1] at hv
    have B1 := Classical.not_not.mp b1
    rcases hv with ⟨e1, e2, e3⟩ | ⟨e1, e2, e3, e4⟩ | ⟨e1, e2, e3, e4, e5⟩ | ⟨e1, e2, e3, j, e, hcon2, e4, e5⟩
    · exact absurd e1 b1
    · exact absurd e2 b2
    · rcases hcon with ⟨_, q1, q2⟩ | ⟨_, q1, q2, q3⟩
      · exact absurd q2 (e3.2 i q1)
      · have := e3.1; omega
    · have U := conP_u hO.1 (show n.toInt.toNat < 2 by omega) hcon hcon2
      obtain ⟨rfl, rfl⟩ := U
      exact ⟨t_ref (OKS_t hO (tok_con hO.1 (by omega) (n := n.toInt.toNat) (by rw [show ((n.toInt.toNat : Nat) : Int) = n.toInt by omega]; exact b1) hcon)) C.1 C.2 rr e5, agV e3 hx e4⟩
theorem law_plural {n a b c d e f g : Int32} (h : INV w) : Wp (f_X10_plural n a b c d e f g w) (fun r w1 => ∀ u : Wd, sameW w1 u → Wp (f_X11_plural n a b c d e f g u) (fun v w2 => INW u w2 ∧ ag kc123 r (w2.1 713 0) v)) := by
  obtain ⟨tab, txt, nv, sav, tp, os, pt, hc, hr, hO⟩ := h
  refine (k_plural hO.1 hc.2.1 hc.1).mono ?_
  rintro r w1 hk u su
  have ref : ∀ u : Wd, rtab u = tab → Wp (f_X11_plural n a b c d e f g u) _ := fun u e => r_plural (w := u) (by rw [e]; exact hO.1)
  rcases hk with ⟨b1, rfl, rfl⟩ | ⟨b1, b2, rfl, rfl⟩ | ⟨b1, b2, b3, rfl, rfl⟩ | ⟨b1, b2, b3, ⟨x, rfl, hx⟩, t1, ok, o⟩
  · have hc := CLS_same su hc
    have hr := REF_same su hr
    refine (ref u hr.1).mono ?_
    rintro v w2 ⟨rr, hv⟩
    rcases hv with ⟨e1, e2, e3⟩ | ⟨e1, e⟩ | ⟨e1, e⟩ | ⟨e1, e⟩
    · exact ⟨t_ref hO hc hr rr (e3.trans hr.1), agE e2 rfl (by decide)⟩
    · exact absurd b1 e1
    · exact absurd b1 e1
    · exact absurd b1 e1
  · have hc := CLS_same su hc
    have hr := REF_same su hr
    refine (ref u hr.1).mono ?_
    rintro v w2 ⟨rr, hv⟩
    rcases hv with ⟨e1, e2, e3⟩ | ⟨e1, e2, e3, e4⟩ | ⟨e1, e2, e⟩ | ⟨e1, e2, e⟩
    · exact absurd e1 b1
    · exact ⟨t_ref hO hc hr rr (e4.trans hr.1), agE e3 rfl (by decide)⟩
    · exact absurd b2 e2
    · exact absurd b2 e2
  · have hc := CLS_same su hc
    have hr := REF_same su hr
    refine (ref u hr.1).mono ?_
    rintro v w2 ⟨rr, hv⟩
    rw [hr.1] at hv
    rcases hv with ⟨e1, e2, e3⟩ | ⟨e1, e2, e3, e4⟩ | ⟨e1, e2, e3, e4, e5⟩ | ⟨e1, e2, e3, e4⟩
    · exact absurd e1 b1
    · exact absurd e2 b2
    · exact ⟨t_ref hO hc hr rr e5, agE e4 rfl (by decide)⟩
    · exact absurd b3 e3
  · have C := t_cls hO hc hr t1 ok o
    have C := And.imp (CLS_same su) (REF_same su) C
    refine (ref u C.2.1).mono ?_
    rintro v w2 ⟨rr, hv⟩
    rw [C.2.1] at hv
    have B1 := Classical.not_not.mp b1
    rcases hv with ⟨e1, e2, e3⟩ | ⟨e1, e2, e3, e4⟩ | ⟨e1, e2, e3, e4, e5⟩ | ⟨e1, e2, e3, e4, e5, e6⟩
    · exact absurd e1 b1
    · exact absurd e2 b2
    · exact absurd e3 b3
    · exact ⟨t_ref (OKS_t hO (tok_plural hO.1 (by omega) b2 b3)) C.1 C.2 rr e6, agV e4 hx e5⟩
theorem law_addRule {p a b c d : Int32} (h : INV w) : Wp (f_X10_addRule p a b c d w) (fun r w1 => ∀ u : Wd, sameW w1 u → Wp (f_X11_addRule p a b c d u) (fun v w2 => INW u w2 ∧ ag kc123 r (w2.1 713 0) v)) := by
  obtain ⟨tab, txt, nv, sav, tp, os, pt, hc, hr, hO⟩ := h
  refine (k_addRule hO.1 hc.2.1 hc.1 hc.2.2.1).mono ?_
  rintro r w1 hk u su
  have ref : ∀ u : Wd, rtab u = tab → rtx u txt → Wp (f_X11_addRule p a b c d u) _ := fun u e x => r_addRule (w := u) (by rw [e]; exact hO.1) x hO.2.1
  rcases hk with ⟨b1, rfl, rfl⟩ | ⟨b1, b2, rfl, rfl⟩ | ⟨b1, b2, b3, rfl, rfl⟩ | ⟨b1, b2, b3, ⟨x, rfl, hx⟩, t1, ok, o⟩
  · have hc := CLS_same su hc
    have hr := REF_same su hr
    refine (ref u hr.1 hr.2.1).mono ?_
    rintro v w2 ⟨rr, hv⟩
    rcases hv with ⟨e1, e2, e3⟩ | ⟨e1, e⟩ | ⟨e1, e⟩ | ⟨e1, e⟩
    · exact ⟨t_ref hO hc hr rr (e3.trans hr.1), agE e2 rfl (by decide)⟩
    · exact absurd b1 e1
    · exact absurd b1 e1
    · exact absurd b1 e1
  · have hc := CLS_same su hc
    have hr := REF_same su hr
    refine (ref u hr.1 hr.2.1).mono ?_
    rintro v w2 ⟨rr, hv⟩
    rcases hv with ⟨e1, e2, e3⟩ | ⟨e1, e2, e3, e4⟩ | ⟨e1, e2, e⟩ | ⟨e1, e2, e⟩
    · exact absurd e1 b1
    · exact ⟨t_ref hO hc hr rr (e4.trans hr.1), agE e3 rfl (by decide)⟩
    · exact absurd b2 e2
    · exact absurd b2 e2
  · have hc := CLS_same su hc
    have hr := REF_same su hr
    refine (ref u hr.1 hr.2.1).mono ?_
    rintro v w2 ⟨rr, hv⟩
    rw [hr.1] at hv
    rcases hv with ⟨e1, e2, e3⟩ | ⟨e1, e2, e3, e4⟩ | ⟨e1, e2, e3, e4, e5⟩ | ⟨e1, e2, e3, e4⟩
    · exact absurd e1 b1
    · exact absurd e2 b2
    · exact ⟨t_ref hO hc hr rr e5, agE e4 rfl (by decide)⟩
    · exact absurd b3 e3
  · have C := t_cls hO hc hr t1 ok o
    have C := And.imp (CLS_same su) (REF_same su) C
    refine (ref u C.2.1 C.2.2.1).mono ?_
    rintro v w2 ⟨rr, hv⟩
    rw [C.2.1] at hv
    have B1 := Classical.not_not.mp b1
    rcases hv with ⟨e1, e2, e3⟩ | ⟨e1, e2, e3, e4⟩ | ⟨e1, e2, e3, e4, e5⟩ | ⟨e1, e2, e3, e4, e5, e6⟩
    · exact absurd e1 b1
    · exact absurd e2 b2
    · exact absurd e3 b3
    · exact ⟨t_ref (OKS_t hO (tok_rule hO.1 b2 b3 (hO.2.1 b.toInt.toNat (by omega)).2 (hO.2.1 d.toInt.toNat (by omega)).2)) C.1 C.2 rr e6, agV e4 hx e5⟩
end
