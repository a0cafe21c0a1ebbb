/-! ===== the law's cases: questions ===== -/
section
variable {w : Wd}
theorem q_law {R V : Type} {A : Option (R × Wd)} {B : Wd → Option (V × Wd)} {G : R → Int32 → V → Prop} {tab : Nat → Int} {txt : Nat → List Int} {nv : Nat} {sav : Nat → Nat → Int} {tp os : List Int} {pt : Option (List PC)} (hO : OKS tab txt nv sav tp os) (hc : CLS w tab txt nv sav tp os pt) (hr : REF w tab txt nv sav tp os pt)
    (a : Wp A (fun r w1 => (∃ S : Nat → Prop, oc S w w1 ∧ ∀ k, S k → scr k ∨ k = w.2.1 + 7 ∨ k = w.2.1 + 8) ∧ okall w1 ∧ (∀ u : Wd, CLS u tab txt nv sav tp os pt → REF u tab txt nv sav tp os pt → Wp (B u) (fun v w2 => (∃ F S : Nat → Prop, rcg F S u w2 ∧ (∀ k, F k → k ≠ 3 ∧ k ≠ 7 ∧ k ≠ 9 ∧ k ≠ 31 ∧ k ≠ 32) ∧ ∀ k, S k → 720 ≤ k ∧ k ≠ 736 ∧ k ≠ 737 ∧ k ≠ 738) ∧ G r (w2.1 713 0) v)))) :
    Wp A (fun r w1 => ∀ u : Wd, sameW w1 u → Wp (B u) (fun v w2 => INW u w2 ∧ G r (w2.1 713 0) v)) := by
  refine a.mono ?_
  rintro r w1 ⟨⟨S, o, hS⟩, ok, b⟩ u su
  have C := q_cls hO hc hr o ok hS
  have Cu := CLS_same su C.1
  have Ru := REF_same su C.2
  refine (b u Cu Ru).mono ?_
  rintro v w2 ⟨⟨F, S2, rr, hF, hS2⟩, g⟩
  have D := q_ref hO Cu Ru rr hF hS2
  exact ⟨⟨⟨tab, txt, nv, sav, tp, os, pt, D.1, D.2, hO⟩, rr.2.2⟩, g⟩
/-- F and S of the calls that only look -/
theorem Fq0 : ∀ k, (fun f => f = 0) k → k ≠ 3 ∧ k ≠ 7 ∧ k ≠ 9 ∧ k ≠ 31 ∧ k ≠ 32 := fun k h => by have h2 : k = 0 := h; omega
theorem Sq0 : ∀ k, (fun _ => False) k → 720 ≤ k ∧ k ≠ 736 ∧ k ≠ 737 ∧ k ≠ 738 := fun k h => h.elim
theorem agE {c : Nat → Int} {e : Nat} {t s : Int32} {n : Int} (h : t.toInt = n) (hn : n = c e) (h0 : c e ≠ 0) : ag c (.inl e) t s := Or.inl ⟨e, rfl, h.trans hn, h0⟩
theorem agV {c : Nat → Int} {t s v : Int32} {n : Int} (h : t.toInt = 0) (h1 : v.toInt = n) (h2 : s.toInt = n) : ag c (.inr v) t s := Or.inr ⟨v, rfl, h, i_eq.mpr (h1.trans h2.symm)⟩
theorem law_at {s p : Int32} (h : INV w) : Wp (f_X10_at s p w) (fun r w1 => ∀ u : Wd, sameW w1 u → Wp (f_X11_at s p u) (fun v w2 => INW u w2 ∧ ag kc1 r (w2.1 713 0) v)) := by
  obtain ⟨tab, txt, nv, sav, tp, os, pt, hc, hr, hO⟩ := h
  refine q_law (G := fun r t v => ag kc1 r t v) hO hc hr ((k_at hc.1 hc.2.2.1).mono ?_)
  rintro r w1 ⟨rfl, hk⟩
  refine ⟨⟨fun _ => False, oc_rf, fun k q => q.elim⟩, hc.1, fun u _ r1 => (r_at r1.2.1 hO.2.1).mono ?_⟩
  rintro v w2 ⟨rr, hv⟩
  refine ⟨⟨_, _, rr, Fq0, Sq0⟩, ?_⟩
  rcases hk with ⟨b, rfl⟩ | ⟨b, x, rfl, hx⟩ <;> rcases hv with ⟨b2, t⟩ | ⟨b2, t, hv⟩
  · exact agE t rfl (by decide)
  · exact absurd b b2
  · exact absurd b2 b
  · exact agV t hx hv
theorem law_base {s : Int32} (h : INV w) : Wp (f_X10_base s w) (fun r w1 => ∀ u : Wd, sameW w1 u → Wp (f_X11_base s u) (fun v w2 => INW u w2 ∧ ag kc1 r (w2.1 713 0) v)) := by
  obtain ⟨tab, txt, nv, sav, tp, os, pt, hc, hr, hO⟩ := h
  refine q_law (G := fun r t v => ag kc1 r t v) hO hc hr ((k_base hO.1 hc.2.1 hc.1 hc.2.2.1 hO.2.1).mono ?_)
  rintro r w1 ⟨rfl, hk⟩
  refine ⟨⟨fun _ => False, oc_rf, fun k q => q.elim⟩, hc.1, fun u _ r1 => (r_base hO.1 r1.1 r1.2.1 hO.2.1).mono ?_⟩
  rintro v w2 ⟨rr, hv⟩
  refine ⟨⟨_, _, rr, Fq0, fun k q => by omega⟩, ?_⟩
  rcases hk with ⟨b, rfl⟩ | ⟨b, x, rfl, hx⟩ <;> rcases hv with ⟨b2, t⟩ | ⟨b2, t, hv⟩
  · exact agE t rfl (by decide)
  · exact absurd b b2
  · exact absurd b2 b
  · exact agV t hx hv
theorem law_bySense {s p b : Int32} (h : INV w) : Wp (f_X10_bySense s p b w) (fun r w1 => ∀ u : Wd, sameW w1 u → Wp (f_X11_bySense s p b u) (fun v w2 => INW u w2 ∧ ag kc1 r (w2.1 713 0) v)) := by
  obtain ⟨tab, txt, nv, sav, tp, os, pt, hc, hr, hO⟩ := h
  refine q_law (G := fun r t v => ag kc1 r t v) hO hc hr ((k_bySense hc.2.1 hc.1 hc.2.2.1 hO.2.1).mono ?_)
  rintro r w1 ⟨rfl, hk⟩
  refine ⟨⟨fun _ => False, oc_rf, fun k q => q.elim⟩, hc.1, fun u _ r1 => (r_bySense r1.1 r1.2.1 hO.2.1).mono ?_⟩
  rintro v w2 ⟨rr, hv⟩
  refine ⟨⟨_, _, rr, Fq0, Sq0⟩, ?_⟩
  rcases hk with ⟨b, rfl⟩ | ⟨b, x, rfl, hx⟩ <;> rcases hv with ⟨b2, t⟩ | ⟨b2, t, hv⟩
  · exact agE t rfl (by decide)
  · exact absurd b b2
  · exact absurd b2 b
  · exact agV t hx hv
theorem lv_s {w w1 : Wd} (h : lv w w1) : ∃ S : Nat → Prop, oc S w w1 ∧ ∀ k, S k → scr k ∨ k = w.2.1 + 7 ∨ k = w.2.1 + 8 := ⟨_, h.1, fun k q => by unfold scr; omega⟩
theorem lrf_s {w w1 : Wd} (h : lrf w w1) : ∃ F S : Nat → Prop, rcg F S w w1 ∧ (∀ k, F k → k ≠ 3 ∧ k ≠ 7 ∧ k ≠ 9 ∧ k ≠ 31 ∧ k ≠ 32) ∧ ∀ k, S k → 720 ≤ k ∧ k ≠ 736 ∧ k ≠ 737 ∧ k ≠ 738 := ⟨_, _, h, fun k q => by omega, fun k q => by omega⟩
theorem law_level {s p b : Int32} (h : INV w) : Wp (f_X10_level s p b w) (fun r w1 => ∀ u : Wd, sameW w1 u → Wp (f_X11_level s p b u) (fun v w2 => INW u w2 ∧ ag kc12 r (w2.1 713 0) v)) := by
  obtain ⟨tab, txt, nv, sav, tp, os, pt, hc, hr, hO⟩ := h
  refine q_law (G := fun r t v => ag kc12 r t v) hO hc hr ((k_level hO.1 hc.2.1 hc.1 hc.2.2.1 hO.2.1).mono ?_)
  rintro r w1 ⟨hl, hk⟩
  refine ⟨lv_s hl, hl.2, fun u _ r1 => (r_level hO.1 r1.1 r1.2.1 hO.2.1).mono ?_⟩
  rintro v w2 ⟨rr, hv⟩
  refine ⟨lrf_s rr, ?_⟩
  rcases hk with ⟨b, rfl⟩ | ⟨b, c, rfl⟩ | ⟨b, c, x, rfl, hx⟩ <;> rcases hv with ⟨b2, t⟩ | ⟨b2, c2, t⟩ | ⟨b2, c2, t, hv⟩
  · exact agE t rfl (by decide)
  · exact absurd b b2
  · exact absurd b b2
  · exact absurd b2 b
  · exact agE t rfl (by decide)
  · exact absurd c c2
  · exact absurd b2 b
  · exact absurd c2 c
  · exact agV t hx hv
theorem law_shown {s p b : Int32} (h : INV w) : Wp (f_X10_shown s p b w) (fun r w1 => ∀ u : Wd, sameW w1 u → Wp (f_X11_shown s p b u) (fun v w2 => INW u w2 ∧ ag kc12 r (w2.1 713 0) v)) := by
  obtain ⟨tab, txt, nv, sav, tp, os, pt, hc, hr, hO⟩ := h
  refine q_law (G := fun r t v => ag kc12 r t v) hO hc hr ((k_shown hO.1 hc.2.1 hc.1 hc.2.2.1 hO.2.1).mono ?_)
  rintro r w1 ⟨hl, hk⟩
  refine ⟨lv_s hl, hl.2, fun u _ r1 => (r_shown hO.1 r1.1 r1.2.1 hO.2.1).mono ?_⟩
  rintro v w2 ⟨rr, hv⟩
  refine ⟨lrf_s rr, ?_⟩
  rcases hk with ⟨b, rfl⟩ | ⟨b, c, rfl⟩ | ⟨b, c, x, rfl, hx⟩ <;> rcases hv with ⟨b2, t⟩ | ⟨b2, c2, t⟩ | ⟨b2, c2, t, hv⟩
  · exact agE t rfl (by decide)
  · exact absurd b b2
  · exact absurd b b2
  · exact absurd b2 b
  · exact agE t rfl (by decide)
  · exact absurd c c2
  · exact absurd b2 b
  · exact absurd c2 c
  · exact agV t hx hv
theorem law_bySight {s p b : Int32} (h : INV w) : Wp (f_X10_bySight s p b w) (fun r w1 => ∀ u : Wd, sameW w1 u → Wp (f_X11_bySight s p b u) (fun v w2 => INW u w2 ∧ ag kc1 r (w2.1 713 0) v)) := by
  obtain ⟨tab, txt, nv, sav, tp, os, pt, hc, hr, hO⟩ := h
  refine q_law (G := fun r t v => ag kc1 r t v) hO hc hr ((k_bySight hO.1 hc.2.1 hc.1 hc.2.2.1 hO.2.1).mono ?_)
  rintro r w1 ⟨hl, hk⟩
  refine ⟨lv_s hl, hl.2, fun u _ r1 => (r_bySight hO.1 r1.1 r1.2.1 hO.2.1).mono ?_⟩
  rintro v w2 ⟨rr, hv⟩
  refine ⟨lrf_s rr, ?_⟩
  rcases hk with ⟨b, rfl⟩ | ⟨b, a, x, rfl, hi, hx⟩ <;> rcases hv with ⟨b2, t⟩ | ⟨b2, t, a2, hi2, hv⟩
  · exact agE t rfl (by decide)
  · exact absurd b b2
  · exact absurd b2 b
  · have e := isIdx_u hi hi2
    rw [← e] at hv
    exact agV t hx hv
theorem law_classOf {n v : Int32} (h : INV w) : Wp (f_X10_classOf n v w) (fun r w1 => ∀ u : Wd, sameW w1 u → Wp (f_X11_classOf n v u) (fun s w2 => INW u w2 ∧ ag kc12 r (w2.1 713 0) s)) := by
  obtain ⟨tab, txt, nv, sav, tp, os, pt, hc, hr, hO⟩ := h
  refine q_law (G := fun r t v => ag kc12 r t v) hO hc hr ((k_classOf hO.1 hc.2.1).mono ?_)
  rintro r w1 ⟨rfl, hk⟩
  refine ⟨⟨fun _ => False, oc_rf, fun k q => q.elim⟩, hc.1, fun u _ r1 => (r_classOf hO.1 r1.1).mono ?_⟩
  rintro v w2 ⟨rr, hv⟩
  refine ⟨⟨_, _, rr, Fq0, Sq0⟩, ?_⟩
  rcases hk with ⟨b, rfl⟩ | ⟨b, c, rfl⟩ | ⟨b, c, x, rfl, hx⟩ <;> rcases hv with ⟨b2, t⟩ | ⟨b2, c2, t⟩ | ⟨b2, c2, t, hv⟩
  · exact agE t rfl (by decide)
  · exact absurd b b2
  · exact absurd b b2
  · exact absurd b2 b
  · exact agE t rfl (by decide)
  · exact absurd c c2
  · exact absurd b2 b
  · exact absurd c2 c
  · exact agV t hx hv
theorem law_word {i : Int32} (h : INV w) : Wp (f_X10_word i w) (fun r w1 => ∀ u : Wd, sameW w1 u → Wp (f_X11_word i u) (fun v w2 => INW u w2 ∧ r = v ∧ (w2.1 713 0).toInt = 0)) := by
  obtain ⟨tab, txt, nv, sav, tp, os, pt, hc, hr, hO⟩ := h
  refine q_law (G := fun r t v => r = v ∧ t.toInt = 0) hO hc hr ((k_word hc.1 hc.2.2.2.2.2.1 hO.2.2.2.2.2).mono ?_)
  rintro r w1 ⟨rfl, hk⟩
  refine ⟨⟨fun _ => False, oc_rf, fun k q => q.elim⟩, hc.1, fun u _ r1 => (r_word r1.2.2.2.2.1 hO.2.2.2.2.2).mono ?_⟩
  rintro v w2 ⟨rr, hv, t⟩
  exact ⟨⟨_, _, rr, Fq0, Sq0⟩, un_inj (hk.trans hv.symm), t⟩
end
