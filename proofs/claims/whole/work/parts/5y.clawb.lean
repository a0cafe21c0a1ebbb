/-! ===== the law's cases: more questions ===== -/
section
variable {w : Wd}
theorem scr_s {w w1 : Wd} (o : oc scr w w1) : ∃ S : Nat → Prop, oc S w w1 ∧ ∀ k, S k → scr k ∨ k = w.2.1 + 7 ∨ k = w.2.1 + 8 := ⟨_, o, fun k q => Or.inl q⟩
theorem fwk_f : ∀ k, fwk k → k ≠ 3 ∧ k ≠ 7 ∧ k ≠ 9 ∧ k ≠ 31 ∧ k ≠ 32 := fun k h => by unfold fwk at h; omega
theorem law_looksLike {s t : Int32} (h : INV w) : Wp (f_X10_looksLike s t w) (fun r w1 => ∀ u : Wd, sameW w1 u → Wp (f_X11_looksLike s t u) (fun v w2 => INW u w2 ∧ ag kc13 r (w2.1 713 0) v)) := by
  obtain ⟨tab, txt, nv, sav, tp, os, pt, hc, hr, hO⟩ := h
  refine q_law (G := fun r t v => ag kc13 r t v) hO hc hr ((k_looksLike hO.1 hc.2.1 hc.1 hc.2.2.1 hO.2.1).mono ?_)
  rintro r w1 ⟨ok, -, o, hk⟩
  refine ⟨scr_s o, ok, fun u _ r1 => (r_looksLike hO.1 r1.1 r1.2.1 hO.2.1).mono ?_⟩
  rintro v w2 ⟨rr, hv⟩
  refine ⟨⟨_, _, rr, fwk_f, fun k q => by omega⟩, ?_⟩
  rcases hk with ⟨b, rfl⟩ | ⟨b, c, rfl⟩ | ⟨b, x, rfl, hx⟩ <;> rcases hv with ⟨b2, t⟩ | ⟨b2, c2, t⟩ | ⟨b2, t, hv⟩
  · exact agE t rfl (by decide)
  · exact absurd b b2
  · exact absurd b b2
  · exact absurd b2 b
  · exact agE t rfl (by decide)
  · obtain ⟨a, e, h1, h2, -⟩ := hv
    rcases c with c | c
    · rw [c] at h1; cases h1
    · rw [c] at h2; cases h2
  · exact absurd b2 b
  · obtain ⟨a, e, h1, h2, -⟩ := hx
    rcases c2 with c | c
    · rw [c] at h1; cases h1
    · rw [c] at h2; cases h2
  · obtain ⟨a, e, h1, h2, h3⟩ := hx
    obtain ⟨a', e', g1, g2, g3⟩ := hv
    rw [h1] at g1; rw [h2] at g2
    cases g1; cases g2
    exact agV t h3 g3
theorem law_compare {n s t : Int32} (h : INV w) : Wp (f_X10_compare n s t w) (fun r w1 => ∀ u : Wd, sameW w1 u → Wp (f_X11_compare n s t u) (fun v w2 => INW u w2 ∧ ag kc13 r (w2.1 713 0) v)) := by
  obtain ⟨tab, txt, nv, sav, tp, os, pt, hc, hr, hO⟩ := h
  refine q_law (G := fun r t v => ag kc13 r t v) hO hc hr ((k_compare hO.1 hc.2.1 hc.1 hc.2.2.1 hO.2.1).mono ?_)
  rintro r w1 ⟨ok, -, o, hk⟩
  refine ⟨scr_s o, ok, fun u _ r1 => (r_compare hO.1 r1.1 r1.2.1 hO.2.1).mono ?_⟩
  rintro v w2 ⟨rr, hv⟩
  refine ⟨⟨_, _, rr, fun k q => by unfold cpf at q; omega, fun k q => by unfold cpo at q; omega⟩, ?_⟩
  rcases hk with ⟨b, rfl⟩ | ⟨b, c, rfl⟩ | ⟨b, x, a, e, rfl, h1, h2, hx⟩ <;> rcases hv with ⟨b2, t⟩ | ⟨b2, c2, t⟩ | ⟨b2, t, a', e', g1, g2, hv⟩
  · exact agE t rfl (by decide)
  · exact absurd b b2
  · exact absurd b b2
  · exact absurd b2 b
  · exact agE t rfl (by decide)
  · rcases c with c | c
    · rw [c] at g1; cases g1
    · rw [c] at g2; cases g2
  · exact absurd b2 b
  · rcases c2 with c | c
    · rw [c] at h1; cases h1
    · rw [c] at h2; cases h2
  · rw [h1] at g1; rw [h2] at g2
    cases g1; cases g2
    exact agV t hx hv
theorem law_key {n s p : Int32} (h : INV w) : Wp (f_X10_key n s p w) (fun r w1 => ∀ u : Wd, sameW w1 u → Wp (f_X11_key n s p u) (fun v w2 => INW u w2 ∧ ag kc13 r (w2.1 713 0) v)) := by
  obtain ⟨tab, txt, nv, sav, tp, os, pt, hc, hr, hO⟩ := h
  refine q_law (G := fun r t v => ag kc13 r t v) hO hc hr ((k_key hO.1 hc.2.1 hc.1 hc.2.2.1 hO.2.1).mono ?_)
  rintro r w1 ⟨ok, -, o, hk⟩
  refine ⟨scr_s o, ok, fun u _ r1 => (r_key hO.1 r1.1 r1.2.1 hO.2.1).mono ?_⟩
  rintro v w2 ⟨rr, hv⟩
  refine ⟨⟨_, _, rr, fun k q => by unfold cpf at q; omega, fun k q => by unfold cpo at q; omega⟩, ?_⟩
  rcases hk with ⟨b, rfl⟩ | ⟨b, c, rfl⟩ | ⟨b, a, h1, hx⟩ <;> rcases hv with ⟨b2, t⟩ | ⟨b2, c2, t⟩ | ⟨b2, a', g1, hv⟩
  · exact agE t rfl (by decide)
  · exact absurd b b2
  · exact absurd b b2
  · exact absurd b2 b
  · exact agE t rfl (by decide)
  · rw [c] at g1; cases g1
  · exact absurd b2 b
  · rw [c2] at h1; cases h1
  · rw [h1] at g1
    cases g1
    rcases hx with ⟨d, rfl⟩ | ⟨d, x, rfl, hx⟩ <;> rcases hv with ⟨d2, t⟩ | ⟨d2, t, hv⟩
    · exact agE t rfl (by decide)
    · exact absurd d2 d
    · exact absurd d d2
    · exact agV t hx hv
theorem law_find {s t p : Int32} (h : INV w) : Wp (f_X10_find s t p w) (fun r w1 => ∀ u : Wd, sameW w1 u → Wp (f_X11_find s t p u) (fun v w2 => INW u w2 ∧ ag kc123 r (w2.1 713 0) v)) := by
  obtain ⟨tab, txt, nv, sav, tp, os, pt, hc, hr, hO⟩ := h
  refine q_law (G := fun r t v => ag kc123 r t v) hO hc hr ((k_find hO.1 hc.2.1 hc.1 hc.2.2.1 hO.2.1).mono ?_)
  rintro r w1 ⟨ok, -, o, hk⟩
  refine ⟨scr_s o, ok, fun u _ r1 => (r_find hO.1 r1.1 r1.2.1 hO.2.1).mono ?_⟩
  rintro v w2 ⟨rr, hv⟩
  refine ⟨⟨_, _, rr, fwk_f, fun k q => by omega⟩, ?_⟩
  rcases hk with ⟨b, rfl⟩ | ⟨b, c, rfl⟩ | ⟨b, c, d, rfl⟩ | ⟨b, c, d, x, rfl, hx⟩ <;> rcases hv with ⟨b2, t⟩ | ⟨b2, c2, t⟩ | ⟨b2, c2, d2, t⟩ | ⟨b2, c2, d2, t, hv⟩ <;> first | exact absurd b b2 | exact absurd b2 b | exact absurd c c2 | exact absurd c2 c | exact absurd d d2 | exact absurd d2 d | exact agE t rfl (by decide) | exact agV t hx hv
theorem law_match {s p : Int32} (h : INV w) : Wp (f_X10_match s p w) (fun r w1 => ∀ u : Wd, sameW w1 u → Wp (f_X11_match s p u) (fun v w2 => INW u w2 ∧ ag kc13 r (w2.1 713 0) v)) := by
  obtain ⟨tab, txt, nv, sav, tp, os, pt, hc, hr, hO⟩ := h
  refine q_law (G := fun r t v => ag kc13 r t v) hO hc hr ((k_match hO.1 hc.2.1 hc.1 hc.2.2.1 hO.2.1 hc.2.2.2.2.2.2.2.1 hc.2.2.2.2.2.2.1).mono ?_)
  rintro r w1 ⟨hl, hk⟩
  refine ⟨⟨_, hl.1, fun k q => Or.inr q⟩, hl.2, fun u _ r1 => (r_match r1.1 r1.2.1 hO.2.1 r1.2.2.2.2.2).mono ?_⟩
  rintro v w2 ⟨rr, hv⟩
  refine ⟨⟨_, _, rr, Fq0, fun k q => by omega⟩, ?_⟩
  rcases hk with ⟨b, rfl⟩ | ⟨b, c, rfl⟩ | ⟨b, l, x, e, rfl, hx⟩ <;> rcases hv with ⟨b2, t⟩ | ⟨b2, c2, t⟩ | ⟨b2, t, l2, e2, hv⟩
  · exact agE t rfl (by decide)
  · exact absurd b b2
  · exact absurd b b2
  · exact absurd b2 b
  · exact agE t rfl (by decide)
  · rw [c] at e2; cases e2
  · exact absurd b2 b
  · rw [c2] at e; cases e
  · rw [e] at e2; cases e2
    exact agV t (lastOf_u hx hv) rfl
/-- the same with a long for an answer -/
def agl (c : Nat → Int) (r : Nat ⊕ Int64) (t : Int32) (s : Int64) : Prop := (∃ e, r = .inl e ∧ t.toInt = c e ∧ c e ≠ 0) ∨ (∃ v, r = .inr v ∧ t.toInt = 0 ∧ v = s)
theorem law_breaks {s x : Int32} (h : INV w) : Wp (f_X10_breaks s x w) (fun r w1 => ∀ u : Wd, sameW w1 u → Wp (f_X11_breaks s x u) (fun v w2 => INW u w2 ∧ agl kc12 r (w2.1 713 0) v)) := by
  obtain ⟨tab, txt, nv, sav, tp, os, pt, hc, hr, hO⟩ := h
  refine q_law (G := fun r t v => agl kc12 r t v) hO hc hr ((k_breaks hO.1 hc.2.1 hc.1 hc.2.2.1 hO.2.1).mono ?_)
  rintro r w1 ⟨rfl, hk⟩
  refine ⟨⟨fun _ => False, oc_rf, fun k q => q.elim⟩, hc.1, fun u _ r1 => (r_breaks hO.1 r1.1 r1.2.1 hO.2.1).mono ?_⟩
  rintro v w2 ⟨rr, hv⟩
  refine ⟨⟨_, _, rr, Fq0, fun k q => by omega⟩, ?_⟩
  rcases hk with ⟨b, rfl⟩ | ⟨b, c, rfl⟩ | ⟨b, c, m, rfl, hx⟩ <;> rcases hv with ⟨b2, t⟩ | ⟨b2, c2, t⟩ | ⟨b2, c2, t, hv⟩
  · exact Or.inl ⟨1, rfl, t, by decide⟩
  · exact absurd b b2
  · exact absurd b b2
  · exact absurd b2 b
  · exact Or.inl ⟨2, rfl, t, by decide⟩
  · exact absurd c c2
  · exact absurd b2 b
  · exact absurd c2 c
  · exact Or.inr ⟨m, rfl, t, mk_ext (fun k hk2 => (hx k hk2).trans (hv k hk2).symm)⟩
end
