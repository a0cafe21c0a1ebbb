/-! ===== forms are forms of themselves ===== -/
section
variable {S T U : ST}
theorem DTr_wp {R : Type} {A : Wd → Option (R × Wd)} {x : R} (h : ∀ w, CS w S → Wp (A w) (fun r w' => r = x ∧ CS w' T)) : DTr A S x T := by
  intro w hw
  obtain ⟨r, w', e, e2, hc⟩ := h w hw
  subst e2
  exact ⟨w', e, hc⟩
theorem DTr_to {R : Type} {A : Wd → Option (R × Wd)} {x : R} (h : DTr A S x T) {w : Wd} (hw : CS w S) : Wp (A w) (fun r w' => r = x ∧ CS w' T) := by
  obtain ⟨w', e, hc⟩ := h w hw
  exact ⟨x, w', e, rfl, hc⟩
theorem DTr_bd {R R2 : Type} {A : Wd → Option (R × Wd)} {K : R → Wd → Option (R2 × Wd)} {x : R} {y : R2} (h : DTr A S x T) (k : DTr (fun w => K x w) T y U) : DTr (fun w => bd (A w) (fun x w1 => K x w1)) S y U := by
  intro w hw
  obtain ⟨w', e, hc⟩ := h w hw
  obtain ⟨w2, e2, hc2⟩ := k w' hc
  refine ⟨w2, ?_, hc2⟩
  show bd (A w) _ = _
  rw [e]; exact e2
theorem DTr_bdx {R R2 : Type} {A : Wd → Option ((Nat ⊕ R) × Wd)} {K : R → Wd → Option ((Nat ⊕ R2) × Wd)} {x : R} {y : Nat ⊕ R2} (h : DTr A S (.inr x) T) (k : DTr (fun w => K x w) T y U) : DTr (fun w => bdx (A w) (fun x w1 => K x w1)) S y U := by
  intro w hw
  obtain ⟨w', e, hc⟩ := h w hw
  obtain ⟨w2, e2, hc2⟩ := k w' hc
  refine ⟨w2, ?_, hc2⟩
  show bdx (A w) _ = _
  rw [e]; exact e2
theorem DTr_r {R : Type} {x : R} : DTr (fun w => some (x, w)) S x S := fun w hw => ⟨w, rfl, hw⟩
theorem DTr_t {R : Type} {c : Prop} [Decidable c] {A B : Wd → Option (R × Wd)} {x : R} (h : c) (k : DTr A S x T) : DTr (fun w => if c then A w else B w) S x T := by
  have e : (fun w => if c then A w else B w) = A := funext (fun w => if_pos h)
  rw [e]; exact k
theorem DTr_f {R : Type} {c : Prop} [Decidable c] {A B : Wd → Option (R × Wd)} {x : R} (h : ¬ c) (k : DTr B S x T) : DTr (fun w => if c then A w else B w) S x T := by
  have e : (fun w => if c then A w else B w) = B := funext (fun w => if_neg h)
  rw [e]; exact k
/-- what a caught call answers -/
def KX3 (k : Nat) (w1 : Wd) : Option (Int32 × Wd) := (if k = 1 then some ((-9999999 : Int32), w1) else (if k = 2 then some ((-9999999 : Int32), w1) else (if k = 3 then some ((-9999999 : Int32), w1) else none)))
theorem DTr_c {A : Wd → Option ((Nat ⊕ Int32) × Wd)} {x : Int32} (h : DTr A S (.inr x) T) : DTr (fun w => bdc (A w) KX3 (fun x w1 => some (x, w1))) S x T := by
  intro w hw
  obtain ⟨w', e, hc⟩ := h w hw
  refine ⟨w', ?_, hc⟩
  show bdc (A w) _ _ = _
  rw [e]; rfl
theorem DTr_cx {A : Wd → Option ((Nat ⊕ Int32) × Wd)} {e : Nat} (h : DTr A S (.inl e) T) (he : e = 1 ∨ e = 2 ∨ e = 3) : DTr (fun w => bdc (A w) KX3 (fun x w1 => some (x, w1))) S (-9999999) T := by
  intro w hw
  obtain ⟨w', e1, hc⟩ := h w hw
  refine ⟨w', ?_, hc⟩
  show bdc (A w) _ _ = _
  rw [e1]
  rcases he with rfl | rfl | rfl <;> rfl
theorem do_form {a b c : Int32} : (fun w => f_L_does 12 a b c w) = fun w => bdc (f_X10_form a b c w) KX3 (fun x w1 => some (x, w1)) := by
  funext w
  unfold f_L_does f_L_first
  rw [if_pos (by decide), if_neg (by decide), if_neg (by decide), if_neg (by decide), if_neg (by decide), if_neg (by decide), if_neg (by decide), if_neg (by decide), if_neg (by decide), if_pos rfl]
  rcases f_X10_form a b c w with _ | ⟨e | x, w1⟩ <;> rfl
theorem do_comp {a b c : Int32} : (fun w => f_L_does 19 a b c w) = fun w => bdc (f_X10_compare a b c w) KX3 (fun x w1 => some (x, w1)) := by
  funext w
  unfold f_L_does
  rw [if_pos (by decide), if_pos (by decide), if_neg (by decide), if_neg (by decide), if_neg (by decide), if_neg (by decide), if_pos rfl]
  rfl
theorem do_like {a b c : Int32} : (fun w => f_L_does 13 a b c w) = fun w => bdc (bdx (f_X10_looksLike a b w) (fun x w1 => if x = 0 then some (.inr (0 : Int32), w1) else some (.inr (1 : Int32), w1))) KX3 (fun x w1 => some (x, w1)) := by
  funext w
  unfold f_L_does f_L_first
  rw [if_pos (by decide), if_neg (by decide), if_neg (by decide), if_neg (by decide), if_neg (by decide), if_neg (by decide), if_neg (by decide), if_neg (by decide), if_neg (by decide), if_neg (by decide), if_pos rfl]
  rfl
def slo (s : Int32) : Prop := 0 ≤ s.toInt ∧ s.toInt ≤ 5
theorem two_ok {s t : Int32} (h : slo s) (g : slo t) : ¬ bad_two s.toInt t.toInt := fun q => q ⟨h, g⟩
/-- a form that fits -/
theorem form_ok {s f t : Int32} {ys : List Int} (hS : GS S) (hs : slo s) (ht : slo t) (hf : 0 ≤ f.toInt ∧ f.toInt ≤ 3) (h : okf (fsp S.1 f.toInt (S.2.1 s.toInt.toNat)) ys) : ∃ x : Int32, x.toInt = ys.length ∧ DTr (fun w => f_L_does 12 s f t w) S x (S.1, xset S.2.1 t.toInt.toNat ys, S.2.2) ∧ GS (S.1, xset S.2.1 t.toInt.toNat ys, S.2.2) := by
  rcases S with ⟨tab, txt, nv, sav, tp, os, pt⟩
  obtain ⟨r, T, hg, hd, hG⟩ := g_form (s := s) (f := f) (t0 := t) hS
  rw [do_form]
  rcases hg with ⟨b, -⟩ | ⟨-, ⟨b, -⟩ | ⟨-, ⟨b, -⟩ | ⟨-, zs, x, hz, rfl, hx, rfl⟩⟩⟩
  · exact absurd b (two_ok hs ht)
  · exact absurd b (fun q => q hf)
  · exact absurd h (b ys)
  · have e : zs = ys := Option.some.inj (hz.1.symm.trans h.1)
    subst e
    exact ⟨x, hx, DTr_c hd, hG⟩
/-- one that does not -/
theorem form_no {s f t : Int32} (hS : GS S) (hs : slo s) (ht : slo t) (hf : 0 ≤ f.toInt ∧ f.toInt ≤ 3) (h : ∀ ys, ¬ okf (fsp S.1 f.toInt (S.2.1 s.toInt.toNat)) ys) : DTr (fun w => f_L_does 12 s f t w) S (-9999999) S := by
  rcases S with ⟨tab, txt, nv, sav, tp, os, pt⟩
  obtain ⟨r, T, hg, hd, hG⟩ := g_form (s := s) (f := f) (t0 := t) hS
  rw [do_form]
  rcases hg with ⟨b, -⟩ | ⟨-, ⟨b, -⟩ | ⟨-, ⟨b, rfl, rfl⟩ | ⟨-, zs, x, hz, -⟩⟩⟩
  · exact absurd b (two_ok hs ht)
  · exact absurd b (fun q => q hf)
  · exact DTr_cx hd (Or.inr (Or.inr rfl))
  · exact absurd hz (h zs)
theorem cmpL_rf : ∀ xs : List Int, cmpL xs xs = 0 := by
  intro xs
  induction xs with
  | nil => rfl
  | cons x xs ih =>
    unfold cmpL
    first
    | rw [if_neg (by omega), if_neg (by omega)]; exact ih
    | rw [if_pos rfl]; exact ih
    | (split <;> first | omega | exact ih)
theorem cmk_rf {tab : Nat → Int} {n : Nat} {us : List Int} : cmk tab n us us = 0 := by
  unfold cmk cmr
  rw [cmpL_rf, if_pos rfl, cmpL_rf, if_pos rfl, cmpL_rf]
/-- compared with itself -/
theorem comp_ok {s : Int32} {ys : List Int} (hS : GS S) (hs : slo s) (h : fsp S.1 0 (S.2.1 s.toInt.toNat) = some ys) : DTr (fun w => f_L_does 19 0 s s w) S 0 S := by
  rcases S with ⟨tab, txt, nv, sav, tp, os, pt⟩
  obtain ⟨r, T, hg, hd, hG⟩ := g_compare (n := 0) (s := s) (t := s) hS
  rw [do_comp]
  rcases hg with ⟨b, -⟩ | ⟨-, ⟨b, -⟩ | ⟨-, x, a, c, rfl, h1, h2, hx, rfl⟩⟩
  · exact absurd b (fun q => q ⟨by decide, hs, hs⟩)
  · exact absurd b (cm_no h h)
  · rw [h1] at h2
    cases h2
    rw [cmk_rf] at hx
    have e : x = 0 := i_eq.mpr (hx.trans (by decide))
    subst e
    exact DTr_c hd
/-- it looks like itself, if it can be looked at so -/
theorem like_ok {s : Int32} (hS : GS S) (hs : slo s) : ∃ x : Int32, ¬ x = 0 ∧ DTr (fun w => f_L_does 13 s s 0 w) S x S := by
  rcases S with ⟨tab, txt, nv, sav, tp, os, pt⟩
  obtain ⟨r, T, hg, hd, hG⟩ := g_looksLike (s := s) (t := s) hS
  rw [do_like]
  rcases hg with ⟨b, -⟩ | ⟨-, ⟨b, rfl, rfl⟩ | ⟨-, x, rfl, ⟨a, c, h1, h2, hx⟩, rfl⟩⟩
  · exact absurd b (two_ok hs hs)
  · refine ⟨-9999999, by decide, DTr_cx (e := 3) (fun w hw => ?_) (Or.inr (Or.inr rfl))⟩
    obtain ⟨w', e, hc⟩ := hd w hw
    refine ⟨w', ?_, hc⟩
    have e' : f_X10_looksLike s s w = some (.inl 3, w') := e
    show bdx (f_X10_looksLike s s w) _ = _
    rw [e']; rfl
  · rw [h1] at h2
    cases h2
    rw [if_pos rfl] at hx
    refine ⟨1, by decide, DTr_c (fun w hw => ?_)⟩
    obtain ⟨w', e, hc⟩ := hd w hw
    refine ⟨w', ?_, hc⟩
    have e' : f_X10_looksLike s s w = some (.inr x, w') := e
    show bdx (f_X10_looksLike s s w) _ = _
    rw [e']
    show (if x = 0 then _ else _) = _
    rw [if_neg (fun q => by rw [q] at hx; revert hx; decide)]
theorem at_len {s : Int32} (hS : OS S) (hs : slo s) {w : Wd} (hw : CS w S) : Wp (f_X10_at s (-1) w) (fun r w' => ∃ x : Int32, r = .inr x ∧ w = w' ∧ x.toInt = (S.2.1 s.toInt.toNat).length) := by
  refine (k_at hw.1 hw.2.2.1).mono ?_
  rintro r w' ⟨e0, h⟩
  have e1 : (-1 : Int32).toInt = -1 := by decide
  rcases h with ⟨b, -⟩ | ⟨-, x, rfl, hx⟩
  · exact absurd ⟨hs, by rw [e1]; omega, by rw [e1]; omega⟩ b
  · refine ⟨x, rfl, e0.symm, ?_⟩
    rw [hx, e1]
    unfold at_val
    rw [if_pos rfl]
theorem at_ok {s p : Int32} (hS : OS S) (hs : slo s) {w : Wd} (hw : CS w S) (hp : 0 ≤ p.toInt ∧ p.toInt < (S.2.1 s.toInt.toNat).length) : Wp (f_X10_at s p w) (fun r w' => ∃ x : Int32, r = .inr x ∧ w = w' ∧ x.toInt = gt (S.2.1 s.toInt.toNat) p.toInt) := by
  refine (k_at hw.1 hw.2.2.1).mono ?_
  rintro r w' ⟨e0, h⟩
  rcases h with ⟨b, -⟩ | ⟨-, x, rfl, hx⟩
  · exact absurd ⟨hs, by omega, by omega⟩ b
  · refine ⟨x, rfl, e0.symm, ?_⟩
    rw [hx]
    unfold at_val
    rw [if_neg (by omega)]
theorem wp_bx {R R2 : Type} {o : Option ((Nat ⊕ R) × Wd)} {k : R → Wd → Option ((Nat ⊕ R2) × Wd)} {P : R → Wd → Prop} {Q : Nat ⊕ R2 → Wd → Prop} (h : Wp o (fun r w => ∃ x, r = .inr x ∧ P x w)) (hk : ∀ x w, P x w → Wp (k x w) Q) : Wp (bdx o k) Q := by
  obtain ⟨r, w, e, x, e2, hp⟩ := h
  rw [e, e2]
  exact hk x w hp
/-- two slots with one text are the same -/
theorem same_ok {s t : Int32} (hS : OS S) (hs : slo s) (ht : slo t) (he : S.2.1 s.toInt.toNat = S.2.1 t.toInt.toNat) : DTr (fun w => f_L_areSame s t w) S (.inr 1) S := by
  refine DTr_wp (fun w hw => ?_)
  have L := LIT
  have h40 := (hS.2.1 s.toInt.toNat (slot_lt hs)).1
  have body : Wp (f_L_areSame_20 s t 1 w) (fun r w' => r = .inr 1 ∧ CS w' S) := by
    unfold f_L_areSame_20 f_L_areSame_24
    rw [FUv]
    refine wp_loop (fun σ : Int32 × Int32 × Int32 × Int32 × Wd => σ.1 = s ∧ σ.2.1 = t ∧ σ.2.2.1 = 1 ∧ σ.2.2.2.2 = w ∧ 0 ≤ σ.2.2.2.1.toInt ∧ σ.2.2.2.1.toInt ≤ (S.2.1 s.toInt.toNat).length) (fun σ => (50 - σ.2.2.2.1.toInt).toNat) ?_ 100000 _ ⟨rfl, rfl, rfl, rfl, by dsimp only; rw [L.1]; omega, by dsimp only; rw [L.1]; omega⟩ (by dsimp only; rw [L.1]; omega)
    rintro rc ⟨s', t', b, k, u⟩ ⟨rfl, rfl, rfl, rfl, hk0, hk1⟩ ih
    dsimp only at hk0 hk1 hw hs ht he h40 ⊢
    unfold g_L_areSame_24
    refine wp_bx (at_len hS hs hw) ?_
    rintro n _ ⟨rfl, hn⟩
    refine wp_ifle (fun _ => wp_ret ⟨rfl, hw⟩) (fun q => ?_)
    refine wp_ifeq (fun q2 => absurd q2 (by decide)) (fun _ => ?_)
    refine wp_bx (at_ok hS hs hw (by omega)) ?_
    rintro x _ ⟨rfl, hx⟩
    refine wp_bx (at_ok hS ht hw (by rw [← he]; omega)) ?_
    rintro y _ ⟨rfl, hy⟩
    rw [he] at hx
    refine wp_ifeq (fun _ => wp_add (by rw [L.2.1]; omega) (fun z hz => ?_)) (fun q2 => absurd (hx.trans hy.symm) q2)
    rw [L.2.1] at hz
    exact ih (s', t', 1, z, u) ⟨rfl, rfl, rfl, rfl, by dsimp only; omega, by dsimp only; omega⟩ (by dsimp only; omega)
  show Wp (f_L_areSame s t w) _
  unfold f_L_areSame
  refine wp_bx (at_len hS hs hw) ?_
  rintro n _ ⟨rfl, hn⟩
  refine wp_bx (at_len hS ht hw) ?_
  rintro m _ ⟨rfl, hm⟩
  rw [he] at hn
  exact wp_ifeq (fun _ => body) (fun q => absurd (hn.trans hm.symm) q)
theorem xset_at {txt : Nat → List Int} {s : Nat} {l : List Int} : xset txt s l s = l := by unfold xset; rw [if_pos rfl]
theorem xset_ne {txt : Nat → List Int} {s k : Nat} {l : List Int} (h : k ≠ s) : xset txt s l k = txt k := by unfold xset; rw [if_neg h]
theorem s4 : slo 4 := by unfold slo; decide
theorem s5 : slo 5 := by unfold slo; decide
theorem n4 : (4 : Int32).toInt.toNat = 4 := by decide
theorem n5 : (5 : Int32).toInt.toNat = 5 := by decide
/-- the end of the check -/
theorem forms_148 {s : Int32} {ys : List Int} (hS : GS S) (hs : slo s) (h : fsp S.1 0 (S.2.1 s.toInt.toNat) = some ys) : DTr (fun w => f_L_areFormsSo_148 s 1 w) S (.inr 1) S := by
  unfold f_L_areFormsSo_148
  refine DTr_f (by decide) (DTr_bd (comp_ok hS hs h) (DTr_t rfl ?_))
  obtain ⟨x, hx, hd⟩ := like_ok hS hs
  exact DTr_bd hd (DTr_f hx DTr_r)
theorem f0 : (0 : Int32).toInt = 0 := by decide
theorem f1 : (1 : Int32).toInt = 1 := by decide
theorem f2 : (2 : Int32).toInt = 2 := by decide
/-- the folded form -/
theorem forms_99 {s : Int32} {ys : List Int} (hS : GS S) (hs : 0 ≤ s.toInt ∧ s.toInt ≤ 2) (h : fsp S.1 0 (S.2.1 s.toInt.toNat) = some ys) : ∃ T : ST, DTr (fun w => f_L_areFormsSo_99 s 1 w) S (.inr 1) T ∧ GS T := by
  have hs5 : slo s := ⟨hs.1, by omega⟩
  have hk := hS.1.1
  have hX := hS.1.2.1 s.toInt.toNat (slot_lt hs5)
  unfold f_L_areFormsSo_99
  by_cases c : ∃ zs, okf (fsp S.1 2 (S.2.1 s.toInt.toNat)) zs
  · obtain ⟨zs, hz⟩ := c
    obtain ⟨x, hx, d1, G1⟩ := form_ok (f := 2) (t := 4) hS hs5 s4 (by decide) (by rw [f2]; exact hz)
    rw [n4] at d1 G1
    have e4 : xset S.2.1 4 zs 4 = zs := xset_at
    have es : xset S.2.1 4 zs s.toInt.toNat = S.2.1 s.toInt.toNat := xset_ne (by omega)
    have F := fsp_02 hk hX.2 hz.1
    obtain ⟨y, hy, d2, G2⟩ := form_ok (s := 4) (f := 0) (t := 5) (ys := zs) G1 s4 s5 (by decide) (by rw [f0, n4]; show okf (fsp S.1 0 (xset S.2.1 4 zs 4)) zs; rw [e4]; exact ⟨F, hz.2⟩)
    rw [n5] at d2 G2
    have exy : y = x := i_eq.mpr (hy.trans hx.symm)
    refine ⟨_, DTr_bd d1 (DTr_f (by decide) (DTr_f ?_ (DTr_bd d2 (DTr_t exy (DTr_bdx (same_ok G2.1 s4 s5 ?_) (DTr_f (by decide) (forms_148 (ys := ys) G2 hs5 ?_))))))), G2⟩
    · rw [Int32.lt_iff_toInt_lt, f0]; omega
    · rw [n4, n5]
      show xset (xset S.2.1 4 zs) 5 zs 4 = xset (xset S.2.1 4 zs) 5 zs 5
      rw [xset_at, xset_ne (by decide), xset_at]
    · show fsp S.1 0 (xset (xset S.2.1 4 zs) 5 zs s.toInt.toNat) = some ys
      rw [xset_ne (by omega), es]; exact h
  · have d1 := form_no (f := 2) (t := 4) hS hs5 s4 (by decide) (by rw [f2]; exact fun zs hz => c ⟨zs, hz⟩)
    refine ⟨S, DTr_bd d1 (DTr_f (by decide) (DTr_t (by decide) (forms_148 hS hs5 h))), hS⟩
/-- the check of forms says yes -/
theorem forms_so {s : Int32} (hS : GS S) (hs : 0 ≤ s.toInt ∧ s.toInt ≤ 2) : ∃ T : ST, DTr (fun w => f_L_areFormsSo s w) S (.inr 1) T ∧ GS T := by
  have hs5 : slo s := ⟨hs.1, by omega⟩
  have hk := hS.1.1
  have hX := hS.1.2.1 s.toInt.toNat (slot_lt hs5)
  unfold f_L_areFormsSo
  by_cases c : ∃ ys, okf (fsp S.1 0 (S.2.1 s.toInt.toNat)) ys
  · obtain ⟨ys, hz⟩ := c
    obtain ⟨x, hx, d1, G1⟩ := form_ok (f := 0) (t := 4) hS hs5 s4 (by decide) (by rw [f0]; exact hz)
    rw [n4] at d1 G1
    have e4 : xset S.2.1 4 ys 4 = ys := xset_at
    have es : xset S.2.1 4 ys s.toInt.toNat = S.2.1 s.toInt.toNat := xset_ne (by omega)
    have F := fsp_00 hk hX.2 hz.1
    obtain ⟨y, hy, d2, G2⟩ := form_ok (s := 4) (f := 0) (t := 5) (ys := ys) G1 s4 s5 (by decide) (by rw [f0, n4]; show okf (fsp S.1 0 (xset S.2.1 4 ys 4)) ys; rw [e4]; exact ⟨F, hz.2⟩)
    rw [n5] at d2 G2
    have exy : y = x := i_eq.mpr (hy.trans hx.symm)
    have a4 : xset (xset S.2.1 4 ys) 5 ys 4 = ys := by rw [xset_ne (by decide), xset_at]
    have a5 : xset (xset S.2.1 4 ys) 5 ys 5 = ys := xset_at
    have as_ : xset (xset S.2.1 4 ys) 5 ys s.toInt.toNat = S.2.1 s.toInt.toNat := by rw [xset_ne (by omega), es]
    generalize hT2 : ((S.1, xset (xset S.2.1 4 ys) 5 ys, S.2.2) : ST) = T2
    have eT : (((S.1, xset S.2.1 4 ys, S.2.2) : ST).1, xset ((S.1, xset S.2.1 4 ys, S.2.2) : ST).2.1 5 ys, ((S.1, xset S.2.1 4 ys, S.2.2) : ST).2.2) = T2 := hT2
    rw [eT] at d2 G2
    have b4 : T2.2.1 4 = ys := by rw [← hT2]; exact a4
    have b5 : T2.2.1 5 = ys := by rw [← hT2]; exact a5
    have bs : T2.2.1 s.toInt.toNat = S.2.1 s.toInt.toNat := by rw [← hT2]; exact as_
    have bt : T2.1 = S.1 := by rw [← hT2]
    have dat : DTr (fun w => f_X10_at 4 (-1) w) T2 (.inr x) T2 := DTr_wp (fun w hw => (at_len G2.1 s4 hw).mono (by
      rintro r w' ⟨v, rfl, rfl, hv⟩
      rw [n4, b4] at hv
      exact ⟨by rw [i_eq.mpr (hv.trans hx.symm)], hw⟩))
    -- joined
    obtain ⟨js, j1, j2, j3⟩ := fsp_01 hk hX.2 hz.1
    obtain ⟨z, hz3, d3, G3⟩ := form_ok (s := s) (f := 1) (t := 5) (ys := js) G2 hs5 s5 (by decide) (by rw [f1, bs, bt]; exact ⟨j1, by have := hz.2; omega⟩)
    rw [n5] at d3 G3
    obtain ⟨v, hv, d4, G4⟩ := form_ok (s := 4) (f := 1) (t := 5) (ys := js) G3 s4 s5 (by decide) (by
      rw [f1, n4]
      show okf (fsp T2.1 1 (xset T2.2.1 5 js 4)) js
      rw [xset_ne (by decide), b4, bt]
      exact ⟨j3, by have := hz.2; omega⟩)
    rw [n5] at d4 G4
    have ezv : v = z := i_eq.mpr (hv.trans hz3.symm)
    obtain ⟨T, d5, G5⟩ := forms_99 (s := s) (ys := ys) G4 hs (by
      show fsp T2.1 0 (xset (xset T2.2.1 5 js) 5 js s.toInt.toNat) = some ys
      rw [xset_ne (by omega), xset_ne (by omega), bs, bt]; exact hz.1)
    refine ⟨T, DTr_bd d1 (DTr_t ?_ (DTr_bd d2 (DTr_t exy (DTr_bdx dat (DTr_t rfl (DTr_bdx (same_ok G2.1 s4 s5 ?_) (DTr_f (by decide) ?_))))))), G5⟩
    · rw [Int32.le_iff_toInt_le, f0]; omega
    · rw [n4, n5, b4, b5]
    · unfold f_L_areFormsSo_53
      refine DTr_bd d3 (DTr_f (by decide) (DTr_f ?_ (DTr_f ?_ (DTr_bd d4 (DTr_t ezv d5)))))
      · rw [Int32.lt_iff_toInt_lt, f0]; omega
      · rw [Int32.lt_iff_toInt_lt]; omega
  · have d1 := form_no (f := 0) (t := 4) hS hs5 s4 (by decide) (by rw [f0]; exact fun zs hz => c ⟨zs, hz⟩)
    exact ⟨S, DTr_bd d1 (DTr_f (by decide) DTr_r), hS⟩
end
