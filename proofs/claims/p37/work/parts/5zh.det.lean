/-! ===== one abstract state: one answer, one state behind it ===== -/
abbrev ST : Type := (Nat → Int) × (Nat → List Int) × Nat × (Nat → Nat → Int) × List Int × List Int × Option (List PC)
def CS (w : Wd) (S : ST) : Prop := CLS w S.1 S.2.1 S.2.2.1 S.2.2.2.1 S.2.2.2.2.1 S.2.2.2.2.2.1 S.2.2.2.2.2.2
def OS (S : ST) : Prop := OKS S.1 S.2.1 S.2.2.1 S.2.2.2.1 S.2.2.2.2.1 S.2.2.2.2.2.1
def GS (S : ST) : Prop := OS S ∧ ∃ w, CS w S
/-- from every state that shows S: the answer r, and a state that shows T -/
def DTr {R : Type} (A : Wd → Option (R × Wd)) (S : ST) (r : R) (T : ST) : Prop := ∀ w, CS w S → ∃ w', A w = some (r, w') ∧ CS w' T
def unq {R : Type} (G : R → ST → Prop) : Prop := ∀ (r q : R) (T U : ST), G r T → G q U → r = q ∧ T = U
theorem D_go {R : Type} {f : Wd → Option (R × Wd)} {S : ST} {G : R → ST → Prop} (h : GS S) (uq : unq G) (sp : ∀ v, CS v S → Wp (f v) (fun r v' => ∃ T, G r T ∧ CS v' T ∧ OS T)) : ∃ (r : R) (T : ST), G r T ∧ DTr f S r T ∧ GS T := by
  obtain ⟨w, hw⟩ := h.2
  obtain ⟨r, w', e, T, hG, hc, hO⟩ := sp w hw
  refine ⟨r, T, hG, fun v hv => ?_, hO, w', hc⟩
  obtain ⟨q, v', e2, U, hG2, hc2, -⟩ := sp v hv
  obtain ⟨e3, e4⟩ := uq _ _ _ _ hG hG2
  subst e3; subst e4
  exact ⟨v', e2, hc2⟩
/-- what is thrown, in its order; else the rest -/
def gout {R : Type} : List (Prop × Nat × ST) → ((Nat ⊕ R) → ST → Prop) → (Nat ⊕ R) → ST → Prop
  | [], fin => fin
  | (b, e, T) :: l, fin => fun r U => (b ∧ r = .inl e ∧ U = T) ∨ (¬ b ∧ gout l fin r U)
theorem gout_u {R : Type} : ∀ (l : List (Prop × Nat × ST)) {fin : (Nat ⊕ R) → ST → Prop}, unq fin → unq (gout l fin) := by
  intro l
  induction l with
  | nil => intro fin h; exact h
  | cons a l ih =>
    intro fin h r q T U h1 h2
    rcases h1 with ⟨b, e1, e2⟩ | ⟨b, h1⟩ <;> rcases h2 with ⟨c, e3, e4⟩ | ⟨c, h2⟩
    · exact ⟨e1.trans e3.symm, e2.trans e4.symm⟩
    · exact absurd b c
    · exact absurd c b
    · exact ih h _ _ _ _ h1 h2
section
variable {R : Type} {B0 B1 B2 : Prop} {e : Nat} {T U V : ST} {l : List (Prop × Nat × ST)} {q0 q1 q2 : Prop × Nat × ST} {fin : (Nat ⊕ R) → ST → Prop} {r : Nat ⊕ R}
theorem gx0 (b : B0) : gout ((B0, e, T) :: l) fin (.inl e) T := Or.inl ⟨b, rfl, rfl⟩
theorem gx1 (nb : ¬ q0.1) (b : B0) : gout (q0 :: (B0, e, T) :: l) fin (.inl e) T := Or.inr ⟨nb, Or.inl ⟨b, rfl, rfl⟩⟩
theorem gx2 (nb : ¬ q0.1) (nc : ¬ q1.1) (b : B0) : gout (q0 :: q1 :: (B0, e, T) :: l) fin (.inl e) T := Or.inr ⟨nb, Or.inr ⟨nc, Or.inl ⟨b, rfl, rfl⟩⟩⟩
theorem gf1 (nb : ¬ q0.1) (h : fin r T) : gout [q0] fin r T := Or.inr ⟨nb, h⟩
theorem gf2 (nb : ¬ q0.1) (nc : ¬ q1.1) (h : fin r T) : gout [q0, q1] fin r T := Or.inr ⟨nb, Or.inr ⟨nc, h⟩⟩
theorem gf3 (nb : ¬ q0.1) (nc : ¬ q1.1) (nd : ¬ q2.1) (h : fin r T) : gout [q0, q1, q2] fin r T := Or.inr ⟨nb, Or.inr ⟨nc, Or.inr ⟨nd, h⟩⟩⟩
end
def finI (x : Int) (T : ST) (r : Nat ⊕ Int32) (U : ST) : Prop := ∃ v : Int32, r = .inr v ∧ v.toInt = x ∧ U = T
theorem finI_u {x : Int} {T : ST} : unq (finI x T) := by
  rintro r q U V ⟨a, rfl, ha, rfl⟩ ⟨b, rfl, hb, rfl⟩
  rw [i_eq.mpr (ha.trans hb.symm)]
  exact ⟨rfl, rfl⟩
def finU (T : ST) (r : Nat ⊕ Unit) (U : ST) : Prop := r = .inr () ∧ U = T
theorem finU_u {T : ST} : unq (finU T) := by
  rintro r q U V ⟨rfl, rfl⟩ ⟨rfl, rfl⟩
  exact ⟨rfl, rfl⟩
def finBS (tab : Nat → Int) (txt : Nat → List Int) (s p b : Int) (T : ST) (r : Nat ⊕ Int32) (U : ST) : Prop := ∃ (a : Nat) (x : Int32), r = .inr x ∧ isIdx (scrn tab (txt s.toNat) (-1)) (txt s.toNat).length p a ∧ x.toInt = sg2 tab (txt s.toNat) (scrn tab (txt s.toNat) (-1)) (dir b) 50 (a + dir b) ∧ U = T
theorem finBS_u {tab : Nat → Int} {txt : Nat → List Int} {s p b : Int} {T : ST} : unq (finBS tab txt s p b T) := by
  rintro r q U V ⟨a, x, rfl, ha, hx, rfl⟩ ⟨c, y, rfl, hc, hy, rfl⟩
  have e := isIdx_u ha hc
  subst e
  rw [i_eq.mpr (hx.trans hy.symm)]
  exact ⟨rfl, rfl⟩
def finLL (tab : Nat → Int) (txt : Nat → List Int) (s t : Int) (T : ST) (r : Nat ⊕ Int32) (U : ST) : Prop := ∃ x : Int32, r = .inr x ∧ lsp tab (txt s.toNat) (txt t.toNat) x.toInt ∧ U = T
theorem ll_no {tab : Nat → Int} {xs ys : List Int} {x : Int} (h : lsp tab xs ys x) : ¬ (fsp tab 3 xs = none ∨ fsp tab 3 ys = none) := by
  obtain ⟨a, b, h1, h2, -⟩ := h
  rintro (c | c)
  · rw [c] at h1; cases h1
  · rw [c] at h2; cases h2
theorem finLL_u {tab : Nat → Int} {txt : Nat → List Int} {s t : Int} {T : ST} : unq (finLL tab txt s t T) := by
  rintro r q U V ⟨x, rfl, ⟨a, b, h1, h2, hx⟩, rfl⟩ ⟨y, rfl, ⟨a', b', h1', h2', hy⟩, rfl⟩
  rw [h1] at h1'; rw [h2] at h2'
  cases h1'; cases h2'
  rw [i_eq.mpr (hx.trans hy.symm)]
  exact ⟨rfl, rfl⟩
def finCM (tab : Nat → Int) (txt : Nat → List Int) (n s t : Int) (T : ST) (r : Nat ⊕ Int32) (U : ST) : Prop := ∃ (x : Int32) (a e : List Int), r = .inr x ∧ fsp tab 0 (txt s.toNat) = some a ∧ fsp tab 0 (txt t.toNat) = some e ∧ x.toInt = cmk tab n.toNat (unt tab n.toNat a) (unt tab n.toNat e) ∧ U = T
theorem cm_no {tab : Nat → Int} {xs ys a b : List Int} (h1 : fsp tab 0 xs = some a) (h2 : fsp tab 0 ys = some b) : ¬ (fsp tab 0 xs = none ∨ fsp tab 0 ys = none) := by
  rintro (c | c)
  · rw [c] at h1; cases h1
  · rw [c] at h2; cases h2
theorem finCM_u {tab : Nat → Int} {txt : Nat → List Int} {n s t : Int} {T : ST} : unq (finCM tab txt n s t T) := by
  rintro r q U V ⟨x, a, b, rfl, h1, h2, hx, rfl⟩ ⟨y, a', b', rfl, h1', h2', hy, rfl⟩
  rw [h1] at h1'; rw [h2] at h2'
  cases h1'; cases h2'
  rw [i_eq.mpr (hx.trans hy.symm)]
  exact ⟨rfl, rfl⟩
theorem some_no {A : Type} {o : Option A} {a : A} (h : o = some a) : ¬ o = none := fun q => by rw [h] at q; cases q
def finKY (tab : Nat → Int) (txt : Nat → List Int) (n s p : Int) (T : ST) (r : Nat ⊕ Int32) (U : ST) : Prop := ∃ a : List Int, fsp tab 0 (txt s.toNat) = some a ∧ ((¬ (-1 ≤ p ∧ p ≤ ((keyOf tab n.toNat (unt tab n.toNat a)).length : Int) - 1) ∧ r = .inl 1) ∨
  ((-1 ≤ p ∧ p ≤ ((keyOf tab n.toNat (unt tab n.toNat a)).length : Int) - 1) ∧ ∃ x : Int32, r = .inr x ∧ x.toInt = if p = -1 then ((keyOf tab n.toNat (unt tab n.toNat a)).length : Int) else gt (keyOf tab n.toNat (unt tab n.toNat a)) p)) ∧ U = T
theorem finKY_u {tab : Nat → Int} {txt : Nat → List Int} {n s p : Int} {T : ST} : unq (finKY tab txt n s p T) := by
  rintro r q U V ⟨a, h1, hx, rfl⟩ ⟨a', h1', hy, rfl⟩
  rw [h1] at h1'
  cases h1'
  rcases hx with ⟨d, rfl⟩ | ⟨d, x, rfl, hx⟩ <;> rcases hy with ⟨f, rfl⟩ | ⟨f, y, rfl, hy⟩
  · exact ⟨rfl, rfl⟩
  · exact absurd f d
  · exact absurd d f
  · rw [i_eq.mpr (hx.trans hy.symm)]
    exact ⟨rfl, rfl⟩
def finMT (tab : Nat → Int) (txt : Nat → List Int) (pt : Option (List PC)) (s p : Int) (T : ST) (r : Nat ⊕ Int32) (U : ST) : Prop := ∃ (l : List PC) (x : Int32), pt = some l ∧ r = .inr x ∧ lastOf (fun k => rch tab (txt s.toNat) l p.toNat l.length k) ((txt s.toNat).length + 1) x.toInt ∧ U = T
theorem finMT_u {tab : Nat → Int} {txt : Nat → List Int} {pt : Option (List PC)} {s p : Int} {T : ST} : unq (finMT tab txt pt s p T) := by
  rintro r q U V ⟨l, x, h1, rfl, hx, rfl⟩ ⟨l', y, h1', rfl, hy, rfl⟩
  rw [h1] at h1'
  cases h1'
  rw [i_eq.mpr (lastOf_u hx hy)]
  exact ⟨rfl, rfl⟩
def finBR (tab : Nat → Int) (txt : Nat → List Int) (s x : Int) (T : ST) (r : Nat ⊕ Int64) (U : ST) : Prop := ∃ m : Int64, r = .inr m ∧ bits m (fun k => 0 < k ∧ k < (txt s.toNat).length ∧ brk tab (txt s.toNat) x k) ∧ U = T
theorem finBR_u {tab : Nat → Int} {txt : Nat → List Int} {s x : Int} {T : ST} : unq (finBR tab txt s x T) := by
  rintro r q U V ⟨m, rfl, hx, rfl⟩ ⟨n, rfl, hy, rfl⟩
  rw [mk_ext (fun k hk => (hx k hk).trans (hy k hk).symm)]
  exact ⟨rfl, rfl⟩
def finCN (n a b f s t : Int) (T : ST) (r : Nat ⊕ Int32) (U : ST) : Prop := ∃ (i : Nat) (d : Int) (x : Int32), ¬ bad_c1 n a b ∧ conP T.1 n.toNat a b i d ∧ r = .inr x ∧ x.toInt = T.1 (1440 + n.toNat) + d ∧ U = (tcon T.1 n.toNat i d a b f s t, T.2)
theorem con_no {tab : Nat → Int} {n i : Nat} {a b d : Int} (h : conP tab n a b i d) : ¬ bad_c3 tab n a b := by
  intro c
  rcases h with ⟨_, q1, q2⟩ | ⟨_, q1, q2, q3⟩
  · exact absurd q2 (c.2 i q1)
  · have := c.1; omega
theorem finCN_u {n a b f s t : Int} {T : ST} (hk : tok T.1) : unq (finCN n a b f s t T) := by
  rintro r q U V ⟨i, d, x, h0, h1, rfl, hx, rfl⟩ ⟨j, e, y, -, h1', rfl, hy, rfl⟩
  have B := Classical.not_not.mp h0
  obtain ⟨e1, e2⟩ := conP_u hk (show n.toNat < 2 by omega) h1 h1'
  subst e1; subst e2
  rw [i_eq.mpr (hx.trans hy.symm)]
  exact ⟨rfl, rfl⟩
def finFM (f s t : Int) (T : ST) (r : Nat ⊕ Int32) (U : ST) : Prop := ∃ (ys : List Int) (x : Int32), okf (fsp T.1 f (T.2.1 s.toNat)) ys ∧ r = .inr x ∧ x.toInt = ys.length ∧ U = (T.1, xset T.2.1 t.toNat ys, T.2.2)
theorem finFM_u {f s t : Int} {T : ST} : unq (finFM f s t T) := by
  rintro r q U V ⟨ys, x, h1, rfl, hx, rfl⟩ ⟨zs, y, h2, rfl, hy, rfl⟩
  have e : zs = ys := Option.some.inj (h2.1.symm.trans h1.1)
  subst e
  rw [i_eq.mpr (hx.trans hy.symm)]
  exact ⟨rfl, rfl⟩
def finTR (s t b : Int) (T : ST) (r : Nat ⊕ Int32) (U : ST) : Prop := ∃ (ys : List Int) (x : Int32), tra T.1 b (T.2.1 s.toNat) = some ys ∧ r = .inr x ∧ x.toInt = ys.length ∧ U = (T.1, xset T.2.1 t.toNat ys, T.2.2)
theorem finTR_u {s t b : Int} {T : ST} : unq (finTR s t b T) := by
  rintro r q U V ⟨ys, x, h1, rfl, hx, rfl⟩ ⟨zs, y, h2, rfl, hy, rfl⟩
  have e : zs = ys := Option.some.inj (h2.symm.trans h1)
  subst e
  rw [i_eq.mpr (hx.trans hy.symm)]
  exact ⟨rfl, rfl⟩
def finMS (n a b c d : Int) (T : ST) (r : Nat ⊕ Int32) (U : ST) : Prop := ∃ (os : List Int) (x : Int32), msg T.1 n.toNat [a, b, c, d] T.2.2.2.2.1 = some os ∧ r = .inr x ∧ x.toInt = os.length ∧ U = (T.1, T.2.1, T.2.2.1, T.2.2.2.1, [], os, T.2.2.2.2.2.2)
theorem finMS_u {n a b c d : Int} {T : ST} : unq (finMS n a b c d T) := by
  rintro r q U V ⟨ys, x, h1, rfl, hx, rfl⟩ ⟨zs, y, h2, rfl, hy, rfl⟩
  have e : zs = ys := Option.some.inj (h2.symm.trans h1)
  subst e
  rw [i_eq.mpr (hx.trans hy.symm)]
  exact ⟨rfl, rfl⟩
def finPT (T : ST) (r : Nat ⊕ Int32) (U : ST) : Prop := ∃ (l : List PC) (x : Int32), pat T.2.2.2.2.1 = some l ∧ r = .inr x ∧ x.toInt = l.length ∧ U = (T.1, T.2.1, T.2.2.1, T.2.2.2.1, [], T.2.2.2.2.2.1, some l)
theorem finPT_u {T : ST} : unq (finPT T) := by
  rintro r q U V ⟨ys, x, h1, rfl, hx, rfl⟩ ⟨zs, y, h2, rfl, hy, rfl⟩
  have e : zs = ys := Option.some.inj (h2.symm.trans h1)
  subst e
  rw [i_eq.mpr (hx.trans hy.symm)]
  exact ⟨rfl, rfl⟩
section
variable {w w1 : Wd} {tab tab' : Nat → Int} {txt txt' : Nat → List Int} {nv : Nat} {sav : Nat → Nat → Int} {tp tp' os os' : List Int} {pt : Option (List PC)} {S : Nat → Prop}
theorem OKS_t (h : OKS tab txt nv sav tp os) (hk : tok tab') : OKS tab' txt nv sav tp os := ⟨hk, h.2⟩
theorem OKS_x (h : OKS tab txt nv sav tp os) (hk : xok txt') : OKS tab txt' nv sav tp os := ⟨h.1, hk, h.2.2⟩
theorem cl_q (hO : OKS tab txt nv sav tp os) (hc : CLS w tab txt nv sav tp os pt) (o : oc S w w1) (ok : okall w1) (s : ∀ k, S k → scr k ∨ k = w.2.1 + 7 ∨ k = w.2.1 + 8) : CLS w1 tab txt nv sav tp os pt := by
  have P := pat_rng hc.2.2.2.2.2.2.2.1
  have no : ∀ k, k ≤ 638 → ¬ S k := fun k hk q => by have := s k q; unfold scr at this; omega
  exact CLS_oc hO hc o ok (no 0 (by omega)) (fun k _ _ => no k (by omega)) (fun k h1 h2 q => by have := s k q; unfold scr at this; omega) (trel_oc hO.1 hc.2.1 o (fun k _ _ => no k (by omega))) (ctx_oc hc.2.2.1 o (fun k _ _ => no k (by omega))) (cta_oc hc.2.2.2.2.1 o (no _ (by omega)) (no _ (by omega))) (cou_oc hc.2.2.2.2.2.1 o (no _ (by omega)) (no _ (by omega)))
theorem cl_t (hO : OKS tab txt nv sav tp os) (hc : CLS w tab txt nv sav tp os pt) (t : trel w1 1 tab') (ok : okall w1) (o : oc tin w w1) : CLS w1 tab' txt nv sav tp os pt := by
  have P := pat_rng hc.2.2.2.2.2.2.2.1
  have no : ∀ k, ¬ (1 ≤ k ∧ k < 125) → ¬ tin k := fun k h q => h q
  exact CLS_oc hO hc o ok (no _ (by omega)) (fun k _ _ => no _ (by omega)) (fun k _ _ => no _ (by omega)) t (ctx_oc hc.2.2.1 o (fun k _ _ => no _ (by omega))) (cta_oc hc.2.2.2.2.1 o (no _ (by omega)) (no _ (by omega))) (cou_oc hc.2.2.2.2.2.1 o (no _ (by omega)) (no _ (by omega)))
theorem cl_g (hO : OKS tab txt nv sav tp os) (hc : CLS w tab txt nv sav tp os pt) (o : oc S w w1) (ok : okall w1) (s : ∀ k, S k → scr k ∨ (623 ≤ k ∧ k < 639)) (x : ctx w1 txt') (a : cta w1 tp') (u : cou w1 os') : CLS w1 tab txt' nv sav tp' os' pt := by
  have P := pat_rng hc.2.2.2.2.2.2.2.1
  have no : ∀ k, ¬ (623 ≤ k ∧ k < 674) → ¬ (692 ≤ k ∧ k < 713) → ¬ S k := fun k h1 h2 q => by have := s k q; unfold scr at this; omega
  exact CLS_oc hO hc o ok (no _ (by omega) (by omega)) (fun k _ _ => no _ (by omega) (by omega)) (fun k _ _ => no _ (by omega) (by omega)) (trel_oc hO.1 hc.2.1 o (fun k _ _ => no _ (by omega) (by omega))) x a u
theorem cl_x (hO : OKS tab txt nv sav tp os) (hc : CLS w tab txt nv sav tp os pt) (o : oc xin w w1) (ok : okall w1) (x : ctx w1 txt') : CLS w1 tab txt' nv sav tp os pt :=
  cl_g hO hc o ok (fun k q => by unfold xin at q; omega) x (cta_oc hc.2.2.2.2.1 o (by unfold xin; omega) (by unfold xin; omega)) (cou_oc hc.2.2.2.2.2.1 o (by unfold xin; omega) (by unfold xin; omega))
theorem cl_f (hO : OKS tab txt nv sav tp os) (hc : CLS w tab txt nv sav tp os pt) (o : oc (fun k => scr k ∨ xin k) w w1) (ok : okall w1) (x : ctx w1 txt') : CLS w1 tab txt' nv sav tp os pt :=
  cl_g hO hc o ok (fun k q => q.elim Or.inl (fun z => Or.inr (by unfold xin at z; omega))) x (cta_oc hc.2.2.2.2.1 o (by unfold xin scr; omega) (by unfold xin scr; omega)) (cou_oc hc.2.2.2.2.2.1 o (by unfold xin scr; omega) (by unfold xin scr; omega))
theorem cl_sv (hO : OKS tab txt nv sav tp os) (hc : CLS w tab txt nv sav tp os pt) (cv : cvr w1 (nv + 1) (svset sav nv tab)) (ok : okall w1) (o : oc vin w w1) (f0 : ∀ f, f ≠ 2 → w1.1 0 f = w.1 0 f) : CLS w1 tab txt (nv + 1) (svset sav nv tab) tp os pt := by
  have P := pat_rng hc.2.2.2.2.2.2.2.1
  have no : ∀ k, k ≠ 0 → ¬ (126 ≤ k ∧ k < 622) → ¬ vin k := fun k h1 h2 q => by unfold vin at q; omega
  have hC : hasC w1 pt := by
    have h7 := hc.2.2.2.2.2.2.1
    cases pt with
    | none => show (w1.1 0 11).toInt = 0; rw [f0 11 (by decide)]; exact h7
    | some l =>
      obtain ⟨h1, h2, h3⟩ := h7
      refine ⟨by rw [f0 11 (by decide)]; exact h1, ?_, h3⟩
      rw [o.2]
      unfold patC at *
      rw [rl_fr (o.1 (w.2.1 + 1) (no _ (by omega) (by omega))) (o.1 (w.2.1 + 1 + 1) (no _ (by omega) (by omega))), rl_fr (o.1 (w.2.1 + 3) (no _ (by omega) (by omega))) (o.1 (w.2.1 + 3 + 1) (no _ (by omega) (by omega))), rl_fr (o.1 (w.2.1 + 5) (no _ (by omega) (by omega))) (o.1 (w.2.1 + 5 + 1) (no _ (by omega) (by omega)))]
      exact h2
  exact ⟨ok, trel_oc hO.1 hc.2.1 o (fun k _ _ => no k (by omega) (by omega)), ctx_oc hc.2.2.1 o (fun k _ _ => no k (by omega) (by omega)), cv, cta_oc hc.2.2.2.2.1 o (no _ (by omega) (by omega)) (no _ (by omega) (by omega)), cou_oc hc.2.2.2.2.2.1 o (no _ (by omega) (by omega)) (no _ (by omega) (by omega)), hC, by rw [o.2]; exact hc.2.2.2.2.2.2.2⟩
theorem ok_s (hO : OKS tab txt nv sav tp os) (h : ¬ nv = 4) : OKS tab txt (nv + 1) (svset sav nv tab) tp os := ⟨hO.1, hO.2.1, by have := hO.2.2.1; omega, fun v hv => by
  unfold svset
  by_cases e : v = nv
  · rw [if_pos e]; exact hO.1
  · rw [if_neg e]; exact hO.2.2.2.1 v (by omega), hO.2.2.2.2⟩
theorem ok_e {s : Int32} (hO : OKS tab txt nv sav tp os) (b : ¬ bad_slot s.toInt) : OKS tab txt nv sav tp (enc 0 (txt s.toInt.toNat)) := by
  have Y := hO.2.1 _ (slot_lt (Classical.not_not.mp b))
  have E := enc_ok (txt s.toInt.toNat) 0 Y.2
  exact ⟨hO.1, hO.2.1, hO.2.2.1, hO.2.2.2.1, hO.2.2.2.2.1, ⟨by have := Y.1; have := E.1; omega, E.2⟩⟩
theorem tpok_nil : tpok [] := ⟨Nat.zero_le _, fun x q => (List.not_mem_nil q).elim⟩
theorem ok_t0 (hO : OKS tab txt nv sav tp os) : OKS tab txt nv sav [] os := ⟨hO.1, hO.2.1, hO.2.2.1, hO.2.2.2.1, tpok_nil, hO.2.2.2.2.2⟩
theorem ok_d {s : Nat} (hO : OKS tab txt nv sav tp os) (h : ¬ 40 < (dcl 0 tp).length) : OKS tab (xset txt s (dcl 0 tp)) nv sav [] os :=
  ⟨hO.1, xset_ok hO.2.1 (by omega) (dcl_ok tp 0 (Or.inl rfl)).1, hO.2.2.1, hO.2.2.2.1, tpok_nil, hO.2.2.2.2.2⟩

theorem g_at {s p : Int32} (h : GS (tab, txt, nv, sav, tp, os, pt)) : ∃ (r : Nat ⊕ Int32) (T : ST), gout [(bad_at txt s.toInt p.toInt, 1, (tab, txt, nv, sav, tp, os, pt))] (finI (at_val txt s.toInt p.toInt) (tab, txt, nv, sav, tp, os, pt)) r T ∧ DTr (fun w => f_X10_at s p w) (tab, txt, nv, sav, tp, os, pt) r T ∧ GS T := by
  have hO : OKS tab txt nv sav tp os := h.1
  refine D_go h (gout_u _ finI_u) (fun v hc => ?_)
  have hc : CLS v tab txt nv sav tp os pt := hc
  refine (k_at hc.1 hc.2.2.1).mono ?_
  rintro r v1 ⟨e0, hk⟩
  subst e0
  rcases hk with ⟨b, rfl⟩ | ⟨b, x, rfl, hx⟩
  · exact ⟨_, gx0 b, hc, hO⟩
  · exact ⟨_, gf1 b ⟨x, rfl, hx, rfl⟩, hc, hO⟩
theorem g_base {s : Int32} (h : GS (tab, txt, nv, sav, tp, os, pt)) : ∃ (r : Nat ⊕ Int32) (T : ST), gout [(bad_s1 s.toInt, 1, (tab, txt, nv, sav, tp, os, pt))] (finI (bf tab (txt s.toInt.toNat) 0 (txt s.toInt.toNat).length 0) (tab, txt, nv, sav, tp, os, pt)) r T ∧ DTr (fun w => f_X10_base s w) (tab, txt, nv, sav, tp, os, pt) r T ∧ GS T := by
  have hO : OKS tab txt nv sav tp os := h.1
  refine D_go h (gout_u _ finI_u) (fun v hc => ?_)
  have hc : CLS v tab txt nv sav tp os pt := hc
  refine (k_base hO.1 hc.2.1 hc.1 hc.2.2.1 hO.2.1).mono ?_
  rintro r v1 ⟨e0, hk⟩
  subst e0
  rcases hk with ⟨b, rfl⟩ | ⟨b, x, rfl, hx⟩
  · exact ⟨_, gx0 b, hc, hO⟩
  · exact ⟨_, gf1 b ⟨x, rfl, hx, rfl⟩, hc, hO⟩
theorem g_bySense {s p b : Int32} (h : GS (tab, txt, nv, sav, tp, os, pt)) : ∃ (r : Nat ⊕ Int32) (T : ST), gout [(bad_pl txt s.toInt p.toInt, 1, (tab, txt, nv, sav, tp, os, pt))] (finI (sns tab (txt s.toInt.toNat) (dir b.toInt) p.toInt) (tab, txt, nv, sav, tp, os, pt)) r T ∧ DTr (fun w => f_X10_bySense s p b w) (tab, txt, nv, sav, tp, os, pt) r T ∧ GS T := by
  have hO : OKS tab txt nv sav tp os := h.1
  refine D_go h (gout_u _ finI_u) (fun v hc => ?_)
  have hc : CLS v tab txt nv sav tp os pt := hc
  refine (k_bySense hc.2.1 hc.1 hc.2.2.1 hO.2.1).mono ?_
  rintro r v1 ⟨e0, hk⟩
  subst e0
  rcases hk with ⟨c, rfl⟩ | ⟨c, x, rfl, hx⟩
  · exact ⟨_, gx0 c, hc, hO⟩
  · exact ⟨_, gf1 c ⟨x, rfl, hx, rfl⟩, hc, hO⟩
theorem g_level {s p b : Int32} (h : GS (tab, txt, nv, sav, tp, os, pt)) : ∃ (r : Nat ⊕ Int32) (T : ST), gout [(bad_p txt s.toInt p.toInt, 1, (tab, txt, nv, sav, tp, os, pt)), (bad_b b.toInt, 2, (tab, txt, nv, sav, tp, os, pt))] (finI (LV tab (txt s.toInt.toNat) (fr tab (txt s.toInt.toNat) (bsF tab (txt s.toInt.toNat) b.toInt) (txt s.toInt.toNat).length) p.toInt.toNat) (tab, txt, nv, sav, tp, os, pt)) r T ∧ DTr (fun w => f_X10_level s p b w) (tab, txt, nv, sav, tp, os, pt) r T ∧ GS T := by
  have hO : OKS tab txt nv sav tp os := h.1
  refine D_go h (gout_u _ finI_u) (fun v hc => ?_)
  have hc : CLS v tab txt nv sav tp os pt := hc
  refine (k_level hO.1 hc.2.1 hc.1 hc.2.2.1 hO.2.1).mono ?_
  rintro r v1 ⟨hl, hk⟩
  have C := cl_q hO hc hl.1 hl.2 (fun k q => by unfold scr; omega)
  rcases hk with ⟨c, rfl⟩ | ⟨c, d, rfl⟩ | ⟨c, d, x, rfl, hx⟩
  · exact ⟨_, gx0 c, C, hO⟩
  · exact ⟨_, gx1 c d, C, hO⟩
  · exact ⟨_, gf2 c d ⟨x, rfl, hx, rfl⟩, C, hO⟩
theorem g_shown {s p b : Int32} (h : GS (tab, txt, nv, sav, tp, os, pt)) : ∃ (r : Nat ⊕ Int32) (T : ST), gout [(bad_p txt s.toInt p.toInt, 1, (tab, txt, nv, sav, tp, os, pt)), (bad_b b.toInt, 2, (tab, txt, nv, sav, tp, os, pt))] (finI ((scrn tab (txt s.toInt.toNat) b.toInt p.toInt.toNat : Nat) : Int) (tab, txt, nv, sav, tp, os, pt)) r T ∧ DTr (fun w => f_X10_shown s p b w) (tab, txt, nv, sav, tp, os, pt) r T ∧ GS T := by
  have hO : OKS tab txt nv sav tp os := h.1
  refine D_go h (gout_u _ finI_u) (fun v hc => ?_)
  have hc : CLS v tab txt nv sav tp os pt := hc
  refine (k_shown hO.1 hc.2.1 hc.1 hc.2.2.1 hO.2.1).mono ?_
  rintro r v1 ⟨hl, hk⟩
  have C := cl_q hO hc hl.1 hl.2 (fun k q => by unfold scr; omega)
  rcases hk with ⟨c, rfl⟩ | ⟨c, d, rfl⟩ | ⟨c, d, x, rfl, hx⟩
  · exact ⟨_, gx0 c, C, hO⟩
  · exact ⟨_, gx1 c d, C, hO⟩
  · exact ⟨_, gf2 c d ⟨x, rfl, hx, rfl⟩, C, hO⟩
theorem g_bySight {s p b : Int32} (h : GS (tab, txt, nv, sav, tp, os, pt)) : ∃ (r : Nat ⊕ Int32) (T : ST), gout [(bad_p txt s.toInt p.toInt, 1, (tab, txt, nv, sav, tp, os, pt))] (finBS tab txt s.toInt p.toInt b.toInt (tab, txt, nv, sav, tp, os, pt)) r T ∧ DTr (fun w => f_X10_bySight s p b w) (tab, txt, nv, sav, tp, os, pt) r T ∧ GS T := by
  have hO : OKS tab txt nv sav tp os := h.1
  refine D_go h (gout_u _ finBS_u) (fun v hc => ?_)
  have hc : CLS v tab txt nv sav tp os pt := hc
  refine (k_bySight hO.1 hc.2.1 hc.1 hc.2.2.1 hO.2.1).mono ?_
  rintro r v1 ⟨hl, hk⟩
  have C := cl_q hO hc hl.1 hl.2 (fun k q => by unfold scr; omega)
  rcases hk with ⟨c, rfl⟩ | ⟨c, a, x, rfl, hi, hx⟩
  · exact ⟨_, gx0 c, C, hO⟩
  · exact ⟨_, gf1 c ⟨a, x, rfl, hi, hx, rfl⟩, C, hO⟩
theorem g_looksLike {s t : Int32} (h : GS (tab, txt, nv, sav, tp, os, pt)) : ∃ (r : Nat ⊕ Int32) (T : ST), gout [(bad_two s.toInt t.toInt, 1, (tab, txt, nv, sav, tp, os, pt)), (fsp tab 3 (txt s.toInt.toNat) = none ∨ fsp tab 3 (txt t.toInt.toNat) = none, 3, (tab, txt, nv, sav, tp, os, pt))] (finLL tab txt s.toInt t.toInt (tab, txt, nv, sav, tp, os, pt)) r T ∧ DTr (fun w => f_X10_looksLike s t w) (tab, txt, nv, sav, tp, os, pt) r T ∧ GS T := by
  have hO : OKS tab txt nv sav tp os := h.1
  refine D_go h (gout_u _ finLL_u) (fun v hc => ?_)
  have hc : CLS v tab txt nv sav tp os pt := hc
  refine (k_looksLike hO.1 hc.2.1 hc.1 hc.2.2.1 hO.2.1).mono ?_
  rintro r v1 ⟨ok, -, oo, hk⟩
  have C := cl_q hO hc oo ok (fun k q => Or.inl q)
  rcases hk with ⟨b, rfl⟩ | ⟨b, c, rfl⟩ | ⟨b, x, rfl, hx⟩
  · exact ⟨_, gx0 b, C, hO⟩
  · exact ⟨_, gx1 b c, C, hO⟩
  · exact ⟨_, gf2 b (ll_no hx) ⟨x, rfl, hx, rfl⟩, C, hO⟩
theorem g_compare {n s t : Int32} (h : GS (tab, txt, nv, sav, tp, os, pt)) : ∃ (r : Nat ⊕ Int32) (T : ST), gout [(bad_lt n.toInt s.toInt t.toInt, 1, (tab, txt, nv, sav, tp, os, pt)), (fsp tab 0 (txt s.toInt.toNat) = none ∨ fsp tab 0 (txt t.toInt.toNat) = none, 3, (tab, txt, nv, sav, tp, os, pt))] (finCM tab txt n.toInt s.toInt t.toInt (tab, txt, nv, sav, tp, os, pt)) r T ∧ DTr (fun w => f_X10_compare n s t w) (tab, txt, nv, sav, tp, os, pt) r T ∧ GS T := by
  have hO : OKS tab txt nv sav tp os := h.1
  refine D_go h (gout_u _ finCM_u) (fun v hc => ?_)
  have hc : CLS v tab txt nv sav tp os pt := hc
  refine (k_compare hO.1 hc.2.1 hc.1 hc.2.2.1 hO.2.1).mono ?_
  rintro r v1 ⟨ok, -, oo, hk⟩
  have C := cl_q hO hc oo ok (fun k q => Or.inl q)
  rcases hk with ⟨b, rfl⟩ | ⟨b, c, rfl⟩ | ⟨b, x, a, e, rfl, h1, h2, hx⟩
  · exact ⟨_, gx0 b, C, hO⟩
  · exact ⟨_, gx1 b c, C, hO⟩
  · exact ⟨_, gf2 b (cm_no h1 h2) ⟨x, a, e, rfl, h1, h2, hx, rfl⟩, C, hO⟩
theorem g_key {n s p : Int32} (h : GS (tab, txt, nv, sav, tp, os, pt)) : ∃ (r : Nat ⊕ Int32) (T : ST), gout [(bad_l1 n.toInt s.toInt, 1, (tab, txt, nv, sav, tp, os, pt)), (fsp tab 0 (txt s.toInt.toNat) = none, 3, (tab, txt, nv, sav, tp, os, pt))] (finKY tab txt n.toInt s.toInt p.toInt (tab, txt, nv, sav, tp, os, pt)) r T ∧ DTr (fun w => f_X10_key n s p w) (tab, txt, nv, sav, tp, os, pt) r T ∧ GS T := by
  have hO : OKS tab txt nv sav tp os := h.1
  refine D_go h (gout_u _ finKY_u) (fun v hc => ?_)
  have hc : CLS v tab txt nv sav tp os pt := hc
  refine (k_key hO.1 hc.2.1 hc.1 hc.2.2.1 hO.2.1).mono ?_
  rintro r v1 ⟨ok, -, oo, hk⟩
  have C := cl_q hO hc oo ok (fun k q => Or.inl q)
  rcases hk with ⟨b, rfl⟩ | ⟨b, c, rfl⟩ | ⟨b, a, h1, hx⟩
  · exact ⟨_, gx0 b, C, hO⟩
  · exact ⟨_, gx1 b c, C, hO⟩
  · exact ⟨_, gf2 b (some_no h1) ⟨a, h1, hx, rfl⟩, C, hO⟩
theorem g_find {s t p : Int32} (h : GS (tab, txt, nv, sav, tp, os, pt)) : ∃ (r : Nat ⊕ Int32) (T : ST), gout [(bad_two s.toInt t.toInt, 1, (tab, txt, nv, sav, tp, os, pt)), (bad_from p.toInt, 2, (tab, txt, nv, sav, tp, os, pt)), (80 < (fl tab (txt s.toInt.toNat)).length ∨ 80 < (fl tab (txt t.toInt.toNat)).length, 3, (tab, txt, nv, sav, tp, os, pt))] (finI (fdr tab (txt s.toInt.toNat) (txt t.toInt.toNat) p.toInt) (tab, txt, nv, sav, tp, os, pt)) r T ∧ DTr (fun w => f_X10_find s t p w) (tab, txt, nv, sav, tp, os, pt) r T ∧ GS T := by
  have hO : OKS tab txt nv sav tp os := h.1
  refine D_go h (gout_u _ finI_u) (fun v hc => ?_)
  have hc : CLS v tab txt nv sav tp os pt := hc
  refine (k_find hO.1 hc.2.1 hc.1 hc.2.2.1 hO.2.1).mono ?_
  rintro r v1 ⟨ok, -, oo, hk⟩
  have C := cl_q hO hc oo ok (fun k q => Or.inl q)
  rcases hk with ⟨b, rfl⟩ | ⟨b, c, rfl⟩ | ⟨b, c, d, rfl⟩ | ⟨b, c, d, x, rfl, hx⟩
  · exact ⟨_, gx0 b, C, hO⟩
  · exact ⟨_, gx1 b c, C, hO⟩
  · exact ⟨_, gx2 b c d, C, hO⟩
  · exact ⟨_, gf3 b c d ⟨x, rfl, hx, rfl⟩, C, hO⟩
theorem g_match {s p : Int32} (h : GS (tab, txt, nv, sav, tp, os, pt)) : ∃ (r : Nat ⊕ Int32) (T : ST), gout [(bad_pl txt s.toInt p.toInt, 1, (tab, txt, nv, sav, tp, os, pt)), (pt = none, 3, (tab, txt, nv, sav, tp, os, pt))] (finMT tab txt pt s.toInt p.toInt (tab, txt, nv, sav, tp, os, pt)) r T ∧ DTr (fun w => f_X10_match s p w) (tab, txt, nv, sav, tp, os, pt) r T ∧ GS T := by
  have hO : OKS tab txt nv sav tp os := h.1
  refine D_go h (gout_u _ finMT_u) (fun v hc => ?_)
  have hc : CLS v tab txt nv sav tp os pt := hc
  refine (k_match hO.1 hc.2.1 hc.1 hc.2.2.1 hO.2.1 hc.2.2.2.2.2.2.2.1 hc.2.2.2.2.2.2.1).mono ?_
  rintro r v1 ⟨hl, hk⟩
  have C := cl_q hO hc hl.1 hl.2 (fun k q => Or.inr q)
  rcases hk with ⟨b, rfl⟩ | ⟨b, c, rfl⟩ | ⟨b, l, x, e, rfl, hx⟩
  · exact ⟨_, gx0 b, C, hO⟩
  · exact ⟨_, gx1 b c, C, hO⟩
  · exact ⟨_, gf2 b (some_no e) ⟨l, x, e, rfl, hx, rfl⟩, C, hO⟩
theorem g_breaks {s x : Int32} (h : GS (tab, txt, nv, sav, tp, os, pt)) : ∃ (r : Nat ⊕ Int64) (T : ST), gout [(bad_s1 s.toInt, 1, (tab, txt, nv, sav, tp, os, pt)), (bad_w x.toInt, 2, (tab, txt, nv, sav, tp, os, pt))] (finBR tab txt s.toInt x.toInt (tab, txt, nv, sav, tp, os, pt)) r T ∧ DTr (fun w => f_X10_breaks s x w) (tab, txt, nv, sav, tp, os, pt) r T ∧ GS T := by
  have hO : OKS tab txt nv sav tp os := h.1
  refine D_go h (gout_u _ finBR_u) (fun v hc => ?_)
  have hc : CLS v tab txt nv sav tp os pt := hc
  refine (k_breaks hO.1 hc.2.1 hc.1 hc.2.2.1 hO.2.1).mono ?_
  rintro r v1 ⟨e0, hk⟩
  subst e0
  rcases hk with ⟨b, rfl⟩ | ⟨b, c, rfl⟩ | ⟨b, c, m, rfl, hx⟩
  · exact ⟨_, gx0 b, hc, hO⟩
  · exact ⟨_, gx1 b c, hc, hO⟩
  · exact ⟨_, gf2 b c ⟨m, rfl, hx, rfl⟩, hc, hO⟩
theorem g_classOf {n v0 : Int32} (h : GS (tab, txt, nv, sav, tp, os, pt)) : ∃ (r : Nat ⊕ Int32) (T : ST), gout [(bad_lang n.toInt, 1, (tab, txt, nv, sav, tp, os, pt)), (bad_num v0.toInt, 2, (tab, txt, nv, sav, tp, os, pt))] (finI (pcl tab n.toInt.toNat v0.toInt) (tab, txt, nv, sav, tp, os, pt)) r T ∧ DTr (fun w => f_X10_classOf n v0 w) (tab, txt, nv, sav, tp, os, pt) r T ∧ GS T := by
  have hO : OKS tab txt nv sav tp os := h.1
  refine D_go h (gout_u _ finI_u) (fun v hc => ?_)
  have hc : CLS v tab txt nv sav tp os pt := hc
  refine (k_classOf hO.1 hc.2.1).mono ?_
  rintro r v1 ⟨e0, hk⟩
  subst e0
  rcases hk with ⟨b, rfl⟩ | ⟨b, c, rfl⟩ | ⟨b, c, x, rfl, hx⟩
  · exact ⟨_, gx0 b, hc, hO⟩
  · exact ⟨_, gx1 b c, hc, hO⟩
  · exact ⟨_, gf2 b c ⟨x, rfl, hx, rfl⟩, hc, hO⟩
theorem g_letter {l j d k e : Int32} (h : GS (tab, txt, nv, sav, tp, os, pt)) : ∃ (r : Nat ⊕ Unit) (T : ST), gout [(badL l.toInt, 1, (tab, txt, nv, sav, tp, os, pt)), (bad_letter j.toInt d.toInt k.toInt e.toInt, 2, (tab, txt, nv, sav, tp, os, pt))] (finU (tab_letter tab l.toInt j.toInt d.toInt k.toInt e.toInt, txt, nv, sav, tp, os, pt)) r T ∧ DTr (fun w => f_X10_letter l j d k e w) (tab, txt, nv, sav, tp, os, pt) r T ∧ GS T := by
  have hO : OKS tab txt nv sav tp os := h.1
  refine D_go h (gout_u _ finU_u) (fun v hc => ?_)
  have hc : CLS v tab txt nv sav tp os pt := hc
  refine (k_letter hO.1 hc.2.1 hc.1).mono ?_
  rintro r v1 hk
  rcases hk with ⟨b, rfl, rfl⟩ | ⟨b, c, rfl, rfl⟩ | ⟨b, c, ⟨x, rfl, -⟩, t, ok, oo⟩
  · exact ⟨_, gx0 b, hc, hO⟩
  · exact ⟨_, gx1 b c, hc, hO⟩
  · exact ⟨_, gf2 b c ⟨rfl, rfl⟩, cl_t hO hc t ok oo, OKS_t hO (tok_letter hO.1 b c)⟩
theorem g_split {l a b0 : Int32} (h : GS (tab, txt, nv, sav, tp, os, pt)) : ∃ (r : Nat ⊕ Unit) (T : ST), gout [(badL l.toInt, 1, (tab, txt, nv, sav, tp, os, pt)), (bad_split l.toInt a.toInt b0.toInt, 2, (tab, txt, nv, sav, tp, os, pt))] (finU (tab_split tab l.toInt a.toInt b0.toInt, txt, nv, sav, tp, os, pt)) r T ∧ DTr (fun w => f_X10_split l a b0 w) (tab, txt, nv, sav, tp, os, pt) r T ∧ GS T := by
  have hO : OKS tab txt nv sav tp os := h.1
  refine D_go h (gout_u _ finU_u) (fun v hc => ?_)
  have hc : CLS v tab txt nv sav tp os pt := hc
  refine (k_split hO.1 hc.2.1 hc.1).mono ?_
  rintro r v1 hk
  rcases hk with ⟨b, rfl, rfl⟩ | ⟨b, c, rfl, rfl⟩ | ⟨b, c, ⟨x, rfl, -⟩, t, ok, oo⟩
  · exact ⟨_, gx0 b, hc, hO⟩
  · exact ⟨_, gx1 b c, hc, hO⟩
  · exact ⟨_, gf2 b c ⟨rfl, rfl⟩, cl_t hO hc t ok oo, OKS_t hO (tok_split hO.1 b c)⟩
theorem g_capital {l a b0 : Int32} (h : GS (tab, txt, nv, sav, tp, os, pt)) : ∃ (r : Nat ⊕ Unit) (T : ST), gout [(badL l.toInt, 1, (tab, txt, nv, sav, tp, os, pt)), (bad_cap a.toInt b0.toInt, 2, (tab, txt, nv, sav, tp, os, pt))] (finU (tab_cap tab l.toInt a.toInt b0.toInt, txt, nv, sav, tp, os, pt)) r T ∧ DTr (fun w => f_X10_capital l a b0 w) (tab, txt, nv, sav, tp, os, pt) r T ∧ GS T := by
  have hO : OKS tab txt nv sav tp os := h.1
  refine D_go h (gout_u _ finU_u) (fun v hc => ?_)
  have hc : CLS v tab txt nv sav tp os pt := hc
  refine (k_capital hO.1 hc.2.1 hc.1).mono ?_
  rintro r v1 hk
  rcases hk with ⟨b, rfl, rfl⟩ | ⟨b, c, rfl, rfl⟩ | ⟨b, c, ⟨x, rfl, -⟩, t, ok, oo⟩
  · exact ⟨_, gx0 b, hc, hO⟩
  · exact ⟨_, gx1 b c, hc, hO⟩
  · exact ⟨_, gf2 b c ⟨rfl, rfl⟩, cl_t hO hc t ok oo, OKS_t hO (tok_cap hO.1 b c)⟩
theorem g_partners {a b0 : Int32} (h : GS (tab, txt, nv, sav, tp, os, pt)) : ∃ (r : Nat ⊕ Unit) (T : ST), gout [(bad_part1 a.toInt b0.toInt, 1, (tab, txt, nv, sav, tp, os, pt)), (bad_part tab a.toInt b0.toInt, 3, (tab, txt, nv, sav, tp, os, pt))] (finU (tab_part tab a.toInt b0.toInt, txt, nv, sav, tp, os, pt)) r T ∧ DTr (fun w => f_X10_partners a b0 w) (tab, txt, nv, sav, tp, os, pt) r T ∧ GS T := by
  have hO : OKS tab txt nv sav tp os := h.1
  refine D_go h (gout_u _ finU_u) (fun v hc => ?_)
  have hc : CLS v tab txt nv sav tp os pt := hc
  refine (k_partners hO.1 hc.2.1 hc.1).mono ?_
  rintro r v1 hk
  rcases hk with ⟨b, rfl, rfl⟩ | ⟨b, c, rfl, rfl⟩ | ⟨b, c, ⟨x, rfl, -⟩, t, ok, oo⟩
  · exact ⟨_, gx0 b, hc, hO⟩
  · exact ⟨_, gx1 b c, hc, hO⟩
  · exact ⟨_, gf2 b c ⟨rfl, rfl⟩, cl_t hO hc t ok oo, OKS_t hO (tok_part hO.1 b c)⟩
theorem g_weigh {n l f s t0 : Int32} (h : GS (tab, txt, nv, sav, tp, os, pt)) : ∃ (r : Nat ⊕ Unit) (T : ST), gout [(bad_w1 n.toInt l.toInt, 1, (tab, txt, nv, sav, tp, os, pt)), (bad_w2 f.toInt s.toInt t0.toInt, 2, (tab, txt, nv, sav, tp, os, pt))] (finU (tw3 tab (864 + 3 * (96 * n.toInt.toNat + l.toInt.toNat)) f.toInt s.toInt t0.toInt, txt, nv, sav, tp, os, pt)) r T ∧ DTr (fun w => f_X10_weigh n l f s t0 w) (tab, txt, nv, sav, tp, os, pt) r T ∧ GS T := by
  have hO : OKS tab txt nv sav tp os := h.1
  refine D_go h (gout_u _ finU_u) (fun v hc => ?_)
  have hc : CLS v tab txt nv sav tp os pt := hc
  refine (k_weigh hO.1 hc.2.1 hc.1).mono ?_
  rintro r v1 hk
  rcases hk with ⟨b, rfl, rfl⟩ | ⟨b, c, rfl, rfl⟩ | ⟨b, c, ⟨x, rfl, -⟩, t, ok, oo⟩
  · exact ⟨_, gx0 b, hc, hO⟩
  · exact ⟨_, gx1 b c, hc, hO⟩
  · exact ⟨_, gf2 b c ⟨rfl, rfl⟩, cl_t hO hc t ok oo, OKS_t hO (tok_weigh hO.1 (by have B := Classical.not_not.mp b; omega))⟩
theorem g_addWord {s : Int32} (h : GS (tab, txt, nv, sav, tp, os, pt)) : ∃ (r : Nat ⊕ Int32) (T : ST), gout [(bad_slot s.toInt, 1, (tab, txt, nv, sav, tp, os, pt)), (bad_word tab (txt s.toInt.toNat), 3, (tab, txt, nv, sav, tp, os, pt))] (finI (tab 1502 + 1) (tword tab (txt s.toInt.toNat), txt, nv, sav, tp, os, pt)) r T ∧ DTr (fun w => f_X10_addWord s w) (tab, txt, nv, sav, tp, os, pt) r T ∧ GS T := by
  have hO : OKS tab txt nv sav tp os := h.1
  refine D_go h (gout_u _ finI_u) (fun v hc => ?_)
  have hc : CLS v tab txt nv sav tp os pt := hc
  refine (k_addWord hO.1 hc.2.1 hc.1 hc.2.2.1).mono ?_
  rintro r v1 hk
  rcases hk with ⟨b, rfl, rfl⟩ | ⟨b, c, rfl, rfl⟩ | ⟨b, c, ⟨x, rfl, hx⟩, t, ok, oo⟩
  · exact ⟨_, gx0 b, hc, hO⟩
  · exact ⟨_, gx1 b c, hc, hO⟩
  · exact ⟨_, gf2 b c ⟨x, rfl, hx, rfl⟩, cl_t hO hc t ok oo, OKS_t hO (tok_word hO.1 c)⟩
theorem g_contract {n a b0 f s t0 : Int32} (h : GS (tab, txt, nv, sav, tp, os, pt)) : ∃ (r : Nat ⊕ Int32) (T : ST), gout [(bad_c1 n.toInt a.toInt b0.toInt, 1, (tab, txt, nv, sav, tp, os, pt)), (bad_w2 f.toInt s.toInt t0.toInt, 2, (tab, txt, nv, sav, tp, os, pt)), (bad_c3 tab n.toInt.toNat a.toInt b0.toInt, 3, (tab, txt, nv, sav, tp, os, pt))] (finCN n.toInt a.toInt b0.toInt f.toInt s.toInt t0.toInt (tab, txt, nv, sav, tp, os, pt)) r T ∧ DTr (fun w => f_X10_contract n a b0 f s t0 w) (tab, txt, nv, sav, tp, os, pt) r T ∧ GS T := by
  have hO : OKS tab txt nv sav tp os := h.1
  refine D_go h (gout_u _ (finCN_u hO.1)) (fun v hc => ?_)
  have hc : CLS v tab txt nv sav tp os pt := hc
  refine (k_contract hO.1 hc.2.1 hc.1).mono ?_
  rintro r v1 hk
  rcases hk with ⟨b, rfl, rfl⟩ | ⟨b, c, rfl, rfl⟩ | ⟨b, c, d, rfl, rfl⟩ | ⟨b, c, i, d, x, hcon, rfl, hx, t, ok, oo⟩
  · exact ⟨_, gx0 b, hc, hO⟩
  · exact ⟨_, gx1 b c, hc, hO⟩
  · exact ⟨_, gx2 b c d, hc, hO⟩
  · exact ⟨_, gf3 b c (con_no hcon) ⟨i, d, x, b, hcon, rfl, hx, rfl⟩, cl_t hO hc t ok oo, OKS_t hO (tok_con hO.1 (by have B := Classical.not_not.mp b; omega) (n := n.toInt.toNat) (by have B := Classical.not_not.mp b; rw [show ((n.toInt.toNat : Nat) : Int) = n.toInt by omega]; exact b) hcon)⟩
theorem g_plural {n a b0 c0 d0 e f g : Int32} (h : GS (tab, txt, nv, sav, tp, os, pt)) : ∃ (r : Nat ⊕ Int32) (T : ST), gout [(bad_p1 n.toInt, 1, (tab, txt, nv, sav, tp, os, pt)), (bad_p2 a.toInt b0.toInt c0.toInt d0.toInt e.toInt f.toInt g.toInt, 2, (tab, txt, nv, sav, tp, os, pt)), (tab (1678 + n.toInt.toNat) = 4, 3, (tab, txt, nv, sav, tp, os, pt))] (finI (tab (1678 + n.toInt.toNat) + 1) (tplu tab n.toInt.toNat (plu7 a.toInt b0.toInt c0.toInt d0.toInt e.toInt f.toInt g.toInt), txt, nv, sav, tp, os, pt)) r T ∧ DTr (fun w => f_X10_plural n a b0 c0 d0 e f g w) (tab, txt, nv, sav, tp, os, pt) r T ∧ GS T := by
  have hO : OKS tab txt nv sav tp os := h.1
  refine D_go h (gout_u _ finI_u) (fun v hc => ?_)
  have hc : CLS v tab txt nv sav tp os pt := hc
  refine (k_plural hO.1 hc.2.1 hc.1).mono ?_
  rintro r v1 hk
  rcases hk with ⟨b, rfl, rfl⟩ | ⟨b, c, rfl, rfl⟩ | ⟨b, c, d, rfl, rfl⟩ | ⟨b, c, d, ⟨x, rfl, hx⟩, t, ok, oo⟩
  · exact ⟨_, gx0 b, hc, hO⟩
  · exact ⟨_, gx1 b c, hc, hO⟩
  · exact ⟨_, gx2 b c d, hc, hO⟩
  · exact ⟨_, gf3 b c d ⟨x, rfl, hx, rfl⟩, cl_t hO hc t ok oo, OKS_t hO (tok_plural hO.1 (by have B := Classical.not_not.mp b; omega) c d)⟩
theorem g_addRule {p a b0 c0 d0 : Int32} (h : GS (tab, txt, nv, sav, tp, os, pt)) : ∃ (r : Nat ⊕ Int32) (T : ST), gout [(bad_r1 a.toInt b0.toInt c0.toInt d0.toInt, 1, (tab, txt, nv, sav, tp, os, pt)), (bad_r2 p.toInt, 2, (tab, txt, nv, sav, tp, os, pt)), (bad_r3 tab (txt a.toInt.toNat) (txt b0.toInt.toNat) (txt c0.toInt.toNat) (txt d0.toInt.toNat), 3, (tab, txt, nv, sav, tp, os, pt))] (finI (tab 1557 + 1) (trule tab p.toInt (txt a.toInt.toNat) (txt b0.toInt.toNat) (txt c0.toInt.toNat) (txt d0.toInt.toNat), txt, nv, sav, tp, os, pt)) r T ∧ DTr (fun w => f_X10_addRule p a b0 c0 d0 w) (tab, txt, nv, sav, tp, os, pt) r T ∧ GS T := by
  have hO : OKS tab txt nv sav tp os := h.1
  refine D_go h (gout_u _ finI_u) (fun v hc => ?_)
  have hc : CLS v tab txt nv sav tp os pt := hc
  refine (k_addRule hO.1 hc.2.1 hc.1 hc.2.2.1).mono ?_
  rintro r v1 hk
  rcases hk with ⟨b, rfl, rfl⟩ | ⟨b, c, rfl, rfl⟩ | ⟨b, c, d, rfl, rfl⟩ | ⟨b, c, d, ⟨x, rfl, hx⟩, t, ok, oo⟩
  · exact ⟨_, gx0 b, hc, hO⟩
  · exact ⟨_, gx1 b c, hc, hO⟩
  · exact ⟨_, gx2 b c d, hc, hO⟩
  · exact ⟨_, gf3 b c d ⟨x, rfl, hx, rfl⟩, cl_t hO hc t ok oo, OKS_t hO (tok_rule hO.1 c d (hO.2.1 b0.toInt.toNat (by have B := Classical.not_not.mp b; omega)).2 (hO.2.1 d0.toInt.toNat (by have B := Classical.not_not.mp b; omega)).2)⟩
theorem g_use {v0 : Int32} (h : GS (tab, txt, nv, sav, tp, os, pt)) : ∃ (r : Nat ⊕ Unit) (T : ST), gout [(bad_ver nv v0.toInt, 1, (tab, txt, nv, sav, tp, os, pt))] (finU (sav v0.toInt.toNat, txt, nv, sav, tp, os, pt)) r T ∧ DTr (fun w => f_X10_use v0 w) (tab, txt, nv, sav, tp, os, pt) r T ∧ GS T := by
  have hO : OKS tab txt nv sav tp os := h.1
  refine D_go h (gout_u _ finU_u) (fun v hc => ?_)
  have hc : CLS v tab txt nv sav tp os pt := hc
  refine (k_use hO.2.2.1 hO.2.2.2.1 hc.2.2.2.1 hc.1).mono ?_
  rintro r v1 hk
  rcases hk with ⟨b, rfl, rfl⟩ | ⟨b, rfl, t, ok, oo⟩
  · exact ⟨_, gx0 b, hc, hO⟩
  · exact ⟨_, gf1 b ⟨rfl, rfl⟩, cl_t hO hc t ok oo, OKS_t hO (hO.2.2.2.1 v0.toInt.toNat (by have B := Classical.not_not.mp b; omega))⟩
theorem g_save (h : GS (tab, txt, nv, sav, tp, os, pt)) : ∃ (r : Nat ⊕ Int32) (T : ST), gout [(nv = 4, 3, (tab, txt, nv, sav, tp, os, pt))] (finI (nv : Int) (tab, txt, nv + 1, svset sav nv tab, tp, os, pt)) r T ∧ DTr (fun w => f_X10_save w) (tab, txt, nv, sav, tp, os, pt) r T ∧ GS T := by
  have hO : OKS tab txt nv sav tp os := h.1
  refine D_go h (gout_u _ finI_u) (fun v hc => ?_)
  have hc : CLS v tab txt nv sav tp os pt := hc
  refine (k_save hO.2.2.1 hO.1 hO.2.2.2.1 hc.2.1 hc.2.2.2.1 hc.1).mono ?_
  rintro r v1 hk
  rcases hk with ⟨b, rfl, rfl⟩ | ⟨b, ⟨x, rfl, hx⟩, cv, ok, oo, f0⟩
  · exact ⟨_, gx0 b, hc, hO⟩
  · exact ⟨_, gf1 b ⟨x, rfl, hx, rfl⟩, cl_sv hO hc cv ok oo f0, ok_s hO b⟩
theorem g_put {s l : Int32} (h : GS (tab, txt, nv, sav, tp, os, pt)) : ∃ (r : Nat ⊕ Int32) (T : ST), gout [(bad_slot s.toInt ∨ badL l.toInt, 1, (tab, txt, nv, sav, tp, os, pt)), ((txt s.toInt.toNat).length = 40, 3, (tab, txt, nv, sav, tp, os, pt))] (finI ((txt s.toInt.toNat).length + 1) (tab, xset txt s.toInt.toNat (txt s.toInt.toNat ++ [l.toInt]), nv, sav, tp, os, pt)) r T ∧ DTr (fun w => f_X10_put s l w) (tab, txt, nv, sav, tp, os, pt) r T ∧ GS T := by
  have hO : OKS tab txt nv sav tp os := h.1
  refine D_go h (gout_u _ finI_u) (fun v hc => ?_)
  have hc : CLS v tab txt nv sav tp os pt := hc
  refine (k_put hc.1 hc.2.2.1 hO.2.1).mono ?_
  rintro r v1 hk
  rcases hk with ⟨b, rfl, rfl⟩ | ⟨b, c, rfl, rfl⟩ | ⟨b, c, ⟨x, rfl, hx⟩, cx, ok, oo⟩
  · exact ⟨_, gx0 b, hc, hO⟩
  · exact ⟨_, gx1 b c, hc, hO⟩
  · exact ⟨_, gf2 b c ⟨x, rfl, hx, rfl⟩, cl_x hO hc oo ok cx, OKS_x hO (xok_put hO.2.1 (slot_lt (Classical.not_not.mp (not_or.mp b).1)) c (Classical.not_not.mp (not_or.mp b).2))⟩
theorem g_clear {s : Int32} (h : GS (tab, txt, nv, sav, tp, os, pt)) : ∃ (r : Nat ⊕ Int32) (T : ST), gout [(bad_slot s.toInt, 1, (tab, txt, nv, sav, tp, os, pt))] (finI ((txt s.toInt.toNat).length : Int) (tab, xset txt s.toInt.toNat [], nv, sav, tp, os, pt)) r T ∧ DTr (fun w => f_X10_clear s w) (tab, txt, nv, sav, tp, os, pt) r T ∧ GS T := by
  have hO : OKS tab txt nv sav tp os := h.1
  refine D_go h (gout_u _ finI_u) (fun v hc => ?_)
  have hc : CLS v tab txt nv sav tp os pt := hc
  refine (k_clear hc.1 hc.2.2.1).mono ?_
  rintro r v1 hk
  rcases hk with ⟨b, rfl, rfl⟩ | ⟨b, ⟨x, rfl, hx⟩, cx, ok, oo⟩
  · exact ⟨_, gx0 b, hc, hO⟩
  · exact ⟨_, gf1 b ⟨x, rfl, hx, rfl⟩, cl_x hO hc oo ok cx, OKS_x hO (xok_nil hO.2.1)⟩
theorem g_form {s f t0 : Int32} (h : GS (tab, txt, nv, sav, tp, os, pt)) : ∃ (r : Nat ⊕ Int32) (T : ST), gout [(bad_two s.toInt t0.toInt, 1, (tab, txt, nv, sav, tp, os, pt)), (bad_f f.toInt, 2, (tab, txt, nv, sav, tp, os, pt)), (∀ ys, ¬ okf (fsp tab f.toInt (txt s.toInt.toNat)) ys, 3, (tab, txt, nv, sav, tp, os, pt))] (finFM f.toInt s.toInt t0.toInt (tab, txt, nv, sav, tp, os, pt)) r T ∧ DTr (fun w => f_X10_form s f t0 w) (tab, txt, nv, sav, tp, os, pt) r T ∧ GS T := by
  have hO : OKS tab txt nv sav tp os := h.1
  refine D_go h (gout_u _ finFM_u) (fun v hc => ?_)
  have hc : CLS v tab txt nv sav tp os pt := hc
  refine (k_form hO.1 hc.2.1 hc.1 hc.2.2.1 hO.2.1).mono ?_
  rintro r v1 ⟨ok, -, oo, hk⟩
  rcases hk with ⟨b, rfl, cx⟩ | ⟨b, c, rfl, cx⟩ | ⟨b, c, d, rfl, cx⟩ | ⟨b, c, ys, hy, ⟨x, rfl, hx⟩, cx⟩
  · exact ⟨_, gx0 b, cl_f hO hc oo ok cx, hO⟩
  · exact ⟨_, gx1 b c, cl_f hO hc oo ok cx, hO⟩
  · exact ⟨_, gx2 b c d, cl_f hO hc oo ok cx, hO⟩
  · exact ⟨_, gf3 b c (fun q => q ys hy) ⟨ys, x, hy, rfl, hx, rfl⟩, cl_f hO hc oo ok cx, OKS_x hO (xset_ok hO.2.1 hy.2 (fsp_ok hO.1 (hO.2.1 _ (slot_lt (Classical.not_not.mp b).1)).2 hy.1).1)⟩
theorem g_transliterate {s t0 b0 : Int32} (h : GS (tab, txt, nv, sav, tp, os, pt)) : ∃ (r : Nat ⊕ Int32) (T : ST), gout [(bad_two s.toInt t0.toInt, 1, (tab, txt, nv, sav, tp, os, pt)), (tra tab b0.toInt (txt s.toInt.toNat) = none, 3, (tab, txt, nv, sav, tp, os, pt))] (finTR s.toInt t0.toInt b0.toInt (tab, txt, nv, sav, tp, os, pt)) r T ∧ DTr (fun w => f_X10_transliterate s t0 b0 w) (tab, txt, nv, sav, tp, os, pt) r T ∧ GS T := by
  have hO : OKS tab txt nv sav tp os := h.1
  refine D_go h (gout_u _ finTR_u) (fun v hc => ?_)
  have hc : CLS v tab txt nv sav tp os pt := hc
  refine (k_transliterate hO.1 hc.2.1 hc.1 hc.2.2.1 hO.2.1).mono ?_
  rintro r v1 ⟨ok, -, oo, hk⟩
  rcases hk with ⟨b, rfl, cx⟩ | ⟨b, c, rfl, cx⟩ | ⟨b, ys, hy, ⟨x, rfl, hx⟩, cx⟩
  · exact ⟨_, gx0 b, cl_f hO hc oo ok cx, hO⟩
  · exact ⟨_, gx1 b c, cl_f hO hc oo ok cx, hO⟩
  · exact ⟨_, gf2 b (some_no hy) ⟨ys, x, hy, rfl, hx, rfl⟩, cl_f hO hc oo ok cx, OKS_x hO (let Y := tra_ok hO.1 (hO.2.1 _ (slot_lt (Classical.not_not.mp b).1)).2 hy; xset_ok hO.2.1 Y.1 Y.2)⟩
theorem g_feed {b0 : Int64} {n : Int32} (h : GS (tab, txt, nv, sav, tp, os, pt)) : ∃ (r : Nat ⊕ Int32) (T : ST), gout [(bad_n n.toInt, 2, (tab, txt, nv, sav, tp, os, pt)), (160 < tp.length + n.toInt, 3, (tab, txt, nv, sav, tp, os, pt))] (finI (tp.length + n.toInt) (tab, txt, nv, sav, tp ++ byts b0 n.toInt.toNat, os, pt)) r T ∧ DTr (fun w => f_X10_feed b0 n w) (tab, txt, nv, sav, tp, os, pt) r T ∧ GS T := by
  have hO : OKS tab txt nv sav tp os := h.1
  refine D_go h (gout_u _ finI_u) (fun v hc => ?_)
  have hc : CLS v tab txt nv sav tp os pt := hc
  refine (k_feed hc.1 hc.2.2.2.2.1 hO.2.2.2.2.1).mono ?_
  rintro r v1 hk
  rcases hk with ⟨b, rfl, rfl⟩ | ⟨b, c, rfl, rfl⟩ | ⟨b, c, ⟨x, rfl, hx⟩, cx, ok, oo⟩
  · exact ⟨_, gx0 b, hc, hO⟩
  · exact ⟨_, gx1 b c, hc, hO⟩
  · have T : tpok (tp ++ byts b0 n.toInt.toNat) := by
      have B1 := Classical.not_not.mp b
      refine ⟨by rw [List.length_append, byts_len]; omega, fun y hy => ?_⟩
      rcases List.mem_append.mp hy with q | q
      · exact hO.2.2.2.2.1.2 y q
      · exact byts_rng _ _ y q
    exact ⟨_, gf2 b c ⟨x, rfl, hx, rfl⟩, cl_g hO hc oo ok (fun k q => by omega) (ctx_oc hc.2.2.1 oo (fun k _ _ => by omega)) cx (cou_oc hc.2.2.2.2.2.1 oo (by omega) (by omega)), (⟨hO.1, hO.2.1, hO.2.2.1, hO.2.2.2.1, T, hO.2.2.2.2.2⟩ : OKS tab txt nv sav _ os)⟩
theorem g_encode {s : Int32} (h : GS (tab, txt, nv, sav, tp, os, pt)) : ∃ (r : Nat ⊕ Int32) (T : ST), gout [(bad_slot s.toInt, 1, (tab, txt, nv, sav, tp, os, pt))] (finI ((enc 0 (txt s.toInt.toNat)).length : Int) (tab, txt, nv, sav, tp, enc 0 (txt s.toInt.toNat), pt)) r T ∧ DTr (fun w => f_X10_encode s w) (tab, txt, nv, sav, tp, os, pt) r T ∧ GS T := by
  have hO : OKS tab txt nv sav tp os := h.1
  refine D_go h (gout_u _ finI_u) (fun v hc => ?_)
  have hc : CLS v tab txt nv sav tp os pt := hc
  refine (k_encode hc.1 hc.2.2.1 hO.2.1).mono ?_
  rintro r v1 ⟨ok, oo, hk⟩
  rcases hk with ⟨b, rfl, rfl⟩ | ⟨b, ⟨x, rfl, hx⟩, cx⟩
  · exact ⟨_, gx0 b, hc, hO⟩
  · exact ⟨_, gf1 b ⟨x, rfl, hx, rfl⟩, cl_g hO hc oo ok (fun k q => by unfold oob at q; omega) (ctx_oc hc.2.2.1 oo (fun k _ _ => by unfold oob; omega)) (cta_oc hc.2.2.2.2.1 oo (by unfold oob; omega) (by unfold oob; omega)) cx, ok_e hO b⟩
theorem g_decode {s : Int32} (h : GS (tab, txt, nv, sav, tp, os, pt)) : ∃ (r : Nat ⊕ Int32) (T : ST), gout [(bad_slot s.toInt, 1, (tab, txt, nv, sav, tp, os, pt)), (40 < (dcl 0 tp).length, 3, (tab, txt, nv, sav, [], os, pt))] (finI (dce 0 tp) (tab, xset txt s.toInt.toNat (dcl 0 tp), nv, sav, [], os, pt)) r T ∧ DTr (fun w => f_X10_decode s w) (tab, txt, nv, sav, tp, os, pt) r T ∧ GS T := by
  have hO : OKS tab txt nv sav tp os := h.1
  refine D_go h (gout_u _ finI_u) (fun v hc => ?_)
  have hc : CLS v tab txt nv sav tp os pt := hc
  refine (k_decode hc.1 hc.2.2.1 hc.2.2.2.2.1 hO.2.2.2.2.1).mono ?_
  rintro r v1 ⟨ok, oo, hk⟩
  rcases hk with ⟨b, rfl, rfl⟩ | ⟨b, c, rfl, cx, ct⟩ | ⟨b, c, ⟨x, rfl, hx⟩, cx, ct⟩
  · exact ⟨_, gx0 b, hc, hO⟩
  · exact ⟨_, gx1 b c, cl_g hO hc oo ok (fun k q => by unfold odc xin at q; unfold scr; omega) cx ct (cou_oc hc.2.2.2.2.2.1 oo (by unfold odc xin; omega) (by unfold odc xin; omega)), ok_t0 hO⟩
  · exact ⟨_, gf2 b c ⟨x, rfl, hx, rfl⟩, cl_g hO hc oo ok (fun k q => by unfold odc xin at q; unfold scr; omega) cx ct (cou_oc hc.2.2.2.2.2.1 oo (by unfold odc xin; omega) (by unfold odc xin; omega)), ok_d hO c⟩
theorem g_message {n a b0 c0 d0 : Int32} (h : GS (tab, txt, nv, sav, tp, os, pt)) : ∃ (r : Nat ⊕ Int32) (T : ST), gout [(bad_lang n.toInt, 1, (tab, txt, nv, sav, tp, os, pt)), (bad_nums a.toInt b0.toInt c0.toInt d0.toInt, 2, (tab, txt, nv, sav, tp, os, pt)), (msg tab n.toInt.toNat [a.toInt, b0.toInt, c0.toInt, d0.toInt] tp = none, 3, (tab, txt, nv, sav, [], os, pt))] (finMS n.toInt a.toInt b0.toInt c0.toInt d0.toInt (tab, txt, nv, sav, tp, os, pt)) r T ∧ DTr (fun w => f_X10_message n a b0 c0 d0 w) (tab, txt, nv, sav, tp, os, pt) r T ∧ GS T := by
  have hO : OKS tab txt nv sav tp os := h.1
  refine D_go h (gout_u _ finMS_u) (fun v hc => ?_)
  have hc : CLS v tab txt nv sav tp os pt := hc
  refine (k_message hO.1 hc.2.1 hc.1 hc.2.2.2.2.1 hO.2.2.2.2.1).mono ?_
  rintro r v1 ⟨ok, -, oo, hk⟩
  rcases hk with ⟨b, rfl, rfl⟩ | ⟨b, c, rfl, rfl⟩ | ⟨b, c, d, rfl, ct, cu⟩ | ⟨b, c, zs, hz, ⟨x, rfl, hx⟩, ct, cu⟩
  · exact ⟨_, gx0 b, hc, hO⟩
  · exact ⟨_, gx1 b c, hc, hO⟩
  · exact ⟨_, gx2 b c d, cl_g hO hc oo ok (fun k q => by unfold oms at q; unfold scr; omega) (ctx_oc hc.2.2.1 oo (fun k _ _ => by unfold oms; omega)) ct (cu.trans hc.2.2.2.2.2.1), ok_t0 hO⟩
  · exact ⟨_, gf3 b c (some_no hz) ⟨zs, x, hz, rfl, hx, rfl⟩, cl_g hO hc oo ok (fun k q => by unfold oms at q; unfold scr; omega) (ctx_oc hc.2.2.1 oo (fun k _ _ => by unfold oms; omega)) ct cu, (⟨hO.1, hO.2.1, hO.2.2.1, hO.2.2.2.1, tpok_nil, msg_ok hz⟩ : OKS tab txt nv sav [] _)⟩
theorem g_pattern (h : GS (tab, txt, nv, sav, tp, os, pt)) : ∃ (r : Nat ⊕ Int32) (T : ST), gout [(pat tp = none, 3, (tab, txt, nv, sav, [], os, pt))] (finPT (tab, txt, nv, sav, tp, os, pt)) r T ∧ DTr (fun w => f_X10_pattern w) (tab, txt, nv, sav, tp, os, pt) r T ∧ GS T := by
  have hO : OKS tab txt nv sav tp os := h.1
  refine D_go h (gout_u _ finPT_u) (fun v hc => ?_)
  have hc : CLS v tab txt nv sav tp os pt := hc
  have P := hc.2.2.2.2.2.2.2
  have pT := pat_rng P.1
  have pD := pat_rng P.2.1
  have pN := P.2.2
  refine (k_pattern hc.1 hc.2.2.2.2.1 hO.2.2.2.2.1 rfl rfl P.2.1).mono ?_
  rintro r v1 ⟨ok, ct, hk⟩
  rcases hk with ⟨hp, rfl, oo⟩ | ⟨l, x, hp, l8, rfl, hx, e2, hk1, hk2, h11, hpc⟩
  · exact ⟨_, gx0 hp, CLS_oc hO hc oo ok (by omega) (fun k _ _ => by omega) (fun k _ _ => by omega) (trel_oc hO.1 hc.2.1 oo (fun k _ _ => by omega)) (ctx_oc hc.2.2.1 oo (fun k _ _ => by omega)) ct (cou_oc hc.2.2.2.2.2.1 oo (by omega) (by omega)), ok_t0 hO⟩
  · have pk : pok l := pat_ok hp
    refine ⟨_, gf1 (some_no hp) ⟨l, x, hp, rfl, hx, rfl⟩, ?_, ok_t0 hO⟩
    refine ⟨ok, trel_fr hO.1 hc.2.1 (fun k a b => hk1 k (by omega) (by omega) (by omega) (by omega)), ctx_fr hc.2.2.1 (fun k a b => hk1 k (by omega) (by omega) (by omega) (by omega)), ⟨?_, fun v' hv => ?_⟩, ct, ?_, ⟨h11, ?_, pk⟩, ?_⟩
    · rw [hk2 2 (by decide)]; exact hc.2.2.2.1.1
    · have n4 := hO.2.2.1
      have hv2 : v' < nv := hv
      exact trel_fr (hO.2.2.2.1 v' hv) (hc.2.2.2.1.2 v' hv) (fun k a b => hk1 k (by omega) (by omega) (by omega) (by omega))
    · show rl v1 637 = os
      rw [rl_fr (hk1 637 (by omega) (by omega) (by omega) (by omega)) (hk1 (637 + 1) (by omega) (by omega) (by omega) (by omega))]; exact hc.2.2.2.2.2.1
    · rw [e2]; exact hpc
    · rw [e2]; exact ⟨P.2.1, P.1, fun q => P.2.2 q.symm⟩
theorem g_word {i : Int32} (h : GS (tab, txt, nv, sav, tp, os, pt)) : ∃ r : Int64, DTr (fun w => f_X10_word i w) (tab, txt, nv, sav, tp, os, pt) r (tab, txt, nv, sav, tp, os, pt) := by
  have hO : OKS tab txt nv sav tp os := h.1
  have sp : ∀ v, CS v (tab, txt, nv, sav, tp, os, pt) → Wp (f_X10_word i v) (fun r v' => ∃ T : ST, (un r = wsm os i.toInt 8 ∧ T = (tab, txt, nv, sav, tp, os, pt)) ∧ CS v' T ∧ OS T) := by
    intro v hc
    have hc : CLS v tab txt nv sav tp os pt := hc
    refine (k_word hc.1 hc.2.2.2.2.2.1 hO.2.2.2.2.2).mono ?_
    rintro r v1 ⟨e0, hk⟩
    subst e0
    exact ⟨_, ⟨hk, rfl⟩, hc, hO⟩
  obtain ⟨r, T, hG, hD, -⟩ := D_go (f := fun w => f_X10_word i w) (G := fun r T => un r = wsm os i.toInt 8 ∧ T = (tab, txt, nv, sav, tp, os, pt)) h (fun r q T U a b => ⟨un_inj (a.1.trans b.1.symm), a.2.trans b.2.symm⟩) sp
  obtain ⟨-, e⟩ := hG
  subst e
  exact ⟨r, hD⟩
end
