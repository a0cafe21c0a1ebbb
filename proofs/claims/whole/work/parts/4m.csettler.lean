/-! ===== directions: the reference settles partners and others ===== -/
theorem s_goes {w : Wd} {x : Int32} {v : Int} (hx : 0 ≤ x.toInt ∧ x.toInt < 40) (hv : (w.1 724 x.toInt.toNat).toInt = v) : Wp (f_X11_goes x w) (fun r w' => w = w' ∧ r.toInt = plw v) := by
  have L := LIT
  have l2 : (2 : Int32).toInt = 2 := by decide
  have M := L724
  unfold f_X11_goes plw
  refine wp_ald (by omega) (wp_ifeq (fun c => wp_ret ⟨rfl, ?_⟩) (fun c => wp_ald (by omega) (wp_ret ⟨rfl, ?_⟩)))
  · rw [if_pos (by omega)]; exact L.2.1
  · rw [if_neg (by omega)]; exact hv
section
variable {w0 : Wd} {P : List Int} {n : Nat} {cl : Nat → Int}
/-- the state in which ways are settled -/
def stR (w0 w : Wd) (P : List Int) (cl : Nat → Int) : Prop := o724 w0 w ∧ mbR w0 P ∧ ∀ j : Nat, j < P.length → (w0.1 732 j).toInt = cl j
theorem st_mb {w : Wd} (h : stR w0 w P cl) : mbR w P := fun i hi => by rw [h.1.1 731 (by decide)]; exact h.2.1 i hi
theorem st_cl {w : Wd} (h : stR w0 w P cl) {j : Nat} (hj : j < P.length) : (w.1 732 j).toInt = cl j := by rw [h.1.1 732 (by decide)]; exact h.2.2 j hj
theorem st_set {w : Wd} (h : stR w0 w P cl) {i : Nat} {v : Int32} : stR w0 (setI w 724 i v) P cl := ⟨oc_tr h.1 (oc_setI rfl), h.2⟩
theorem s_setP160 {w : Wd} {many b k t : Int32} {f : Nat → Int} {rc : Int32 × Int32 × Int32 × Wd → Option (Unit × Wd)} {Q : Unit → Wd → Prop} (hP : PI P n) (hn : n ≤ 40) (h : stR w0 w P cl) (hf : wyR w P f) (hk : 0 ≤ k.toInt ∧ k.toInt < P.length) (hc : 0 ≤ cl k.toInt.toNat ∧ cl k.toInt.toNat < P.length)
    (hgo : ∀ (z : Int32) (u : Wd), z.toInt = k.toInt + 1 → stR w0 u P cl → wyR u P (fun j => if j = k.toInt.toNat ∨ j = (cl k.toInt.toNat).toNat then t.toInt else f j) → Wp (rc (many, b, z, u)) Q) :
    Wp (f_X11_settlesPartners_160 rc many b k t w) Q := by
  have L := LIT
  have M := L724
  have hPl := hP.1
  have ck : ((k.toInt.toNat : Nat) : Int) = k.toInt := by omega
  have m1 := st_mb h k.toInt.toNat (by omega)
  have B1 := hP.2.1 k.toInt.toNat (by omega)
  unfold f_X11_settlesPartners_160
  refine wp_ald (by omega) (wp_ast (by omega) (wp_ald (by omega) ?_))
  have h1 : stR w0 (setI w 724 (w.1 731 k.toInt.toNat).toInt.toNat t) P cl := st_set h
  have c1 := st_cl h1 (j := k.toInt.toNat) (by omega)
  have m2 := st_mb h1 (cl k.toInt.toNat).toNat (by omega)
  have B2 := hP.2.1 (cl k.toInt.toNat).toNat (by omega)
  have e1 : ((setI w 724 (w.1 731 k.toInt.toNat).toInt.toNat t).1 732 k.toInt.toNat).toInt.toNat = (cl k.toInt.toNat).toNat := by rw [c1]
  refine wp_ald (by omega) ?_
  rw [e1]
  refine wp_ast (by omega) (wp_add (by omega) (fun z hz => hgo z _ (by omega) (st_set h1) (fun i hi => ?_)))
  have B3 := hP.2.1 i hi
  rw [m2, wyR_set hP (by omega) hi, m1, wyR_set hP (by omega) hi]
  dsimp only
  by_cases e : i = (cl k.toInt.toNat).toNat
  · rw [if_pos e, if_pos (Or.inr e)]
  · rw [if_neg e]
    by_cases e2 : i = k.toInt.toNat
    · rw [if_pos e2, if_pos (Or.inl e2)]
    · rw [if_neg e2, if_neg (fun q => q.elim e2 e)]; exact hf i hi
theorem s_setP29 {w : Wd} {many b k : Int32} {f : Nat → Int} {rc : Int32 × Int32 × Int32 × Wd → Option (Unit × Wd)} {Q : Unit → Wd → Prop} (hP : PI P n) (hn : n ≤ 40) (h : stR w0 w P cl) (hf : wyR w P f) (hk : 0 ≤ k.toInt ∧ k.toInt < P.length) (hc : k.toInt < cl k.toInt.toNat ∧ cl k.toInt.toNat < P.length) (hb : b.toInt = 0 ∨ b.toInt = 1)
    (hgo : ∀ (z : Int32) (u : Wd), z.toInt = k.toInt + 1 → stR w0 u P cl → wyR u P (if pw f k.toInt.toNat (cl k.toInt.toNat).toNat b.toInt = 3 then f else fun j => if j = k.toInt.toNat ∨ j = (cl k.toInt.toNat).toNat then pw f k.toInt.toNat (cl k.toInt.toNat).toNat b.toInt else f j) → Wp (rc (many, b, z, u)) Q) :
    Wp (f_X11_settlesPartners_29 rc many b k 0 0 3 0 w) Q := by
  have L := LIT
  have l3 : (3 : Int32).toInt = 3 := by decide
  have M := L724
  have hPl := hP.1
  have ck : ((k.toInt.toNat : Nat) : Int) = k.toInt := by omega
  have hb1 : ((1 : Int32) - b).toInt = 1 - b.toInt := by rw [i_sub (by omega), L.2.1]
  have c0 := st_cl h (j := k.toInt.toNat) (by omega)
  unfold f_X11_settlesPartners_29
  rw [FUv]
  refine wp_loop (fun σ : Int32 × Int32 × Int32 × Int32 × Int32 × Int32 × Int32 × Wd => σ.1 = many ∧ σ.2.1 = b ∧ σ.2.2.1 = k ∧ σ.2.2.2.2.2.2.2 = w ∧ 0 ≤ σ.2.2.2.2.2.2.1.toInt ∧ σ.2.2.2.2.2.2.1.toInt ≤ cl k.toInt.toNat ∧ σ.2.2.2.1.toInt = exw f b.toInt k.toInt.toNat σ.2.2.2.2.2.2.1.toInt.toNat ∧ σ.2.2.2.2.1.toInt = exw f (1 - b.toInt) k.toInt.toNat σ.2.2.2.2.2.2.1.toInt.toNat ∧
      σ.2.2.2.2.2.1.toInt = ah f 3 (if σ.2.2.2.2.2.2.1.toInt.toNat ≤ k.toInt.toNat then σ.2.2.2.2.2.2.1.toInt.toNat else k.toInt.toNat))
    (fun σ => (42 - σ.2.2.2.2.2.2.1.toInt).toNat) ?_ 100000 _ ⟨rfl, rfl, rfl, rfl, by dsimp only; omega, by dsimp only; omega, by dsimp only; rw [L.1]; rfl, by dsimp only; rw [L.1]; rfl, by dsimp only; rw [L.1, if_pos (by omega), l3]; rfl⟩ (by dsimp only; omega)
  rintro rc2 ⟨m', b', k', so, ot, la, j, u⟩ ⟨rfl, rfl, rfl, rfl, hj, hj2, h1, h2, h3⟩ ih
  dsimp only at *
  unfold g_X11_settlesPartners_29
  refine wp_ald (by omega) ?_
  refine wp_ifle (fun q => ?_) (fun q => ?_)
  · have ej : j.toInt.toNat = (cl k'.toInt.toNat).toNat := by omega
    rw [if_neg (by omega)] at h3
    rw [ej] at h1 h2
    have E1 := exw_01 (f := f) (v := b'.toInt) (a := k'.toInt.toNat) (cl k'.toInt.toNat).toNat
    have E2 := exw_01 (f := f) (v := 1 - b'.toInt) (a := k'.toInt.toNat) (cl k'.toInt.toNat).toNat
    have AO := ah_o (f := f) (o := 3) (p := b'.toInt) (x := 1 - b'.toInt) (by omega) (by omega) k'.toInt.toNat
    have put : (so.toInt = 1 ∨ ot.toInt = 1) → Wp (f_X11_settlesPartners_140 rc m' b' k' so la u) Q := by
      intro ho
      have set : ∀ t : Int32, t.toInt = pw f k'.toInt.toNat (cl k'.toInt.toNat).toNat b'.toInt → t.toInt ≠ 3 → Wp (f_X11_settlesPartners_160 rc m' b' k' t u) Q := by
        intro t ht ht3
        refine s_setP160 hP hn h hf hk (by omega) (fun z u2 hz g1 g2 => hgo z u2 hz g1 ?_)
        rw [if_neg (by omega), ← ht]; exact g2
      unfold f_X11_settlesPartners_140
      refine wp_ifeq (fun d => wp_ifeq (fun d2 => set _ ?_ (by omega)) (fun d2 => set _ ?_ (by omega))) (fun d => set _ ?_ (by omega))
      · unfold pw; rw [if_neg (by omega), if_neg (by omega), if_pos (AO.mp (by omega))]; exact hb1
      · unfold pw; rw [if_neg (by omega), if_neg (by omega), if_neg (fun z => by have := AO.mpr z; omega)]
      · unfold pw; rw [if_pos (by omega)]
    refine wp_ifeq (fun d => wp_ifeq (fun d2 => wp_add (by omega) (fun z hz => hgo z u (by omega) h ?_)) (fun d2 => put (by omega))) (fun d => put (by omega))
    rw [if_pos (by unfold pw; rw [if_neg (by omega), if_pos (by omega)])]; exact hf
  · have m1 := st_mb h j.toInt.toNat (by omega)
    have B1 := hP.2.1 j.toInt.toNat (by omega)
    refine wp_ald (by omega) ?_
    refine wp_bd (s_goes (v := f j.toInt.toNat) (by omega) ?_) ?_
    · rw [m1]; exact hf j.toInt.toNat (by omega)
    rintro y _ ⟨rfl, hy⟩
    have step : ∀ (so2 ot2 la2 z : Int32), z.toInt = j.toInt + (1 : Int32).toInt → so2.toInt = exw f b'.toInt k'.toInt.toNat (j.toInt.toNat + 1) → ot2.toInt = exw f (1 - b'.toInt) k'.toInt.toNat (j.toInt.toNat + 1) → la2.toInt = ah f 3 (if j.toInt.toNat + 1 ≤ k'.toInt.toNat then j.toInt.toNat + 1 else k'.toInt.toNat) → Wp (rc2 (m', b', k', so2, ot2, la2, z, u)) Q := by
      intro so2 ot2 la2 z hz g1 g2 g3
      have e2 : z.toInt.toNat = j.toInt.toNat + 1 := by omega
      refine ih (m', b', k', so2, ot2, la2, z, u) ⟨rfl, rfl, rfl, rfl, by dsimp only; omega, by dsimp only; omega, ?_, ?_, ?_⟩ (by dsimp only; omega)
      · dsimp only; rw [e2]; exact g1
      · dsimp only; rw [e2]; exact g2
      · dsimp only; rw [e2]; exact g3
    have E1 := exw_01 (f := f) (v := b'.toInt) (a := k'.toInt.toNat) j.toInt.toNat
    have E2 := exw_01 (f := f) (v := 1 - b'.toInt) (a := k'.toInt.toNat) j.toInt.toNat
    have p96 : ∀ so2 la2 : Int32, so2.toInt = exw f b'.toInt k'.toInt.toNat (j.toInt.toNat + 1) → la2.toInt = ah f 3 (if j.toInt.toNat + 1 ≤ k'.toInt.toNat then j.toInt.toNat + 1 else k'.toInt.toNat) → Wp (f_X11_settlesPartners_96 rc2 m' b' k' ot la2 j y so2 u) Q := by
      intro so2 la2 g1 g3
      unfold f_X11_settlesPartners_96 f_X11_settlesPartners_121
      refine wp_ifeq (fun d => wp_ifle (fun d2 => wp_add (by omega) (fun z hz => step so2 0 la2 z hz g1 ?_ g3)) (fun d2 => wp_ifeq (fun d3 => wp_add (by omega) (fun z hz => step so2 1 la2 z hz g1 ?_ g3)) (fun d3 => wp_add (by omega) (fun z hz => step so2 0 la2 z hz g1 ?_ g3)))) (fun d => wp_add (by omega) (fun z hz => step so2 1 la2 z hz g1 ?_ g3))
      · rw [exw_s, if_neg (fun z => by omega)]; omega
      · rw [exw_s, if_pos ⟨by omega, by omega⟩]; exact L.2.1
      · rw [exw_s, if_neg (fun z => d3 (by omega))]; omega
      · rw [exw_s]; split <;> omega
    have p72 : ∀ la2 : Int32, la2.toInt = ah f 3 (if j.toInt.toNat + 1 ≤ k'.toInt.toNat then j.toInt.toNat + 1 else k'.toInt.toNat) → Wp (f_X11_settlesPartners_72 rc2 m' b' k' so ot j y la2 u) Q := by
      intro la2 g3
      unfold f_X11_settlesPartners_72 f_X11_settlesPartners_95
      refine wp_ifeq (fun d => wp_ifle (fun d2 => p96 0 la2 ?_ g3) (fun d2 => wp_ifeq (fun d3 => p96 1 la2 ?_ g3) (fun d3 => p96 0 la2 ?_ g3))) (fun d => p96 1 la2 ?_ g3)
      · rw [exw_s, if_neg (fun z => by omega)]; omega
      · rw [exw_s, if_pos ⟨by omega, by omega⟩]; exact L.2.1
      · rw [exw_s, if_neg (fun z => d3 (by omega))]; omega
      · rw [exw_s]; split <;> omega
    unfold f_X11_settlesPartners_70
    refine wp_ifle (fun d => p72 la ?_) (fun d => wp_ifeq (fun d2 => p72 la ?_) (fun d2 => p72 y ?_))
    · rw [if_neg (by omega)]
      by_cases e : j.toInt.toNat = k'.toInt.toNat
      · rw [if_pos (by omega), e] at h3; exact h3
      · rw [if_neg (by omega)] at h3; exact h3
    · rw [if_pos (by omega)] at h3
      rw [if_pos (by omega), ah_s, if_pos (by omega)]; exact h3
    · rw [if_pos (by omega), ah_s, if_neg (by omega)]; exact hy
theorem s_settlesPartners {many b : Int32} {f : Nat → Int} {st : MSt} (hP : PI P n) (hn : n ≤ 40) (hM : mbR w0 P) (hC : ∀ j : Nat, j < P.length → (w0.1 732 j).toInt = st.2 j) (hI : mpI st P.length) (hm : many.toInt = P.length) (hf : wyR w0 P f) (hb : b.toInt = 0 ∨ b.toInt = 1) :
    Wp (f_X11_settlesPartners many b w0) (fun _ w' => o724 w0 w' ∧ wyR w' P (ps f st.2 b.toInt P.length)) := by
  have L := LIT
  have M := L724
  have hPl := hP.1
  unfold f_X11_settlesPartners f_X11_settlesPartners_2
  rw [FUv]
  refine wp_loop (fun σ : Int32 × Int32 × Int32 × Wd => σ.1 = many ∧ σ.2.1 = b ∧ stR w0 σ.2.2.2 P st.2 ∧ 0 ≤ σ.2.2.1.toInt ∧ σ.2.2.1.toInt ≤ P.length ∧ wyR σ.2.2.2 P (ps f st.2 b.toInt σ.2.2.1.toInt.toNat))
    (fun σ => (42 - σ.2.2.1.toInt).toNat) ?_ 100000 _ ⟨rfl, rfl, ⟨oc_rf, hM, hC⟩, by dsimp only; omega, by dsimp only; omega, by dsimp only; rw [L.1]; exact hf⟩ (by dsimp only; omega)
  rintro rc ⟨m', b', k, u⟩ ⟨rfl, rfl, V, hk0, hk1, hw⟩ ih
  dsimp only at *
  unfold g_X11_settlesPartners_2
  refine wp_ifle (fun q => wp_ret ⟨V.1, ?_⟩) (fun q => ?_)
  · rw [show k.toInt.toNat = P.length by omega] at hw; exact hw
  have c0 := st_cl V (j := k.toInt.toNat) (by omega)
  have Ic := hI.2.2 k.toInt.toNat
  have fin : ∀ (z : Int32) (u2 : Wd), z.toInt = k.toInt + 1 → stR w0 u2 P st.2 → wyR u2 P (ps f st.2 b'.toInt (k.toInt.toNat + 1)) → Wp (rc (m', b', z, u2)) (fun _ w' => o724 w0 w' ∧ wyR w' P (ps f st.2 b'.toInt P.length)) := by
    intro z u2 hz g0 g1
    refine ih (m', b', z, u2) ⟨rfl, rfl, g0, by dsimp only; omega, by dsimp only; omega, ?_⟩ (by dsimp only; omega)
    dsimp only; rw [show z.toInt.toNat = k.toInt.toNat + 1 by omega]; exact g1
  refine wp_ald (by omega) ?_
  refine wp_ifeq (fun c => wp_add (by omega) (fun z hz => fin z u (by omega) V ?_)) (fun c => ?_)
  · rw [ps_s, if_pos (by omega)]; exact hw
  · refine s_setP29 hP hn V hw (by omega) (by omega) hb (fun z u2 hz g1 g2 => fin z u2 hz g1 ?_)
    rw [ps_s, if_neg (by omega)]; exact g2
end
theorem ah_run {f : Nat → Int} {o : Int} {k : Nat} : ∀ j : Nat, k ≤ j → (∀ i, k ≤ i → i < j → f i = 3) → ah f o j = ah f o k := by
  intro j
  induction j with
  | zero => intro h _; rw [show k = 0 by omega]
  | succ j ih =>
    intro h hf
    by_cases e : k = j + 1
    · rw [e]
    · rw [ah_s, if_pos (plw_3.mpr (hf j (by omega) (by omega)))]
      exact ih (by omega) (fun i h1 h2 => hf i h1 (by omega))
theorem bhn_run {f : Nat → Int} {o : Int} {m to : Nat} (ht : to ≤ m) : ∀ d : Nat, d ≤ to → (∀ i, to - d ≤ i → i < to → f i = 3) → bhn f o m (m - (to - d)) = bhn f o m (m - to) := by
  intro d
  induction d with
  | zero => intro _ _; rw [Nat.sub_zero]
  | succ d ih =>
    intro h hf
    rw [show m - (to - (d + 1)) = m - (to - d) + 1 by omega, bhn_s (j := to - (d + 1)) (by omega), if_pos (plw_3.mpr (hf _ (Nat.le_refl _) (by omega)))]
    exact ih (by omega) (fun i h1 h2 => hf i (by omega) h2)
theorem s_settlesOthers {w : Wd} {many b : Int32} {f : Nat → Int} {P : List Int} {n : Nat} (hP : PI P n) (hn : n ≤ 40) (hM : mbR w P) (hm : many.toInt = P.length) (hf : wyR w P f) (hb : b.toInt = 0 ∨ b.toInt = 1) :
    Wp (f_X11_settlesOthers many b w) (fun _ w' => o724 w w' ∧ wyR w' P (oth f b.toInt P.length)) := by
  have L := LIT
  have l3 : (3 : Int32).toInt = 3 := by decide
  have M := L724
  have hPl := hP.1
  unfold f_X11_settlesOthers f_X11_settlesOthers_2
  rw [FUv]
  refine wp_loop (fun σ : Int32 × Int32 × Int32 × Wd => σ.1 = many ∧ σ.2.1 = b ∧ o724 w σ.2.2.2 ∧ 0 ≤ σ.2.2.1.toInt ∧ σ.2.2.1.toInt ≤ P.length ∧ (σ.2.2.1.toInt.toNat < P.length → f σ.2.2.1.toInt.toNat = 3 → σ.2.2.1.toInt.toNat = 0 ∨ f (σ.2.2.1.toInt.toNat - 1) ≠ 3) ∧ wyR σ.2.2.2 P (fun i => if i < σ.2.2.1.toInt.toNat then oth f b.toInt P.length i else f i))
    (fun σ => (42 - σ.2.2.1.toInt).toNat) ?_ 100000 _ ⟨rfl, rfl, oc_rf, by dsimp only; omega, by dsimp only; omega, fun _ _ => Or.inl (by dsimp only; omega), by dsimp only; rw [L.1]; exact fun i hi => by dsimp only; rw [if_neg (by omega)]; exact hf i hi⟩ (by dsimp only; omega)
  rintro rc ⟨m', b', k, u⟩ ⟨rfl, rfl, V, hk0, hk1, hbeg, hw⟩ ih
  dsimp only at *
  have mb : ∀ {u2 : Wd}, o724 w u2 → mbR u2 P := fun V2 i hi => by rw [V2.1 731 (by decide)]; exact hM i hi
  unfold g_X11_settlesOthers_2
  refine wp_ifle (fun q => wp_ret ⟨V, fun i hi => ?_⟩) (fun q => ?_)
  · rw [hw i hi]; dsimp only; rw [if_pos (by omega)]
  have kl : k.toInt.toNat < P.length := by omega
  have mk1 := mb V k.toInt.toNat kl
  have B1 := hP.2.1 k.toInt.toNat kl
  have wk := hw k.toInt.toNat kl
  dsimp only at wk
  rw [if_neg (Nat.lt_irrefl _)] at wk
  refine wp_ald (by omega) (wp_ald (by omega) ?_)
  rw [mk1]
  refine wp_ifeq (fun c => ?_) (fun c => wp_add (by omega) (fun z hz => ih (m', b', z, u) ⟨rfl, rfl, V, by dsimp only; omega, by dsimp only; omega, fun h1 h2 => ?_, fun i hi => ?_⟩ (by dsimp only; omega)))
  · -- a row of neutral ones
    have f3 : f k.toInt.toNat = 3 := by omega
    have beg := hbeg kl f3
    unfold f_X11_settlesOthers_31
    rw [FUv]
    refine wp_loop (fun σ : Int32 × Int32 × Int32 × Int32 × Wd => σ.1 = m' ∧ σ.2.1 = b' ∧ σ.2.2.1 = k ∧ σ.2.2.2.2 = u ∧ k.toInt ≤ σ.2.2.2.1.toInt ∧ σ.2.2.2.1.toInt ≤ P.length ∧ ∀ i : Nat, k.toInt.toNat ≤ i → i < σ.2.2.2.1.toInt.toNat → f i = 3)
      (fun σ => (42 - σ.2.2.2.1.toInt).toNat) ?_ 100000 _ ⟨rfl, rfl, rfl, rfl, Int.le_refl _, hk1, fun i h1 h2 => by dsimp only at h2; omega⟩ (by dsimp only; omega)
    rintro rc2 ⟨m2, b2, k2, to, u2⟩ ⟨rfl, rfl, rfl, rfl, ht1, ht2, hrun⟩ ih2
    dsimp only at *
    have go : k2.toInt < to.toInt → (to.toInt = P.length ∨ f to.toInt.toNat ≠ 3) → Wp (f_X11_settlesOthers_59 rc m2 b2 k2 to u2) (fun _ w' => o724 w w' ∧ wyR w' P (oth f b2.toInt P.length)) := by
      intro hlt hend
      -- all of the row goes so
      have all : ∀ i : Nat, k2.toInt.toNat ≤ i → i < to.toInt.toNat → oth f b2.toInt P.length i = if ah f b2.toInt k2.toInt.toNat = bhn f b2.toInt P.length (P.length - to.toInt.toNat) then ah f b2.toInt k2.toInt.toNat else b2.toInt := by
        intro i h1 h2
        unfold oth
        rw [if_pos (hrun i h1 h2), ah_run i h1 (fun j g1 g2 => hrun j g1 (by omega))]
        have := bhn_run (f := f) (o := b2.toInt) (m := P.length) (to := to.toInt.toNat) (by omega) (to.toInt.toNat - (i + 1)) (by omega) (fun j g1 g2 => hrun j (by omega) g2)
        rw [show P.length - (to.toInt.toNat - (to.toInt.toNat - (i + 1))) = P.length - (i + 1) by omega] at this
        rw [this]
      have p104 : ∀ (a e : Int32), a.toInt = ah f b2.toInt k2.toInt.toNat → e.toInt = bhn f b2.toInt P.length (P.length - to.toInt.toNat) → Wp (f_X11_settlesOthers_104 rc m2 b2 k2 to a e u2) (fun _ w' => o724 w w' ∧ wyR w' P (oth f b2.toInt P.length)) := by
        intro a e ha he
        rw [← ha, ← he] at all
        unfold f_X11_settlesOthers_104
        rw [FUv]
        refine wp_loop (fun σ : Int32 × Int32 × Int32 × Int32 × Int32 × Int32 × Wd => σ.1 = m2 ∧ σ.2.1 = b2 ∧ σ.2.2.2.1 = to ∧ σ.2.2.2.2.1 = a ∧ σ.2.2.2.2.2.1 = e ∧ o724 w σ.2.2.2.2.2.2 ∧ k2.toInt ≤ σ.2.2.1.toInt ∧ σ.2.2.1.toInt ≤ to.toInt ∧ wyR σ.2.2.2.2.2.2 P (fun i => if i < σ.2.2.1.toInt.toNat then oth f b2.toInt P.length i else f i))
          (fun σ => (42 - σ.2.2.1.toInt).toNat) ?_ 100000 _ ⟨rfl, rfl, rfl, rfl, rfl, V, Int.le_refl _, ht1, hw⟩ (by dsimp only; omega)
        rintro rc3 ⟨m3, b3, j, to3, a3, e3, u3⟩ ⟨rfl, rfl, rfl, rfl, rfl, V3, hj1, hj2, hw3⟩ ih3
        dsimp only at *
        unfold g_X11_settlesOthers_104
        refine wp_ifle (fun d => ih (m3, b3, j, u3) ⟨rfl, rfl, V3, by dsimp only; omega, by dsimp only; omega, fun h1 h2 => ?_, hw3⟩ (by dsimp only; omega)) (fun d => ?_)
        · dsimp only at h1 h2
          rcases hend with z | z
          · omega
          · rw [show j.toInt.toNat = to3.toInt.toNat by omega] at h2
            exact absurd h2 z
        have jl : j.toInt.toNat < P.length := by omega
        have m4 := mb V3 j.toInt.toNat jl
        have B4 := hP.2.1 j.toInt.toNat jl
        have aj := all j.toInt.toNat (by omega) (by omega)
        have put : ∀ (t z : Int32), t.toInt = oth f b3.toInt P.length j.toInt.toNat → z.toInt = j.toInt + (1 : Int32).toInt → Wp (rc3 (m3, b3, z, to3, a3, e3, setI u3 724 (u3.1 731 j.toInt.toNat).toInt.toNat t)) (fun _ w' => o724 w w' ∧ wyR w' P (oth f b3.toInt P.length)) := by
          intro t z ht hz
          refine ih3 (m3, b3, z, to3, a3, e3, _) ⟨rfl, rfl, rfl, rfl, rfl, oc_tr V3 (oc_setI rfl), by dsimp only; omega, by dsimp only; omega, fun i hi => ?_⟩ (by dsimp only; omega)
          dsimp only
          rw [m4, wyR_set hP jl hi, show z.toInt.toNat = j.toInt.toNat + 1 by omega]
          by_cases g : i = j.toInt.toNat
          · rw [if_pos g, if_pos (by omega), g]; exact ht
          · rw [if_neg g, hw3 i hi]; dsimp only
            by_cases g2 : i < j.toInt.toNat
            · rw [if_pos g2, if_pos (by omega)]
            · rw [if_neg g2, if_neg (by omega)]
        refine wp_ald (by omega) (wp_ifeq (fun g => wp_ast (by omega) (wp_add (by omega) (fun z hz => put a3 z ?_ hz))) (fun g => wp_ast (by omega) (wp_add (by omega) (fun z hz => put b3 z ?_ hz))))
        · rw [if_pos (by omega)] at aj; exact aj.symm
        · rw [if_neg (by omega)] at aj; exact aj.symm
      have p79 : ∀ a : Int32, a.toInt = ah f b2.toInt k2.toInt.toNat → Wp (f_X11_settlesOthers_79 rc m2 b2 k2 to a u2) (fun _ w' => o724 w w' ∧ wyR w' P (oth f b2.toInt P.length)) := by
        intro a ha
        unfold f_X11_settlesOthers_79 f_X11_settlesOthers_102
        refine wp_ifeq (fun d => p104 a b2 ha ?_) (fun d => ?_)
        · rw [show P.length - to.toInt.toNat = 0 by omega]; rfl
        · have tl : to.toInt.toNat < P.length := by omega
          have m4 := mb V to.toInt.toNat tl
          have B4 := hP.2.1 to.toInt.toNat tl
          have w4 := hw to.toInt.toNat tl
          dsimp only at w4
          rw [if_neg (by omega)] at w4
          refine wp_ald (by omega) ?_
          refine wp_bd (s_goes (v := f to.toInt.toNat) (by omega) (by rw [m4]; exact w4)) ?_
          rintro e _ ⟨rfl, he⟩
          refine p104 a e ha ?_
          rw [show P.length - to.toInt.toNat = P.length - (to.toInt.toNat + 1) + 1 by omega, bhn_s (j := to.toInt.toNat) (by omega), if_neg (fun z => ?_)]
          · exact he
          · rcases hend with g | g
            · omega
            · exact g (plw_3.mp z)
      unfold f_X11_settlesOthers_59
      refine wp_ifeq (fun d => p79 b2 ?_) (fun d => ?_)
      · rw [show k2.toInt.toNat = 0 by omega]; rfl
      · have n3 : f (k2.toInt.toNat - 1) ≠ 3 := beg.elim (fun z => by omega) id
        have pl : k2.toInt.toNat - 1 < P.length := by omega
        have m4 := mb V (k2.toInt.toNat - 1) pl
        have B4 := hP.2.1 (k2.toInt.toNat - 1) pl
        have w4 := hw (k2.toInt.toNat - 1) pl
        dsimp only at w4
        rw [if_pos (by omega)] at w4
        have k1 : (k2 - 1).toInt = k2.toInt - 1 := by rw [i_sub (by omega), L.2.1]
        have k1n : (k2 - 1).toInt.toNat = k2.toInt.toNat - 1 := by omega
        refine wp_ald (by omega) ?_
        rw [k1n]
        refine wp_bd (s_goes (v := oth f b2.toInt P.length (k2.toInt.toNat - 1)) (by omega) (by rw [m4]; exact w4)) ?_
        rintro a _ ⟨rfl, ha⟩
        refine p79 a ?_
        rw [ha]
        have : oth f b2.toInt P.length (k2.toInt.toNat - 1) = f (k2.toInt.toNat - 1) := by unfold oth; rw [if_neg n3]
        obtain ⟨k', hk'⟩ : ∃ k', k2.toInt.toNat = k' + 1 := ⟨k2.toInt.toNat - 1, by omega⟩
        rw [this, hk', ah_s, Nat.add_sub_cancel]
        rw [hk', Nat.add_sub_cancel] at n3
        rw [if_neg (fun z => n3 (plw_3.mp z))]
    unfold g_X11_settlesOthers_31
    refine wp_ifle (fun d => go (by omega) (Or.inl (by omega))) (fun d => ?_)
    have tl : to.toInt.toNat < P.length := by omega
    have m4 := mb V to.toInt.toNat tl
    have B4 := hP.2.1 to.toInt.toNat tl
    have w4 := hw to.toInt.toNat tl
    dsimp only at w4
    rw [if_neg (by omega)] at w4
    refine wp_ald (by omega) (wp_ald (by omega) ?_)
    rw [m4]
    refine wp_ifeq (fun e => wp_add (by omega) (fun z hz => ih2 (m2, b2, k2, z, u2) ⟨rfl, rfl, rfl, rfl, by dsimp only; omega, by dsimp only; omega, fun i h1 h2 => ?_⟩ (by dsimp only; omega))) (fun e => go ?_ (Or.inr (by omega)))
    · dsimp only at h2
      by_cases g : i = to.toInt.toNat
      · rw [g]; omega
      · exact hrun i h1 (by omega)
    · by_cases g : to.toInt = k2.toInt
      · rw [g] at w4 e
        omega
      · omega
  · dsimp only at h1 h2 ⊢
    rw [show z.toInt.toNat - 1 = k.toInt.toNat by omega]
    exact Or.inr (by omega)
  · dsimp only
    rw [show z.toInt.toNat = k.toInt.toNat + 1 by omega, hw i hi]; dsimp only
    by_cases e : i = k.toInt.toNat
    · rw [if_neg (by omega), if_pos (by omega), e]
      unfold oth; rw [if_neg (by omega)]
    · by_cases e2 : i < k.toInt.toNat
      · rw [if_pos e2, if_pos (by omega)]
      · rw [if_neg e2, if_neg (by omega)]
