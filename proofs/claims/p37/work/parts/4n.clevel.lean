/-! ===== directions: levels ===== -/
def lvl (L x : Int) : Int := if L % 2 = 0 then L + x else if x = 1 then L else L + 1
/-- which way the letters of a frame go in the end -/
def wayF (tab : Nat → Int) (l P : List Int) (L : Int) : Nat → Int := oth (ps (nmb (L % 2) (W0 tab l P)) (mp tab l P P.length).2 (L % 2) P.length) (L % 2) P.length
def LVF (tab : Nat → Int) (l : List Int) (st : FSt) (F : Int) (i : Nat) : Int := lvl (gt st.2.2.1 F) (wayF tab l (pls st.2.1 F l.length) (gt st.2.2.1 F) i)
def LV (tab : Nat → Int) (l : List Int) (st : FSt) (p : Nat) : Int := LVF tab l st (gt st.2.1 p) (pls st.2.1 (gt st.2.1 p) p).length
def bsF (tab : Nat → Int) (l : List Int) (b : Int) : Int := if b = -1 then bf tab l 0 l.length 0 else b
theorem bf_01 {tab : Nat → Int} {l : List Int} {x : Int} : ∀ m d : Nat, bf tab l x m d = 0 ∨ bf tab l x m d = 1 := by
  intro m
  induction m with
  | zero => intro d; exact Or.inl rfl
  | succ m ih =>
    intro d
    rw [bf_s rfl]
    split
    · exact ih _
    · split
      · split
        · exact Or.inl rfl
        · exact ih _
      · split
        · split
          · exact Or.inr rfl
          · exact Or.inl rfl
        · exact ih _
theorem pw_rng {f : Nat → Int} {i c : Nat} {b : Int} (hb : b = 0 ∨ b = 1) : pw f i c b = 0 ∨ pw f i c b = 1 ∨ pw f i c b = 3 := by
  unfold pw
  split
  · omega
  · split
    · omega
    · split <;> omega
theorem ps_rng {f cl : Nat → Int} {b : Int} {m : Nat} (hb : b = 0 ∨ b = 1) (hf : ∀ j, j < m → 0 ≤ f j ∧ f j ≤ 3) : ∀ i j, j < m → 0 ≤ ps f cl b i j ∧ ps f cl b i j ≤ 3 := by
  intro i
  induction i with
  | zero => exact hf
  | succ i ih =>
    intro j hj
    rw [ps_s]
    split
    · exact ih j hj
    · split
      · exact ih j hj
      · dsimp only
        split
        · have := pw_rng (f := ps f cl b i) (i := i) (c := (cl i).toNat) hb
          omega
        · exact ih j hj
theorem wayF_rng {tab : Nat → Int} {l P : List Int} {L : Int} (hk : tok tab) (Y : lok40 l) (hP : PI P l.length) {i : Nat} (hi : i < P.length) : 0 ≤ wayF tab l P L i ∧ wayF tab l P L i ≤ 2 := by
  have hb : L % 2 = 0 ∨ L % 2 = 1 := by omega
  have h0 : ∀ j, j < P.length → 0 ≤ W0 tab l P j ∧ W0 tab l P j ≤ 3 := by
    intro j hj
    have B := hP.2.1 j hj
    have R := dr_rng hk Y B.1 B.2
    unfold W0
    split <;> omega
  have h1 : ∀ j, j < P.length → 0 ≤ nmb (L % 2) (W0 tab l P) j ∧ nmb (L % 2) (W0 tab l P) j ≤ 3 := by
    intro j hj
    have := h0 j hj
    unfold nmb
    split <;> omega
  have h2 := ps_rng (cl := (mp tab l P P.length).2) hb h1 P.length
  exact oth_n hb (h2 i hi) (fun j hj => (h2 j (by omega)).1) hi h2
theorem LVF_rng {tab : Nat → Int} {l : List Int} {st : FSt} {F : Int} (hk : tok tab) (Y : lok40 l) (hL : 0 ≤ gt st.2.2.1 F ∧ gt st.2.2.1 F ≤ 9) {i : Nat} (hi : i < (pls st.2.1 F l.length).length) : 0 ≤ LVF tab l st F i ∧ LVF tab l st F i ≤ 10 := by
  have W := wayF_rng (L := gt st.2.2.1 F) hk Y pls_PI hi
  unfold LVF lvl
  split
  · omega
  · split <;> omega
theorem LV_rng {tab : Nat → Int} {l : List Int} {b : Int} (hk : tok tab) (Y : lok40 l) (hb : b = 0 ∨ b = 1) {p : Nat} (hp : p < l.length) : 0 ≤ LV tab l (fr tab l b l.length) p ∧ LV tab l (fr tab l b l.length) p ≤ 10 := by
  have I := fr_I (tab := tab) (l := l) hb l.length Y.1
  have A := I.2.2.2.2.2.1 p (by omega) (by omega)
  exact LVF_rng hk Y (I.2.2.1 _ A.1 A.2) (pls_of rfl l.length hp).1
/-! the class tells levels -/
theorem s_tellLevels {w : Wd} {P : List Int} {n : Nat} {lev : Int32} {f : Nat → Int} (ho : okall w) (hP : PI P n) (hn : n ≤ 40) (h9 : rl w 659 = P) (hf : wyC w f P.length) (hl : (rl w 669).length = n) (hlev : 0 ≤ lev.toInt ∧ lev.toInt ≤ 9) (hr : ∀ i, i < P.length → 0 ≤ f i ∧ f i ≤ 2) :
    Wp (f_X3_tellLevels lev w) (fun _ w' => cr 669 670 w w' ∧ (rl w' 669).length = n ∧ (∀ i : Nat, i < P.length → gt (rl w' 669) (gt P i) = lvl lev.toInt (f i)) ∧ ∀ p : Nat, (∀ i : Nat, i < P.length → gt P i ≠ p) → gt (rl w' 669) p = gt (rl w 669) p) := by
  have L := LIT
  have l2 : (2 : Int32).toInt = 2 := by decide
  have K := KLR
  have hPl := hP.1
  have main : ∀ t : Int32, (t.toInt = 1 ∧ lev.toInt % 2 = 0) ∨ (t.toInt = 0 ∧ lev.toInt % 2 = 1) → Wp (f_X3_tellLevels_12 lev t w) (fun _ w' => cr 669 670 w w' ∧ (rl w' 669).length = n ∧ (∀ i : Nat, i < P.length → gt (rl w' 669) (gt P i) = lvl lev.toInt (f i)) ∧ ∀ p : Nat, (∀ i : Nat, i < P.length → gt P i ≠ p) → gt (rl w' 669) p = gt (rl w 669) p) := by
    intro t ht
    unfold f_X3_tellLevels_12 f_X3_tellLevels_15
    rw [FUv]
    refine wp_loop (fun σ : Int32 × Int32 × Int32 × Wd => σ.1 = lev ∧ σ.2.1 = t ∧ cr 669 670 w σ.2.2.2 ∧ 0 ≤ σ.2.2.1.toInt ∧ σ.2.2.1.toInt ≤ P.length ∧ (rl σ.2.2.2 669).length = n ∧ (∀ i : Nat, (i : Int) < σ.2.2.1.toInt → gt (rl σ.2.2.2 669) (gt P i) = lvl lev.toInt (f i)) ∧ ∀ p : Nat, (∀ i : Nat, i < P.length → gt P i ≠ p) → gt (rl σ.2.2.2 669) p = gt (rl w 669) p)
      (fun σ => (42 - σ.2.2.1.toInt).toNat) ?_ 100000 _ ⟨rfl, rfl, cr_rf ho, by dsimp only; omega, by dsimp only; omega, hl, fun i hi => by dsimp only at hi; omega, fun p _ => rfl⟩ (by dsimp only; omega)
    rintro rc ⟨lev', t', k, u⟩ ⟨rfl, rfl, V, hk0, hk1, hl2, h1, h2⟩ ih
    dsimp only at *
    have ck : ((k.toInt.toNat : Nat) : Int) = k.toInt := by omega
    have r9 : rl u 659 = P := (cr_rl V (by omega)).trans h9
    have r3 : rl u 663 = rl w 663 := cr_rl V (by omega)
    unfold g_X3_tellLevels_15
    refine wp_bd (s_size (V.2 _ K.2.2.2.2.2.2.1)) ?_
    rintro m _ ⟨rfl, hm⟩
    rw [r3, hf.1] at hm
    refine wp_ifle (fun q => wp_ret ⟨V, hl2, fun i hi => h1 i (by omega), h2⟩) (fun q => ?_)
    have kl : k.toInt.toNat < P.length := by omega
    have B := hP.2.1 k.toInt.toNat kl
    refine wp_bd (s_get (V.2 _ K.2.2.2.2.2.2.1)) ?_
    rintro x _ ⟨rfl, hx⟩
    have fk := hf.2 k.toInt.toNat kl
    rw [ck] at fk
    rw [r3, fk] at hx
    have R := hr k.toInt.toNat kl
    have go : ∀ t0 : Int32, lev'.toInt + t0.toInt = lvl lev'.toInt (f k.toInt.toNat) → (0 ≤ t0.toInt ∧ t0.toInt ≤ 2) → Wp (f_X3_tellLevels_68 rc lev' t' k t0 u) (fun _ w' => cr 669 670 w w' ∧ (rl w' 669).length = n ∧ (∀ i : Nat, i < P.length → gt (rl w' 669) (gt P i) = lvl lev'.toInt (f i)) ∧ ∀ p : Nat, (∀ i : Nat, i < P.length → gt P i ≠ p) → gt (rl w' 669) p = gt (rl w 669) p) := by
      intro t0 ht0 ht1
      unfold f_X3_tellLevels_68
      refine wp_bd (s_get (V.2 _ K.2.2.2.2.1)) ?_
      rintro y _ ⟨rfl, hy⟩
      rw [r9, ← ck] at hy
      have e1 : (lev' + t0).toInt = lvl lev'.toInt (f k.toInt.toNat) := by rw [i_add (by omega), ht0]
      refine wp_bd (s_set_in (V.2 _ K.2.2.2.2.2.2.2.2.2.1) (by omega)) ?_
      rintro _ u2 p2
      refine wp_add (by omega) (fun z hz => ih (lev', t', z, u2) ⟨rfl, rfl, cr_rs V p2 (by decide) (by decide), by dsimp only; omega, by dsimp only; omega, ?_, fun i hi => ?_, fun p hp => ?_⟩ (by dsimp only; omega))
      · dsimp only; rw [rs_l p2, List.length_set]; exact hl2
      · dsimp only at hi ⊢
        have Bi := hP.2.1 i (by omega)
        rw [rs_l p2, gt_set Bi.1 (by omega)]
        by_cases e : i = k.toInt.toNat
        · rw [if_pos (by rw [e]; omega), e1, e]
        · rw [if_neg (fun z => e (hP.2.2 i k.toInt.toNat (by omega) kl (by omega)))]
          exact h1 i (by omega)
      · dsimp only
        rw [rs_l p2, gt_setn (by omega)]
        have := hp k.toInt.toNat kl
        rw [if_neg (by omega)]
        exact h2 p hp
    refine wp_ifeq (fun c => wp_ifeq (fun d => go 1 ?_ (by omega)) (fun d => go 2 ?_ (by omega))) (fun c => ?_)
    · unfold lvl; rw [if_neg (by omega), if_neg (by omega)]; omega
    · unfold lvl; rw [if_pos (by omega)]; omega
    · obtain ⟨r, hr1, hr2⟩ := e_wayOf (x := lev') (w := u) (by omega)
      rw [hr1, bd_r]
      refine wp_ifeq (fun d => go 0 ?_ (by omega)) (fun d => go 1 ?_ (by omega))
      · unfold lvl
        by_cases e : lev'.toInt % 2 = 0
        · rw [if_pos e]; omega
        · rw [if_neg e, if_pos (by omega)]; omega
      · unfold lvl
        by_cases e : lev'.toInt % 2 = 0
        · rw [if_pos e]; omega
        · rw [if_neg e, if_neg (by omega)]; omega
  unfold f_X3_tellLevels
  obtain ⟨r, hr1, hr2⟩ := e_wayOf (x := lev) (w := w) (by omega)
  rw [hr1, bd_r]
  exact wp_ifeq (fun c => main 1 (Or.inl ⟨L.2.1, by omega⟩)) (fun c => main 0 (Or.inr ⟨L.1, by omega⟩))
/-- what is found of levels -/
def fndC (w : Wd) (tab : Nat → Int) (l : List Int) (st : FSt) (F : Int) : Prop := (rl w 669).length = l.length ∧ ∀ p : Nat, p < l.length → gt st.2.1 p < F → gt (rl w 669) p = LV tab l st p
theorem s_lookAt18 {w : Wd} {tab : Nat → Int} {o : Nat} {b : Int32} {l : List Int} (hk : tok tab) (h : trel w 1 tab) (ho : okall w) (h7 : KD o = 7) (h6 : o ≤ 649) (hl : rl w o = l) (Y : lok40 l) (hb : b.toInt = 0 ∨ b.toInt = 1) :
    Wp (f_X3_lookAt_18 o o b w) (fun _ w' => lv w w' ∧ (rl w' 669).length = l.length ∧ ∀ p : Nat, p < l.length → gt (rl w' 669) p = LV tab l (fr tab l b.toInt l.length) p) := by
  have L := LIT
  have K := KLR
  have M := LLR
  have h40 := Y.1
  unfold f_X3_lookAt_18
  refine wp_bd (s_layFrames hk h ho h7 h6 hl Y hb) ?_
  rintro _ w1 ⟨V1, C1⟩
  have I := fr_I (tab := tab) (l := l) hb l.length h40
  generalize fr tab l b.toInt l.length = st at C1 I ⊢
  refine wp_bd (s_size (V1.2 _ h7)) ?_
  rintro n _ ⟨rfl, hn⟩
  rw [(lv_x V1 h6).trans hl] at hn
  refine wp_bd (s_refill (V1.2 _ K.2.2.2.2.2.2.2.2.2.1) (by omega) (by omega)) ?_
  rintro _ w2 p2
  have V2 := lv_rs V1 p2 (by decide) (by decide)
  have C2 : rl w2 651 = st.2.1 ∧ rl w2 653 = st.2.2.1 := ⟨(rs_rl p2 (k := 651) K.1 (by decide)).trans C1.1, (rs_rl p2 (k := 653) K.2.1 (by decide)).trans C1.2.1⟩
  unfold f_X3_lookAt_35
  rw [FUv]
  refine wp_loop (fun σ : Nat × Int32 × Wd => σ.1 = o ∧ lv w σ.2.2 ∧ rl σ.2.2 651 = st.2.1 ∧ rl σ.2.2 653 = st.2.2.1 ∧ 0 ≤ σ.2.1.toInt ∧ σ.2.1.toInt ≤ st.2.2.1.length ∧ fndC σ.2.2 tab l st σ.2.1.toInt)
    (fun σ => (50 - σ.2.1.toInt).toNat) ?_ 100000 _ ⟨rfl, V2, C2.1, C2.2, by dsimp only; omega, by dsimp only; omega, ?_⟩ (by dsimp only; omega)
  · rintro rc ⟨o', F, u⟩ ⟨rfl, V, r1, r2, hF0, hF1, hfd⟩ ih
    dsimp only at *
    unfold g_X3_lookAt_35
    refine wp_bd (s_size (V.2 _ K.2.1)) ?_
    rintro m _ ⟨rfl, hm⟩
    rw [r2] at hm
    refine wp_ifle (fun q => wp_ret ⟨V, hfd.1, fun p hp => hfd.2 p hp ?_⟩) (fun q => ?_)
    · have := I.2.2.2.2.2.1 p (by omega) (by omega); omega
    refine wp_bd (s_get (V.2 _ K.2.1)) ?_
    rintro lev _ ⟨rfl, hlev⟩
    rw [r2] at hlev
    have Lr := I.2.2.1 F.toInt hF0 (by omega)
    have I1 := I.1
    have hmod : lev.toInt % 2 = 0 ∨ lev.toInt % 2 = 1 := by omega
    refine wp_bd (s_gather hk (lv_t hk V h) V.2 h7 h6 ((lv_x V h6).trans hl) Y r1) ?_
    rintro _ u1 ⟨G1, g1, g2, g3⟩
    have hP : PI (pls st.2.1 F.toInt l.length) l.length := pls_PI
    have hPl := hP.1
    obtain ⟨y1, hy1, hy2⟩ := e_wayOf (x := lev) (w := u1) (by omega)
    rw [hy1, bd_r]
    refine wp_bd (s_settleNumbers (b := y1) G1.2 (by omega) g3) ?_
    rintro _ u2 ⟨G2, g4⟩
    obtain ⟨z1, hz1, hz2⟩ := e_wayOf (x := lev) (w := u2) (by omega)
    rw [hz1, bd_r]
    have V2b := lv_tr V (lv_tr (cr_lv G1 (by decide) (by decide)) (cr_lv G2 (by decide) (by decide)))
    refine wp_bd (s_settlePartners (b := z1) hk (lv_t hk V2b h) G2.2 Y hP ((cr_rl G2 (by omega)).trans g2) g4 (by omega)) ?_
    rintro _ u3 ⟨G3, g5⟩
    obtain ⟨a1, ha1, ha2⟩ := e_wayOf (x := lev) (w := u3) (by omega)
    rw [ha1, bd_r]
    refine wp_bd (s_settleRest (b := a1) G3.2 (by omega) g5 (by omega)) ?_
    rintro _ u4 ⟨G4, g6⟩
    have r9 : rl u4 659 = pls st.2.1 F.toInt l.length := by rw [cr_rl G4 (by omega), cr_rl G3 (by omega), cr_rl G2 (by omega)]; exact g1
    have r69 : rl u4 669 = rl u 669 := by rw [cr_rl G4 (by omega), cr_rl G3 (by omega), cr_rl G2 (by omega), cr_rl G1 (by omega)]
    rw [hy2, hz2, ha2, hlev] at g6
    have WF : wyC u4 (wayF tab l (pls st.2.1 F.toInt l.length) (gt st.2.2.1 F.toInt)) (pls st.2.1 F.toInt l.length).length := g6
    refine wp_bd (s_tellLevels G4.2 hP h40 r9 WF (by rw [r69]; exact hfd.1) (by omega) (fun i hi => wayF_rng hk Y hP hi)) ?_
    rintro _ u5 ⟨G5, g7, g8, g9⟩
    have V5 := lv_tr V2b (lv_tr (cr_lv G3 (by decide) (by decide)) (lv_tr (cr_lv G4 (by decide) (by decide)) (cr_lv G5 (by decide) (by decide))))
    refine wp_add (by omega) (fun z hz => ih (o', z, u5) ⟨rfl, V5, ?_, ?_, by dsimp only; omega, by dsimp only; omega, g7, fun p hp hpF => ?_⟩ (by dsimp only; omega))
    · dsimp only
      rw [cr_rl G5 (by omega), cr_rl G4 (by omega), cr_rl G3 (by omega), cr_rl G2 (by omega), cr_rl G1 (by omega)]; exact r1
    · dsimp only
      rw [cr_rl G5 (by omega), cr_rl G4 (by omega), cr_rl G3 (by omega), cr_rl G2 (by omega), cr_rl G1 (by omega)]; exact r2
    · dsimp only at hpF ⊢
      by_cases e : gt st.2.1 p = F.toInt
      · have Q := pls_of e l.length hp
        have := g8 _ Q.1
        rw [Q.2] at this
        rw [this, hlev]
        unfold LV LVF
        rw [e]
      · rw [g9 p (fun i hi z => ?_), r69]
        · exact hfd.2 p hp (by omega)
        · obtain ⟨p2, h1, h2, h3, _⟩ := pls_at l.length i hi
          rw [h2] at z
          have : p2 = p := by omega
          subst this
          exact e h3
  · dsimp only
    refine ⟨by rw [rs_l p2, List.length_replicate]; omega, fun p hp hpF => ?_⟩
    have := I.2.2.2.2.2.1 p (by omega) (by omega)
    omega
theorem s_lookAt {w : Wd} {tab : Nat → Int} {o : Nat} {b : Int32} {l : List Int} (hk : tok tab) (h : trel w 1 tab) (ho : okall w) (h7 : KD o = 7) (h6 : o ≤ 649) (hl : rl w o = l) (Y : lok40 l) (hb : b.toInt = -1 ∨ b.toInt = 0 ∨ b.toInt = 1) :
    Wp (f_X3_lookAt o b w) (fun _ w' => lv w w' ∧ (rl w' 669).length = l.length ∧ ∀ p : Nat, p < l.length → gt (rl w' 669) p = LV tab l (fr tab l (bsF tab l b.toInt) l.length) p) := by
  have L := LIT
  unfold f_X3_lookAt
  refine wp_ifeq (fun c => ?_) (fun c => ?_)
  · refine wp_bd (s_baseFrom (p := 0) (x := 0) hk h (ho _ h7) hl Y (by omega)) ?_
    rintro x _ ⟨rfl, hx⟩
    rw [L.1, show ((l.length : Int) - 0).toNat = l.length by omega] at hx
    have e : bsF tab l b.toInt = x.toInt := by unfold bsF; rw [if_pos (by omega), hx]
    rw [e]
    exact s_lookAt18 hk h ho h7 h6 hl Y (by rw [hx]; exact bf_01 _ _)
  · have e : bsF tab l b.toInt = b.toInt := by unfold bsF; rw [if_neg (by omega)]
    rw [e]
    exact s_lookAt18 hk h ho h7 h6 hl Y (by omega)
def bad_p (txt : Nat → List Int) (s p : Int) : Prop := ¬ ((0 ≤ s ∧ s ≤ 5) ∧ 0 ≤ p ∧ p < (txt s.toNat).length)
def bad_b (b : Int) : Prop := ¬ (-1 ≤ b ∧ b ≤ 1)
theorem k_level {w : Wd} {tab : Nat → Int} {txt : Nat → List Int} {s p b : Int32} (hk : tok tab) (h : trel w 1 tab) (ho : okall w) (hx : ctx w txt) (hkx : xok txt) :
    Wp (f_X10_level s p b w) (fun r w' => lv w w' ∧ ((bad_p txt s.toInt p.toInt ∧ r = .inl 1) ∨ (¬ bad_p txt s.toInt p.toInt ∧ bad_b b.toInt ∧ r = .inl 2) ∨
      (¬ bad_p txt s.toInt p.toInt ∧ ¬ bad_b b.toInt ∧ ∃ x : Int32, r = .inr x ∧ x.toInt = LV tab (txt s.toInt.toNat) (fr tab (txt s.toInt.toNat) (bsF tab (txt s.toInt.toNat) b.toInt) (txt s.toInt.toNat).length) p.toInt.toNat))) := by
  have L := LIT
  unfold f_X10_level
  simp only [e_textOf, bdx_c]
  refine wp_if (fun hs => ?_) (fun hs => wp_ret ⟨lv_rf ho, Or.inl ⟨fun q => hs q.1, rfl⟩⟩)
  have hsN := slot_lt hs
  have K := slot_kd _ hsN
  have Y : lok40 (txt s.toInt.toNat) := hkx _ hsN
  refine wp_bd (s_size (ho _ K.1)) ?_
  rintro n _ ⟨rfl, hn⟩
  rw [hx _ hsN] at hn
  simp only [e_checkPlace, bdx_c]
  refine wp_if (fun hp => ?_) (fun hp => wp_ret ⟨lv_rf ho, Or.inl ⟨fun q => hp (by omega), rfl⟩⟩)
  have nb : ¬ bad_p txt s.toInt p.toInt := fun q => q ⟨hs, by omega⟩
  simp only [e_isWithin, bd_r, e_checkArgument, bdx_c]
  refine wp_if (fun hb => ?_) (fun hb => wp_ret ⟨lv_rf ho, Or.inr (Or.inl ⟨nb, fun q => hb (by omega), rfl⟩)⟩)
  refine wp_bd (s_lookAt hk h ho K.1 (by omega) (hx _ hsN) Y (by omega)) ?_
  rintro _ w1 ⟨V1, e1, e2⟩
  unfold f_X3_levelAt
  refine wp_bd (wp_bd (s_get (V1.2 _ KLR.2.2.2.2.2.2.2.2.2.1)) (fun x w2 q => wp_ret q)) ?_
  rintro x _ ⟨rfl, hx2⟩
  refine wp_ret ⟨V1, Or.inr (Or.inr ⟨nb, fun q => q (by omega), x, rfl, ?_⟩)⟩
  have := e2 p.toInt.toNat (by omega)
  rw [show ((p.toInt.toNat : Nat) : Int) = p.toInt by omega] at this
  rw [hx2, this]

