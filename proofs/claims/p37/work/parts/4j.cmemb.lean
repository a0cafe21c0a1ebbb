/-! ===== directions: the letters of a frame ===== -/
def cr (a b : Nat) (w w' : Wd) : Prop := oc (fun k => a ≤ k ∧ k ≤ b) w w' ∧ okall w'
theorem cr_rf {a b : Nat} {w : Wd} (h : okall w) : cr a b w w := ⟨oc_rf, h⟩
theorem cr_tr {a b : Nat} {w w1 w2 : Wd} (h : cr a b w w1) (h2 : cr a b w1 w2) : cr a b w w2 := ⟨oc_tr h.1 h2.1, h2.2⟩
theorem cr_rs {a b : Nat} {w w1 w2 : Wd} {o : Nat} {l : List Int} (h : cr a b w w1) (hr : rs w1 w2 o l) (h1 : a ≤ o) (h2 : o + 1 ≤ b) : cr a b w w2 :=
  ⟨oc_tr h.1 (oc_rs hr ⟨h1, by omega⟩ ⟨by omega, h2⟩), okall_rs h.2 hr⟩
theorem cr_rl {a b : Nat} {w w' : Wd} (h : cr a b w w') {o : Nat} (ho : o + 1 < a ∨ b < o) : rl w' o = rl w o := rl_fr (h.1.1 o (by omega)) (h.1.1 (o + 1) (by omega))
theorem cr_mono {a b c d : Nat} {w w' : Wd} (h : cr a b w w') (h1 : c ≤ a) (h2 : b ≤ d) : cr c d w w' := ⟨oc_mono h.1 (fun k q => ⟨by omega, by omega⟩), h.2⟩
theorem cr_lv {a b : Nat} {w w' : Wd} (h : cr a b w w') (h1 : 651 ≤ a) (h2 : b ≤ 672) : lv w w' := cr_mono h h1 h2
/-- the places of a frame among the first ones -/
def pls (fo : List Int) (F : Int) : Nat → List Int
  | 0 => []
  | p + 1 => if gt fo p = F then pls fo F p ++ [(p : Int)] else pls fo F p
theorem pls_s {fo : List Int} {F : Int} {p : Nat} : pls fo F (p + 1) = if gt fo p = F then pls fo F p ++ [(p : Int)] else pls fo F p := by rw [pls]
theorem pls_le {fo : List Int} {F : Int} : ∀ n : Nat, (pls fo F n).length ≤ n := by
  intro n
  induction n with
  | zero => exact Nat.le_refl _
  | succ n ih =>
    rw [pls_s]
    split
    · rw [List.length_append, List.length_singleton]; omega
    · omega
theorem pls_at {fo : List Int} {F : Int} : ∀ (n i : Nat), i < (pls fo F n).length → ∃ p : Nat, p < n ∧ gt (pls fo F n) i = p ∧ gt fo p = F ∧ (pls fo F p).length = i := by
  intro n
  induction n with
  | zero => intro i h; exact absurd h (by unfold pls; simp)
  | succ n ih =>
    intro i h
    rw [pls_s] at h ⊢
    by_cases c : gt fo n = F
    · rw [if_pos c] at h ⊢
      rw [List.length_append, List.length_singleton] at h
      rw [gt_snoc]
      by_cases e : i = (pls fo F n).length
      · rw [if_pos (by omega)]
        exact ⟨n, by omega, rfl, c, e.symm⟩
      · rw [if_neg (by omega)]
        obtain ⟨p, h1, h2⟩ := ih i (by omega)
        exact ⟨p, by omega, h2⟩
    · rw [if_neg c] at h ⊢
      obtain ⟨p, h1, h2⟩ := ih i h
      exact ⟨p, by omega, h2⟩
theorem pls_of {fo : List Int} {F : Int} {p : Nat} (h : gt fo p = F) : ∀ n : Nat, p < n → (pls fo F p).length < (pls fo F n).length ∧ gt (pls fo F n) ((pls fo F p).length : Nat) = p := by
  intro n
  induction n with
  | zero => intro h; omega
  | succ n ih =>
    intro hp
    rw [pls_s]
    by_cases e : p = n
    · subst e
      rw [if_pos h, List.length_append, List.length_singleton, gt_snoc, if_pos rfl]
      exact ⟨by omega, rfl⟩
    · have := ih (by omega)
      split
      · rw [List.length_append, List.length_singleton, gt_snoc, if_neg (by omega)]
        exact ⟨by omega, this.2⟩
      · exact this
/-- the places of a frame, as a list -/
def PI (P : List Int) (n : Nat) : Prop := P.length ≤ n ∧ (∀ i : Nat, i < P.length → 0 ≤ gt P i ∧ gt P i < n) ∧ (∀ i j : Nat, i < P.length → j < P.length → gt P i = gt P j → i = j)
theorem pls_PI {fo : List Int} {F : Int} {n : Nat} : PI (pls fo F n) n := by
  refine ⟨pls_le n, fun i hi => ?_, fun i j hi hj e => ?_⟩
  · obtain ⟨p, h1, h2, _⟩ := pls_at n i hi
    rw [h2]; omega
  · obtain ⟨p, h1, h2, _, h3⟩ := pls_at n i hi
    obtain ⟨q, g1, g2, _, g3⟩ := pls_at n j hj
    have : p = q := by omega
    subst this
    omega
theorem gt_map {f : Int → Int} {P : List Int} {i : Int} (h0 : 0 ≤ i) (h : i < P.length) : gt (P.map f) i = f (gt P i) := by
  obtain ⟨n, rfl⟩ : ∃ n : Nat, i = n := ⟨i.toNat, by omega⟩
  rw [gt_getElem (by rw [List.length_map]; omega), List.getElem_map, gt_getElem (by omega)]
/-- which way a letter of a frame goes at first -/
def W0 (tab : Nat → Int) (l P : List Int) (i : Nat) : Int := if dr tab l (gt P i) ≤ 2 then dr tab l (gt P i) else 3
theorem W0_snoc {tab : Nat → Int} {l P : List Int} {x : Int} {i : Nat} : W0 tab l (P ++ [x]) i = if i = P.length then (if dr tab l x ≤ 2 then dr tab l x else 3) else W0 tab l P i := by
  unfold W0
  rw [gt_snoc]
  by_cases e : i = P.length
  · rw [if_pos (show (i : Int) = P.length by omega), if_pos e]
  · rw [if_neg (show ¬ (i : Int) = P.length by omega), if_neg e]
/-- the letters, the ways of a frame as the class has them -/
def wyC (w : Wd) (f : Nat → Int) (m : Nat) : Prop := (rl w 663).length = m ∧ ∀ i : Nat, i < m → gt (rl w 663) i = f i
theorem s_gather {w : Wd} {tab : Nat → Int} {o : Nat} {F : Int32} {l fo : List Int} (hk : tok tab) (h : trel w 1 tab) (ho : okall w) (h7 : KD o = 7) (h6 : o ≤ 649) (hl : rl w o = l) (Y : lok40 l) (hf : rl w 651 = fo) :
    Wp (f_X3_gather o F w) (fun _ w' => cr 659 664 w w' ∧ rl w' 659 = pls fo F.toInt l.length ∧ rl w' 661 = (pls fo F.toInt l.length).map (gt l) ∧ wyC w' (W0 tab l (pls fo F.toInt l.length)) (pls fo F.toInt l.length).length) := by
  have L := LIT
  have l2 : (2 : Int32).toInt = 2 := by decide
  have K := KLR
  have M := LLR
  have h40 := Y.1
  unfold f_X3_gather
  refine wp_bd (s_cut0 (ho _ K.2.2.2.2.1)) ?_
  rintro _ w1 q1
  have v1 := cr_rs (a := 659) (b := 664) (cr_rf ho) q1 (by decide) (by decide)
  refine wp_bd (s_cut0 (v1.2 _ K.2.2.2.2.2.1)) ?_
  rintro _ w2 q2
  have v2 := cr_rs v1 q2 (by decide) (by decide)
  refine wp_bd (s_cut0 (v2.2 _ K.2.2.2.2.2.2.1)) ?_
  rintro _ w3 q3
  have v3 := cr_rs v2 q3 (by decide) (by decide)
  have r1 : rl w3 659 = [] := by rw [rs_rl q3 (k := 659) K.2.2.2.2.1 (by decide), rs_rl q2 (k := 659) K.2.2.2.2.1 (by decide), rs_l q1]
  have r2 : rl w3 661 = [] := by rw [rs_rl q3 (k := 661) K.2.2.2.2.2.1 (by decide), rs_l q2]
  have r3 : rl w3 663 = [] := rs_l q3
  unfold f_X3_gather_26
  rw [FUv]
  refine wp_loop (fun σ : Nat × Int32 × Int32 × Wd => σ.1 = o ∧ σ.2.1 = F ∧ cr 659 664 w σ.2.2.2 ∧ 0 ≤ σ.2.2.1.toInt ∧ σ.2.2.1.toInt ≤ l.length ∧ rl σ.2.2.2 659 = pls fo F.toInt σ.2.2.1.toInt.toNat ∧ rl σ.2.2.2 661 = (pls fo F.toInt σ.2.2.1.toInt.toNat).map (gt l) ∧ wyC σ.2.2.2 (W0 tab l (pls fo F.toInt σ.2.2.1.toInt.toNat)) (pls fo F.toInt σ.2.2.1.toInt.toNat).length)
    (fun σ => (42 - σ.2.2.1.toInt).toNat) ?_ 100000 _ ⟨rfl, rfl, v3, by dsimp only; omega, by dsimp only; omega, by dsimp only; rw [L.1, r1]; rfl, by dsimp only; rw [L.1, r2]; rfl, by dsimp only; rw [L.1]; exact ⟨by rw [r3]; rfl, fun i hi => absurd hi (Nat.not_lt_zero _)⟩⟩ (by dsimp only; omega)
  rintro rc ⟨o', F', k, u⟩ ⟨rfl, rfl, V, hk0, hk1, h1, h2, h3⟩ ih
  dsimp only at *
  have ci : ((k.toInt.toNat : Nat) : Int) = k.toInt := by omega
  have T := lv_t hk (cr_lv V (by decide) (by decide)) h
  have X : rl u o' = l := (cr_rl V (by omega)).trans hl
  have X2 : rl u 651 = fo := (cr_rl V (by omega)).trans hf
  have PL := pls_le (fo := fo) (F := F'.toInt) k.toInt.toNat
  unfold g_X3_gather_26
  refine wp_bd (s_size (V.2 _ h7)) ?_
  rintro n _ ⟨rfl, hn⟩
  rw [X] at hn
  refine wp_ifle (fun q => wp_ret ⟨V, ?_⟩) (fun q => ?_)
  · rw [show k.toInt.toNat = l.length by omega] at h1 h2 h3; exact ⟨h1, h2, h3⟩
  have fin : ∀ (z : Int32) (u2 : Wd), z.toInt = k.toInt + (1 : Int32).toInt → cr 659 664 w u2 → rl u2 659 = pls fo F'.toInt (k.toInt.toNat + 1) → rl u2 661 = (pls fo F'.toInt (k.toInt.toNat + 1)).map (gt l) → wyC u2 (W0 tab l (pls fo F'.toInt (k.toInt.toNat + 1))) (pls fo F'.toInt (k.toInt.toNat + 1)).length →
      Wp (rc (o', F', z, u2)) (fun _ w' => cr 659 664 w w' ∧ rl w' 659 = pls fo F'.toInt l.length ∧ rl w' 661 = (pls fo F'.toInt l.length).map (gt l) ∧ wyC w' (W0 tab l (pls fo F'.toInt l.length)) (pls fo F'.toInt l.length).length) := by
    intro z u2 hz g0 g1 g2 g3
    have hz2 : z.toInt.toNat = k.toInt.toNat + 1 := by omega
    refine ih (o', F', z, u2) ⟨rfl, rfl, g0, by dsimp only; omega, by dsimp only; omega, ?_, ?_, ?_⟩ (by dsimp only; omega)
    · dsimp only; rw [hz2]; exact g1
    · dsimp only; rw [hz2]; exact g2
    · dsimp only; rw [hz2]; exact g3
  refine wp_bd (s_get (V.2 _ K.1)) ?_
  rintro x _ ⟨rfl, hx⟩
  rw [X2] at hx
  refine wp_ifeq (fun c => ?_) (fun c => wp_add (by omega) (fun z hz => ?_))
  · have S : pls fo F'.toInt (k.toInt.toNat + 1) = pls fo F'.toInt k.toInt.toNat ++ [k.toInt] := by rw [pls_s, ci, if_pos (by omega), ]
    refine wp_bd (s_get (V.2 _ h7)) ?_
    rintro y _ ⟨rfl, hy⟩
    rw [X] at hy
    refine wp_bd (s_dirOf T X Y (by omega) hy) ?_
    rintro d _ ⟨rfl, hd⟩
    refine wp_bd (s_add (V.2 _ K.2.2.2.2.1) (by rw [h1]; omega)) ?_
    rintro _ u1 ⟨_, p1⟩
    have V1 := cr_rs V p1 (by decide) (by decide)
    refine wp_bd (s_get (V1.2 _ h7)) ?_
    rintro y2 _ ⟨rfl, hy2⟩
    rw [(cr_rl V1 (o := o') (by omega)).trans hl] at hy2
    have a1 : rl u1 661 = (pls fo F'.toInt k.toInt.toNat).map (gt l) := by rw [rs_rl p1 (k := 661) K.2.2.2.2.2.1 (by decide)]; exact h2
    refine wp_bd (s_add (V1.2 _ K.2.2.2.2.2.1) (by rw [a1, List.length_map]; omega)) ?_
    rintro _ u2 ⟨_, p2⟩
    have V2 := cr_rs V1 p2 (by decide) (by decide)
    have a2 : rl u2 663 = rl u 663 := by rw [rs_rl p2 (k := 663) K.2.2.2.2.2.2.1 (by decide), rs_rl p1 (k := 663) K.2.2.2.2.2.2.1 (by decide)]
    have go : ∀ t : Int32, t.toInt = (if dr tab l k.toInt ≤ 2 then dr tab l k.toInt else 3) → Wp (f_X3_gather_98 rc o' F' k 663 t u2) (fun _ w' => cr 659 664 w w' ∧ rl w' 659 = pls fo F'.toInt l.length ∧ rl w' 661 = (pls fo F'.toInt l.length).map (gt l) ∧ wyC w' (W0 tab l (pls fo F'.toInt l.length)) (pls fo F'.toInt l.length).length) := by
      intro t ht
      unfold f_X3_gather_98
      refine wp_bd (s_add (V2.2 _ K.2.2.2.2.2.2.1) (by rw [a2, h3.1]; omega)) ?_
      rintro _ u3 ⟨_, p3⟩
      have V3 := cr_rs V2 p3 (by decide) (by decide)
      refine wp_add (by omega) (fun z hz => fin z u3 hz V3 ?_ ?_ ?_)
      · rw [rs_rl p3 (k := 659) K.2.2.2.2.1 (by decide), rs_rl p2 (k := 659) K.2.2.2.2.1 (by decide), rs_l p1, h1, S]
      · rw [rs_rl p3 (k := 661) K.2.2.2.2.2.1 (by decide), rs_l p2, a1, S, List.map_append, hy2]; rfl
      · rw [S]
        refine ⟨?_, fun i hi => ?_⟩
        · rw [rs_l p3, a2, List.length_append, List.length_append, h3.1, List.length_singleton, List.length_singleton]
        · rw [List.length_append, List.length_singleton] at hi
          rw [rs_l p3, a2, gt_snoc, W0_snoc, h3.1]
          by_cases e : i = (pls fo F'.toInt k.toInt.toNat).length
          · rw [if_pos (by omega), if_pos e]; exact ht
          · rw [if_neg (by omega), if_neg e]; exact h3.2 i (by omega)
    refine wp_iflt (fun c2 => go 3 (by rw [if_neg (by omega)]; decide)) (fun c2 => go d (by rw [if_pos (by omega)]; exact hd))
  · have S : pls fo F'.toInt (k.toInt.toNat + 1) = pls fo F'.toInt k.toInt.toNat := by rw [pls_s, ci, if_neg (by omega)]
    exact fin z u hz V (by rw [S]; exact h1) (by rw [S]; exact h2) (by rw [S]; exact h3)
/-! numbers -/
/-- the last way ahead -/
def lstw (b : Int) (f : Nat → Int) : Nat → Int
  | 0 => b
  | i + 1 => if f i = 0 ∨ f i = 1 then f i else lstw b f i
def nmb (b : Int) (f : Nat → Int) (i : Nat) : Int := if f i = 2 ∧ lstw b f i = 0 then 0 else f i
theorem lstw_s {b : Int} {f : Nat → Int} {i : Nat} : lstw b f (i + 1) = if f i = 0 ∨ f i = 1 then f i else lstw b f i := by rw [lstw]
theorem lstw_01 {b : Int} {f : Nat → Int} (hb : b = 0 ∨ b = 1) : ∀ i : Nat, lstw b f i = 0 ∨ lstw b f i = 1 := by
  intro i
  induction i with
  | zero => exact hb
  | succ i ih => rw [lstw_s]; split <;> assumption
theorem s_settleNumbers {w : Wd} {b : Int32} {f : Nat → Int} {m : Nat} (ho : okall w) (hm : m ≤ 40) (hf : wyC w f m) :
    Wp (f_X3_settleNumbers b w) (fun _ w' => cr 663 664 w w' ∧ wyC w' (nmb b.toInt f) m) := by
  have L := LIT
  have l2 : (2 : Int32).toInt = 2 := by decide
  have K := KLR
  unfold f_X3_settleNumbers f_X3_settleNumbers_4
  rw [FUv]
  refine wp_loop (fun σ : Int32 × Int32 × Wd => cr 663 664 w σ.2.2 ∧ 0 ≤ σ.2.1.toInt ∧ σ.2.1.toInt ≤ m ∧ σ.1.toInt = lstw b.toInt f σ.2.1.toInt.toNat ∧ wyC σ.2.2 (fun i => if i < σ.2.1.toInt.toNat then nmb b.toInt f i else f i) m)
    (fun σ => (42 - σ.2.1.toInt).toNat) ?_ 100000 _ ⟨cr_rf ho, by dsimp only; omega, by dsimp only; omega, by dsimp only; rw [L.1]; rfl, by dsimp only; rw [L.1]; exact ⟨hf.1, fun i hi => by dsimp only; rw [if_neg (by omega)]; exact hf.2 i hi⟩⟩ (by dsimp only; omega)
  rintro rc ⟨v, k, u⟩ ⟨V, hk0, hk1, hv, hw⟩ ih
  dsimp only at *
  have ci : ((k.toInt.toNat : Nat) : Int) = k.toInt := by omega
  unfold g_X3_settleNumbers_4
  refine wp_bd (s_size (V.2 _ K.2.2.2.2.2.2.1)) ?_
  rintro n _ ⟨rfl, hn⟩
  rw [hw.1] at hn
  refine wp_ifle (fun q => wp_ret ⟨V, hw.1, fun i hi => ?_⟩) (fun q => ?_)
  · rw [hw.2 i hi]; dsimp only; rw [if_pos (by omega)]
  refine wp_bd (s_get (V.2 _ K.2.2.2.2.2.2.1)) ?_
  rintro x _ ⟨rfl, hx⟩
  have hx2 := hw.2 k.toInt.toNat (by omega)
  dsimp only at hx2
  rw [ci, if_neg (Nat.lt_irrefl _)] at hx2
  rw [hx2] at hx
  have fin : ∀ (v2 z : Int32) (u2 : Wd), z.toInt = k.toInt + (1 : Int32).toInt → cr 663 664 w u2 → v2.toInt = lstw b.toInt f (k.toInt.toNat + 1) → (rl u2 663).length = m → (∀ i : Nat, i < m → i ≠ k.toInt.toNat → gt (rl u2 663) i = gt (rl u 663) i) → gt (rl u2 663) k.toInt = nmb b.toInt f k.toInt.toNat → Wp (rc (v2, z, u2)) (fun _ w' => cr 663 664 w w' ∧ wyC w' (nmb b.toInt f) m) := by
    intro v2 z u2 hz g0 g1 g2 g3 g4
    have hz2 : z.toInt.toNat = k.toInt.toNat + 1 := by omega
    refine ih (v2, z, u2) ⟨g0, by dsimp only; omega, by dsimp only; omega, ?_, g2, fun i hi => ?_⟩ (by dsimp only; omega)
    · dsimp only; rw [hz2]; exact g1
    · dsimp only
      rw [hz2]
      by_cases e : i = k.toInt.toNat
      · rw [if_pos (by omega), e, ci]; exact g4
      · rw [g3 i hi e, hw.2 i hi]; dsimp only
        by_cases e2 : i < k.toInt.toNat
        · rw [if_pos e2, if_pos (by omega)]
        · rw [if_neg e2, if_neg (by omega)]
  have same : ∀ (v2 : Int32), v2.toInt = lstw b.toInt f (k.toInt.toNat + 1) → nmb b.toInt f k.toInt.toNat = f k.toInt.toNat → ∀ z : Int32, z.toInt = k.toInt + (1 : Int32).toInt → Wp (rc (v2, z, u)) (fun _ w' => cr 663 664 w w' ∧ wyC w' (nmb b.toInt f) m) :=
    fun v2 h1 h2 z hz => fin v2 z u hz V h1 hw.1 (fun _ _ _ => rfl) (by rw [h2]; exact hx2)
  refine wp_ifeq (fun c => wp_add (by omega) (same x ?_ ?_)) (fun c => wp_ifeq (fun c2 => wp_add (by omega) (same x ?_ ?_)) (fun c2 => wp_ifeq (fun c3 => wp_ifeq (fun c4 => ?_) (fun c4 => wp_add (by omega) (same v ?_ ?_))) (fun c3 => wp_add (by omega) (same v ?_ ?_))))
  · rw [lstw_s, if_pos (by omega)]; exact hx
  · unfold nmb; rw [if_neg (by omega)]
  · rw [lstw_s, if_pos (by omega)]; exact hx
  · unfold nmb; rw [if_neg (by omega)]
  · refine wp_bd (s_set_in (V.2 _ K.2.2.2.2.2.2.1) hk0) ?_
    rintro _ u2 p2
    refine wp_add (by omega) (fun z hz => fin v z u2 hz (cr_rs V p2 (by decide) (by decide)) ?_ ?_ (fun i hi e => ?_) ?_)
    · rw [lstw_s, if_neg (by omega)]; exact hv
    · rw [rs_l p2, List.length_set]; exact hw.1
    · rw [rs_l p2, gt_setn (by rw [hw.1]; omega), if_neg e]
    · rw [rs_l p2, gt_set hk0 (by rw [hw.1]; omega), if_pos (by omega)]
      unfold nmb; rw [if_pos (by omega)]; exact L.1
  · rw [lstw_s, if_neg (by omega)]; exact hv
  · unfold nmb; rw [if_neg (by omega)]
  · rw [lstw_s, if_neg (by omega)]; exact hv
  · unfold nmb; rw [if_neg (by omega)]
/-! the reference's own -/
