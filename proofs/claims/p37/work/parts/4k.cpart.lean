/-! ===== directions: partners, matched ===== -/
/-- the last open one that is a letter -/
def src (g : Int → Int) (op : List Int) (p : Int) : Nat → Int
  | 0 => -1
  | q + 1 => if g (gt op q) = p then (q : Int) else src g op p q
/-- what a letter of a frame is as a partner -/
def pty (tab : Nat → Int) (l P : List Int) (i : Nat) : Int := if dr tab l (gt P i) = 3 then tab (9 * (gt l (gt P i)).toNat + 8) else 0
def ltr (l P : List Int) (i : Int) : Int := gt l (gt P i)
abbrev MSt : Type := List Int × (Nat → Int)
def mpS (tab : Nat → Int) (l P : List Int) (st : MSt) (i : Nat) : MSt :=
  if 0 < pty tab l P i then (st.1 ++ [(i : Int)], st.2)
  else if pty tab l P i < 0 then (if src (ltr l P) st.1 (-pty tab l P i - 1) st.1.length < 0 then st else (st.1.take (src (ltr l P) st.1 (-pty tab l P i - 1) st.1.length).toNat, fun j => if j = (gt st.1 (src (ltr l P) st.1 (-pty tab l P i - 1) st.1.length)).toNat then (i : Int) else st.2 j))
  else st
def mp (tab : Nat → Int) (l P : List Int) : Nat → MSt
  | 0 => ([], fun _ => -1)
  | i + 1 => mpS tab l P (mp tab l P i) i
theorem mp_s {tab : Nat → Int} {l P : List Int} {i : Nat} : mp tab l P (i + 1) = mpS tab l P (mp tab l P i) i := by rw [mp]
theorem src_bd {g : Int → Int} {op : List Int} {p : Int} : ∀ n : Nat, -1 ≤ src g op p n ∧ src g op p n < n := by
  intro n
  induction n with
  | zero => unfold src; omega
  | succ n ih => unfold src; split <;> omega
def mpI (st : MSt) (i : Nat) : Prop := st.1.length ≤ i ∧ (∀ q : Nat, q < st.1.length → 0 ≤ gt st.1 q ∧ gt st.1 q < i) ∧ (∀ j : Nat, st.2 j = -1 ∨ ((j : Int) < st.2 j ∧ st.2 j < i))
theorem mp_I {tab : Nat → Int} {l P : List Int} : ∀ i : Nat, mpI (mp tab l P i) i := by
  intro i
  induction i with
  | zero => exact ⟨Nat.le_refl _, fun q h => absurd h (Nat.not_lt_zero _), fun j => Or.inl rfl⟩
  | succ i ih =>
    rw [mp_s]
    obtain ⟨a, b, c⟩ := ih
    unfold mpS
    by_cases c1 : 0 < pty tab l P i
    · rw [if_pos c1]
      refine ⟨by dsimp only; rw [List.length_append, List.length_singleton]; omega, fun q hq => ?_, fun j => ?_⟩
      · dsimp only at hq ⊢
        rw [List.length_append, List.length_singleton] at hq
        rw [gt_snoc]
        by_cases e : q = (mp tab l P i).1.length
        · rw [if_pos (by omega)]; omega
        · rw [if_neg (by omega)]
          have := b q (by omega)
          omega
      · dsimp only
        rcases c j with h | h
        · exact Or.inl h
        · exact Or.inr (by omega)
    · rw [if_neg c1]
      have same : mpI (mp tab l P i) (i + 1) := by
        refine ⟨by omega, fun q hq => ?_, fun j => ?_⟩
        · have := b q hq; omega
        · rcases c j with h | h
          · exact Or.inl h
          · exact Or.inr (by omega)
      by_cases c2 : pty tab l P i < 0
      · rw [if_pos c2]
        have S := src_bd (g := ltr l P) (op := (mp tab l P i).1) (p := -pty tab l P i - 1) (mp tab l P i).1.length
        by_cases c3 : src (ltr l P) (mp tab l P i).1 (-pty tab l P i - 1) (mp tab l P i).1.length < 0
        · rw [if_pos c3]; exact same
        · rw [if_neg c3]
          generalize hz : src (ltr l P) (mp tab l P i).1 (-pty tab l P i - 1) (mp tab l P i).1.length = z at S c3 ⊢
          refine ⟨by dsimp only; rw [List.length_take]; omega, fun q hq => ?_, fun j => ?_⟩
          · dsimp only at hq ⊢
            rw [List.length_take] at hq
            rw [gt_take (by omega)]
            have := b q (by omega)
            omega
          · dsimp only
            by_cases e : j = (gt (mp tab l P i).1 z).toNat
            · rw [if_pos e]
              have := b z.toNat (by omega)
              rw [show ((z.toNat : Nat) : Int) = z by omega] at this
              exact Or.inr (by omega)
            · rw [if_neg e]
              rcases c j with h | h
              · exact Or.inl h
              · exact Or.inr (by omega)
      · rw [if_neg c2]; exact same
/-! the class's own -/
theorem pty_rng {tab : Nat → Int} {l P : List Int} (hk : tok tab) (Y : lok40 l) (hP : PI P l.length) {i : Nat} (hi : i < P.length) : -96 ≤ pty tab l P i ∧ pty tab l P i ≤ 96 := by
  have B := hP.2.1 i hi
  have g := lok_gt Y B.1 B.2
  unfold pty
  split
  · exact (hk.1 (gt l (gt P i)).toNat (by omega)).2.2.2.2.2.2
  · omega
/-- open ones and closings, in the class -/
def mpC (w : Wd) (st : MSt) (m : Nat) : Prop := rl w 665 = st.1 ∧ (rl w 667).length = m ∧ ∀ i : Nat, i < m → gt (rl w 667) i = st.2 i
theorem s_closeLast {w : Wd} {c p : Int32} {l P : List Int} {st : MSt} {m i : Nat} (ho : okall w) (hm : m ≤ 40) (hI : mpI st i) (hi : i < m) (hc : c.toInt = i) (hC : mpC w st m) (hL : rl w 661 = P.map (gt l)) (hPl : P.length = m) :
    Wp (f_X3_closeLast c p w) (fun _ w' => cr 665 668 w w' ∧ mpC w' (if src (ltr l P) st.1 p.toInt st.1.length < 0 then st else (st.1.take (src (ltr l P) st.1 p.toInt st.1.length).toNat, fun j => if j = (gt st.1 (src (ltr l P) st.1 p.toInt st.1.length)).toNat then (i : Int) else st.2 j)) m) := by
  have L := LIT
  have K := KLR
  obtain ⟨a, b, d⟩ := hI
  unfold f_X3_closeLast
  refine wp_bd (s_size (ho _ K.2.2.2.2.2.2.2.1)) ?_
  rintro n _ ⟨rfl, hn⟩
  rw [hC.1] at hn
  refine wp_sub (by omega) (fun z hz => ?_)
  unfold f_X3_closeLast_10
  rw [FUv]
  refine wp_loop (fun σ : Int32 × Int32 × Int32 × Wd => σ.1 = c ∧ σ.2.1 = p ∧ σ.2.2.2 = w ∧ -1 ≤ σ.2.2.1.toInt ∧ σ.2.2.1.toInt < st.1.length ∧ src (ltr l P) st.1 p.toInt (σ.2.2.1.toInt + 1).toNat = src (ltr l P) st.1 p.toInt st.1.length)
    (fun σ => (σ.2.2.1.toInt + 1).toNat) ?_ 100000 _ ⟨rfl, rfl, rfl, by dsimp only; omega, by dsimp only; omega, by dsimp only; rw [show (z.toInt + 1).toNat = st.1.length by omega]⟩ (by dsimp only; omega)
  rintro rc ⟨c', p', j, u⟩ ⟨rfl, rfl, rfl, hj, hj2, he⟩ ih
  dsimp only at *
  unfold g_X3_closeLast_10
  refine wp_iflt (fun q => wp_ret ⟨cr_rf ho, ?_⟩) (fun q => ?_)
  · rw [show (j.toInt + 1).toNat = 0 by omega] at he
    rw [← he, if_pos (by unfold src; omega)]; exact hC
  have cj : ((j.toInt.toNat : Nat) : Int) = j.toInt := by omega
  rw [show (j.toInt + 1).toNat = j.toInt.toNat + 1 by omega, src, cj] at he
  have B := b j.toInt.toNat (by omega)
  rw [cj] at B
  refine wp_bd (s_get (ho _ K.2.2.2.2.2.2.2.1)) ?_
  rintro x _ ⟨rfl, hx⟩
  rw [hC.1] at hx
  refine wp_bd (s_get (ho _ K.2.2.2.2.2.1)) ?_
  rintro y _ ⟨rfl, hy⟩
  have gm : gt (rl u 661) x.toInt = ltr l P (gt st.1 j.toInt) := by
    rw [hL, hx]
    unfold ltr
    rw [show gt st.1 j.toInt = (((gt st.1 j.toInt).toNat : Nat) : Int) by omega, gt_getElem (by rw [List.length_map]; omega), List.getElem_map, gt_getElem (xs := P) (by omega)]
  rw [gm] at hy
  refine wp_ifeq (fun c2 => ?_) (fun c2 => wp_add (by omega) (fun z2 hz2 => ih (c', p', z2, u) ⟨rfl, rfl, rfl, by dsimp only; omega, by dsimp only; omega, ?_⟩ (by dsimp only; omega)))
  · rw [if_pos (by omega)] at he
    refine wp_bd (s_get (ho _ K.2.2.2.2.2.2.2.1)) ?_
    rintro x2 _ ⟨rfl, hx2⟩
    rw [hC.1] at hx2
    refine wp_bd (s_set_in (ho _ K.2.2.2.2.2.2.2.2.1) (by omega)) ?_
    rintro _ u1 p1
    have V1 := cr_rs (a := 665) (b := 668) (cr_rf ho) p1 (by decide) (by decide)
    refine wp_bd (s_cutTo (V1.2 _ K.2.2.2.2.2.2.2.1) (by omega)) ?_
    rintro _ u2 p2
    have V2 := cr_rs V1 p2 (by decide) (by decide)
    refine wp_ret ⟨V2, ?_⟩
    rw [← he, if_neg (by omega)]
    refine ⟨?_, ?_, fun i2 hi2 => ?_⟩
    · rw [rs_l p2, rs_rl p1 (k := 665) K.2.2.2.2.2.2.2.1 (by decide), hC.1]
    · rw [rs_rl p2 (k := 667) K.2.2.2.2.2.2.2.2.1 (by decide), rs_l p1, List.length_set]; exact hC.2.1
    · rw [rs_rl p2 (k := 667) K.2.2.2.2.2.2.2.2.1 (by decide), rs_l p1, gt_setn (by rw [hC.2.1]; omega)]
      dsimp only
      rw [hx2, hc]
      by_cases e : i2 = (gt st.1 j.toInt).toNat
      · rw [if_pos e, if_pos e]
      · rw [if_neg e, if_neg e]; exact hC.2.2 i2 hi2
  · rw [if_neg (by omega)] at he
    dsimp only
    rw [show (z2.toInt + 1).toNat = j.toInt.toNat by omega]; exact he
theorem s_matchPartners {w : Wd} {tab : Nat → Int} {l P : List Int} (hk : tok tab) (h : trel w 1 tab) (ho : okall w) (Y : lok40 l) (hP : PI P l.length) (hL : rl w 661 = P.map (gt l)) :
    Wp (f_X3_matchPartners w) (fun _ w' => cr 665 668 w w' ∧ mpC w' (mp tab l P P.length) P.length) := by
  have L := LIT
  have l3 : (3 : Int32).toInt = 3 := by decide
  have K := KLR
  have M := LLR
  have h40 := Y.1
  have hPl := hP.1
  have lm : (rl w 661).length = P.length := by rw [hL, List.length_map]
  unfold f_X3_matchPartners
  refine wp_bd (s_size (ho _ K.2.2.2.2.2.1)) ?_
  rintro n _ ⟨rfl, hn⟩
  rw [lm] at hn
  refine wp_bd (s_refill (ho _ K.2.2.2.2.2.2.2.2.1) (by omega) (by omega)) ?_
  rintro _ w1 q1
  have v1 := cr_rs (a := 665) (b := 668) (cr_rf ho) q1 (by decide) (by decide)
  refine wp_bd (s_cut0 (v1.2 _ K.2.2.2.2.2.2.2.1)) ?_
  rintro _ w2 q2
  have v2 := cr_rs v1 q2 (by decide) (by decide)
  have r1 : rl w2 667 = List.replicate P.length (-1) := by rw [rs_rl q2 (k := 667) K.2.2.2.2.2.2.2.2.1 (by decide), rs_l q1, L.2.2.1, show n.toInt.toNat = P.length by omega]
  have r2 : rl w2 665 = [] := rs_l q2
  unfold f_X3_matchPartners_25
  rw [FUv]
  refine wp_loop (fun σ : Int32 × Wd => cr 665 668 w σ.2 ∧ 0 ≤ σ.1.toInt ∧ σ.1.toInt ≤ P.length ∧ mpC σ.2 (mp tab l P σ.1.toInt.toNat) P.length)
    (fun σ => (42 - σ.1.toInt).toNat) ?_ 100000 _ ⟨v2, by dsimp only; omega, by dsimp only; omega, ?_⟩ (by dsimp only; omega)
  · rintro rc ⟨k, u⟩ ⟨V, hk0, hk1, hC⟩ ih
    dsimp only at *
    have ck : ((k.toInt.toNat : Nat) : Int) = k.toInt := by omega
    have T := lv_t hk (cr_lv V (by decide) (by decide)) h
    have X : rl u 661 = P.map (gt l) := (cr_rl V (by omega)).trans hL
    unfold g_X3_matchPartners_25
    refine wp_bd (s_size (V.2 _ K.2.2.2.2.2.1)) ?_
    rintro n2 _ ⟨rfl, hn2⟩
    rw [X, List.length_map] at hn2
    refine wp_ifle (fun q => wp_ret ⟨V, ?_⟩) (fun q => ?_)
    · rw [show k.toInt.toNat = P.length by omega] at hC; exact hC
    have fin : ∀ (z : Int32) (u2 : Wd), z.toInt = k.toInt + (1 : Int32).toInt → cr 665 668 w u2 → mpC u2 (mpS tab l P (mp tab l P k.toInt.toNat) k.toInt.toNat) P.length → Wp (rc (z, u2)) (fun _ w' => cr 665 668 w w' ∧ mpC w' (mp tab l P P.length) P.length) := by
      intro z u2 hz g0 g1
      refine ih (z, u2) ⟨g0, by dsimp only; omega, by dsimp only; omega, ?_⟩ (by dsimp only; omega)
      dsimp only; rw [show z.toInt.toNat = k.toInt.toNat + 1 by omega, mp_s]; exact g1
    refine wp_bd (s_get (V.2 _ K.2.2.2.2.2.1)) ?_
    rintro y _ ⟨rfl, hy⟩
    have B := hP.2.1 k.toInt.toNat (by omega)
    have gy : y.toInt = gt l (gt P k.toInt.toNat) := by
      rw [hy, X, gt_map hk0 (by omega), ck]
    have G := lok_gt Y B.1 B.2
    refine wp_bd (s_directionOf (by decide +kernel) (by omega) (by omega) T) ?_
    rintro d _ ⟨rfl, hd⟩
    have hd2 : d.toInt = dr tab l (gt P k.toInt.toNat) := by rw [hd, gy]; rfl
    refine wp_ifeq (fun c => ?_) (fun c => wp_add (by omega) (fun z hz => fin z u hz V ?_))
    · have pt : pty tab l P k.toInt.toNat = tab (9 * y.toInt.toNat + 8) := by unfold pty; rw [if_pos (by omega), gy]
      refine wp_bd (s_isOpening (by decide +kernel) hk (by omega) (by omega) T) ?_
      rintro x _ ⟨rfl, rfl⟩
      rw [ite_zo, ← pt]
      refine wp_if (fun c2 => ?_) (fun c2 => ?_)
      · have I := mp_I (tab := tab) (l := l) (P := P) k.toInt.toNat
        refine wp_bd (s_add (V.2 _ K.2.2.2.2.2.2.2.1) (by rw [hC.1]; have := I.1; omega)) ?_
        rintro _ u2 ⟨_, p2⟩
        refine wp_add (by omega) (fun z hz => fin z u2 hz (cr_rs V p2 (by decide) (by decide)) ?_)
        unfold mpS
        rw [if_pos c2, ck]
        refine ⟨?_, ?_, fun i hi => ?_⟩
        · rw [rs_l p2, hC.1]
        · rw [rs_rl p2 (k := 667) K.2.2.2.2.2.2.2.2.1 (by decide)]; exact hC.2.1
        · rw [rs_rl p2 (k := 667) K.2.2.2.2.2.2.2.2.1 (by decide)]; exact hC.2.2 i hi
      · refine wp_bd (s_isClosing (by decide +kernel) hk (by omega) (by omega) T) ?_
        rintro x _ ⟨rfl, rfl⟩
        rw [ite_zo, ← pt]
        refine wp_if (fun c3 => ?_) (fun c3 => wp_add (by omega) (fun z hz => fin z u hz V ?_))
        · refine wp_bd (s_partnerOf (by decide +kernel) (by omega) (by omega) T) ?_
          rintro x _ ⟨rfl, hx⟩
          rw [← pt] at hx
          unfold prt at hx
          rw [if_neg (by omega), if_neg (by omega)] at hx
          refine wp_bd (s_closeLast V.2 (by omega) (mp_I k.toInt.toNat) (by omega) ck.symm hC X rfl) ?_
          rintro _ u2 ⟨V2, h2⟩
          refine wp_add (by omega) (fun z hz => fin z u2 hz (cr_tr V V2) ?_)
          rw [hx] at h2
          unfold mpS
          rw [if_neg c2, if_pos c3]; exact h2
        · unfold mpS; rw [if_neg c2, if_neg c3]; exact hC
    · have pt : pty tab l P k.toInt.toNat = 0 := by unfold pty; rw [if_neg (by omega)]
      unfold mpS; rw [if_neg (by omega), if_neg (by omega)]; exact hC
  · dsimp only
    rw [L.1]
    refine ⟨r2, by rw [r1, List.length_replicate], fun i hi => ?_⟩
    rw [r1, gt_getElem (by rw [List.length_replicate]; exact hi), List.getElem_replicate]; rfl
/-! the reference's own -/
