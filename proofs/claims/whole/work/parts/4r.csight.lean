/-! ===== directions: by sight ===== -/
/-- the first one on the screen, from a place on, that begins a cluster -/
def sg2 (tab : Nat → Int) (l : List Int) (o : Nat → Nat) (D : Int) : Nat → Int → Int
  | 0, _ => -1
  | n + 1, i => if 0 ≤ i ∧ i < l.length then (if icl tab l (o i.toNat : Nat) then (o i.toNat : Nat) else sg2 tab l o D n (i + D)) else -1
def isIdx (o : Nat → Nat) (n : Nat) (p : Int) (a : Nat) : Prop := a < n ∧ (o a : Int) = p ∧ ∀ k : Nat, k < a → (o k : Int) ≠ p
theorem isIdx_u {o : Nat → Nat} {n : Nat} {p : Int} {a b : Nat} (h : isIdx o n p a) (g : isIdx o n p b) : a = b := by
  rcases Nat.lt_trichotomy a b with z | z | z
  · exact absurd h.2.1 (g.2.2 a z)
  · exact z
  · exact absurd g.2.1 (h.2.2 b z)
theorem sg2_out {tab : Nat → Int} {l : List Int} {o : Nat → Nat} {D i : Int} {n : Nat} (h : ¬ (0 ≤ i ∧ i < l.length)) : sg2 tab l o D n i = -1 := by
  cases n with
  | zero => rfl
  | succ n => unfold sg2; rw [if_neg h]
theorem sg2_in {tab : Nat → Int} {l : List Int} {o : Nat → Nat} {D i : Int} {n : Nat} (h : 0 ≤ i ∧ i < l.length) : sg2 tab l o D (n + 1) i = if icl tab l (o i.toNat : Nat) then ((o i.toNat : Nat) : Int) else sg2 tab l o D n (i + D) := by
  rw [sg2, if_pos h]
theorem s_sight {w : Wd} {m : Int64} {st i : Int32} {tab : Nat → Int} {l : List Int} {o : Nat → Nat} {D : Int} (hD : D = 1 ∨ D = -1) (hst : st.toInt = D) (ho : okall w) (hm : clb tab l m) (h40 : l.length ≤ 40) (hC : ordC w l.length o) (hol : ∀ j, j < l.length → o j < l.length) (hi : -1 ≤ i.toInt ∧ i.toInt ≤ 41) :
    Wp (f_X10_bySight_68 671 m st i w) (fun r w' => w = w' ∧ ∃ x : Int32, r = .inr x ∧ x.toInt = sg2 tab l o D 50 i.toInt) := by
  have L := LIT
  have K := KLR
  unfold f_X10_bySight_68
  rw [FUv]
  have b0 := mu_bd (i := i.toInt) hD hi
  refine wp_loop (fun σ : Nat × Int64 × Int32 × Int32 × Wd => σ.1 = 671 ∧ σ.2.1 = m ∧ σ.2.2.1 = st ∧ σ.2.2.2.2 = w ∧ -1 ≤ σ.2.2.2.1.toInt ∧ σ.2.2.2.1.toInt ≤ 41 ∧ ∃ k : Nat, sg2 tab l o D k σ.2.2.2.1.toInt = sg2 tab l o D 50 i.toInt ∧ mu D σ.2.2.2.1.toInt ≤ k)
      (fun σ => (mu D σ.2.2.2.1.toInt).toNat) ?_ 100000 _ ⟨rfl, rfl, rfl, rfl, hi.1, hi.2, 50, rfl, by dsimp only; omega⟩ (by dsimp only; omega)
  rintro rc ⟨q0, m', st', j, u⟩ ⟨rfl, rfl, rfl, rfl, hj, hj2, k, hk, hk2⟩ ih
  dsimp only at *
  unfold g_X10_bySight_68
  have out : ¬ (0 ≤ j.toInt ∧ j.toInt < l.length) → Wp (some ((Sum.inr (-1 : Int32) : Nat ⊕ Int32), u)) (fun r w' => u = w' ∧ ∃ x : Int32, r = .inr x ∧ x.toInt = sg2 tab l o D 50 i.toInt) := by
    intro q
    rw [sg2_out q] at hk
    exact wp_ret ⟨rfl, -1, rfl, by rw [← hk]; exact L.2.2.1⟩
  refine wp_iflt (fun q => out (by omega)) (fun q => ?_)
  refine wp_bd (s_size (ho _ K.2.2.2.2.2.2.2.2.2.2)) ?_
  rintro n _ ⟨rfl, hn⟩
  rw [hC.1] at hn
  refine wp_ifle (fun q2 => out (by omega)) (fun q2 => ?_)
  have hr : 0 ≤ j.toInt ∧ j.toInt < l.length := by omega
  have ms := mu_step hD (i := j.toInt) (by omega)
  obtain ⟨k', rfl⟩ : ∃ k', k = k' + 1 := ⟨k - 1, by omega⟩
  rw [sg2_in hr] at hk
  have cj := hC.2 j.toInt.toNat (by omega)
  rw [show ((j.toInt.toNat : Nat) : Int) = j.toInt by omega] at cj
  have ol := hol j.toInt.toNat (by omega)
  refine wp_bd (s_get (ho _ K.2.2.2.2.2.2.2.2.2.2)) ?_
  rintro x _ ⟨rfl, hx⟩
  rw [cj] at hx
  rw [e_isBeginning hm (by omega) (by omega) h40, bd_r, ite_zo, hx]
  refine wp_if (fun q4 => wp_ret ⟨rfl, x, rfl, ?_⟩) (fun q4 => wp_add (by omega) (fun z hz => ?_))
  · rw [if_pos q4] at hk; rw [hx]; exact hk
  rw [if_neg q4] at hk
  have hz2 : z.toInt = j.toInt + D := by rw [hz, hst]
  refine ih (671, m', st', z, u) ⟨rfl, rfl, rfl, rfl, by dsimp only; omega, by dsimp only; omega, k', ?_, ?_⟩ ?_
  · dsimp only; rw [hz2]; exact hk
  · dsimp only; rw [hz2, ms.2]; omega
  · dsimp only; rw [hz2, ms.2]; omega
theorem k_bySight {w : Wd} {tab : Nat → Int} {txt : Nat → List Int} {s p b : Int32} (hk : tok tab) (h : trel w 1 tab) (ho : okall w) (hx : ctx w txt) (hkx : xok txt) :
    Wp (f_X10_bySight s p b w) (fun r w' => lv w w' ∧ ((bad_p txt s.toInt p.toInt ∧ r = .inl 1) ∨
      (¬ bad_p txt s.toInt p.toInt ∧ ∃ (a : Nat) (x : Int32), r = .inr x ∧ isIdx (scrn tab (txt s.toInt.toNat) (-1)) (txt s.toInt.toNat).length p.toInt a ∧ x.toInt = sg2 tab (txt s.toInt.toNat) (scrn tab (txt s.toInt.toNat) (-1)) (dir b.toInt) 50 (a + dir b.toInt)))) := by
  have L := LIT
  unfold f_X10_bySight
  simp only [e_textOf, bdx_c]
  refine wp_if (fun hs => ?_) (fun hs => wp_ret ⟨lv_rf ho, Or.inl ⟨fun q => hs q.1, rfl⟩⟩)
  have hsN := slot_lt hs
  have K := slot_kd _ hsN
  have Y : lok40 (txt s.toInt.toNat) := hkx _ hsN
  have h40 := Y.1
  refine wp_bd (s_size (ho _ K.1)) ?_
  rintro n _ ⟨rfl, hn⟩
  rw [hx _ hsN] at hn
  simp only [e_checkPlace, bdx_c]
  refine wp_if (fun hp => ?_) (fun hp => wp_ret ⟨lv_rf ho, Or.inl ⟨fun q => hp (by omega), rfl⟩⟩)
  have nb : ¬ bad_p txt s.toInt p.toInt := fun q => q ⟨hs, by omega⟩
  rw [bd_bd]
  refine wp_bd (s_look (b := -1) hk h ho K.1 (by omega) (hx _ hsN) Y (by omega)) ?_
  rintro r w1 ⟨rfl, V1, e1⟩
  rw [L.2.2.1] at e1
  have rt : rl w1 (623 + 2 * s.toInt.toNat) = txt s.toInt.toNat := (lv_x V1 (by omega)).trans (hx _ hsN)
  refine wp_bd (s_clusterBreaks (lv_t hk V1 h) (V1.2 _ K.1) (by rw [rt]; exact Y)) ?_
  rintro m _ ⟨rfl, hm⟩
  rw [rt] at hm
  have OL : ∀ j, j < (txt s.toInt.toNat).length → scrn tab (txt s.toInt.toNat) (-1) j < (txt s.toInt.toNat).length := Od_lt 13
  have main : ∀ st : Int32, st.toInt = dir b.toInt → Wp (f_X10_bySight_55 p 671 m st w1) (fun r w' => lv w w' ∧ ((bad_p txt s.toInt p.toInt ∧ r = .inl 1) ∨
      (¬ bad_p txt s.toInt p.toInt ∧ ∃ (a : Nat) (x : Int32), r = .inr x ∧ isIdx (scrn tab (txt s.toInt.toNat) (-1)) (txt s.toInt.toNat).length p.toInt a ∧ x.toInt = sg2 tab (txt s.toInt.toNat) (scrn tab (txt s.toInt.toNat) (-1)) (dir b.toInt) 50 (a + dir b.toInt)))) := by
    intro st hst
    have hD : dir b.toInt = 1 ∨ dir b.toInt = -1 := by unfold dir; split <;> omega
    unfold f_X10_bySight_55
    refine wp_bd (s_placeOf (V1.2 _ KLR.2.2.2.2.2.2.2.2.2.2)) ?_
    rintro x _ ⟨rfl, hx2⟩
    rw [e1.1] at hx2
    rcases hx2 with ⟨x0, x1, x2, x3⟩ | ⟨x0, x1⟩
    · have cx := e1.2 x.toInt.toNat (by omega)
      rw [show ((x.toInt.toNat : Nat) : Int) = x.toInt by omega, x2] at cx
      have ID : isIdx (scrn tab (txt s.toInt.toNat) (-1)) (txt s.toInt.toNat).length p.toInt x.toInt.toNat := ⟨by omega, cx.symm, fun k hk2 => by
        have := x3 k (by omega)
        rw [e1.2 k (by omega)] at this; exact this⟩
      refine wp_add (by omega) (fun z hz => ?_)
      refine (s_sight (i := z) hD hst V1.2 hm h40 e1 OL (by omega)).mono ?_
      rintro r _ ⟨rfl, y, hy, hy2⟩
      refine ⟨V1, Or.inr ⟨nb, x.toInt.toNat, y, hy, ID, ?_⟩⟩
      rw [hy2, hz, hst, show ((x.toInt.toNat : Nat) : Int) = x.toInt by omega]
    · obtain ⟨i, hi, hi2⟩ := Od_sur (n := (txt s.toInt.toNat).length) (v := LV tab (txt s.toInt.toNat) (fr tab (txt s.toInt.toNat) (bsF tab (txt s.toInt.toNat) (-1)) (txt s.toInt.toNat).length)) 13 p.toInt.toNat (by omega)
      have := x1 i hi
      rw [e1.2 i hi] at this
      exact absurd (show ((scrn tab (txt s.toInt.toNat) (-1) i : Nat) : Int) = p.toInt by unfold scrn; rw [hi2]; omega) this
  refine wp_ifeq (fun c => main (-1) ?_) (fun c => main 1 ?_)
  · unfold dir; rw [if_pos (by omega)]; exact L.2.2.1
  · unfold dir; rw [if_neg (by omega)]; exact L.2.1
theorem s_sightR {w : Wd} {tab : Nat → Int} {txt : Nat → List Int} {s d i : Int32} {o : Nat → Nat} (ht : rtab w = tab) (hx : rtx w txt) (hkx : xok txt) (hs : 0 ≤ s.toInt ∧ s.toInt ≤ 5) (hR : ordR w (txt s.toInt.toNat).length o) (hol : ∀ j, j < (txt s.toInt.toNat).length → o j < (txt s.toInt.toNat).length) (hi : -1 ≤ i.toInt ∧ i.toInt ≤ 41) :
    Wp (f_X11_bySight_63 s d i w) (fun r w' => w = w' ∧ r.toInt = sg2 tab (txt s.toInt.toNat) o (dir d.toInt) 50 i.toInt) := by
  have L := LIT
  have M := L724
  have h40 := (hkx _ (slot_lt hs)).1
  have hD : dir d.toInt = 1 ∨ dir d.toInt = -1 := by unfold dir; split <;> omega
  unfold f_X11_bySight_63
  rw [FUv]
  have b0 := mu_bd (i := i.toInt) hD hi
  refine wp_loop (fun σ : Int32 × Int32 × Int32 × Wd => σ.1 = s ∧ σ.2.1 = d ∧ σ.2.2.2 = w ∧ -1 ≤ σ.2.2.1.toInt ∧ σ.2.2.1.toInt ≤ 41 ∧ ∃ k : Nat, sg2 tab (txt s.toInt.toNat) o (dir d.toInt) k σ.2.2.1.toInt = sg2 tab (txt s.toInt.toNat) o (dir d.toInt) 50 i.toInt ∧ mu (dir d.toInt) σ.2.2.1.toInt ≤ k)
      (fun σ => (mu (dir d.toInt) σ.2.2.1.toInt).toNat) ?_ 100000 _ ⟨rfl, rfl, rfl, hi.1, hi.2, 50, rfl, by dsimp only; omega⟩ (by dsimp only; omega)
  rintro rc ⟨s', d', j, u⟩ ⟨rfl, rfl, rfl, hj, hj2, k, hk, hk2⟩ ih
  dsimp only at *
  unfold g_X11_bySight_63
  refine s_len hx hs (fun n hn => ?_)
  have n1 : (n - 1).toInt = n.toInt - 1 := by rw [i_sub (by omega), L.2.1]
  simp only [e_in, bd_r, ite_zo, n1, L.1]
  refine wp_if (fun q => ?_) (fun q => ?_)
  · have hr : 0 ≤ j.toInt ∧ j.toInt < (txt s'.toInt.toNat).length := by omega
    have ms := mu_step hD (i := j.toInt) (by omega)
    obtain ⟨k', rfl⟩ : ∃ k', k = k' + 1 := ⟨k - 1, by omega⟩
    rw [sg2_in hr] at hk
    have cj := hR j.toInt.toNat (by omega)
    have ol := hol j.toInt.toNat (by omega)
    refine wp_ald (by omega) ?_
    refine wp_bd (r_isCluster ht hx hkx hs (by omega)) ?_
    rintro x _ ⟨rfl, rfl⟩
    rw [ite_zo, cj]
    have go : ¬ icl tab (txt s'.toInt.toNat) (o j.toInt.toNat : Nat) → ∀ z : Int32, z.toInt = j.toInt + dir d'.toInt → Wp (rc (s', d', z, u)) (fun r w' => u = w' ∧ r.toInt = sg2 tab (txt s'.toInt.toNat) o (dir d'.toInt) 50 i.toInt) := by
      intro nc z hz
      rw [if_neg nc] at hk
      refine ih (s', d', z, u) ⟨rfl, rfl, rfl, by dsimp only; omega, by dsimp only; omega, k', ?_, ?_⟩ ?_
      · dsimp only; rw [hz]; exact hk
      · dsimp only; rw [hz, ms.2]; omega
      · dsimp only; rw [hz, ms.2]; omega
    refine wp_if (fun c => ?_) (fun c => wp_ifeq (fun e => wp_add (by omega) (fun z hz => go c z ?_)) (fun e => wp_add (by omega) (fun z hz => go c z ?_)))
    · rw [if_pos c] at hk
      unfold f_X11_bySight_112
      refine s_len hx hs (fun n2 hn2 => ?_)
      have n3 : (n2 - 1).toInt = n2.toInt - 1 := by rw [i_sub (by omega), L.2.1]
      simp only [e_in, bd_r, ite_zo, n3, L.1]
      rw [if_pos (by omega)]
      exact wp_ald (by omega) (wp_ret ⟨rfl, by rw [cj]; exact hk⟩)
    · unfold dir; rw [if_pos (by omega)]; omega
    · unfold dir; rw [if_neg (by omega)]; omega
  · rw [sg2_out (by omega)] at hk
    unfold f_X11_bySight_112
    refine s_len hx hs (fun n2 hn2 => ?_)
    have n3 : (n2 - 1).toInt = n2.toInt - 1 := by rw [i_sub (by omega), L.2.1]
    simp only [e_in, bd_r, ite_zo, n3, L.1]
    rw [if_neg (by omega)]
    exact wp_ret ⟨rfl, by rw [← hk]; exact L.2.2.1⟩
theorem r_bySight {w : Wd} {tab : Nat → Int} {txt : Nat → List Int} {s p b : Int32} (hk : tok tab) (ht : rtab w = tab) (hx : rtx w txt) (hkx : xok txt) :
    Wp (f_X11_bySight s p b w) (fun r w' => lrf w w' ∧ ((bad_p txt s.toInt p.toInt ∧ (w'.1 713 0).toInt = 1) ∨
      (¬ bad_p txt s.toInt p.toInt ∧ (w'.1 713 0).toInt = 0 ∧ ∃ a : Nat, isIdx (scrn tab (txt s.toInt.toNat) (-1)) (txt s.toInt.toNat).length p.toInt a ∧ r.toInt = sg2 tab (txt s.toInt.toNat) (scrn tab (txt s.toInt.toNat) (-1)) (dir b.toInt) 50 (a + dir b.toInt)))) := by
  have L := LIT
  have M := L724
  unfold f_X11_bySight
  obtain ⟨r, e, h⟩ := e_isPlace (s := s) (p := p) hx hkx
  rw [e, bd_r]
  rcases h with ⟨rfl, nb⟩ | ⟨rfl, nb⟩
  · rw [if_neg (by decide)]
    have hp : (0 ≤ s.toInt ∧ s.toInt ≤ 5) ∧ 0 ≤ p.toInt ∧ p.toInt < (txt s.toInt.toNat).length := by
      by_cases z : (0 ≤ s.toInt ∧ s.toInt ≤ 5) ∧ 0 ≤ p.toInt ∧ p.toInt < (txt s.toInt.toNat).length
      · exact z
      · exact absurd z nb
    have h40 := (hkx _ (slot_lt hp.1)).1
    unfold f_X11_bySight_15
    rw [e_holds, bd_r, ite_zo, if_pos rfl]
    refine wp_bd (s_laysOrder (b := -1) hk (th0_t ht) (th0_x hx) hkx hp.1 (by omega)) ?_
    rintro _ w1 ⟨o1, h1⟩
    have O := lrf_0 o1
    rw [L.2.2.1] at h1
    have t1 : rtab w1 = tab := (rtab_fr (o1.1 714 (by decide) (by omega))).trans (th0_t ht)
    have x1 : rtx w1 txt := rtx_fr (th0_x hx) (o1.1 716 (by decide) (by omega)) (o1.1 717 (by decide) (by omega))
    have OL : ∀ j, j < (txt s.toInt.toNat).length → scrn tab (txt s.toInt.toNat) (-1) j < (txt s.toInt.toNat).length := Od_lt 13
    have h2 : ordR w1 (txt s.toInt.toNat).length (scrn tab (txt s.toInt.toNat) (-1)) := h1
    obtain ⟨i0, hi0, hi2⟩ := Od_sur (n := (txt s.toInt.toNat).length) (v := LV tab (txt s.toInt.toNat) (fr tab (txt s.toInt.toNat) (bsF tab (txt s.toInt.toNat) (-1)) (txt s.toInt.toNat).length)) 13 p.toInt.toNat (by omega)
    have hi3 : scrn tab (txt s.toInt.toNat) (-1) i0 = p.toInt.toNat := hi2
    unfold f_X11_bySight_32
    rw [FUv]
    refine wp_loop (fun σ : Int32 × Int32 × Int32 × Int32 × Wd => σ.1 = s ∧ σ.2.1 = p ∧ σ.2.2.1 = b ∧ σ.2.2.2.2 = w1 ∧ 0 ≤ σ.2.2.2.1.toInt ∧ σ.2.2.2.1.toInt < (txt s.toInt.toNat).length ∧ ∀ k : Nat, (k : Int) < σ.2.2.2.1.toInt → (scrn tab (txt s.toInt.toNat) (-1) k : Int) ≠ p.toInt)
      (fun σ => (42 - σ.2.2.2.1.toInt).toNat) ?_ 100000 _ ⟨rfl, rfl, rfl, rfl, by dsimp only; omega, by dsimp only; omega, fun k hk2 => by dsimp only at hk2; omega⟩ (by dsimp only; omega)
    rintro rc ⟨s', p', b', j, u⟩ ⟨rfl, rfl, rfl, rfl, hj, hj2, hno⟩ ih
    dsimp only at *
    have cj := h2 j.toInt.toNat (by omega)
    unfold g_X11_bySight_32
    refine wp_ald (by omega) ?_
    refine wp_ifeq (fun c => ?_) (fun c => wp_add (by omega) (fun z hz => ih (s', p', b', z, u) ⟨rfl, rfl, rfl, rfl, by dsimp only; omega, ?_, fun k hk2 => ?_⟩ (by dsimp only; omega)))
    · have ID : isIdx (scrn tab (txt s'.toInt.toNat) (-1)) (txt s'.toInt.toNat).length p'.toInt j.toInt.toNat := ⟨by omega, by omega, fun k hk2 => hno k (by omega)⟩
      have main : ∀ z : Int32, z.toInt = j.toInt + dir b'.toInt → Wp (f_X11_bySight_63 s' b' z u) (fun r w' => lrf w w' ∧ ((bad_p txt s'.toInt p'.toInt ∧ (w'.1 713 0).toInt = 1) ∨
          (¬ bad_p txt s'.toInt p'.toInt ∧ (w'.1 713 0).toInt = 0 ∧ ∃ a : Nat, isIdx (scrn tab (txt s'.toInt.toNat) (-1)) (txt s'.toInt.toNat).length p'.toInt a ∧ r.toInt = sg2 tab (txt s'.toInt.toNat) (scrn tab (txt s'.toInt.toNat) (-1)) (dir b'.toInt) 50 (a + dir b'.toInt)))) := by
        intro z hz
        have hd : dir b'.toInt = 1 ∨ dir b'.toInt = -1 := by unfold dir; split <;> omega
        refine (s_sightR t1 x1 hkx hp.1 h2 OL (by omega)).mono ?_
        rintro r _ ⟨rfl, hr⟩
        refine ⟨O.1, Or.inr ⟨nb, by rw [O.2]; exact L.1, j.toInt.toNat, ID, ?_⟩⟩
        rw [hr, hz, show ((j.toInt.toNat : Nat) : Int) = j.toInt by omega]
      unfold f_X11_bySight_60
      refine wp_ifeq (fun d => wp_add (by omega) (fun z hz => main z ?_)) (fun d => wp_add (by omega) (fun z hz => main z ?_))
      · unfold dir; rw [if_pos (by omega)]; omega
      · unfold dir; rw [if_neg (by omega)]; omega
    · dsimp only
      by_cases e2 : z.toInt < (txt s'.toInt.toNat).length
      · exact e2
      · by_cases e3 : i0 = j.toInt.toNat
        · subst e3; omega
        · have := hno i0 (by omega)
          omega
    · dsimp only at hk2
      by_cases e2 : (k : Int) = j.toInt
      · rw [show k = j.toInt.toNat by omega]; omega
      · exact hno k (by omega)
  · rw [if_pos rfl]
    unfold f_X11_bySight_15
    rw [e_holds, bd_r, ite_zo, if_neg (by decide)]
    exact wp_ret ⟨rcg_fld (Or.inl rfl), Or.inl ⟨nb, by rw [th0_v]; exact L.2.1⟩⟩
