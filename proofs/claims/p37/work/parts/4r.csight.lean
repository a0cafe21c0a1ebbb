/-! ===== directions: by sight ===== -/
/-- the first one on the screen, from a place on, that begins a cluster -/
def sg2 (tab : Nat → Int) (l : List Int) (o : Nat → Nat) (D : Int) : Nat → Int → Int
  | 0, _ => -1
  | n + 1, i => if 0 ≤ i ∧ i < l.length then (if icl tab l (o i.toNat : Nat) then (o i.toNat : Nat) else sg2 tab l o D n (i + D)) else -1
def isIdx (o : Nat → Nat) (n : Nat) (p : Int) (a : Nat) : Prop := a < n ∧ (o a : Int) = p ∧ ∀ k : Nat, k < a → (o k : Int) ≠ p
theorem isIdx_u {o : Nat → Nat} {n : Nat} {p : Int} {a b : Nat} (h : isIdx o n p a) (g : isIdx o n p b) : a = b := by
  rcases Nat.lt_trichotomy a b with z | z | z
  · exact absurd h.2.1 (g.2.2 a z)
  · exact z
  · exact absurd g.2.1 (h.2.2 b z)
theorem sg2_out {tab : Nat → Int} {l : List Int} {o : Nat → Nat} {D i : Int} {n : Nat} (h : ¬ (0 ≤ i ∧ i < l.length)) : sg2 tab l o D n i = -1 := by
  cases n with
  | zero => rfl
  | succ n => unfold sg2; rw [if_neg h]
theorem sg2_in {tab : Nat → Int} {l : List Int} {o : Nat → Nat} {D i : Int} {n : Nat} (h : 0 ≤ i ∧ i < l.length) : sg2 tab l o D (n + 1) i = if icl tab l (o i.toNat : Nat) then ((o i.toNat : Nat) : Int) else sg2 tab l o D n (i + D) := by
  rw [sg2, if_pos h]
theorem s_sight {w : Wd} {m : Int64} {st i : Int32} {tab : Nat → Int} {l : List Int} {o : Nat → Nat} {D : Int} (hD : D = 1 ∨ D = -1) (hst : st.toInt = D) (ho : okall w) (hm : clb tab l m) (h40 : l.length ≤ 40) (hC : ordC w l.length o) (hol : ∀ j, j < l.length → o j < l.length) (hi : -1 ≤ i.toInt ∧ i.toInt ≤ 41) :
    Wp (f_X10_bySight_68 671 m st i w) (fun r w' => w = w' ∧ ∃ x : Int32, r = .inr x ∧ x.toInt = sg2 tab l o D 50 i.toInt) := by
  have L := LIT
  have K := KLR
  unfold f_X10_bySight_68
  rw [FUv]
  have b0 := mu_bd (i := i.toInt) hD hi
  refine wp_loop (fun σ : Nat × Int64 × Int32 × Int32 × Wd => σ.1 = 671 ∧ σ.2.1 = m ∧ σ.2.2.1 = st ∧ σ.2.2.2.2 = w ∧ -1 ≤ σ.2.2.2.1.toInt ∧ σ.2.2.2.1.toInt ≤ 41 ∧ ∃ k : Nat, sg2 tab l o D k σ.2.2.2.1.toInt = sg2 tab l o D 50 i.toInt ∧ mu D σ.2.2.2.1.toInt ≤ k)
      (fun σ => (mu D σ.2.2.2.1.toInt).toNat) ?_ 100000 _ ⟨rfl, rfl, rfl, rfl, hi.1, hi.2, 50, rfl, by dsimp only; omega⟩ (by dsimp only; omega)
  rintro rc ⟨q0, m', st', j, u⟩ ⟨rfl, rfl, rfl, rfl, hj, hj2, k, hk, hk2⟩ ih
  dsimp only at *
  unfold g_X10_bySight_68
  have out : ¬ (0 ≤ j.toInt ∧ j.toInt < l.length) → Wp (some ((Sum.inr (-1 : Int32) : Nat ⊕ Int32), u)) (fun r w' => u = w' ∧ ∃ x : Int32, r = .inr x ∧ x.toInt = sg2 tab l o D 50 i.toInt) := by
    intro q
    rw [sg2_out q] at hk
    exact wp_ret ⟨rfl, -1, rfl, by rw [← hk]; exact L.2.2.1⟩
  refine wp_iflt (fun q => out (by omega)) (fun q => ?_)
  refine wp_bd (s_size (ho _ K.2.2.2.2.2.2.2.2.2.2)) ?_
  rintro n _ ⟨rfl, hn⟩
  rw [hC.1] at hn
  refine wp_ifle (fun q2 => out (by omega)) (fun q2 => ?_)
  have hr : 0 ≤ j.toInt ∧ j.toInt < l.length := by omega
  have ms := mu_step hD (i := j.toInt) (by omega)
  obtain ⟨k', rfl⟩ : ∃ k', k = k' + 1 := ⟨k - 1, by omega⟩
  rw [sg2_in hr] at hk
  have cj := hC.2 j.toInt.toNat (by omega)
  rw [show ((j.toInt.toNat : Nat) : Int) = j.toInt by omega] at cj
  have ol := hol j.toInt.toNat (by omega)
  refine wp_bd (s_get (ho _ K.2.2.2.2.2.2.2.2.2.2)) ?_
  rintro x _ ⟨rfl, hx⟩
  rw [cj] at hx
  rw [e_isBeginning hm (by omega) (by omega) h40, bd_r, ite_zo, hx]
  refine wp_if (fun q4 => wp_ret ⟨rfl, x, rfl, ?_⟩) (fun q4 => wp_add (by omega) (fun z hz => ?_))
  · rw [if_pos q4] at hk; rw [hx]; exact hk
  rw [if_neg q4] at hk
  have hz2 : z.toInt = j.toInt + D := by rw [hz, hst]
  refine ih (671, m', st', z, u) ⟨rfl, rfl, rfl, rfl, by dsimp only; omega, by dsimp only; omega, k', ?_, ?_⟩ ?_
  · dsimp only; rw [hz2]; exact hk
  · dsimp only; rw [hz2, ms.2]; omega
  · dsimp only; rw [hz2, ms.2]; omega
theorem k_bySight {w : Wd} {tab : Nat → Int} {txt : Nat → List Int} {s p b : Int32} (hk : tok tab) (h : trel w 1 tab) (ho : okall w) (hx : ctx w txt) (hkx : xok txt) :
    Wp (f_X10_bySight s p b w) (fun r w' => lv w w' ∧ ((bad_p txt s.toInt p.toInt ∧ r = .inl 1) ∨
      (¬ bad_p txt s.toInt p.toInt ∧ ∃ (a : Nat) (x : Int32), r = .inr x ∧ isIdx (scrn tab (txt s.toInt.toNat) (-1)) (txt s.toInt.toNat).length p.toInt a ∧ x.toInt = sg2 tab (txt s.toInt.toNat) (scrn tab (txt s.toInt.toNat) (-1)) (dir b.toInt) 50 (a + dir b.toInt)))) := by
  have L := LIT
  unfold f_X10_bySight
  simp only [e_textOf, bdx_c]
  refine wp_if (fun hs => ?_) (fun hs => wp_ret ⟨lv_rf ho, Or.inl ⟨fun q => hs q.1, rfl⟩⟩)
  have hsN := slot_lt hs
  have K := slot_kd _ hsN
  have Y : lok40 (txt s.toInt.toNat) := hkx _ hsN
  have h40 := Y.1
  refine wp_bd (s_size (ho _ K.1)) ?_
  rintro n _ ⟨rfl, hn⟩
  rw [hx _ hsN] at hn
  simp only [e_checkPlace, bdx_c]
  refine wp_if (fun hp => ?_) (fun hp => wp_ret ⟨lv_rf ho, Or.inl ⟨fun q => hp (by omega), rfl⟩⟩)
  have nb : ¬ bad_p txt s.toInt p.toInt := fun q => q ⟨hs, by omega⟩
  rw [bd_bd]
  refine wp_bd (s_look (b := -1) hk h ho K.1 (by omega) (hx _ hsN) Y (by omega)) ?_
  rintro r w1 ⟨rfl, V1, e1⟩
  rw [L.2.2.1] at e1
  have rt : rl w1 (623 + 2 * s.toInt.toNat) = txt s.toInt.toNat := (lv_x V1 (by omega)).trans (hx _ hsN)
  refine wp_bd (s_clusterBreaks (lv_t hk V1 h) (V1.2 _ K.1) (by rw [rt]; exact Y)) ?_
  rintro m _ ⟨rfl, hm⟩
  rw [rt] at hm
  have OL : ∀ j, j < (txt s.toInt.toNat).length → scrn tab (txt s.toInt.toNat) (-1) j < (txt s.toInt.toNat).length := Od_lt 13
  have main : ∀ st : Int32, st.toInt = dir b.toInt → Wp (f_X10_bySight_55 p 671 m st w1) (fun r w' => lv w w' ∧ ((bad_p txt s.toInt p.toInt ∧ r = .inl 1) ∨
      (¬ bad_p txt s.toInt p.toInt ∧ ∃ (a : Nat) (x : Int32), r = .inr x ∧ isIdx (scrn tab (txt s.toInt.toNat) (-1)) (txt s.toInt.toNat).length p.toInt a ∧ x.toInt = sg2 tab (txt s.toInt.toNat) (scrn tab (txt s.toInt.toNat) (-1)) (dir b.toInt) 50 (a + dir b.toInt)))) := by
    intro st hst
    have hD : dir b.toInt = 1 ∨ dir b.toInt = -1 := by unfold dir; split <;> omega
    unfold f_X10_bySight_55
    refine wp_bd (s_placeOf (V1.2 _ KLR.2.2.2.2.2.2.2.2.2.2)) ?_
    rintro x _ ⟨rfl, hx2⟩
    rw [e1.1] at hx2
    rcases hx2 with ⟨x0, x1, x2, x3⟩ | ⟨x0, x1⟩
    · have cx := e1.2 x.toInt.toNat (by omega)
      rw [show ((x.toInt.toNat : Nat) : Int) = x.toInt by omega, x2] at cx
      have ID : isIdx (scrn tab (txt s.toInt.toNat) (-1)) (txt s.toInt.toNat).length p.toInt x.toInt.toNat := ⟨by omega, cx.symm, fun k hk2 => by
        have := x3 k (by omega)
        rw [e1.2 k (by omega)] at this; exact this⟩
      refine wp_add (by omega) (fun z hz => ?_)
      refine (s_sight (i := z) hD hst V1.2 hm h40 e1 OL (by omega)).mono ?_
      rintro r _ ⟨rfl, y, hy, hy2⟩
      refine ⟨V1, Or.inr ⟨nb, x.toInt.toNat, y, hy, ID, ?_⟩⟩
      rw [hy2, hz, hst, show ((x.toInt.toNat : Nat) : Int) = x.toInt by omega]
    · obtain ⟨i, hi, hi2⟩ := Od_sur (n := (txt s.toInt.toNat).length) (v := LV tab (txt s.toInt.toNat) (fr tab (txt s.toInt.toNat) (bsF tab (txt s.toInt.toNat) (-1)) (txt s.toInt.toNat).length)) 13 p.toInt.toNat (by omega)
      have := x1 i hi
      rw [e1.2 i hi] at this
      exact absurd (show ((scrn tab (txt s.toInt.toNat) (-1) i : Nat) : Int) = p.toInt by unfold scrn; rw [hi2]; omega) this
  refine wp_ifeq (fun c => main (-1) ?_) (fun c => main 1 ?_)
  · unfold dir; rw [if_pos (by omega)]; exact L.2.2.1
  · unfold dir; rw [if_neg (by omega)]; exact L.2.1
