/-! ===== by sense ===== -/
/-- the first edge from a place on -/
def sn (tab : Nat → Int) (l : List Int) (D : Int) : Nat → Int → Int
  | 0, _ => -1
  | n + 1, i => if 0 ≤ i ∧ i ≤ l.length then (if ied tab l i then i else sn tab l D n (i + D)) else -1
/-- where it goes from a place -/
def sns (tab : Nat → Int) (l : List Int) (D p : Int) : Int := if sn tab l D 50 (p + D) = -1 then p else sn tab l D 50 (p + D)
theorem sn_out {tab : Nat → Int} {l : List Int} {D i : Int} {n : Nat} (h : ¬ (0 ≤ i ∧ i ≤ l.length)) : sn tab l D n i = -1 := by
  cases n with
  | zero => rfl
  | succ n => unfold sn; rw [if_neg h]
theorem sn_in {tab : Nat → Int} {l : List Int} {D i : Int} {n : Nat} (h : 0 ≤ i ∧ i ≤ l.length) : sn tab l D (n + 1) i = if ied tab l i then i else sn tab l D n (i + D) := by
  rw [sn, if_pos h]
def mu (D i : Int) : Int := if D = 1 then 41 - i else i + 1
theorem mu_step {D i : Int} (hD : D = 1 ∨ D = -1) (h : 0 ≤ i ∧ i ≤ 40) : 0 < mu D i ∧ mu D (i + D) = mu D i - 1 := by
  rcases hD with rfl | rfl
  · unfold mu; simp only [if_true]; omega
  · unfold mu; simp only [show ¬ ((-1 : Int) = 1) by decide, if_false]; omega
theorem mu_bd {D i : Int} (hD : D = 1 ∨ D = -1) (h : -1 ≤ i ∧ i ≤ 41) : 0 ≤ mu D i ∧ mu D i ≤ 42 := by
  rcases hD with rfl | rfl
  · unfold mu; simp only [if_true]; omega
  · unfold mu; simp only [show ¬ ((-1 : Int) = 1) by decide, if_false]; omega
theorem s_sense {w : Wd} {p n st i : Int32} {m : Int64} {tab : Nat → Int} {l : List Int} {D : Int} (hD : D = 1 ∨ D = -1) (hst : st.toInt = D) (hm : clb tab l m) (hn : n.toInt = l.length) (h40 : l.length ≤ 40) (hp : 0 ≤ p.toInt ∧ p.toInt ≤ l.length) (hi : i.toInt = p.toInt + D) :
    Wp (f_X10_bySense_50 p n m st i w) (fun r w' => w = w' ∧ ∃ x : Int32, r = .inr x ∧ x.toInt = sns tab l D p.toInt) := by
  have L := LIT
  unfold f_X10_bySense_50 sns
  rw [FUv, ← hi]
  have b0 := mu_bd (i := i.toInt) hD (by omega)
  refine wp_loop (fun σ : Int32 × Int32 × Int64 × Int32 × Int32 × Wd => σ.1 = p ∧ σ.2.1 = n ∧ σ.2.2.1 = m ∧ σ.2.2.2.1 = st ∧ σ.2.2.2.2.2 = w ∧ -1 ≤ σ.2.2.2.2.1.toInt ∧ σ.2.2.2.2.1.toInt ≤ 41 ∧ ∃ k : Nat, sn tab l D k σ.2.2.2.2.1.toInt = sn tab l D 50 i.toInt ∧ mu D σ.2.2.2.2.1.toInt ≤ k)
      (fun σ => (mu D σ.2.2.2.2.1.toInt).toNat) ?_ 100000 _ ⟨rfl, rfl, rfl, rfl, rfl, by dsimp only; omega, by dsimp only; omega, 50, rfl, by dsimp only; omega⟩ (by dsimp only; omega)
  rintro rc ⟨p', n', m', st', j, u⟩ ⟨rfl, rfl, rfl, rfl, rfl, hj, hj2, k, hk, hk2⟩ ih
  dsimp only at hj hj2 hk hk2 hst hn hi hp hm ⊢
  unfold g_X10_bySense_50
  have out : ¬ (0 ≤ j.toInt ∧ j.toInt ≤ l.length) → Wp (some ((Sum.inr p' : Nat ⊕ Int32), u)) (fun r w' => u = w' ∧ ∃ x : Int32, r = .inr x ∧ x.toInt = if sn tab l D 50 i.toInt = -1 then p'.toInt else sn tab l D 50 i.toInt) := by
    intro q
    rw [sn_out q] at hk
    refine wp_ret ⟨rfl, p', rfl, ?_⟩
    rw [if_pos hk.symm]
  refine wp_iflt (fun q => out (by omega)) (fun q => ?_)
  refine wp_iflt (fun q2 => out (by omega)) (fun q2 => ?_)
  have hr : 0 ≤ j.toInt ∧ j.toInt ≤ l.length := by omega
  have ms := mu_step hD (i := j.toInt) (by omega)
  obtain ⟨k', rfl⟩ : ∃ k', k = k' + 1 := ⟨k - 1, by omega⟩
  rw [sn_in hr] at hk
  have got : ied tab l j.toInt → Wp (some ((Sum.inr j : Nat ⊕ Int32), u)) (fun r w' => u = w' ∧ ∃ x : Int32, r = .inr x ∧ x.toInt = if sn tab l D 50 i.toInt = -1 then p'.toInt else sn tab l D 50 i.toInt) := by
    intro q
    rw [if_pos q] at hk
    refine wp_ret ⟨rfl, j, rfl, ?_⟩
    rw [← hk, if_neg (by omega)]
  refine wp_ifeq (fun q3 => got (Or.inl (by omega))) (fun q3 => ?_)
  rw [e_isBeginning hm hr.1 (by omega) h40, bd_r, ite_zo]
  refine wp_if (fun q4 => got (Or.inr q4)) (fun q4 => wp_add (by omega) (fun z hz => ?_))
  rw [if_neg (fun c => c.elim (fun e => q3 (by omega)) q4)] at hk
  have hz2 : z.toInt = j.toInt + D := by rw [hz, hst]
  refine ih (p', n', m', st', z, u) ⟨rfl, rfl, rfl, rfl, rfl, by dsimp only; omega, by dsimp only; omega, k', ?_, ?_⟩ ?_
  · dsimp only; rw [hz2]; exact hk
  · dsimp only; rw [hz2, ms.2]; omega
  · dsimp only; rw [hz2, ms.2]; omega
/-- what by sense answers -/
def bad_pl (txt : Nat → List Int) (s p : Int) : Prop := ¬ ((0 ≤ s ∧ s ≤ 5) ∧ 0 ≤ p ∧ p ≤ (txt s.toNat).length)
def dir (b : Int) : Int := if b = 0 then -1 else 1
theorem k_bySense {w : Wd} {tab : Nat → Int} {txt : Nat → List Int} {s p b : Int32} (h : trel w 1 tab) (ho : okall w) (hx : ctx w txt) (hkx : xok txt) :
    Wp (f_X10_bySense s p b w) (fun r w' => w = w' ∧ ((bad_pl txt s.toInt p.toInt ∧ r = .inl 1) ∨ (¬ bad_pl txt s.toInt p.toInt ∧ ∃ x : Int32, r = .inr x ∧ x.toInt = sns tab (txt s.toInt.toNat) (dir b.toInt) p.toInt))) := by
  have L := LIT
  unfold f_X10_bySense f_X10_bySense_42
  simp only [e_textOf, bdx_c]
  refine wp_if (fun hs => ?_) (fun hs => wp_ret ⟨rfl, Or.inl ⟨fun q => hs q.1, rfl⟩⟩)
  have hsN := slot_lt hs
  have K := slot_kd _ hsN
  have Y := hkx _ hsN
  refine wp_bd (s_size (ho _ K.1)) ?_
  rintro n _ ⟨rfl, hn⟩
  rw [hx _ hsN] at hn
  have hn1 : (n + 1).toInt = n.toInt + 1 := by rw [i_add (by omega), L.2.1]
  simp only [e_checkPlace, bdx_c, hn1]
  refine wp_if (fun hp => ?_) (fun hp => wp_ret ⟨rfl, Or.inl ⟨fun q => hp (by omega), rfl⟩⟩)
  have nb : ¬ bad_pl txt s.toInt p.toInt := fun q => q ⟨hs, by omega⟩
  refine wp_bd (s_clusterBreaks h (ho _ K.1) (by rw [hx _ hsN]; exact Y)) ?_
  rintro m _ ⟨rfl, hm⟩
  rw [hx _ hsN] at hm
  refine wp_ifeq (fun q => wp_add (by omega) (fun z hz => ?_)) (fun q => wp_add (by omega) (fun z hz => ?_))
  · have e : dir b.toInt = -1 := by unfold dir; rw [if_pos (by omega)]
    rw [e]
    refine (s_sense (Or.inr rfl) L.2.2.1 hm hn Y.1 (by omega) (by omega)).mono ?_
    rintro r _ ⟨rfl, hr⟩
    exact ⟨rfl, Or.inr ⟨nb, hr⟩⟩
  · have e : dir b.toInt = 1 := by unfold dir; rw [if_neg (by omega)]
    rw [e]
    refine (s_sense (Or.inl rfl) L.2.1 hm hn Y.1 (by omega) (by omega)).mono ?_
    rintro r _ ⟨rfl, hr⟩
    exact ⟨rfl, Or.inr ⟨nb, hr⟩⟩
theorem s_senseR {w : Wd} {p v st i : Int32} {tab : Nat → Int} {txt : Nat → List Int} {D : Int} (hD : D = 1 ∨ D = -1) (hst : D = if st.toInt = 0 then -1 else 1) (ht : rtab w = tab) (hx : rtx w txt) (hkx : xok txt) (hs : 0 ≤ v.toInt ∧ v.toInt ≤ 5)
    (hp : 0 ≤ p.toInt ∧ p.toInt ≤ (txt v.toInt.toNat).length) (hi : i.toInt = p.toInt + D) :
    Wp (f_X11_bySense_50 v p st i w) (fun r w' => w = w' ∧ r.toInt = sns tab (txt v.toInt.toNat) D p.toInt) := by
  have L := LIT
  have h40 := (hkx _ (slot_lt hs)).1
  unfold f_X11_bySense_50 sns
  rw [FUv, ← hi]
  have b0 := mu_bd (i := i.toInt) hD (by omega)
  refine wp_loop (fun σ : Int32 × Int32 × Int32 × Int32 × Wd => σ.1 = v ∧ σ.2.1 = p ∧ σ.2.2.1 = st ∧ σ.2.2.2.2 = w ∧ -1 ≤ σ.2.2.2.1.toInt ∧ σ.2.2.2.1.toInt ≤ 41 ∧ ∃ k : Nat, sn tab (txt v.toInt.toNat) D k σ.2.2.2.1.toInt = sn tab (txt v.toInt.toNat) D 50 i.toInt ∧ mu D σ.2.2.2.1.toInt ≤ k)
      (fun σ => (mu D σ.2.2.2.1.toInt).toNat) ?_ 100000 _ ⟨rfl, rfl, rfl, rfl, by dsimp only; omega, by dsimp only; omega, 50, rfl, by dsimp only; omega⟩ (by dsimp only; omega)
  rintro rc ⟨v', p', st', j, u⟩ ⟨rfl, rfl, rfl, rfl, hj, hj2, k, hk, hk2⟩ ih
  dsimp only at hj hj2 hk hk2 hst hi hp hs hx ht h40 ⊢
  unfold g_X11_bySense_50
  refine s_len hx hs (fun n hn => ?_)
  simp only [e_in, bd_r, ite_zo, L.1]
  refine wp_if (fun hr => ?_) (fun q => ?_)
  · have hr2 : 0 ≤ j.toInt ∧ j.toInt ≤ (txt v'.toInt.toNat).length := by omega
    refine wp_bd (r_isEdge ht hx hkx hs hr2) ?_
    rintro x _ ⟨rfl, rfl⟩
    have ms := mu_step hD (i := j.toInt) (by omega)
    obtain ⟨k', rfl⟩ : ∃ k', k = k' + 1 := ⟨k - 1, by omega⟩
    rw [sn_in hr2] at hk
    rw [ite_zo]
    refine wp_if (fun c => ?_) (fun c => ?_)
    · rw [if_pos c] at hk
      unfold f_X11_bySense_92
      refine s_len hx hs (fun n2 hn2 => ?_)
      simp only [e_in, bd_r, ite_zo, L.1]
      rw [if_pos (by omega)]
      refine wp_ret ⟨rfl, ?_⟩
      rw [← hk, if_neg (by omega)]
    · rw [if_neg c] at hk
      have go : ∀ z : Int32, z.toInt = j.toInt + D → Wp (rc (v', p', st', z, u)) (fun r w' => u = w' ∧ r.toInt = if sn tab (txt v'.toInt.toNat) D 50 i.toInt = -1 then p'.toInt else sn tab (txt v'.toInt.toNat) D 50 i.toInt) := by
        intro z hz
        refine ih (v', p', st', z, u) ⟨rfl, rfl, rfl, rfl, by dsimp only; omega, by dsimp only; omega, k', ?_, ?_⟩ ?_
        · dsimp only; rw [hz]; exact hk
        · dsimp only; rw [hz, ms.2]; omega
        · dsimp only; rw [hz, ms.2]; omega
      refine wp_ifeq (fun q2 => wp_add (by omega) (fun z hz => go z ?_)) (fun q2 => wp_add (by omega) (fun z hz => go z ?_))
      · rw [if_pos (by omega)] at hst; omega
      · rw [if_neg (by omega)] at hst; omega
  · have hno : ¬ (0 ≤ j.toInt ∧ j.toInt ≤ (txt v'.toInt.toNat).length) := by omega
    rw [sn_out hno] at hk
    unfold f_X11_bySense_92
    refine s_len hx hs (fun n2 hn2 => ?_)
    simp only [e_in, bd_r, ite_zo, L.1]
    rw [if_neg (by omega)]
    refine wp_ret ⟨rfl, ?_⟩
    rw [if_pos hk.symm]
theorem r_bySense {w : Wd} {tab : Nat → Int} {txt : Nat → List Int} {s p b : Int32} (ht : rtab w = tab) (hx : rtx w txt) (hkx : xok txt) :
    Wp (f_X11_bySense s p b w) (fun r w' => rcg (fun k => k = 0) (fun _ => False) w w' ∧ ((bad_pl txt s.toInt p.toInt ∧ (w'.1 713 0).toInt = 1) ∨ (¬ bad_pl txt s.toInt p.toInt ∧ (w'.1 713 0).toInt = 0 ∧ r.toInt = sns tab (txt s.toInt.toNat) (dir b.toInt) p.toInt))) := by
  have L := LIT
  have thu : ∀ (u : Wd) (x : Int32), (setI u 713 0 x).1 713 0 = x := fun u x => by rw [setI_at, if_pos (by decide)]
  have tail : ∀ x : Int32, f_X11_bySense_27 s p b x w = if x = 0 then (if b = 0 then f_X11_bySense_48 s p b (p - 1) (setI w 713 0 x) else f_X11_bySense_48 s p b (p + 1) (setI w 713 0 x)) else some (0, setI w 713 0 x) := by
    intro x
    unfold f_X11_bySense_27
    rw [e_holds, bd_r, ite_zo]
  have bad : bad_pl txt s.toInt p.toInt → Wp (f_X11_bySense_26 s p b w) (fun r w' => rcg (fun k => k = 0) (fun _ => False) w w' ∧ ((bad_pl txt s.toInt p.toInt ∧ (w'.1 713 0).toInt = 1) ∨ (¬ bad_pl txt s.toInt p.toInt ∧ (w'.1 713 0).toInt = 0 ∧ r.toInt = sns tab (txt s.toInt.toNat) (dir b.toInt) p.toInt))) := by
    intro q
    unfold f_X11_bySense_26
    rw [tail, if_neg (by decide)]
    exact wp_ret ⟨rcg_fld rfl, Or.inl ⟨q, by rw [thu]; exact L.2.1⟩⟩
  unfold f_X11_bySense
  simp only [e_isSlot, bd_r, ite_zo]
  refine wp_if (fun hs => ?_) (fun hs => bad (fun q => hs q.1))
  refine s_len hx hs (fun n hn => ?_)
  simp only [e_in, bd_r, ite_zo, L.1]
  refine wp_if (fun hp => ?_) (fun hp => bad (fun q => hp (by omega)))
  have nb : ¬ bad_pl txt s.toInt p.toInt := fun q => q ⟨hs, by omega⟩
  have h40 := (hkx _ (slot_lt hs)).1
  rw [tail, if_pos rfl]
  have x2 : rtx (setI w 713 0 0) txt := rtx_fr hx (by funext c; rw [setI_at, if_neg (by omega)]) (by funext c; rw [setI_at, if_neg (by omega)])
  have t2 : rtab (setI w 713 0 0) = tab := (rtab_fr (w := w) (w' := setI w 713 0 0) (by funext c; rw [setI_at, if_neg (by omega)])).trans ht
  unfold f_X11_bySense_48
  refine wp_ifeq (fun q => ?_) (fun q => ?_)
  · have e : dir b.toInt = -1 := by unfold dir; rw [if_pos (by omega)]
    have e1 : (p - 1).toInt = p.toInt + -1 := by rw [i_sub (by omega), L.2.1]; omega
    rw [e]
    refine (s_senseR (Or.inr rfl) (by rw [if_pos (by omega)]) t2 x2 hkx hs (by omega) e1).mono ?_
    rintro r _ ⟨rfl, hr⟩
    exact ⟨rcg_fld rfl, Or.inr ⟨nb, by rw [thu]; exact L.1, hr⟩⟩
  · have e : dir b.toInt = 1 := by unfold dir; rw [if_neg (by omega)]
    have e1 : (p + 1).toInt = p.toInt + 1 := by rw [i_add (by omega), L.2.1]
    rw [e]
    refine (s_senseR (Or.inl rfl) (by rw [if_neg (by omega)]) t2 x2 hkx hs (by omega) e1).mono ?_
    rintro r _ ⟨rfl, hr⟩
    exact ⟨rcg_fld rfl, Or.inr ⟨nb, by rw [thu]; exact L.1, hr⟩⟩
