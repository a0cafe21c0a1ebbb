/-! ===== by sense ===== -/
/-- the first edge from a place on -/
def sn (tab : Nat → Int) (l : List Int) (D : Int) : Nat → Int → Int
  | 0, _ => -1
  | n + 1, i => if 0 ≤ i ∧ i ≤ l.length then (if ied tab l i then i else sn tab l D n (i + D)) else -1
/-- where it goes from a place -/
def sns (tab : Nat → Int) (l : List Int) (D p : Int) : Int := if sn tab l D 50 (p + D) = -1 then p else sn tab l D 50 (p + D)
theorem sn_out {tab : Nat → Int} {l : List Int} {D i : Int} {n : Nat} (h : ¬ (0 ≤ i ∧ i ≤ l.length)) : sn tab l D n i = -1 := by
  cases n with
  | zero => rfl
  | succ n => unfold sn; rw [if_neg h]
theorem sn_in {tab : Nat → Int} {l : List Int} {D i : Int} {n : Nat} (h : 0 ≤ i ∧ i ≤ l.length) : sn tab l D (n + 1) i = if ied tab l i then i else sn tab l D n (i + D) := by
  rw [sn, if_pos h]
def mu (D i : Int) : Int := if D = 1 then 41 - i else i + 1
theorem mu_step {D i : Int} (hD : D = 1 ∨ D = -1) (h : 0 ≤ i ∧ i ≤ 40) : 0 < mu D i ∧ mu D (i + D) = mu D i - 1 := by
  rcases hD with rfl | rfl
  · unfold mu; simp only [if_true]; omega
  · unfold mu; simp only [show ¬ ((-1 : Int) = 1) by decide, if_false]; omega
theorem mu_bd {D i : Int} (hD : D = 1 ∨ D = -1) (h : -1 ≤ i ∧ i ≤ 41) : 0 ≤ mu D i ∧ mu D i ≤ 42 := by
  rcases hD with rfl | rfl
  · unfold mu; simp only [if_true]; omega
  · unfold mu; simp only [show ¬ ((-1 : Int) = 1) by decide, if_false]; omega
theorem s_sense {w : Wd} {p n st i : Int32} {m : Int64} {tab : Nat → Int} {l : List Int} {D : Int} (hD : D = 1 ∨ D = -1) (hst : st.toInt = D) (hm : clb tab l m) (hn : n.toInt = l.length) (h40 : l.length ≤ 40) (hp : 0 ≤ p.toInt ∧ p.toInt ≤ l.length) (hi : i.toInt = p.toInt + D) :
    Wp (f_X10_bySense_50 p n m st i w) (fun r w' => w = w' ∧ ∃ x : Int32, r = .inr x ∧ x.toInt = sns tab l D p.toInt) := by
  have L := LIT
  unfold f_X10_bySense_50 sns
  rw [FUv, ← hi]
  have b0 := mu_bd (i := i.toInt) hD (by omega)
  refine wp_loop (fun σ : Int32 × Int32 × Int64 × Int32 × Int32 × Wd => σ.1 = p ∧ σ.2.1 = n ∧ σ.2.2.1 = m ∧ σ.2.2.2.1 = st ∧ σ.2.2.2.2.2 = w ∧ -1 ≤ σ.2.2.2.2.1.toInt ∧ σ.2.2.2.2.1.toInt ≤ 41 ∧ ∃ k : Nat, sn tab l D k σ.2.2.2.2.1.toInt = sn tab l D 50 i.toInt ∧ mu D σ.2.2.2.2.1.toInt ≤ k)
      (fun σ => (mu D σ.2.2.2.2.1.toInt).toNat) ?_ 100000 _ ⟨rfl, rfl, rfl, rfl, rfl, by dsimp only; omega, by dsimp only; omega, 50, rfl, by dsimp only; omega⟩ (by dsimp only; omega)
  rintro rc ⟨p', n', m', st', j, u⟩ ⟨rfl, rfl, rfl, rfl, rfl, hj, hj2, k, hk, hk2⟩ ih
  dsimp only at hj hj2 hk hk2 hst hn hi hp hm ⊢
  unfold g_X10_bySense_50
  have out : ¬ (0 ≤ j.toInt ∧ j.toInt ≤ l.length) → Wp (some ((Sum.inr p' : Nat ⊕ Int32), u)) (fun r w' => u = w' ∧ ∃ x : Int32, r = .inr x ∧ x.toInt = if sn tab l D 50 i.toInt = -1 then p'.toInt else sn tab l D 50 i.toInt) := by
    intro q
    rw [sn_out q] at hk
    refine wp_ret ⟨rfl, p', rfl, ?_⟩
    rw [if_pos hk.symm]
  refine wp_iflt (fun q => out (by omega)) (fun q => ?_)
  refine wp_iflt (fun q2 => out (by omega)) (fun q2 => ?_)
  have hr : 0 ≤ j.toInt ∧ j.toInt ≤ l.length := by omega
  have ms := mu_step hD (i := j.toInt) (by omega)
  obtain ⟨k', rfl⟩ : ∃ k', k = k' + 1 := ⟨k - 1, by omega⟩
  rw [sn_in hr] at hk
  have got : ied tab l j.toInt → Wp (some ((Sum.inr j : Nat ⊕ Int32), u)) (fun r w' => u = w' ∧ ∃ x : Int32, r = .inr x ∧ x.toInt = if sn tab l D 50 i.toInt = -1 then p'.toInt else sn tab l D 50 i.toInt) := by
    intro q
    rw [if_pos q] at hk
    refine wp_ret ⟨rfl, j, rfl, ?_⟩
    rw [← hk, if_neg (by omega)]
  refine wp_ifeq (fun q3 => got (Or.inl (by omega))) (fun q3 => ?_)
  rw [e_isBeginning hm hr.1 (by omega) h40, bd_r, ite_zo]
  refine wp_if (fun q4 => got (Or.inr q4)) (fun q4 => wp_add (by omega) (fun z hz => ?_))
  rw [if_neg (fun c => c.elim (fun e => q3 (by omega)) q4)] at hk
  have hz2 : z.toInt = j.toInt + D := by rw [hz, hst]
  refine ih (p', n', m', st', z, u) ⟨rfl, rfl, rfl, rfl, rfl, by dsimp only; omega, by dsimp only; omega, k', ?_, ?_⟩ ?_
  · dsimp only; rw [hz2]; exact hk
  · dsimp only; rw [hz2, ms.2]; omega
  · dsimp only; rw [hz2, ms.2]; omega
/-- what by sense answers -/
def bad_pl (txt : Nat → List Int) (s p : Int) : Prop := ¬ ((0 ≤ s ∧ s ≤ 5) ∧ 0 ≤ p ∧ p ≤ (txt s.toNat).length)
def dir (b : Int) : Int := if b = 0 then -1 else 1
theorem k_bySense {w : Wd} {tab : Nat → Int} {txt : Nat → List Int} {s p b : Int32} (h : trel w 1 tab) (ho : okall w) (hx : ctx w txt) (hkx : xok txt) :
    Wp (f_X10_bySense s p b w) (fun r w' => w = w' ∧ ((bad_pl txt s.toInt p.toInt ∧ r = .inl 1) ∨ (¬ bad_pl txt s.toInt p.toInt ∧ ∃ x : Int32, r = .inr x ∧ x.toInt = sns tab (txt s.toInt.toNat) (dir b.toInt) p.toInt))) := by
  have L := LIT
  unfold f_X10_bySense f_X10_bySense_42
  simp only [e_textOf, bdx_c]
  refine wp_if (fun hs => ?_) (fun hs => wp_ret ⟨rfl, Or.inl ⟨fun q => hs q.1, rfl⟩⟩)
  have hsN := slot_lt hs
  have K := slot_kd _ hsN
  have Y := hkx _ hsN
  refine wp_bd (s_size (ho _ K.1)) ?_
  rintro n _ ⟨rfl, hn⟩
  rw [hx _ hsN] at hn
  have hn1 : (n + 1).toInt = n.toInt + 1 := by rw [i_add (by omega), L.2.1]
  simp only [e_checkPlace, bdx_c, hn1]
  refine wp_if (fun hp => ?_) (fun hp => wp_ret ⟨rfl, Or.inl ⟨fun q => hp (by omega), rfl⟩⟩)
  have nb : ¬ bad_pl txt s.toInt p.toInt := fun q => q ⟨hs, by omega⟩
  refine wp_bd (s_clusterBreaks h (ho _ K.1) (by rw [hx _ hsN]; exact Y)) ?_
  rintro m _ ⟨rfl, hm⟩
  rw [hx _ hsN] at hm
  refine wp_ifeq (fun q => wp_add (by omega) (fun z hz => ?_)) (fun q => wp_add (by omega) (fun z hz => ?_))
  · have e : dir b.toInt = -1 := by unfold dir; rw [if_pos (by omega)]
    rw [e]
    refine (s_sense (Or.inr rfl) L.2.2.1 hm hn Y.1 (by omega) (by omega)).mono ?_
    rintro r _ ⟨rfl, hr⟩
    exact ⟨rfl, Or.inr ⟨nb, hr⟩⟩
  · have e : dir b.toInt = 1 := by unfold dir; rw [if_neg (by omega)]
    rw [e]
    refine (s_sense (Or.inl rfl) L.2.1 hm hn Y.1 (by omega) (by omega)).mono ?_
    rintro r _ ⟨rfl, hr⟩
    exact ⟨rfl, Or.inr ⟨nb, hr⟩⟩
