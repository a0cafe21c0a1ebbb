/-! ===== breaks ===== -/
def bad_w (x : Int) : Prop := ¬ (0 ≤ x ∧ x ≤ 2)
def bad_s1 (x : Int) : Prop := ¬ (0 ≤ x ∧ x ≤ 5)
theorem k_breaks {w : Wd} {tab : Nat → Int} {txt : Nat → List Int} {s x : Int32} (hk : tok tab) (h : trel w 1 tab) (ho : okall w) (hx : ctx w txt) (hkx : xok txt) :
    Wp (f_X10_breaks s x w) (fun r w' => w = w' ∧ ((bad_s1 s.toInt ∧ r = .inl 1) ∨ (¬ bad_s1 s.toInt ∧ bad_w x.toInt ∧ r = .inl 2) ∨
      (¬ bad_s1 s.toInt ∧ ¬ bad_w x.toInt ∧ ∃ m : Int64, r = .inr m ∧ bits m (fun k => 0 < k ∧ k < (txt s.toInt.toNat).length ∧ brk tab (txt s.toInt.toNat) x.toInt k)))) := by
  have L := LIT
  unfold f_X10_breaks f_X10_breaks_43
  simp only [e_textOf, e_isWithin, bd_r, e_checkArgument, bdx_c]
  refine wp_if (fun hs => ?_) (fun hs => wp_ret ⟨rfl, Or.inl ⟨hs, rfl⟩⟩)
  have nb1 : ¬ bad_s1 s.toInt := fun q => q hs
  rw [L.1, L.2.2.2.1]
  refine wp_if (fun hw => ?_) (fun hw => wp_ret ⟨rfl, Or.inr (Or.inl ⟨nb1, hw, rfl⟩)⟩)
  have nb2 : ¬ bad_w x.toInt := fun q => q hw
  have hsN := slot_lt hs
  have K := slot_kd _ hsN
  have Y : lok40 (txt s.toInt.toNat) := hkx _ hsN
  refine wp_ifeq (fun q => ?_) (fun q => ?_)
  · refine wp_bd (s_clusterBreaks h (ho _ K.1) (by rw [hx _ hsN]; exact Y)) ?_
    rintro m _ ⟨rfl, hm⟩
    rw [hx _ hsN] at hm
    refine wp_ret ⟨rfl, Or.inr (Or.inr ⟨nb1, nb2, m, rfl, fun k hk => ?_⟩)⟩
    rw [hm k hk]
    constructor
    · rintro ⟨a, b, c⟩; exact ⟨a, b, c, Or.inl (by omega)⟩
    · rintro ⟨a, b, c, _⟩; exact ⟨a, b, c⟩
  · have go : ∀ f : Int32, (f.toInt = 0 ∧ x.toInt = 1) ∨ (f.toInt = 1 ∧ x.toInt = 2) → Wp (bd (f_X0_wordBreaks (623 + 2 * s.toInt.toNat) f w) (fun y2 w1 => some ((Sum.inr y2 : Nat ⊕ Int64), w1))) (fun r w' => w = w' ∧ ((bad_s1 s.toInt ∧ r = .inl 1) ∨ (¬ bad_s1 s.toInt ∧ bad_w x.toInt ∧ r = .inl 2) ∨
      (¬ bad_s1 s.toInt ∧ ¬ bad_w x.toInt ∧ ∃ m : Int64, r = .inr m ∧ bits m (fun k => 0 < k ∧ k < (txt s.toInt.toNat).length ∧ brk tab (txt s.toInt.toNat) x.toInt k)))) := by
      intro f hf
      refine wp_bd (s_wordBreaks hk h ho K.1 (hx _ hsN) Y hf) ?_
      rintro m _ ⟨rfl, hm⟩
      exact wp_ret ⟨rfl, Or.inr (Or.inr ⟨nb1, nb2, m, rfl, hm⟩)⟩
    exact wp_ifeq (fun q2 => go 1 (Or.inr ⟨L.2.1, by omega⟩)) (fun q2 => go 0 (Or.inl ⟨L.1, by omega⟩))
/-- the reference's own cluster ahead -/
theorem r_clusterAhead {w : Wd} {tab : Nat → Int} {txt : Nat → List Int} {s p : Int32} (ht : rtab w = tab) (hx : rtx w txt) (hkx : xok txt) (hs : 0 ≤ s.toInt ∧ s.toInt ≤ 5) (hp : 1 ≤ p.toInt ∧ p.toInt < (txt s.toInt.toNat).length) :
    Wp (f_X11_clusterAhead s p w) (fun x w' => w = w' ∧ x.toInt = ca tab (txt s.toInt.toNat) (p.toInt.toNat - 1)) := by
  have L := LIT
  have h40 := (hkx _ (slot_lt hs)).1
  unfold f_X11_clusterAhead
  refine wp_sub (by omega) (fun i hi => ?_)
  unfold f_X11_clusterAhead_4
  rw [FUv]
  refine wp_loop (fun σ : Int32 × Int32 × Wd => σ.1 = s ∧ σ.2.2 = w ∧ 0 ≤ σ.2.1.toInt ∧ σ.2.1.toInt < (txt s.toInt.toNat).length ∧ ca tab (txt s.toInt.toNat) σ.2.1.toInt.toNat = ca tab (txt s.toInt.toNat) (p.toInt.toNat - 1))
    (fun σ => σ.2.1.toInt.toNat) ?_ 100000 _ ⟨rfl, rfl, by dsimp only; omega, by dsimp only; omega, by dsimp only; rw [show i.toInt.toNat = p.toInt.toNat - 1 by omega]⟩ (by dsimp only; omega)
  rintro rc ⟨s', j, u⟩ ⟨rfl, rfl, hj, hj2, hc⟩ ih
  dsimp only at hj hj2 hc ht hx hs hp h40 ⊢
  unfold g_X11_clusterAhead_4
  refine wp_bd (r_isCluster ht hx hkx hs ⟨hj, hj2⟩) ?_
  rintro x _ ⟨rfl, rfl⟩
  rw [ite_zo]
  refine wp_if (fun c => wp_ret ⟨rfl, ?_⟩) (fun c => wp_add (by omega) (fun y hy => ?_))
  · by_cases z : j.toInt = 0
    · rw [← hc, show j.toInt.toNat = 0 by omega]; unfold ca; exact z
    · obtain ⟨n, hn⟩ : ∃ n, j.toInt.toNat = n + 1 := ⟨j.toInt.toNat - 1, by omega⟩
      rw [← hc, hn, ca, if_pos (by rw [← hn, show ((j.toInt.toNat : Nat) : Int) = j.toInt by omega]; exact c)]
      omega
  · have z : j.toInt ≠ 0 := fun e => c (Or.inl e)
    have hy3 : y.toInt = j.toInt - 1 := by omega
    refine ih (s', y, u) ⟨rfl, rfl, by dsimp only; omega, by dsimp only; omega, ?_⟩ (by dsimp only; omega)
    dsimp only
    obtain ⟨n, hn⟩ : ∃ n, j.toInt.toNat = n + 1 := ⟨j.toInt.toNat - 1, by omega⟩
    rw [hn, ca, if_neg (by rw [← hn, show ((j.toInt.toNat : Nat) : Int) = j.toInt by omega]; exact c)] at hc
    rw [show y.toInt.toNat = n by omega]; exact hc
