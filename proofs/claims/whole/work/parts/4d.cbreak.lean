/-! ===== breaks ===== -/
def bad_w (x : Int) : Prop := ¬ (0 ≤ x ∧ x ≤ 2)
def bad_s1 (x : Int) : Prop := ¬ (0 ≤ x ∧ x ≤ 5)
theorem k_breaks {w : Wd} {tab : Nat → Int} {txt : Nat → List Int} {s x : Int32} (hk : tok tab) (h : trel w 1 tab) (ho : okall w) (hx : ctx w txt) (hkx : xok txt) :
    Wp (f_X10_breaks s x w) (fun r w' => w = w' ∧ ((bad_s1 s.toInt ∧ r = .inl 1) ∨ (¬ bad_s1 s.toInt ∧ bad_w x.toInt ∧ r = .inl 2) ∨
      (¬ bad_s1 s.toInt ∧ ¬ bad_w x.toInt ∧ ∃ m : Int64, r = .inr m ∧ bits m (fun k => 0 < k ∧ k < (txt s.toInt.toNat).length ∧ brk tab (txt s.toInt.toNat) x.toInt k)))) := by
  have L := LIT
  unfold f_X10_breaks f_X10_breaks_43
  simp only [e_textOf, e_isWithin, bd_r, e_checkArgument, bdx_c]
  refine wp_if (fun hs => ?_) (fun hs => wp_ret ⟨rfl, Or.inl ⟨hs, rfl⟩⟩)
  have nb1 : ¬ bad_s1 s.toInt := fun q => q hs
  rw [L.1, L.2.2.2.1]
  refine wp_if (fun hw => ?_) (fun hw => wp_ret ⟨rfl, Or.inr (Or.inl ⟨nb1, hw, rfl⟩)⟩)
  have nb2 : ¬ bad_w x.toInt := fun q => q hw
  have hsN := slot_lt hs
  have K := slot_kd _ hsN
  have Y : lok40 (txt s.toInt.toNat) := hkx _ hsN
  refine wp_ifeq (fun q => ?_) (fun q => ?_)
  · refine wp_bd (s_clusterBreaks h (ho _ K.1) (by rw [hx _ hsN]; exact Y)) ?_
    rintro m _ ⟨rfl, hm⟩
    rw [hx _ hsN] at hm
    refine wp_ret ⟨rfl, Or.inr (Or.inr ⟨nb1, nb2, m, rfl, fun k hk => ?_⟩)⟩
    rw [hm k hk]
    constructor
    · rintro ⟨a, b, c⟩; exact ⟨a, b, c, Or.inl (by omega)⟩
    · rintro ⟨a, b, c, _⟩; exact ⟨a, b, c⟩
  · have go : ∀ f : Int32, (f.toInt = 0 ∧ x.toInt = 1) ∨ (f.toInt = 1 ∧ x.toInt = 2) → Wp (bd (f_X0_wordBreaks (623 + 2 * s.toInt.toNat) f w) (fun y2 w1 => some ((Sum.inr y2 : Nat ⊕ Int64), w1))) (fun r w' => w = w' ∧ ((bad_s1 s.toInt ∧ r = .inl 1) ∨ (¬ bad_s1 s.toInt ∧ bad_w x.toInt ∧ r = .inl 2) ∨
      (¬ bad_s1 s.toInt ∧ ¬ bad_w x.toInt ∧ ∃ m : Int64, r = .inr m ∧ bits m (fun k => 0 < k ∧ k < (txt s.toInt.toNat).length ∧ brk tab (txt s.toInt.toNat) x.toInt k)))) := by
      intro f hf
      refine wp_bd (s_wordBreaks hk h ho K.1 (hx _ hsN) Y hf) ?_
      rintro m _ ⟨rfl, hm⟩
      exact wp_ret ⟨rfl, Or.inr (Or.inr ⟨nb1, nb2, m, rfl, hm⟩)⟩
    exact wp_ifeq (fun q2 => go 1 (Or.inr ⟨L.2.1, by omega⟩)) (fun q2 => go 0 (Or.inl ⟨L.1, by omega⟩))
/-- the reference's own cluster ahead -/
theorem r_clusterAhead {w : Wd} {tab : Nat → Int} {txt : Nat → List Int} {s p : Int32} (ht : rtab w = tab) (hx : rtx w txt) (hkx : xok txt) (hs : 0 ≤ s.toInt ∧ s.toInt ≤ 5) (hp : 1 ≤ p.toInt ∧ p.toInt < (txt s.toInt.toNat).length) :
    Wp (f_X11_clusterAhead s p w) (fun x w' => w = w' ∧ x.toInt = ca tab (txt s.toInt.toNat) (p.toInt.toNat - 1)) := by
  have L := LIT
  have h40 := (hkx _ (slot_lt hs)).1
  unfold f_X11_clusterAhead
  refine wp_sub (by omega) (fun i hi => ?_)
  unfold f_X11_clusterAhead_4
  rw [FUv]
  refine wp_loop (fun σ : Int32 × Int32 × Wd => σ.1 = s ∧ σ.2.2 = w ∧ 0 ≤ σ.2.1.toInt ∧ σ.2.1.toInt < (txt s.toInt.toNat).length ∧ ca tab (txt s.toInt.toNat) σ.2.1.toInt.toNat = ca tab (txt s.toInt.toNat) (p.toInt.toNat - 1))
    (fun σ => σ.2.1.toInt.toNat) ?_ 100000 _ ⟨rfl, rfl, by dsimp only; omega, by dsimp only; omega, by dsimp only; rw [show i.toInt.toNat = p.toInt.toNat - 1 by omega]⟩ (by dsimp only; omega)
  rintro rc ⟨s', j, u⟩ ⟨rfl, rfl, hj, hj2, hc⟩ ih
  dsimp only at hj hj2 hc ht hx hs hp h40 ⊢
  unfold g_X11_clusterAhead_4
  refine wp_bd (r_isCluster ht hx hkx hs ⟨hj, hj2⟩) ?_
  rintro x _ ⟨rfl, rfl⟩
  rw [ite_zo]
  refine wp_if (fun c => wp_ret ⟨rfl, ?_⟩) (fun c => wp_add (by omega) (fun y hy => ?_))
  · by_cases z : j.toInt = 0
    · rw [← hc, show j.toInt.toNat = 0 by omega]; unfold ca; exact z
    · obtain ⟨n, hn⟩ : ∃ n, j.toInt.toNat = n + 1 := ⟨j.toInt.toNat - 1, by omega⟩
      rw [← hc, hn, ca, if_pos (by rw [← hn, show ((j.toInt.toNat : Nat) : Int) = j.toInt by omega]; exact c)]
      omega
  · have z : j.toInt ≠ 0 := fun e => c (Or.inl e)
    have hy3 : y.toInt = j.toInt - 1 := by omega
    refine ih (s', y, u) ⟨rfl, rfl, by dsimp only; omega, by dsimp only; omega, ?_⟩ (by dsimp only; omega)
    dsimp only
    obtain ⟨n, hn⟩ : ∃ n, j.toInt.toNat = n + 1 := ⟨j.toInt.toNat - 1, by omega⟩
    rw [hn, ca, if_neg (by rw [← hn, show ((j.toInt.toNat : Nat) : Int) = j.toInt by omega]; exact c)] at hc
    rw [show y.toInt.toNat = n by omega]; exact hc
def brkI (what a b v : Int) : Prop := what = 0 ∨ (wbk a b v ∧ (what = 1 ∨ lbk a b))
theorem L733 : LEN 733 = 41 := by decide +kernel
theorem s_ib120 {w : Wd} {x a b v t : Int32} (hv : v.toInt = 0 ∨ v.toInt = 1) (ht : t.toInt = 0 ∨ t.toInt = 1) : Wp (f_X11_isBreak_120 x a b v t w) (fun r w' => w = w' ∧ (r.toInt = 0 ∨ r.toInt = 1) ∧ (r.toInt = 1 ↔ (x.toInt = 0 ∨ (t.toInt = 1 ∧ (x.toInt = 1 ∨ (a.toInt = 3 ∧ b.toInt ≠ 3) ∨ v.toInt = 1))))) := by
  have L0 : (0 : Int32).toInt = 0 := by decide
  have L1 : (1 : Int32).toInt = 1 := by decide
  have L3 : (3 : Int32).toInt = 3 := by decide
  unfold f_X11_isBreak_120 f_X11_isBreak_148
  repeat' (first | refine wp_ifeq (fun _ => ?_) (fun _ => ?_) | refine wp_ret ⟨rfl, ?_⟩)
  all_goals omega
theorem s_ib82 {w : Wd} {p x a b u v : Int32} (h0 : 0 ≤ p.toInt ∧ p.toInt < 41) (hu : u.toInt = 0 ∨ u.toInt = 1) (hv : v.toInt = 0 ∨ v.toInt = 1) (hV : (w.1 733 p.toInt.toNat).toInt = 0 ∨ (w.1 733 p.toInt.toNat).toInt = 1) : Wp (f_X11_isBreak_82 p x a b u v w) (fun r w' => w = w' ∧ (r.toInt = 0 ∨ r.toInt = 1) ∧ (r.toInt = 1 ↔ (x.toInt = 0 ∨ ((u.toInt = 0 ∧ ¬ (a.toInt = 3 ∧ b.toInt = 3) ∧ (v.toInt = 0 ∨ (w.1 733 p.toInt.toNat).toInt = 1)) ∧ (x.toInt = 1 ∨ (a.toInt = 3 ∧ b.toInt ≠ 3) ∨ v.toInt = 1))))) := by
  have L0 : (0 : Int32).toInt = 0 := by decide
  have L1 : (1 : Int32).toInt = 1 := by decide
  have L3 : (3 : Int32).toInt = 3 := by decide
  have L7 := L733
  have T : ∀ t : Int32, (t.toInt = 0 ∨ t.toInt = 1) → (t.toInt = 1 ↔ (u.toInt = 0 ∧ ¬ (a.toInt = 3 ∧ b.toInt = 3) ∧ (v.toInt = 0 ∨ (w.1 733 p.toInt.toNat).toInt = 1))) → Wp (f_X11_isBreak_120 x a b v t w) (fun r w' => w = w' ∧ (r.toInt = 0 ∨ r.toInt = 1) ∧ (r.toInt = 1 ↔ (x.toInt = 0 ∨ ((u.toInt = 0 ∧ ¬ (a.toInt = 3 ∧ b.toInt = 3) ∧ (v.toInt = 0 ∨ (w.1 733 p.toInt.toNat).toInt = 1)) ∧ (x.toInt = 1 ∨ (a.toInt = 3 ∧ b.toInt ≠ 3) ∨ v.toInt = 1))))) := by
    intro t h1 h2
    refine (s_ib120 hv h1).mono ?_
    rintro r _ ⟨rfl, g1, g2⟩
    rw [h2] at g2
    exact ⟨rfl, g1, g2⟩
  have one : f_X11_isBreak_101 p x a b v w = if v = 0 then f_X11_isBreak_120 x a b v 1 w else ald w 733 p (fun y => if y = 0 then f_X11_isBreak_120 x a b v 0 w else f_X11_isBreak_120 x a b v 1 w) := rfl
  have P : u.toInt = 0 → ¬ (a.toInt = 3 ∧ b.toInt = 3) → Wp (f_X11_isBreak_101 p x a b v w) (fun r w' => w = w' ∧ (r.toInt = 0 ∨ r.toInt = 1) ∧ (r.toInt = 1 ↔ (x.toInt = 0 ∨ ((u.toInt = 0 ∧ ¬ (a.toInt = 3 ∧ b.toInt = 3) ∧ (v.toInt = 0 ∨ (w.1 733 p.toInt.toNat).toInt = 1)) ∧ (x.toInt = 1 ∨ (a.toInt = 3 ∧ b.toInt ≠ 3) ∨ v.toInt = 1))))) := by
    intro q1 q2
    rw [one]
    refine wp_ifeq (fun q => T 1 (Or.inr L1) (by omega)) (fun q => wp_ald (by omega) (wp_ifeq (fun q3 => T 0 (Or.inl L0) (by omega)) (fun q3 => T 1 (Or.inr L1) (by omega))))
  unfold f_X11_isBreak_82 f_X11_isBreak_119
  refine wp_ifeq (fun q => wp_ifeq (fun q2 => wp_ifeq (fun q3 => T 0 (Or.inl L0) (by omega)) (fun q3 => P (by omega) (by omega))) (fun q2 => P (by omega) (by omega))) (fun q => T 0 (Or.inl L0) (by omega))
theorem r_isBreak {w : Wd} {tab : Nat → Int} {txt : Nat → List Int} {s p x : Int32} (ht : rtab w = tab) (hx : rtx w txt) (hkx : xok txt) (hs : 0 ≤ s.toInt ∧ s.toInt ≤ 5) (hp : 1 ≤ p.toInt ∧ p.toInt < (txt s.toInt.toNat).length) (hw : 0 ≤ x.toInt ∧ x.toInt ≤ 2)
    (hv : (w.1 733 p.toInt.toNat).toInt = 0 ∨ (w.1 733 p.toInt.toNat).toInt = 1) :
    Wp (f_X11_isBreak s p x w) (fun r w' => w = w' ∧ (r.toInt = 0 ∨ r.toInt = 1) ∧ (r.toInt = 1 ↔ icl tab (txt s.toInt.toNat) p.toInt ∧ brkI x.toInt (kd tab (txt s.toInt.toNat) (ca tab (txt s.toInt.toNat) (p.toInt.toNat - 1))) (kd tab (txt s.toInt.toNat) p.toInt) (w.1 733 p.toInt.toNat).toInt)) := by
  have L := LIT
  have h40 := (hkx _ (slot_lt hs)).1
  have C := ca_bd (tab := tab) (l := txt s.toInt.toNat) (p.toInt.toNat - 1)
  unfold f_X11_isBreak
  refine wp_bd (r_isCluster ht hx hkx hs ⟨by omega, hp.2⟩) ?_
  rintro _ _ ⟨rfl, rfl⟩
  rw [ite_zo]
  refine wp_if (fun c => ?_) (fun c => wp_ret ⟨rfl, Or.inl L.1, fun q => by omega, fun q => absurd q.1 c⟩)
  refine wp_bd (r_clusterAhead ht hx hkx hs hp) ?_
  rintro g _ ⟨rfl, hg⟩
  refine wp_bd (r_kindAt ht hx hkx hs (k := g) (by omega)) ?_
  rintro a _ ⟨rfl, ha⟩
  refine wp_bd (r_kindAt ht hx hkx hs (k := p) (by omega)) ?_
  rintro b _ ⟨rfl, hb⟩
  rw [hg] at ha
  rw [← ha, ← hb]
  have L3 := L733
  have fin : ∀ {Q : Prop} {r : Int32}, (r.toInt = 0 ∨ r.toInt = 1) ∧ (r.toInt = 1 ↔ Q) → (r.toInt = 0 ∨ r.toInt = 1) ∧ (r.toInt = 1 ↔ icl tab (txt s.toInt.toNat) p.toInt ∧ Q) := by
    intro Q r h
    exact ⟨h.1, fun q => ⟨c, h.2.mp q⟩, fun q => h.2.mpr q.2⟩
  clear ha hb hg ht hx
  have L0 : (0 : Int32).toInt = 0 := by decide
  have L1 : (1 : Int32).toInt = 1 := by decide
  have L2 : (4 : Int32).toInt = 4 := by decide
  have L6 : (6 : Int32).toInt = 6 := by decide
  clear L
  have E : ∀ u v : Int32, (u.toInt = 0 ∨ u.toInt = 1) → (v.toInt = 0 ∨ v.toInt = 1) → (u.toInt = 1 ↔ (a.toInt = 1 ∨ a.toInt = 4) ∧ (b.toInt = 1 ∨ b.toInt = 4)) → (v.toInt = 1 ↔ a.toInt = 6 ∧ b.toInt = 6) → Wp (f_X11_isBreak_82 p x a b u v w) (fun r w' => w = w' ∧ (r.toInt = 0 ∨ r.toInt = 1) ∧ (r.toInt = 1 ↔ icl tab (txt s.toInt.toNat) p.toInt ∧ brkI x.toInt a.toInt b.toInt (w.1 733 p.toInt.toNat).toInt)) := by
    intro u v hu hv1 h1 h2
    refine (s_ib82 (by omega) hu hv1 hv).mono ?_
    rintro r _ ⟨rfl, g1, g2⟩
    refine ⟨rfl, fin ⟨g1, g2.trans ?_⟩⟩
    clear fin c C h40 hs hp hkx L3 g1 g2
    generalize (w.1 733 p.toInt.toNat).toInt = V at *
    generalize a.toInt = A at *
    generalize b.toInt = B at *
    unfold brkI wbk lbk
    by_cases c1 : A = 6 ∧ B = 6
    · rcases c1 with ⟨rfl, rfl⟩
      omega
    · by_cases c2 : (A = 1 ∨ A = 4) ∧ (B = 1 ∨ B = 4)
      · have u1 : u.toInt = 1 := h1.mpr c2
        refine or_congr Iff.rfl ⟨fun q => absurd q.1.1 (by omega), fun q => absurd q.1 ?_⟩
        rintro (⟨f1, f2, _⟩ | ⟨_, f, _⟩)
        · exact c1 ⟨f1, f2⟩
        · exact f c2
      · have e1 : u.toInt = 0 := hu.elim id (fun q => absurd (h1.mp q) c2)
        have e2 : v.toInt = 0 := hv1.elim id (fun q => absurd (h2.mp q) c1)
        refine or_congr Iff.rfl ⟨fun q => ⟨Or.inr ⟨c1, c2, q.1.2.1⟩, q.2.elim Or.inl (fun r => r.elim (fun t => Or.inr (Or.inl t)) (fun t => by omega))⟩, fun q => ⟨⟨e1, q.1.elim (fun t => absurd ⟨t.1, t.2.1⟩ c1) (fun t => t.2.2), Or.inl e2⟩, q.2.elim Or.inl (fun r => r.elim (fun t => Or.inr (Or.inl t)) (fun t => absurd t c1))⟩⟩
  have M : ∀ u : Int32, (u.toInt = 0 ∨ u.toInt = 1) → (u.toInt = 1 ↔ (a.toInt = 1 ∨ a.toInt = 4) ∧ (b.toInt = 1 ∨ b.toInt = 4)) → Wp (f_X11_isBreak_61 p x a b u w) (fun r w' => w = w' ∧ (r.toInt = 0 ∨ r.toInt = 1) ∧ (r.toInt = 1 ↔ icl tab (txt s.toInt.toNat) p.toInt ∧ brkI x.toInt a.toInt b.toInt (w.1 733 p.toInt.toNat).toInt)) := by
    intro u hu h1
    unfold f_X11_isBreak_61 f_X11_isBreak_81
    exact wp_ifeq (fun q => wp_ifeq (fun q2 => E u 1 hu (Or.inr L1) h1 (by omega)) (fun q2 => E u 0 hu (Or.inl L0) h1 (by omega))) (fun q => E u 0 hu (Or.inl L0) h1 (by omega))
  unfold f_X11_isBreak_44 f_X11_isBreak_60
  refine wp_ifeq (fun q => wp_ifeq (fun q2 => M 1 (Or.inr L1) (by omega)) (fun q2 => wp_ifeq (fun q3 => M 1 (Or.inr L1) (by omega)) (fun q3 => M 0 (Or.inl L0) (by omega)))) (fun q => wp_ifeq (fun q2 => wp_ifeq (fun q3 => M 1 (Or.inr L1) (by omega)) (fun q3 => wp_ifeq (fun q4 => M 1 (Or.inr L1) (by omega)) (fun q4 => M 0 (Or.inl L0) (by omega)))) (fun q2 => M 0 (Or.inl L0) (by omega)))
