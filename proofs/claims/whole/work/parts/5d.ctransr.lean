/-! ===== transliterate: the reference ===== -/
theorem L741 : LEN 741 = 40 := by decide +kernel
theorem s_stand {w : Wd} {tab : Nat → Int} {q : Nat} {l : List Int} {m p a n : Int32} {A N : Nat} (ht : rtab w = tab) (hm : m.toInt = l.length) (hg : ∀ k : Nat, k < l.length → (w.1 q k).toInt = gt l k) (hL : l.length ≤ LEN q) (l100 : l.length ≤ 100) (hp : -100 ≤ p.toInt ∧ p.toInt ≤ 100) (ha : a.toInt = A) (hn : n.toInt = N) (hA : A + N ≤ 1740) :
    Wp (f_X11_stand q m p a n w) (fun r w' => w = w' ∧ ((r = 1 ∧ hld l (tl tab A N) p.toInt) ∨ (r = 0 ∧ ¬ hld l (tl tab A N) p.toInt))) := by
  have L := LIT
  have h714 := LENs.2.2.1
  have tc : ∀ k, (w.1 714 k).toInt = tab k := fun k => congrFun ht k
  have lp : ∀ f : Int32, ((f = 1 ∧ 0 ≤ p.toInt ∧ p.toInt + N ≤ l.length) ∨ (f = 0 ∧ ¬ hld l (tl tab A N) p.toInt)) → Wp (f_X11_stand_17 q p a n f w) (fun r w' => w = w' ∧ ((r = 1 ∧ hld l (tl tab A N) p.toInt) ∨ (r = 0 ∧ ¬ hld l (tl tab A N) p.toInt))) := by
    intro f hf
    unfold f_X11_stand_17 f_X11_stand_22
    rw [FUv]
    refine wp_loop (fun σ : Nat × Int32 × Int32 × Int32 × Int32 × Int32 × Wd => σ.1 = q ∧ σ.2.1 = p ∧ σ.2.2.1 = a ∧ σ.2.2.2.1 = n ∧ σ.2.2.2.2.2.2 = w ∧ 0 ≤ σ.2.2.2.2.2.1.toInt ∧ σ.2.2.2.2.2.1.toInt ≤ N ∧ ((σ.2.2.2.2.1 = 1 ∧ 0 ≤ p.toInt ∧ p.toInt + N ≤ l.length ∧ ∀ k : Nat, k < σ.2.2.2.2.2.1.toInt → gt l (p.toInt + k) = tab (A + k)) ∨ (σ.2.2.2.2.1 = 0 ∧ ¬ hld l (tl tab A N) p.toInt)))
      (fun σ => (N - σ.2.2.2.2.2.1.toInt).toNat) ?_ 100000 _ ⟨rfl, rfl, rfl, rfl, rfl, by dsimp only; omega, by dsimp only; omega, hf.imp (fun x => ⟨x.1, x.2.1, x.2.2, fun k hk => by dsimp only at hk; omega⟩) id⟩ (by dsimp only; omega)
    rintro rc ⟨q', p', a', n', f', k, u⟩ ⟨rfl, rfl, rfl, rfl, rfl, hk0, hk1, hf'⟩ ih
    dsimp only at *
    unfold g_X11_stand_22
    rcases hf' with ⟨rfl, b0, b1, b2⟩ | ⟨rfl, b0⟩
    · refine wp_ifle (fun z => wp_ret ⟨rfl, Or.inl ⟨rfl, b0, by rw [tl_len]; exact b1, fun j hj => ?_⟩⟩) (fun z => wp_ifeq (fun z2 => by omega) (fun _ => ?_))
      · rw [tl_len] at hj
        rw [tl_gtn hj]; exact b2 j (by omega)
      · have s1 : (p' + k).toInt = p'.toInt + k.toInt := i_add (by omega)
        have s2 : (a' + k).toInt = a'.toInt + k.toInt := i_add (by omega)
        refine wp_ald (by omega) (wp_ald (by omega) ?_)
        have g1 : (u.1 q' (p' + k).toInt.toNat).toInt = gt l (p'.toInt + k.toInt.toNat) := by
          rw [hg _ (by omega), show (((p' + k).toInt.toNat : Nat) : Int) = p'.toInt + k.toInt.toNat by omega]
        have g2 : (u.1 714 (a' + k).toInt.toNat).toInt = tab (A + k.toInt.toNat) := by
          rw [tc, show (a' + k).toInt.toNat = A + k.toInt.toNat by omega]
        refine wp_ifeq (fun e => wp_add (by omega) (fun z3 hz3 => ?_)) (fun e => wp_add (by omega) (fun z3 hz3 => ?_))
        · refine ih (q', p', a', n', 1, z3, u) ⟨rfl, rfl, rfl, rfl, rfl, by dsimp only; omega, by dsimp only; omega, Or.inl ⟨rfl, b0, b1, fun j hj => ?_⟩⟩ (by dsimp only; omega)
          dsimp only at hj
          by_cases c : j = k.toInt.toNat
          · rw [c, ← g1, ← g2]; exact e
          · exact b2 j (by omega)
        · refine ih (q', p', a', n', 0, z3, u) ⟨rfl, rfl, rfl, rfl, rfl, by dsimp only; omega, by dsimp only; omega, Or.inr ⟨rfl, fun hh => e ?_⟩⟩ (by dsimp only; omega)
          have := hh.2.2 k.toInt.toNat (by rw [tl_len]; omega)
          rw [tl_gtn (by omega)] at this
          rw [g1, g2]; exact this
    · exact wp_ifle (fun z => wp_ret ⟨rfl, Or.inr ⟨rfl, b0⟩⟩) (fun z => wp_ifeq (fun _ => wp_ret ⟨rfl, Or.inr ⟨rfl, b0⟩⟩) (fun z2 => absurd rfl z2))
  unfold f_X11_stand f_X11_stand_16
  have s1 : (p + n).toInt = p.toInt + N := by rw [i_add (by omega), hn]
  refine wp_iflt (fun z => lp 0 (Or.inr ⟨rfl, fun hh => ?_⟩)) (fun z => wp_iflt (fun z2 => lp 0 (Or.inr ⟨rfl, fun hh => ?_⟩)) (fun z2 => lp 1 (Or.inl ⟨rfl, by omega, by omega⟩)))
  · have := hh.1; omega
  · have := hh.2.1; rw [tl_len] at this; omega
/-- what has come out of a pass -/
def r74 (w : Wd) (d : List Int) : Prop := (w.1 713 39).toInt = d.length ∧ ∀ k : Nat, k < d.length → (w.1 741 k).toInt = gt d k
theorem s_ruleFor {w : Wd} {tab : Nat → Int} {pass p b : Int32} {l d : List Int} (hk : tok tab) (ht : rtab w = tab) (hw : rwk w l) (hd : r74 w d) (l40 : l.length ≤ 40) (d40 : d.length ≤ 40) (hp : 0 ≤ p.toInt ∧ p.toInt ≤ 40) :
    Wp (f_X11_ruleFor pass p b w) (fun r w' => w = w' ∧ ((ftr tab pass.toInt b.toInt l d p.toInt 10 0 = -1 ∧ r.toInt = -1) ∨ (ftr tab pass.toInt b.toInt l d p.toInt 10 0 ≠ -1 ∧ r.toInt = 1558 + 15 * ftr tab pass.toInt b.toInt l d p.toInt 10 0))) := by
  have L := LIT
  have h714 := LENs.2.2.1
  have tc : ∀ k, (w.1 714 k).toInt = tab k := fun k => congrFun ht k
  have k4 := hk.2.2.2
  have e15 : (15 : Int32).toInt = 15 := by decide
  have e12 : (12 : Int32).toInt = 12 := by decide
  have e1557 : (1557 : Int32).toInt = 1557 := by decide
  have e1558 : (1558 : Int32).toInt = 1558 := by decide
  unfold f_X11_ruleFor f_X11_ruleFor_3
  rw [FUv]
  refine wp_loop (fun σ : Int32 × Int32 × Int32 × Int32 × Wd => σ.1 = pass ∧ σ.2.1 = p ∧ σ.2.2.1 = b ∧ σ.2.2.2.2 = w ∧ 0 ≤ σ.2.2.2.1.toInt ∧ σ.2.2.2.1.toInt ≤ tab 1557 ∧ ∃ k : Nat, ftr tab pass.toInt b.toInt l d p.toInt k σ.2.2.2.1.toInt = ftr tab pass.toInt b.toInt l d p.toInt 10 0 ∧ 10 - σ.2.2.2.1.toInt ≤ k)
    (fun σ => (10 - σ.2.2.2.1.toInt).toNat) ?_ 100000 _ ⟨rfl, rfl, rfl, rfl, by dsimp only; omega, by dsimp only; omega, 10, by dsimp only; rw [L.1], by dsimp only; omega⟩ (by dsimp only; omega)
  rintro rc ⟨pass', p', b', i, u⟩ ⟨rfl, rfl, rfl, rfl, hi, hi2, k, hkk, hk2⟩ ih
  dsimp only at *
  unfold g_X11_ruleFor_3
  refine wp_ald (by omega) ?_
  have c0 : (u.1 714 (1557 : Int32).toInt.toNat).toInt = tab 1557 := by rw [e1557]; exact tc _
  refine wp_ifle (fun z => wp_ret ⟨rfl, Or.inl ⟨by rw [← hkk, ftr_out (by omega)], L.2.2.1⟩⟩) (fun z => ?_)
  have m1 : ((15 : Int32) * i).toInt = 15 * i.toInt := i_mul' e15 (by omega)
  refine wp_lt (fun x hx => ?_)
  have hx1 : x.toInt = 1558 + 15 * i.toInt := by rw [hx, i_add (by omega), m1, e1558]
  obtain ⟨k', rfl⟩ : ∃ k', k = k' + 1 := ⟨k - 1, by omega⟩
  rw [ftr_in (by omega)] at hkk
  obtain ⟨r0, r1, r2, r3, r4, r5, r6⟩ := k4.2.2 i.toInt.toNat (by omega)
  have hi8 : i.toInt.toNat < 8 := by omega
  have ad : ∀ (j : Int32) (n : Nat), j.toInt = n → n < 15 → (x + j).toInt = (1558 + 15 * i.toInt.toNat + n : Nat) := by
    intro j n hj hn
    rw [i_add (by omega), hj, hx1]; omega
  have cell : ∀ (j : Int32) (n : Nat), j.toInt = n → n < 15 → (u.1 714 (x + j).toInt.toNat).toInt = tab (1558 + 15 * i.toInt.toNat + n) := by
    intro j n hj hn
    rw [ad j n hj hn, Int.toNat_natCast]; exact tc _
  have inr : ∀ (j : Int32) (n : Nat), j.toInt = n → n < 15 → 0 ≤ (x + j).toInt ∧ (x + j).toInt < LEN 714 := by
    intro j n hj hn
    have := ad j n hj hn; omega
  have no : ¬ fts tab pass'.toInt b'.toInt l d p'.toInt i.toInt.toNat → Wp (f_X11_ruleFor_196 rc pass' p' b' i x u) (fun r w' => u = w' ∧ ((ftr tab pass'.toInt b'.toInt l d p'.toInt 10 0 = -1 ∧ r.toInt = -1) ∨ (ftr tab pass'.toInt b'.toInt l d p'.toInt 10 0 ≠ -1 ∧ r.toInt = 1558 + 15 * ftr tab pass'.toInt b'.toInt l d p'.toInt 10 0))) := by
    intro n
    rw [if_neg n] at hkk
    unfold f_X11_ruleFor_196 f_X11_ruleFor_197
    refine wp_ifeq (fun _ => wp_add (by omega) (fun y hy => ?_)) (fun q => absurd rfl q)
    have hy3 : y.toInt = i.toInt + 1 := by omega
    exact ih (pass', p', b', y, u) ⟨rfl, rfl, rfl, rfl, by dsimp only; omega, by dsimp only; omega, k', by dsimp only; rw [hy3]; exact hkk, by dsimp only; omega⟩ (by dsimp only; omega)
  have no9 : ∀ v6, ¬ fts tab pass'.toInt b'.toInt l d p'.toInt i.toInt.toNat → Wp (f_X11_ruleFor_109 rc pass' p' b' i x v6 u) (fun r w' => u = w' ∧ ((ftr tab pass'.toInt b'.toInt l d p'.toInt 10 0 = -1 ∧ r.toInt = -1) ∨ (ftr tab pass'.toInt b'.toInt l d p'.toInt 10 0 ≠ -1 ∧ r.toInt = 1558 + 15 * ftr tab pass'.toInt b'.toInt l d p'.toInt 10 0))) := by
    intro v6 n
    unfold f_X11_ruleFor_109 f_X11_ruleFor_110
    exact wp_ifeq (fun _ => no n) (fun q => absurd rfl q)
  have yes : fts tab pass'.toInt b'.toInt l d p'.toInt i.toInt.toNat → Wp (f_X11_ruleFor_197 rc pass' p' b' i x 1 u) (fun r w' => u = w' ∧ ((ftr tab pass'.toInt b'.toInt l d p'.toInt 10 0 = -1 ∧ r.toInt = -1) ∨ (ftr tab pass'.toInt b'.toInt l d p'.toInt 10 0 ≠ -1 ∧ r.toInt = 1558 + 15 * ftr tab pass'.toInt b'.toInt l d p'.toInt 10 0))) := by
    intro n
    rw [if_pos n] at hkk
    unfold f_X11_ruleFor_197
    exact wp_ifeq (fun q => by omega) (fun _ => wp_ret ⟨rfl, Or.inr ⟨by omega, by rw [← hkk]; exact hx1⟩⟩)
  have g7 : ∀ k : Nat, k < l.length → (u.1 720 k).toInt = gt l k := fun k hk => rwk_at hw hk
  -- behind what is taken and what stands ahead
  have lead : ∀ (v6 a7 : Int32) (A7 : Nat), v6.toInt = (rlS b'.toInt tab i.toInt.toNat).length → a7.toInt = A7 → A7 + (rlS b'.toInt tab i.toInt.toNat).length ≤ 1740 → rlS b'.toInt tab i.toInt.toNat = tl tab A7 (rlS b'.toInt tab i.toInt.toNat).length → 0 < (rlS b'.toInt tab i.toInt.toNat).length → (rlS b'.toInt tab i.toInt.toNat).length ≤ 3 → tab (1558 + 15 * i.toInt.toNat) = pass'.toInt →
      Wp (f_X11_ruleFor_97 rc pass' p' b' i x v6 720 (u.1 713 11) p' a7 u) (fun r w' => u = w' ∧ ((ftr tab pass'.toInt b'.toInt l d p'.toInt 10 0 = -1 ∧ r.toInt = -1) ∨ (ftr tab pass'.toInt b'.toInt l d p'.toInt 10 0 ≠ -1 ∧ r.toInt = 1558 + 15 * ftr tab pass'.toInt b'.toInt l d p'.toInt 10 0))) := by
    intro v6 a7 A7 h6 h7 hb hS h0 h3 hpass
    unfold f_X11_ruleFor_97
    refine wp_bd (s_stand (l := l) (A := A7) (N := (rlS b'.toInt tab i.toInt.toNat).length) ht hw.1 g7 (by rw [L720]; omega) (by omega) (by omega) h7 h6 hb) ?_
    rintro y _ ⟨rfl, hy⟩
    rw [← hS] at hy
    rcases hy with ⟨rfl, hy⟩ | ⟨rfl, hy⟩
    · refine wp_ifeq (fun q => by omega) (fun _ => ?_)
      unfold f_X11_ruleFor_110
      refine wp_ifeq (fun q => by omega) (fun _ => ?_)
      have cA := cell 1 1 (by decide) (by omega)
      have cB := cell 3 3 (by decide) (by omega)
      refine wp_ald (inr 1 1 (by decide) (by omega)) (wp_ald (inr 1 1 (by decide) (by omega)) ?_)
      generalize u.1 714 (x + (1 : Int32)).toInt.toNat = y1 at *
      have la : (rlA tab i.toInt.toNat).length = (tab (1558 + 15 * i.toInt.toNat + 1)).toNat := tl_len _ _ _
      have lb : (rlB tab i.toInt.toNat).length = (tab (1558 + 15 * i.toInt.toNat + 3)).toNat := tl_len _ _ _
      have s1 : ((u.1 713 39) - y1).toInt = d.length - (rlA tab i.toInt.toNat).length := by rw [i_sub (by rw [hd.1]; omega), hd.1]; omega
      refine wp_bd (s_stand (l := d) (A := 1558 + 15 * i.toInt.toNat + 5) (N := (tab (1558 + 15 * i.toInt.toNat + 1)).toNat) ht hd.1 hd.2 (by rw [L741]; exact d40) (by omega) (by rw [s1]; omega) (ad 5 5 (by decide) (by omega)) (by omega) (by omega)) ?_
      rintro y2 _ ⟨rfl, hy2⟩
      rw [s1] at hy2
      rcases hy2 with ⟨rfl, hy2⟩ | ⟨rfl, hy2⟩
      · refine wp_ifeq (fun q => by omega) (fun _ => ?_)
        refine wp_ald (inr 3 3 (by decide) (by omega)) ?_
        generalize u.1 714 (x + (3 : Int32)).toInt.toNat = y3 at *
        have s2 : (p' + v6).toInt = p'.toInt + (rlS b'.toInt tab i.toInt.toNat).length := by rw [i_add (by omega), h6]
        refine wp_bd (s_stand (l := l) (A := 1558 + 15 * i.toInt.toNat + 10) (N := (tab (1558 + 15 * i.toInt.toNat + 3)).toNat) ht hw.1 g7 (by rw [L720]; omega) (by omega) (by rw [s2]; omega) (ad 10 10 (by decide) (by omega)) (by omega) (by omega)) ?_
        rintro y4 _ ⟨rfl, hy4⟩
        rw [s2] at hy4
        rcases hy4 with ⟨rfl, hy4⟩ | ⟨rfl, hy4⟩
        · exact wp_ifeq (fun q => by omega) (fun _ => yes ⟨hpass, h0, hy, hy2, hy4⟩)
        · exact wp_ifeq (fun _ => no (fun q => hy4 q.2.2.2.2)) (fun q => absurd rfl q)
      · exact wp_ifeq (fun _ => no (fun q => hy2 q.2.2.2.1)) (fun q => absurd rfl q)
    · exact wp_ifeq (fun _ => no9 _ (fun q => hy q.2.2.1)) (fun q => absurd rfl q)
  have cP : (u.1 714 x.toInt.toNat).toInt = tab (1558 + 15 * i.toInt.toNat) := by rw [tc, show x.toInt.toNat = 1558 + 15 * i.toInt.toNat by omega]
  have mid : ∀ t0 : Int32, t0.toInt = (rlS b'.toInt tab i.toInt.toNat).length → (rlS b'.toInt tab i.toInt.toNat).length ≤ 3 → Wp (f_X11_ruleFor_52 rc pass' p' b' i x t0 u) (fun r w' => u = w' ∧ ((ftr tab pass'.toInt b'.toInt l d p'.toInt 10 0 = -1 ∧ r.toInt = -1) ∨ (ftr tab pass'.toInt b'.toInt l d p'.toInt 10 0 ≠ -1 ∧ r.toInt = 1558 + 15 * ftr tab pass'.toInt b'.toInt l d p'.toInt 10 0))) := by
    intro t0 ht0 h3
    unfold f_X11_ruleFor_52
    refine wp_ald (by omega) ?_
    refine wp_ifeq (fun a1 => ?_) (fun a1 => no9 _ (fun q => a1 (by rw [cP]; exact q.1)))
    rw [cP] at a1
    refine wp_ifle (fun a2 => no9 _ (fun q => by have := q.2.1; omega)) (fun a2 => ?_)
    refine wp_ifeq (fun c => ?_) (fun c => ?_)
    · refine lead t0 _ (1558 + 15 * i.toInt.toNat + 7) ht0 (ad 7 7 (by decide) (by omega)) (by omega) ?_ (by omega) h3 a1
      unfold rlS rl1; rw [if_pos (by rw [c]; exact L.1), tl_len]
    · refine lead t0 _ (1558 + 15 * i.toInt.toNat + 12) ht0 (ad 12 12 e12 (by omega)) (by omega) ?_ (by omega) h3 a1
      unfold rlS rl2; rw [if_neg (fun q => c (by rw [q]; exact L.1.symm)), tl_len]
  refine wp_ifeq (fun c => wp_ald (inr 2 2 (by decide) (by omega)) (mid _ ?_ ?_)) (fun c => wp_ald (inr 4 4 (by decide) (by omega)) (mid _ ?_ ?_))
  · rw [cell 2 2 (by decide) (by omega)]; unfold rlS rl1; rw [if_pos (by rw [c]; exact L.1), tl_len]; omega
  · unfold rlS rl1; rw [if_pos (by rw [c]; exact L.1), tl_len]; omega
  · rw [cell 4 4 (by decide) (by omega)]; unfold rlS rl2; rw [if_neg (fun q => c (by rw [q]; exact L.1.symm)), tl_len]; omega
  · unfold rlS rl2; rw [if_neg (fun q => c (by rw [q]; exact L.1.symm)), tl_len]; omega
