/-! ===== two objects of one abstract state are alike ===== -/
section
variable {S : ST} {w v : Wd}
/-- a question that is caught answers alike, and leaves both -/
theorem qs_two {h a b c : Int32} (hS : GS S) (hq : isq h) : ∃ x : Int32, DTr (fun w => f_L_does h a b c w) S x S := by
  obtain ⟨x, T, hd, -, -, h2⟩ := ao_doesS (h := h) (a := a) (b := b) (c := c) hS
  rw [h2 hq] at hd
  exact ⟨x, hd⟩
theorem iq13 : isq 13 := Or.inl rfl
theorem iq14 : isq 14 := Or.inr (Or.inl rfl)
theorem iq19 : isq 19 := Or.inr (Or.inr (Or.inl rfl))
theorem iq20 : isq 20 := Or.inr (Or.inr (Or.inr (Or.inl rfl)))
theorem iq21 : isq 21 := Or.inr (Or.inr (Or.inr (Or.inr (Or.inl rfl))))
theorem iq23 : isq 23 := Or.inr (Or.inr (Or.inr (Or.inr (Or.inr (Or.inl rfl)))))
theorem iq25 : isq 25 := Or.inr (Or.inr (Or.inr (Or.inr (Or.inr (Or.inr rfl)))))
/-- what two runs come to -/
def W2 (o : Option (Int32 × Wd × Wd)) (S : ST) : Prop := ∃ w' v', o = some (1, w', v') ∧ CS w' S ∧ CS v' S
theorem w2_bd {R : Type} {A : Wd → Option (R × Wd)} {x : R} (d : DTr A S x S) (hw : CS w S) {K : R → Wd → Option (Int32 × Wd × Wd)} (k : ∀ w', CS w' S → W2 (K x w') S) : W2 (bd (A w) K) S := by
  obtain ⟨w', e, hc⟩ := d w hw
  rw [e]
  exact k w' hc
theorem w2_bdr {R : Type} {A : Wd → Option ((Nat ⊕ R) × Wd)} {x : R} (d : DTr A S (.inr x) S) (hw : CS w S) {K : R → Wd → Option (Int32 × Wd × Wd)} (k : ∀ w', CS w' S → W2 (K x w') S) : W2 (bdr (A w) K) S := by
  obtain ⟨w', e, hc⟩ := d w hw
  rw [e]
  exact k w' hc
theorem w2_t {c : Prop} [Decidable c] {a b : Option (Int32 × Wd × Wd)} (h : c) (k : W2 a S) : W2 (if c then a else b) S := by rw [if_pos h]; exact k
theorem w2_f {c : Prop} [Decidable c] {a b : Option (Int32 × Wd × Wd)} (h : ¬ c) (k : W2 b S) : W2 (if c then a else b) S := by rw [if_neg h]; exact k
/-- two questions alike -/
theorem w2_q {h a b c : Int32} (hS : GS S) (hq : isq h) (hw : CS w S) (hv : CS v S) {K1 K2 : Wd → Wd → Option (Int32 × Wd × Wd)} (k : ∀ w' v', CS w' S → CS v' S → W2 (K1 w' v') S) :
    W2 (bd (f_L_does h a b c w) (fun x w1 => bd (f_L_does h a b c v) (fun y v1 => if x = y then K1 w1 v1 else K2 w1 v1))) S := by
  obtain ⟨x, d⟩ := qs_two (a := a) (b := b) (c := c) hS hq
  refine w2_bd d hw (fun w' hw' => w2_bd d hv (fun v' hv' => w2_t rfl (k w' v' hw' hv')))
theorem at_two {s p : Int32} (hS : GS S) (hs : slo s) (hp : p = -1 ∨ (0 ≤ p.toInt ∧ p.toInt < (Tx S s).length)) : ∃ x : Int32, DTr (fun w => f_X10_at s p w) S (.inr x) S ∧ (p = -1 → x.toInt = (Tx S s).length) := by
  rcases S with ⟨tab, txt, nv, sav, tp, os, pt⟩
  obtain ⟨r, T, hg, hd, -⟩ := g_at (s := s) (p := p) hS
  have e1 : (-1 : Int32).toInt = -1 := by decide
  rcases hg with ⟨c, -⟩ | ⟨-, x, rfl, hx, rfl⟩
  · refine absurd ⟨hs, ?_⟩ c
    rcases hp with rfl | hp
    · rw [e1]; omega
    · have h2 : p.toInt < ((txt s.toInt.toNat).length : Int) := hp.2
      omega
  · refine ⟨x, hd, fun e => ?_⟩
    subst e
    rw [hx, e1]
    unfold at_val
    rw [if_pos rfl]
theorem lev_two {s p : Int32} (hS : GS S) (hs : slo s) (hp : 0 ≤ p.toInt ∧ p.toInt < (Tx S s).length) : ∃ x : Int32, DTr (fun w => f_X10_level s p (-1) w) S (.inr x) S := by
  rcases S with ⟨tab, txt, nv, sav, tp, os, pt⟩
  obtain ⟨r, T, hg, hd, -⟩ := g_level (s := s) (p := p) (b := -1) hS
  rcases hg with ⟨c, -⟩ | ⟨-, ⟨c, -⟩ | ⟨-, x, rfl, -, rfl⟩⟩
  · exact absurd ⟨hs, hp.1, hp.2⟩ c
  · exact absurd (by decide) c
  · exact ⟨x, hd⟩
theorem brk_two {s : Int32} (hS : GS S) (hs : slo s) : ∃ m : Int64, DTr (fun w => f_X10_breaks s 2 w) S (.inr m) S := by
  rcases S with ⟨tab, txt, nv, sav, tp, os, pt⟩
  obtain ⟨r, T, hg, hd, -⟩ := g_breaks (s := s) (x := 2) hS
  rcases hg with ⟨c, -⟩ | ⟨-, ⟨c, -⟩ | ⟨-, m, rfl, -, rfl⟩⟩
  · exact absurd hs c
  · exact absurd (by decide) c
  · exact ⟨m, hd⟩
theorem word_two {i : Int32} (hS : GS S) : ∃ r : Int64, DTr (fun w => f_X10_word i w) S r S := by
  rcases S with ⟨tab, txt, nv, sav, tp, os, pt⟩
  exact g_word hS
/-- a loop that falls -/
theorem w2_loop {σT : Type} {body : (σT → Option (Int32 × Wd × Wd)) → σT → Option (Int32 × Wd × Wd)} (I : Nat → σT → Prop) (h : ∀ n rc, (∀ σ, I n σ → W2 (rc σ) S) → ∀ σ, I (n + 1) σ → W2 (body rc σ) S) : ∀ (n : Nat) (σ : σT), I n σ → (∀ σ, ¬ I 0 σ) → W2 (loopN body n σ) S := by
  intro n
  induction n with
  | zero => intro σ hI h0; exact absurd hI (h0 σ)
  | succ n ih => intro σ hI h0; exact h n _ (fun σ hσ => ih σ hσ h0) σ hI
/-- letter by letter -/
theorem alike_225 {rc94 : Int32 × Int32 × Wd × Wd → Option (Int32 × Wd × Wd)} (hS : GS S) {s n k : Int32} (hs : slo s) (hn : n.toInt = (Tx S s).length) (hk : 0 ≤ k.toInt ∧ k.toInt ≤ n.toInt) (hw : CS w S) (hv : CS v S) (h94 : ∀ w' v', CS w' S → CS v' S → W2 (lt (s + (1 : Int32)) (fun x => rc94 (1, x, w', v'))) S) : W2 (f2_L_areAlike_225 rc94 1 s n k w v) S := by
  have L := LIT
  have h40 : (Tx S s).length ≤ 40 := (hS.1.2.1 _ (slot_lt hs)).1
  unfold f2_L_areAlike_225
  refine w2_loop (fun m (σ : Int32 × Int32 × Int32 × Int32 × Wd × Wd) => σ.1 = 1 ∧ σ.2.1 = s ∧ σ.2.2.1 = n ∧ 0 ≤ σ.2.2.2.1.toInt ∧ σ.2.2.2.1.toInt ≤ n.toInt ∧ n.toInt < σ.2.2.2.1.toInt + m ∧ CS σ.2.2.2.2.1 S ∧ CS σ.2.2.2.2.2 S) ?_ FU _ ⟨rfl, rfl, rfl, hk.1, hk.2, by rw [FUv]; dsimp only; omega, hw, hv⟩ (by rintro σ ⟨-, -, -, a, b, c, -⟩; omega)
  rintro m rc ih ⟨i, s', n', k', u, t⟩ ⟨rfl, rfl, rfl, hk0, hk1, hm, hu, ht⟩
  dsimp only at hk0 hk1 hm hu ht hs hn h40 h94 ⊢
  unfold g2_L_areAlike_225
  by_cases c : n' ≤ k'
  · exact w2_t c (h94 u t hu ht)
  · refine w2_f c (w2_f (by decide) ?_)
    have hkn : k'.toInt < n'.toInt := by rw [Int32.le_iff_toInt_le] at c; omega
    obtain ⟨x, d, -⟩ := at_two (p := k') hS hs (Or.inr ⟨hk0, by omega⟩)
    refine w2_bdr d hu (fun u1 hu1 => w2_bdr d ht (fun t1 ht1 => w2_t rfl ?_))
    have nx : ∀ u' t', CS u' S → CS t' S → W2 (lt (k' + (1 : Int32)) (fun z => rc ((1 : Int32), s', n', z, u', t'))) S := by
      intro u' t' hu' ht'
      have e : (k' + 1).toInt = k'.toInt + 1 := by rw [i_add (by rw [L.2.1]; omega), L.2.1]
      exact ih (1, s', n', k' + 1, u', t') ⟨rfl, rfl, rfl, by dsimp only; omega, by dsimp only; omega, by dsimp only; omega, hu', ht'⟩
    by_cases c3 : k' = 3
    · refine w2_t c3 ?_
      obtain ⟨y, dl⟩ := lev_two (p := k') hS hs ⟨hk0, by omega⟩
      exact w2_bdr dl hu1 (fun u2 hu2 => w2_bdr dl ht1 (fun t2 ht2 => w2_t rfl (nx u2 t2 hu2 ht2)))
    · exact w2_f c3 (nx u1 t1 hu1 ht1)
theorem six_slo {s : Int32} (h0 : 0 ≤ s.toInt) (h : ¬ (6 : Int32) ≤ s) : slo s := by
  rw [Int32.le_iff_toInt_le, show (6 : Int32).toInt = 6 by decide] at h
  exact ⟨h0, by omega⟩
/-- slot by slot -/
theorem alike_94 (hS : GS S) : ∀ (m : Nat) (σ : Int32 × Int32 × Wd × Wd), (σ.1 = 1 ∧ 0 ≤ σ.2.1.toInt ∧ σ.2.1.toInt ≤ 6 ∧ 6 < σ.2.1.toInt + m ∧ CS σ.2.2.1 S ∧ CS σ.2.2.2 S) → W2 (loopN (fun rc σ => g2_L_areAlike_94 rc σ.1 σ.2.1 σ.2.2.1 σ.2.2.2) m σ) S := by
  have L := LIT
  intro m σ hI
  refine w2_loop (fun m (σ : Int32 × Int32 × Wd × Wd) => σ.1 = 1 ∧ 0 ≤ σ.2.1.toInt ∧ σ.2.1.toInt ≤ 6 ∧ 6 < σ.2.1.toInt + m ∧ CS σ.2.2.1 S ∧ CS σ.2.2.2 S) ?_ m σ hI (by rintro σ ⟨-, a, b, c, -⟩; omega)
  rintro m rc ih ⟨i, s, u, t⟩ ⟨rfl, hs0, hs6, hm, hu, ht⟩
  dsimp only at hs0 hs6 hm hu ht ⊢
  unfold g2_L_areAlike_94
  by_cases c : (6 : Int32) ≤ s
  · exact w2_t c ⟨u, t, rfl, hu, ht⟩
  · refine w2_f c (w2_f (by decide) ?_)
    have hs := six_slo hs0 c
    obtain ⟨n, dn, hn⟩ := at_two (s := s) (p := -1) hS hs (Or.inl rfl)
    have hn := hn rfl
    refine w2_bdr dn hu (fun u1 hu1 => w2_bdr dn ht (fun t1 ht1 => w2_t rfl ?_))
    refine w2_q hS iq14 hu1 ht1 (fun u2 t2 hu2 ht2 => ?_)
    obtain ⟨a, dw⟩ := word_two (i := s) hS
    refine w2_bd dw hu2 (fun u3 hu3 => w2_bd dw ht2 (fun t3 ht3 => w2_t (lg_eq.mpr rfl) ?_))
    obtain ⟨b, db⟩ := brk_two (s := s) hS hs
    refine w2_bdr db hu3 (fun u4 hu4 => w2_bdr db ht3 (fun t4 ht4 => w2_t (lg_eq.mpr rfl) ?_))
    refine w2_q hS iq20 hu4 ht4 (fun u5 t5 hu5 ht5 => ?_)
    refine w2_q hS iq23 hu5 ht5 (fun u6 t6 hu6 ht6 => ?_)
    refine alike_225 hS hs hn (by rw [L.1]; omega) hu6 ht6 (fun w' v' hw' hv' => ?_)
    have e : (s + 1).toInt = s.toInt + 1 := by rw [i_add (by rw [L.2.1]; omega), L.2.1]
    have h5 := hs.2
    exact ih (1, s + 1, w', v') ⟨rfl, by dsimp only; omega, by dsimp only; omega, by dsimp only; omega, hw', hv'⟩
/-- they are alike -/
theorem alike_so (hS : GS S) (hw : CS w S) (hv : CS v S) : W2 (f2_L_areAlike w v) S := by
  unfold f2_L_areAlike
  refine w2_q hS iq13 hw hv (fun u1 t1 hu1 ht1 => ?_)
  refine w2_q hS iq19 hu1 ht1 (fun u2 t2 hu2 ht2 => ?_)
  refine w2_q hS iq21 hu2 ht2 (fun u3 t3 hu3 ht3 => ?_)
  refine w2_q hS iq25 hu3 ht3 (fun u4 t4 hu4 ht4 => ?_)
  unfold f2_L_areAlike_94
  exact alike_94 hS 7 (1, 0, u4, t4) ⟨rfl, by dsimp only; decide, by dsimp only; decide, by dsimp only; decide, hu4, ht4⟩
end
