/-! ===== what is shown is each letter once, and goes its way ===== -/
section
variable {S : ST} {w : Wd} {s b : Int32}
abbrev Tx (S : ST) (s : Int32) : List Int := S.2.1 s.toInt.toNat
def Vx (S : ST) (s b : Int32) : Nat → Int := LV S.1 (Tx S s) (fr S.1 (Tx S s) (bsF S.1 (Tx S s) b.toInt) (Tx S s).length)
theorem Vx_rng (hS : OS S) (hs : slo s) (hb : -1 ≤ b.toInt ∧ b.toInt ≤ 1) : ∀ i, i < (Tx S s).length → 0 ≤ Vx S s b i ∧ Vx S s b i ≤ 10 := by
  intro i hi
  exact LV_rng hS.1 (hS.2.1 _ (slot_lt hs)) (bsF_01 (by omega)) hi
theorem Vx_base (hS : OS S) (hs : slo s) (hb : -1 ≤ b.toInt ∧ b.toInt ≤ 1) {i : Nat} (hi : i < (Tx S s).length) : bsF S.1 (Tx S s) b.toInt ≤ Vx S s b i :=
  LV_base hS.1 (hS.2.1 _ (slot_lt hs)) (bsF_01 (by omega)) hi
theorem lev_w {p : Int32} (hS : OS S) (hw : CS w S) (hs : slo s) (hb : -1 ≤ b.toInt ∧ b.toInt ≤ 1) (hp : 0 ≤ p.toInt ∧ p.toInt < (Tx S s).length) : Wp (f_X10_level s p b w) (fun r w' => ∃ x, r = .inr x ∧ CS w' S ∧ x.toInt = Vx S s b p.toInt.toNat) := by
  refine (k_level hS.1 hw.2.1 hw.1 hw.2.2.1 hS.2.1).mono ?_
  rintro r w' ⟨hl, h⟩
  have C : CS w' S := cl_q hS hw hl.1 hl.2 (fun k q => by unfold scr; omega)
  rcases h with ⟨c, -⟩ | ⟨-, c, -⟩ | ⟨-, -, x, rfl, hx⟩
  · exact absurd ⟨hs, hp.1, hp.2⟩ c
  · exact absurd hb c
  · exact ⟨x, rfl, C, hx⟩
theorem sho_w {p : Int32} (hS : OS S) (hw : CS w S) (hs : slo s) (hb : -1 ≤ b.toInt ∧ b.toInt ≤ 1) (hp : 0 ≤ p.toInt ∧ p.toInt < (Tx S s).length) : Wp (f_X10_shown s p b w) (fun r w' => ∃ x, r = .inr x ∧ CS w' S ∧ x.toInt = (Od (Tx S s).length (Vx S s b) 13 p.toInt.toNat : Nat)) := by
  refine (k_shown hS.1 hw.2.1 hw.1 hw.2.2.1 hS.2.1).mono ?_
  rintro r w' ⟨hl, h⟩
  have C : CS w' S := cl_q hS hw hl.1 hl.2 (fun k q => by unfold scr; omega)
  rcases h with ⟨c, -⟩ | ⟨-, c, -⟩ | ⟨-, -, x, rfl, hx⟩
  · exact absurd ⟨hs, hp.1, hp.2⟩ c
  · exact absurd hb c
  · exact ⟨x, rfl, C, hx⟩
theorem base_w (hS : OS S) (hw : CS w S) (hs : slo s) : Wp (f_X10_base s w) (fun r w' => ∃ x, r = .inr x ∧ CS w' S ∧ x.toInt = bf S.1 (Tx S s) 0 (Tx S s).length 0) := by
  refine (k_base hS.1 hw.2.1 hw.1 hw.2.2.1 hS.2.1).mono ?_
  rintro r w' ⟨rfl, h⟩
  rcases h with ⟨c, -⟩ | ⟨-, x, rfl, hx⟩
  · exact absurd hs c
  · exact ⟨x, rfl, hw, hx⟩
theorem par_all : ∀ n, n < 64 → (Int32.ofNat n - Int32.ofNat n / (2 : Int32) * (2 : Int32)) = Int32.ofNat (n % 2) := by decide +kernel
theorem par_at {x : Int32} (h : 0 ≤ x.toInt ∧ x.toInt < 64) : (x - x / (2 : Int32) * (2 : Int32)) = 0 ↔ x.toInt % 2 = 0 := by
  have A := par_all x.toInt.toNat (by omega)
  rw [i_back h.1] at A
  rw [A, i_eq, i_ofNat (by omega), show (0 : Int32).toInt = 0 by decide]
  omega
/-- letters beside one another -/
theorem shown_131 (hS : OS S) (hs : slo s) (hb : -1 ≤ b.toInt ∧ b.toInt ≤ 1) (hw : CS w S) {m a k : Int32} (hm : m.toInt = (Tx S s).length) (ha : a.toInt ≤ (Tx S s).length) (ha8 : a.toInt ≤ 8) (hk : 1 ≤ k.toInt ∧ k.toInt ≤ 9) : Wp (f_L_isShownSo_131 s b m a 1 k w) (fun r w' => r = .inr 1 ∧ CS w' S) := by
  have L := LIT
  unfold f_L_isShownSo_131
  rw [FUv]
  refine wp_loop (fun σ : Int32 × Int32 × Int32 × Int32 × Int32 × Int32 × Wd => σ.1 = s ∧ σ.2.1 = b ∧ σ.2.2.1 = m ∧ σ.2.2.2.1 = a ∧ σ.2.2.2.2.1 = 1 ∧ 1 ≤ σ.2.2.2.2.2.1.toInt ∧ σ.2.2.2.2.2.1.toInt ≤ 9 ∧ CS σ.2.2.2.2.2.2 S) (fun σ => (20 - σ.2.2.2.2.2.1.toInt).toNat) ?_ 100000 _ ⟨rfl, rfl, rfl, rfl, rfl, hk.1, hk.2, hw⟩ (by dsimp only; omega)
  rintro rc ⟨s', b', m', a', i, k, u⟩ ⟨rfl, rfl, rfl, rfl, rfl, hk1, hk9, hu⟩ ih
  dsimp only at hk1 hk9 hu hs hb hm ha ha8 ⊢
  unfold g_L_isShownSo_131
  refine wp_ifle (fun _ => wp_ret ⟨rfl, hu⟩) (fun q => ?_)
  refine wp_ifeq (fun q2 => absurd q2 (by decide)) (fun _ => ?_)
  refine wp_ifle (fun _ => wp_ret ⟨rfl, hu⟩) (fun q9 => ?_)
  have hV := Vx_rng hS hs hb
  generalize hn : (Tx S s').length = n at hm ha hV
  have ek : (k - 1).toInt = k.toInt - 1 := by rw [i_sub (by rw [L.2.1]; omega), L.2.1]
  refine wp_bx (sho_w (p := k - 1) hS hu hs hb (by rw [hn]; omega)) ?_
  rintro x u1 ⟨h1, hx⟩
  refine wp_bx (sho_w (p := k) hS h1 hs hb (by rw [hn]; omega)) ?_
  rintro y u2 ⟨h2, hy⟩
  rw [hn] at hx hy
  generalize hj : k.toInt.toNat - 1 = j
  have ej : (k - 1).toInt.toNat = j := by omega
  have ej1 : k.toInt.toNat = j + 1 := by omega
  rw [ej] at hx
  rw [ej1] at hy
  have lx := Od_lt (v := Vx S s' b') (n := n) 13 j (by omega)
  have ly := Od_lt (v := Vx S s' b') (n := n) 13 (j + 1) (by omega)
  have W := Od_way (n := n) (v := Vx S s' b') hV (i := j) (by omega)
  have vx := hV _ lx
  generalize Od n (Vx S s' b') 13 j = ox at hx lx W vx
  generalize Od n (Vx S s' b') 13 (j + 1) = oy at hy ly W
  have step : ∀ u', CS u' S → Wp (lt (k + (1 : Int32)) (fun x2 => rc (s', b', m', a', (1 : Int32), x2, u'))) (fun r w' => r = .inr 1 ∧ CS w' S) := by
    intro u' hu'
    refine wp_add (by rw [L.2.1]; omega) (fun z hz => ?_)
    rw [L.2.1] at hz
    exact ih (s', b', m', a', 1, z, u') ⟨rfl, rfl, rfl, rfl, rfl, by dsimp only; omega, by dsimp only; omega, hu'⟩ (by dsimp only; omega)
  have exy : (x - y).toInt = x.toInt - y.toInt := i_sub (by omega)
  have eyx : (y - x).toInt = y.toInt - x.toInt := i_sub (by omega)
  have no : Wp (f_L_isShownSo_194 rc s' b' m' a' k x y 0 u2) (fun r w' => r = .inr 1 ∧ CS w' S) := by
    unfold f_L_isShownSo_194
    refine wp_bx (lev_w (p := x) hS h2 hs hb (by omega)) ?_
    rintro z u3 ⟨h3, -⟩
    exact wp_ifeq (fun _ => step u3 h3) (fun q => absurd rfl q)
  have yes : (oy = ox + 1 ∨ ox = oy + 1) → Wp (f_L_isShownSo_194 rc s' b' m' a' k x y 1 u2) (fun r w' => r = .inr 1 ∧ CS w' S) := by
    intro had
    unfold f_L_isShownSo_194
    refine wp_bx (lev_w (p := x) hS h2 hs hb (by omega)) ?_
    rintro z u3 ⟨h3, hz⟩
    refine wp_ifeq (fun q => absurd q (by decide)) (fun _ => ?_)
    refine wp_bx (lev_w (p := y) hS h3 hs hb (by omega)) ?_
    rintro z2 u4 ⟨h4, hz2⟩
    rw [show x.toInt.toNat = ox by omega] at hz
    rw [show y.toInt.toNat = oy by omega] at hz2
    refine wp_ifeq (fun qe => ?_) (fun _ => step u4 h4)
    have W2 := W (by rw [← hz, ← hz2]; exact qe) had
    have P := par_at (x := z) (by omega)
    rw [← hz] at W2
    have f236 : ∀ t : Int32, (t = 1 ∧ oy = ox + 1) ∨ (t = 0 ∧ ¬ oy = ox + 1) → Wp (f_L_isShownSo_236 rc s' b' m' a' k z t u4) (fun r w' => r = .inr 1 ∧ CS w' S) := by
      intro t ht
      unfold f_L_isShownSo_236 f_L_isShownSo_248
      refine wp_if (fun c => ?_) (fun c => ?_)
      · have o1 := W2.mpr (P.mp c)
        rcases ht with ⟨rfl, -⟩ | ⟨-, d⟩
        · exact wp_ifeq (fun _ => step u4 h4) (fun q => absurd rfl q)
        · exact absurd o1 d
      · rcases ht with ⟨-, d⟩ | ⟨rfl, -⟩
        · exact absurd (P.mpr (W2.mp d)) c
        · exact wp_ifeq (fun _ => step u4 h4) (fun q => absurd rfl q)
    exact wp_ifle (fun q => f236 0 (Or.inr ⟨rfl, by omega⟩)) (fun q => f236 1 (Or.inl ⟨rfl, by omega⟩))
  refine wp_ifeq (fun q1 => yes (Or.inr (by rw [exy, L.2.1] at q1; omega))) (fun q1 => ?_)
  refine wp_ifeq (fun q2 => yes (Or.inl (by rw [eyx, L.2.1] at q2; omega))) (fun q2 => ?_)
  exact no
/-- each letter once, of a level from the base on -/
theorem shown_30 (hS : OS S) (hs : slo s) (hb : -1 ≤ b.toInt ∧ b.toInt ≤ 1) (hw : CS w S) {m a : Int32} (hm : m.toInt = (Tx S s).length) (ha : a.toInt ≤ (Tx S s).length) (ha8 : a.toInt ≤ 8) : Wp (f_L_isShownSo_30 s b m a 0 1 0 w) (fun r w' => r = .inr 1 ∧ CS w' S) := by
  have L := LIT
  have e11 : (11 : Int32).toInt = 11 := by decide
  have e9 : (9 : Int32).toInt = 9 := by decide
  unfold f_L_isShownSo_30
  rw [FUv]
  refine wp_loop (fun σ : Int32 × Int32 × Int32 × Int32 × Int64 × Int32 × Int32 × Wd => σ.1 = s ∧ σ.2.1 = b ∧ σ.2.2.1 = m ∧ σ.2.2.2.1 = a ∧ σ.2.2.2.2.2.1 = 1 ∧ 0 ≤ σ.2.2.2.2.2.2.1.toInt ∧ σ.2.2.2.2.2.2.1.toInt ≤ (Tx S s).length ∧ CS σ.2.2.2.2.2.2.2 S ∧ (∀ j : Nat, j < 64 → mk σ.2.2.2.2.1 j → ∃ i : Nat, (i : Int) < σ.2.2.2.2.2.2.1.toInt ∧ Od (Tx S s).length (Vx S s b) 13 i = j)) (fun σ => (50 - σ.2.2.2.2.2.2.1.toInt).toNat) ?_ 100000 _
    ⟨rfl, rfl, rfl, rfl, rfl, by dsimp only; rw [L.1]; omega, by dsimp only; rw [L.1]; omega, hw, fun j hj q => absurd q mk_zero⟩ (by dsimp only; rw [L.1]; omega)
  rintro rc ⟨s', b', m', a', sn_, i, k, u⟩ ⟨rfl, rfl, rfl, rfl, rfl, hk0, hk1, hu, hseen⟩ ih
  dsimp only at hk0 hk1 hu hseen hs hb hm ha ha8 ⊢
  unfold g_L_isShownSo_30
  have out : Wp (f_L_isShownSo_128 s' b' m' a' 1 u) (fun r w' => r = .inr 1 ∧ CS w' S) := by
    unfold f_L_isShownSo_128
    exact shown_131 hS hs hb hu hm ha ha8 (by rw [L.2.1]; omega)
  refine wp_ifle (fun _ => out) (fun q => ?_)
  refine wp_ifeq (fun q2 => absurd q2 (by decide)) (fun _ => ?_)
  refine wp_ifle (fun _ => out) (fun q9 => ?_)
  rw [e9] at q9
  have hV := Vx_rng hS hs hb
  refine wp_bx (sho_w (p := k) hS hu hs hb (by omega)) ?_
  rintro x u1 ⟨h1, hx⟩
  have lx := Od_lt (v := Vx S s' b') (n := (Tx S s').length) 13 k.toInt.toNat (by omega)
  have inj := Od_inj (v := Vx S s' b') (n := (Tx S s').length) 13
  have nm : ¬ mk sn_ x.toInt.toNat := by
    intro c
    obtain ⟨i, hi, e⟩ := hseen _ (by omega) c
    have := inj i k.toInt.toNat (by omega) (by omega) (by omega)
    omega
  have VB := Vx_base hS hs hb (i := x.toInt.toNat) (by omega)
  refine wp_if (fun _ => ?_) (fun c => absurd (lg_eq.mpr (by rw [bit_at (by omega), if_neg nm])) c)
  refine wp_bx (lev_w (p := x) hS h1 hs hb (by omega)) ?_
  rintro v u2 ⟨h2, hv⟩
  have f90 : ∀ (t : Int32) (u3 : Wd), CS u3 S → t.toInt ≤ Vx S s' b' x.toInt.toNat → Wp (f_L_isShownSo_90 rc s' b' m' a' sn_ k x v t u3) (fun r w' => r = .inr 1 ∧ CS w' S) := by
    intro t u3 h3 ht
    unfold f_L_isShownSo_90
    refine wp_iflt (fun c => by omega) (fun _ => ?_)
    refine wp_bx (lev_w (p := x) hS h3 hs hb (by omega)) ?_
    rintro v2 u4 ⟨h4, hv2⟩
    have hr := hV x.toInt.toNat (by omega)
    refine wp_ifle (fun c => by rw [e11] at c; omega) (fun _ => ?_)
    unfold f_L_isShownSo_111
    refine wp_lt (fun y hy => wp_add (by rw [L.2.1]; omega) (fun z hz => ?_))
    rw [L.2.1] at hz
    refine ih (s', b', m', a', y, 1, z, u4) ⟨rfl, rfl, rfl, rfl, rfl, by dsimp only; omega, by dsimp only; omega, h4, fun j hj c => ?_⟩ (by dsimp only; omega)
    dsimp only at c ⊢
    rw [hy, mk_or (by omega) hj] at c
    rcases c with c | c
    · obtain ⟨i, hi, e⟩ := hseen j hj c
      exact ⟨i, by omega, e⟩
    · exact ⟨k.toInt.toNat, by omega, by omega⟩
  refine wp_ifle (fun c => f90 b' u2 h2 ?_) (fun c => ?_)
  · have e : bsF S.1 (Tx S s') b'.toInt = b'.toInt := by unfold bsF; rw [if_neg (by rw [L.1] at c; omega)]
    rw [e] at VB; exact VB
  · refine wp_bx (base_w hS h2 hs) ?_
    rintro t u3 ⟨h3, ht⟩
    have e : bsF S.1 (Tx S s') b'.toInt = t.toInt := by unfold bsF; rw [if_pos (by rw [L.1] at c; omega), ht]
    rw [e] at VB
    exact f90 t u3 h3 VB
/-- the check of what is shown says yes -/
theorem shown_so (hS : OS S) (hs : slo s) (hb : -1 ≤ b.toInt ∧ b.toInt ≤ 1) (hw : CS w S) : Wp (f_L_isShownSo s b w) (fun r w' => r = .inr 1 ∧ CS w' S) := by
  have e8 : (8 : Int32).toInt = 8 := by decide
  unfold f_L_isShownSo
  refine wp_bx (at_len hS hs hw) ?_
  rintro n _ ⟨rfl, hn⟩
  unfold f_L_isShownSo_19
  exact wp_ifle (fun q => shown_30 hS hs hb hw hn (by rw [e8]; rw [e8] at q; show (8 : Int) ≤ ((S.2.1 s.toInt.toNat).length : Int); omega) (by rw [e8]; omega)) (fun q => shown_30 hS hs hb hw hn (by show n.toInt ≤ ((S.2.1 s.toInt.toNat).length : Int); omega) (by omega))
end
