/-! ===== words, the reference's ===== -/
theorem s_tb {R : Type} {w : Wd} {tab : Nat → Int} {x : Int32} {k : Int32 → Option (R × Wd)} {Q : R → Wd → Prop} (ht : rtab w = tab) (hx : 0 ≤ x.toInt ∧ x.toInt < 1740) (h : ∀ y : Int32, y.toInt = tab x.toInt.toNat → Wp (k y) Q) : Wp (ald w 714 x k) Q :=
  wp_ald (by have := LENs.2.2.1; omega) (h _ (by rw [← ht]; rfl))
theorem s_isWordAt {w : Wd} {tab : Nat → Int} {txt : Nat → List Int} {s p i : Int32} (hk : tok tab) (ht : rtab w = tab) (hx : rtx w txt) (hkx : xok txt) (hs : 0 ≤ s.toInt ∧ s.toInt ≤ 5) (hp : 0 ≤ p.toInt ∧ p.toInt < (txt s.toInt.toNat).length) (hi : 0 ≤ i.toInt ∧ i.toInt < tab 1502) :
    Wp (f_X11_isWordAt s p i w) (fun x w' => w = w' ∧ x = zo (p.toInt + (wd tab i.toInt.toNat).length ≤ (txt s.toInt.toNat).length ∧ slc (txt s.toInt.toNat) p.toInt (p.toInt + (wd tab i.toInt.toNat).length) = wd tab i.toInt.toNat)) := by
  have L := LIT
  have K := hk.2.2.1
  have h40 := (hkx _ (slot_lt hs)).1
  have e1503 : (1503 : Int32).toInt = 1503 := by decide
  have m1 : ((9 : Int32) * i).toInt = 9 * i.toInt := i_mul' (show (9 : Int32).toInt = 9 by decide) (by omega)
  have kw := K.2.2 i.toInt.toNat (by omega)
  have wl := wd_len tab i.toInt.toNat
  unfold f_X11_isWordAt
  refine wp_add (by omega) (fun a ha => ?_)
  have ea : a.toInt.toNat = 1503 + 9 * i.toInt.toNat := by omega
  refine s_tb ht (by omega) (fun n hn => ?_)
  rw [ea] at hn
  refine s_len hx hs (fun z hz => ?_)
  have loop : ∀ x : Int32, (x = 1 ∧ p.toInt + (wd tab i.toInt.toNat).length ≤ (txt s.toInt.toNat).length) ∨ (x = 0 ∧ ¬ hld (txt s.toInt.toNat) (wd tab i.toInt.toNat) p.toInt) → Wp (f_X11_isWordAt_33 s p a x w) (fun x w' => w = w' ∧ x = zo (p.toInt + (wd tab i.toInt.toNat).length ≤ (txt s.toInt.toNat).length ∧ slc (txt s.toInt.toNat) p.toInt (p.toInt + (wd tab i.toInt.toNat).length) = wd tab i.toInt.toNat)) := by
    intro x hx0
    unfold f_X11_isWordAt_33 f_X11_isWordAt_38
    rw [FUv]
    refine wp_loop (fun σ : Int32 × Int32 × Int32 × Int32 × Int32 × Wd => σ.1 = s ∧ σ.2.1 = p ∧ σ.2.2.1 = a ∧ σ.2.2.2.2.2 = w ∧ 0 ≤ σ.2.2.2.2.1.toInt ∧ σ.2.2.2.2.1.toInt ≤ (wd tab i.toInt.toNat).length ∧
      ((σ.2.2.2.1 = 1 ∧ p.toInt + (wd tab i.toInt.toNat).length ≤ (txt s.toInt.toNat).length ∧ ∀ j : Nat, (j : Int) < σ.2.2.2.2.1.toInt → gt (txt s.toInt.toNat) (p.toInt + j) = gt (wd tab i.toInt.toNat) j) ∨ (σ.2.2.2.1 = 0 ∧ ¬ hld (txt s.toInt.toNat) (wd tab i.toInt.toNat) p.toInt)))
      (fun σ => (10 - σ.2.2.2.2.1.toInt).toNat) ?_ 100000 _ ⟨rfl, rfl, rfl, rfl, by dsimp only; omega, by dsimp only; omega, ?_⟩ (by dsimp only; omega)
    · rintro rc ⟨s', p', a', y, k, u⟩ ⟨rfl, rfl, rfl, rfl, hk0, hk1, hy⟩ ih
      dsimp only at hk0 hk1 hy ht hx hs hp ha ea h40 ⊢
      unfold g_X11_isWordAt_38
      refine s_tb ht (by omega) (fun n2 hn2 => ?_)
      rw [ea] at hn2
      refine wp_ifle (fun q => ?_) (fun q => ?_)
      · rcases hy with ⟨rfl, b, c⟩ | ⟨rfl, c⟩
        · refine wp_ret ⟨rfl, ?_⟩
          unfold zo
          rw [if_pos ((hld_slc hp.1).mp ⟨hp.1, b, fun j hj => c j (by omega)⟩)]
        · refine wp_ret ⟨rfl, ?_⟩
          unfold zo
          rw [if_neg (fun f => c ((hld_slc hp.1).mpr f))]
      · rcases hy with ⟨rfl, b, c⟩ | ⟨rfl, c⟩
        · refine wp_ifeq (fun q2 => by omega) (fun _ => ?_)
          have e1 : (p' + k).toInt = p'.toInt + k.toInt := i_add (by omega)
          refine wp_bd (s_let hx hs (k := p' + k) (by omega) h40) ?_
          rintro x1 _ ⟨rfl, hx1⟩
          have e2 : (a' + 1).toInt = a'.toInt + 1 := by rw [i_add (by omega), L.2.1]
          have e3 : (a' + 1 + k).toInt = a'.toInt + 1 + k.toInt := by rw [i_add (by omega), e2]
          refine s_tb ht (by omega) (fun x2 hx2 => ?_)
          have e4 : (a' + 1 + k).toInt.toNat = 1503 + 9 * i.toInt.toNat + 1 + k.toInt.toNat := by omega
          have g : gt (wd tab i.toInt.toNat) k.toInt = tab (1503 + 9 * i.toInt.toNat + 1 + k.toInt.toNat) := tl_gt hk0 (by omega)
          rw [e4, ← g] at hx2
          rw [e1] at hx1
          refine wp_ifeq (fun q3 => wp_add (by omega) (fun y hy => ih (s', p', a', 1, y, u) ⟨rfl, rfl, rfl, rfl, by dsimp only; omega, by dsimp only; omega, Or.inl ⟨rfl, b, fun j hj => ?_⟩⟩ (by dsimp only; omega))) (fun q3 => wp_add (by omega) (fun y hy => ih (s', p', a', 0, y, u) ⟨rfl, rfl, rfl, rfl, by dsimp only; omega, by dsimp only; omega, Or.inr ⟨rfl, fun f => q3 ?_⟩⟩ (by dsimp only; omega)))
          · dsimp only at hj
            by_cases d : (j : Int) = k.toInt
            · rw [d, ← hx1, ← hx2, q3]
            · exact c j (by omega)
          · have := f.2.2 k.toInt.toNat (by omega)
            rw [show ((k.toInt.toNat : Nat) : Int) = k.toInt by omega] at this
            rw [hx1, hx2, this]
        · refine wp_ifeq (fun _ => wp_ret ⟨rfl, ?_⟩) (fun q2 => by omega)
          unfold zo
          rw [if_neg (fun f => c ((hld_slc hp.1).mpr f))]
    · dsimp only
      rcases hx0 with ⟨rfl, b⟩ | ⟨rfl, b⟩
      · exact Or.inl ⟨rfl, b, fun j hj => by omega⟩
      · exact Or.inr ⟨rfl, b⟩
  have e5 : (p + n).toInt = p.toInt + n.toInt := i_add (by omega)
  refine wp_iflt (fun q => loop 0 (Or.inr ⟨rfl, fun f => ?_⟩)) (fun q => loop 1 (Or.inl ⟨rfl, by omega⟩))
  have := f.2.1
  omega
theorem s_wordEndR {w : Wd} {tab : Nat → Int} {txt : Nat → List Int} {s p lim : Int32} (hk : tok tab) (ht : rtab w = tab) (hx : rtx w txt) (hkx : xok txt) (hs : 0 ≤ s.toInt ∧ s.toInt ≤ 5) (hp : 0 ≤ p.toInt ∧ p.toInt < (txt s.toInt.toNat).length) (hlim : lim.toInt ≤ (txt s.toInt.toNat).length) :
    Wp (f_X11_wordEnd s p lim w) (fun x w' => w = w' ∧ x.toInt = wend tab (txt s.toInt.toNat) p.toInt lim.toInt) := by
  have L := LIT
  have K := hk.2.2.1
  have h40 := (hkx _ (slot_lt hs)).1
  have e1503 : (1503 : Int32).toInt = 1503 := by decide
  have e1502 : (1502 : Int32).toInt = 1502 := by decide
  unfold f_X11_wordEnd f_X11_wordEnd_6
  rw [FUv]
  refine wp_loop (fun σ : Int32 × Int32 × Int32 × Int32 × Int32 × Wd => σ.1 = s ∧ σ.2.1 = p ∧ σ.2.2.1 = lim ∧ σ.2.2.2.2.2 = w ∧ 0 ≤ σ.2.2.2.2.1.toInt ∧ σ.2.2.2.2.1.toInt ≤ tab 1502 ∧ σ.2.2.2.1.toInt = lg tab (txt s.toInt.toNat) p.toInt lim.toInt σ.2.2.2.2.1.toInt.toNat)
    (fun σ => (7 - σ.2.2.2.2.1.toInt).toNat) ?_ 100000 _ ⟨rfl, rfl, rfl, rfl, by dsimp only; omega, by dsimp only; omega, by dsimp only; rw [L.1]; rfl⟩ (by dsimp only; omega)
  rintro rc ⟨s', p', lim', g, i, u⟩ ⟨rfl, rfl, rfl, rfl, hi, hi2, hg⟩ ih
  dsimp only at hi hi2 hg ht hx hs hp hlim h40 ⊢
  unfold g_X11_wordEnd_6
  refine s_tb ht (by omega) (fun n hn => ?_)
  rw [show (1502 : Int32).toInt.toNat = 1502 by omega] at hn
  have ib := lg_bd (l := txt s'.toInt.toNat) (p := p'.toInt) (lim := lim'.toInt) hk i.toInt.toNat (by omega)
  refine wp_ifle (fun q => wp_add (by omega) (fun z hz => ?_)) (fun q => ?_)
  · have ei : i.toInt.toNat = (tab 1502).toNat := by omega
    rw [ei] at hg ib
    unfold f_X11_wordEnd_105
    rw [FUv]
    refine wp_loop (fun σ : Int32 × Int32 × Int32 × Int32 × Wd => σ.1 = s' ∧ σ.2.1 = p' ∧ σ.2.2.1 = g ∧ σ.2.2.2.2 = u ∧ 1 ≤ σ.2.2.2.1.toInt ∧ σ.2.2.2.1.toInt ≤ (txt s'.toInt.toNat).length ∧ ∃ k : Nat, sn tab (txt s'.toInt.toNat) 1 k σ.2.2.2.1.toInt = sn tab (txt s'.toInt.toNat) 1 50 (p'.toInt + 1) ∧ 42 - σ.2.2.2.1.toInt ≤ k)
      (fun σ => (42 - σ.2.2.2.1.toInt).toNat) ?_ 100000 _ ⟨rfl, rfl, rfl, rfl, by dsimp only; omega, by dsimp only; omega, 50, by dsimp only; rw [hz, L.2.1], by dsimp only; omega⟩ (by dsimp only; omega)
    rintro rc2 ⟨s2, p2, g2, j, u2⟩ ⟨rfl, rfl, rfl, rfl, hj, hj2, k, hk1, hk2⟩ ih2
    dsimp only at hj hj2 hk1 hk2 hg ht hx hs hp hlim h40 ib ⊢
    unfold g_X11_wordEnd_105
    obtain ⟨k', rfl⟩ : ∃ k', k = k' + 1 := ⟨k - 1, by omega⟩
    rw [sn_in (by omega)] at hk1
    refine wp_bd (r_isEdge ht hx hkx hs (by omega)) ?_
    rintro x _ ⟨rfl, rfl⟩
    rw [ite_zo]
    refine wp_if (fun c => ?_) (fun c => wp_add (by omega) (fun y hy => ?_))
    · rw [if_pos c] at hk1
      unfold wend
      refine wp_ifle (fun q2 => wp_ret ⟨rfl, ?_⟩) (fun q2 => wp_ret ⟨rfl, ?_⟩)
      · rw [if_pos (by omega)]; exact hk1
      · rw [if_neg (by omega), i_add (by omega), hg]
    · rw [if_neg c] at hk1
      have hy3 : y.toInt = j.toInt + 1 := by omega
      have jl : j.toInt ≠ (txt s2.toInt.toNat).length := fun e => c (Or.inl e)
      exact ih2 (s2, p2, g2, y, u2) ⟨rfl, rfl, rfl, rfl, by dsimp only; omega, by dsimp only; omega, k', by dsimp only; rw [hy3]; exact hk1, by dsimp only; omega⟩ (by dsimp only; omega)
  · have kw := K.2.2 i.toInt.toNat (by omega)
    have wl := wd_len tab i.toInt.toNat
    have m1 : ((9 : Int32) * i).toInt = 9 * i.toInt := i_mul' (show (9 : Int32).toInt = 9 by decide) (by omega)
    have m2 : ((1503 : Int32) + (9 : Int32) * i).toInt = 1503 + 9 * i.toInt := by rw [i_add (by omega), m1, e1503]
    refine s_tb ht (by omega) (fun n2 hn2 => ?_)
    rw [m2, show (1503 + 9 * i.toInt).toNat = 1503 + 9 * i.toInt.toNat by omega] at hn2
    have e5 : (p' + n2).toInt = p'.toInt + n2.toInt := i_add (by omega)
    have step : ∀ (g2 y : Int32), y.toInt = i.toInt + (1 : Int32).toInt → g2.toInt = lg tab (txt s'.toInt.toNat) p'.toInt lim'.toInt (i.toInt.toNat + 1) → Wp (rc (s', p', lim', g2, y, u)) (fun r w' => u = w' ∧ r.toInt = wend tab (txt s'.toInt.toNat) p'.toInt lim'.toInt) := by
      intro g2 y hy h2
      have hy3 : y.toInt = i.toInt + 1 := by omega
      refine ih (s', p', lim', g2, y, u) ⟨rfl, rfl, rfl, rfl, by dsimp only; omega, by dsimp only; omega, ?_⟩ (by dsimp only; omega)
      dsimp only
      rw [hy3, show (i.toInt + 1).toNat = i.toInt.toNat + 1 by omega]
      exact h2
    have skip : ¬ (wfit tab (txt s'.toInt.toNat) p'.toInt lim'.toInt i.toInt.toNat ∧ lg tab (txt s'.toInt.toNat) p'.toInt lim'.toInt i.toInt.toNat < (wd tab i.toInt.toNat).length) → Wp (f_X11_wordEnd_90 rc s' p' lim' g i u) (fun r w' => u = w' ∧ r.toInt = wend tab (txt s'.toInt.toNat) p'.toInt lim'.toInt) := by
      intro nf
      unfold f_X11_wordEnd_90
      refine wp_add (by omega) (fun y hy => step g y hy ?_)
      rw [lg_s, if_neg nf]; exact hg
    have no : ¬ wfit tab (txt s'.toInt.toNat) p'.toInt lim'.toInt i.toInt.toNat → Wp (f_X11_wordEnd_70 rc s' p' lim' g i n2 u) (fun r w' => u = w' ∧ r.toInt = wend tab (txt s'.toInt.toNat) p'.toInt lim'.toInt) := by
      intro nf
      unfold f_X11_wordEnd_70 f_X11_wordEnd_71
      rw [if_pos rfl]
      exact skip (fun f => nf f.1)
    refine wp_bd (s_isWordAt hk ht hx hkx hs hp (by omega)) ?_
    rintro x _ ⟨rfl, rfl⟩
    rw [ite_zo]
    refine wp_if (fun c => ?_) (fun c => no (fun f => c f.1))
    refine wp_iflt (fun q2 => no (fun f => by have := f.2.1; omega)) (fun q2 => ?_)
    refine wp_bd (r_isEdge ht hx hkx hs (k := p' + n2) (by omega)) ?_
    rintro x _ ⟨rfl, rfl⟩
    rw [ite_zo, e5, show p'.toInt + n2.toInt = p'.toInt + (wd tab i.toInt.toNat).length by omega]
    refine wp_if (fun c2 => ?_) (fun c2 => no (fun f => c2 f.2.2))
    have f1 : wfit tab (txt s'.toInt.toNat) p'.toInt lim'.toInt i.toInt.toNat := ⟨c, by omega, c2⟩
    unfold f_X11_wordEnd_71
    refine wp_ifeq (fun q3 => by omega) (fun _ => ?_)
    refine wp_ifle (fun q3 => skip (fun f => by have := f.2; omega)) (fun q3 => wp_add (by omega) (fun y hy => step n2 y hy ?_))
    rw [lg_s, if_pos ⟨f1, by omega⟩]; omega
