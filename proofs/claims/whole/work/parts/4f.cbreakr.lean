/-! ===== breaks, the reference's ===== -/
theorem wbk_6 {a b v u : Int} (h : a = 6 → (v = 1 ↔ u = 1)) (g : wbk a b v) : wbk a b u := by
  rcases g with ⟨h1, h2, h3⟩ | g
  · exact Or.inl ⟨h1, h2, (h h1).mp h3⟩
  · exact Or.inr g
theorem brk_iff {tab : Nat → Int} {l : List Int} {what v : Int} {p : Nat} (h40 : l.length ≤ 40) (hp : 0 < p ∧ p < l.length) (hv : v = 1 ↔ visS tab l 40 p) : (icl tab l p ∧ brkI what (kd tab l (ca tab l (p - 1))) (kd tab l p) v) ↔ brk tab l what p := by
  unfold brk brkI
  have E := fun h6 => vis_S (tab := tab) h40 hp h6
  constructor
  · rintro ⟨c, h⟩
    refine ⟨c, h.imp id ?_⟩
    rintro ⟨h1, h2⟩
    by_cases e : vis tab l 40 p
    · exact ⟨1, ⟨fun _ => e, fun _ => rfl⟩, wbk_6 (fun h6 => ⟨fun _ => rfl, fun _ => hv.mpr ((E h6).mp e)⟩) h1, h2⟩
    · exact ⟨0, ⟨fun q => absurd q (by decide), fun q => absurd q e⟩, wbk_6 (fun h6 => ⟨fun q => absurd ((E h6).mpr (hv.mp q)) e, fun q => absurd q (by decide)⟩) h1, h2⟩
  · rintro ⟨c, h⟩
    refine ⟨c, h.imp id ?_⟩
    rintro ⟨u, hu, h1, h2⟩
    exact ⟨wbk_6 (fun h6 => hu.trans ((E h6).trans hv.symm)) h1, h2⟩
theorem r_breaks {w : Wd} {tab : Nat → Int} {txt : Nat → List Int} {s x : Int32} (hk : tok tab) (ht : rtab w = tab) (hx : rtx w txt) (hkx : xok txt) :
    Wp (f_X11_breaks s x w) (fun r w' => rcg (fun k => k = 0) (fun k => k = 733) w w' ∧ ((bad_s1 s.toInt ∧ (w'.1 713 0).toInt = 1) ∨ (¬ bad_s1 s.toInt ∧ bad_w x.toInt ∧ (w'.1 713 0).toInt = 2) ∨
      (¬ bad_s1 s.toInt ∧ ¬ bad_w x.toInt ∧ (w'.1 713 0).toInt = 0 ∧ bits r (fun k => 0 < k ∧ k < (txt s.toInt.toNat).length ∧ brk tab (txt s.toInt.toNat) x.toInt k)))) := by
  have L := LIT
  have thu : ∀ (u : Wd) (x : Int32), (setI u 713 0 x).1 713 0 = x := fun u x => by rw [setI_at, if_pos (by decide)]
  unfold f_X11_breaks
  simp only [e_isSlot, bd_r, ite_zo, e_in]
  refine wp_if (fun hs => ?_) (fun hs => ?_)
  · have nb1 : ¬ bad_s1 s.toInt := fun q => q hs
    refine wp_if (fun hw => ?_) (fun hw => ?_)
    · have hw2 : 0 ≤ x.toInt ∧ x.toInt ≤ 2 := by have := L.2.2.2.1; omega
      have nb2 : ¬ bad_w x.toInt := fun q => q hw2
      unfold f_X11_breaks_26
      rw [e_holds, bd_r, ite_zo, if_pos rfl]
      have h40 := (hkx _ (slot_lt hs)).1
      have x2 : rtx (setI w 713 0 0) txt := rtx_fr hx (by funext c; rw [setI_at, if_neg (by omega)]) (by funext c; rw [setI_at, if_neg (by omega)])
      have t2 : rtab (setI w 713 0 0) = tab := (rtab_fr (w := w) (w' := setI w 713 0 0) (by funext c; rw [setI_at, if_neg (by omega)])).trans ht
      refine wp_bd (s_laysWords hk t2 x2 hkx hs) ?_
      rintro _ w1 ⟨o1, a1⟩
      obtain ⟨t3, x3⟩ := o733_r o1 t2 x2
      have R : rcg (fun k => k = 0) (fun k => k = 733) w w1 := rcg_tr (rcg_fld (j := 0) (v := 0) rfl) ⟨fun k _ h => o1.1 k h, fun f _ => by rw [o1.1 713 (by decide)], o1.2⟩
      have z : (w1.1 713 0).toInt = 0 := by rw [o1.1 713 (by decide), thu]; exact L.1
      unfold f_X11_breaks_44
      rw [FUv]
      refine wp_loop (fun σ : Int32 × Int32 × Int64 × Int32 × Wd => σ.1 = s ∧ σ.2.1 = x ∧ σ.2.2.2.2 = w1 ∧ 1 ≤ σ.2.2.2.1.toInt ∧ (σ.2.2.2.1.toInt = 1 ∨ σ.2.2.2.1.toInt ≤ (txt s.toInt.toNat).length) ∧ bits σ.2.2.1 (fun k => 0 < k ∧ (k : Int) < σ.2.2.2.1.toInt ∧ brk tab (txt s.toInt.toNat) x.toInt k))
        (fun σ => (50 - σ.2.2.2.1.toInt).toNat) ?_ 100000 _ ⟨rfl, rfl, rfl, by dsimp only; omega, Or.inl L.2.1, fun k hk => ?_⟩ (by dsimp only; omega)
      · rintro rc ⟨s', x', m, i, u⟩ ⟨rfl, rfl, rfl, hi, hi2, hb⟩ ih
        dsimp only at *
        unfold g_X11_breaks_44
        refine s_len x3 hs (fun n hn => ?_)
        refine wp_ifle (fun q => wp_ret ⟨R, Or.inr (Or.inr ⟨nb1, nb2, z, fun k hk => ?_⟩)⟩) (fun q => ?_)
        · rw [hb k hk]
          constructor
          · rintro ⟨a, b, c⟩; exact ⟨a, by omega, c⟩
          · rintro ⟨a, b, c⟩; exact ⟨a, by omega, c⟩
        have ci : ((i.toInt.toNat : Nat) : Int) = i.toInt := by omega
        have A := a1 i.toInt.toNat (by omega) (by omega)
        refine wp_bd (r_isBreak t3 x3 hkx hs (p := i) (by omega) hw2 A.1) ?_
        rintro y _ ⟨rfl, hy1, hy2⟩
        have B := brk_iff (tab := tab) (what := x'.toInt) h40 (p := i.toInt.toNat) (by omega) A.2
        rw [ci] at B
        have hy3 := hy2.trans B
        refine wp_ifeq (fun q2 => ?_) (fun q2 => ?_)
        · unfold f_X11_breaks_75
          refine wp_lt (fun b2 hb2 => wp_add (by omega) (fun z2 hz2 => ?_))
          refine ih (s', x', b2, z2, u) ⟨rfl, rfl, rfl, by dsimp only; omega, by dsimp only; omega, fun k hk => ?_⟩ (by dsimp only; omega)
          dsimp only
          rw [hb2, show m ||| (0 : Int64) = m from Int64.or_zero, hb k hk, hz2, L.2.1]
          constructor
          · rintro ⟨a, b, c⟩; exact ⟨a, by omega, c⟩
          · rintro ⟨a, b, c⟩
            refine ⟨a, ?_, c⟩
            by_cases e : k = i.toInt.toNat
            · have := hy3.mpr (e ▸ c)
              omega
            · omega
        · unfold f_X11_breaks_75
          refine wp_lt (fun b2 hb2 => wp_add (by omega) (fun z2 hz2 => ?_))
          refine ih (s', x', b2, z2, u) ⟨rfl, rfl, rfl, by dsimp only; omega, by dsimp only; omega, fun k hk => ?_⟩ (by dsimp only; omega)
          dsimp only
          rw [hb2, mk_or (by omega) hk, hb k hk, hz2, L.2.1]
          constructor
          · rintro (⟨a, b, c⟩ | a)
            · exact ⟨a, by omega, c⟩
            · subst a; exact ⟨by omega, by omega, hy3.mp (by omega)⟩
          · rintro ⟨a, b, c⟩
            by_cases e : k = i.toInt.toNat
            · exact Or.inr e
            · exact Or.inl ⟨a, by omega, c⟩
      · refine ⟨fun q => absurd q mk_zero, ?_⟩
        rintro ⟨a, b, c⟩
        dsimp only at b
        omega
    · have bw : bad_w x.toInt := fun q => hw (by have := L.2.2.2.1; omega)
      unfold f_X11_breaks_26
      rw [e_holds, bd_r, ite_zo, if_neg (by decide)]
      exact wp_ret ⟨rcg_fld rfl, Or.inr (Or.inl ⟨nb1, bw, by rw [thu]; exact L.2.2.2.1⟩)⟩
  · unfold f_X11_breaks_26
    rw [e_holds, bd_r, ite_zo, if_neg (by decide)]
    exact wp_ret ⟨rcg_fld rfl, Or.inl ⟨hs, by rw [thu]; exact L.2.1⟩⟩
