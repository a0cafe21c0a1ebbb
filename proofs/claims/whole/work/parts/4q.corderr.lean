/-! ===== directions: the reference's order; shown ===== -/
theorem div2_all : ∀ n, n < 64 → ((Int32.ofNat n) / (2 : Int32)).toInt = ((n / 2 : Nat) : Int) := by decide +kernel
theorem i_div2 {x : Int32} (h : 0 ≤ x.toInt ∧ x.toInt < 64) : (x / (2 : Int32)).toInt = x.toInt / 2 := by
  have A := div2_all x.toInt.toNat (by omega)
  rw [i_back h.1] at A
  rw [A]; omega
def oOr (w w' : Wd) : Prop := oc (fun k => k = 732) w w'
section
variable {w0 : Wd} {txt : Nat → List Int} {s lev : Int32} {n : Nat} {v : Nat → Int} {o : Nat → Nat} {rc : Int32 × Int32 × Int32 × Wd → Option (Unit × Wd)} {Q : Unit → Wd → Prop}
/-- a state within one level -/
def ordS (w0 w : Wd) (n : Nat) (v : Nat → Int) (o : Nat → Nat) (L k : Int) : Prop :=
  oOr w0 w ∧ (∀ p : Nat, p < n → (w0.1 722 p).toInt = v p) ∧ (∀ j : Nat, j < n → (w.1 732 j).toInt = ((if (j : Int) < k then trnF n v o L j else o j : Nat) : Int)) ∧ (k = 0 ∨ k = n + 1 ∨ ¬ L ≤ v (o (k.toNat - 1)))
theorem s_ord92 {w : Wd} {k to : Int32} (hn : n ≤ 40) (hS : ordS w0 w n v o lev.toInt k.toInt) (hk : 0 ≤ k.toInt ∧ k.toInt ≤ to.toInt) (hto : to.toInt ≤ n) (hrun : ∀ j : Nat, k.toInt ≤ j → (j : Int) < to.toInt → lev.toInt ≤ v (o j)) (hend : to.toInt = n ∨ ¬ lev.toInt ≤ v (o to.toInt.toNat))
    (hgo : ∀ (z : Int32) (u : Wd), z.toInt = to.toInt + 1 → ordS w0 u n v o lev.toInt z.toInt → Wp (rc (s, lev, z, u)) Q) :
    Wp (f_X11_laysOrder_89 rc s lev k to w) Q := by
  have L := LIT
  have M := L724
  have d1 : (to - k).toInt = to.toInt - k.toInt := i_sub (by omega)
  have d2 := i_div2 (x := to - k) (by omega)
  have t1 : (to - (1 : Int32)).toInt = to.toInt - 1 := by rw [i_sub (by omega), L.2.1]
  obtain ⟨O0, hv, hc, hb⟩ := hS
  unfold f_X11_laysOrder_89 f_X11_laysOrder_92
  rw [FUv]
  refine wp_loop (fun σ : Int32 × Int32 × Int32 × Int32 × Int32 × Wd => σ.1 = s ∧ σ.2.1 = lev ∧ σ.2.2.1 = k ∧ σ.2.2.2.1 = to ∧ oOr w0 σ.2.2.2.2.2 ∧ 0 ≤ σ.2.2.2.2.1.toInt ∧ σ.2.2.2.2.1.toInt ≤ (to.toInt - k.toInt) / 2 ∧
      (∀ i : Nat, i < n → (σ.2.2.2.2.2.1 732 i).toInt = ((if k.toInt ≤ i ∧ (i : Int) < to.toInt then (if (i : Int) < k.toInt + σ.2.2.2.2.1.toInt ∨ to.toInt - 1 - σ.2.2.2.2.1.toInt < i then o (k.toInt.toNat + (to.toInt.toNat - 1) - i) else o i) else if (i : Int) < k.toInt then trnF n v o lev.toInt i else o i : Nat) : Int)))
    (fun σ => (42 - σ.2.2.2.2.1.toInt).toNat) ?_ 100000 _ ⟨rfl, rfl, rfl, rfl, O0, by dsimp only; omega, by dsimp only; omega, fun i hi => ?_⟩ (by dsimp only; omega)
  · rintro rc2 ⟨s', lev', k', to', j, u⟩ ⟨rfl, rfl, rfl, rfl, V, hj0, hj1, hw⟩ ih
    dsimp only at *
    unfold g_X11_laysOrder_92
    refine wp_ifle (fun q => wp_add (by omega) (fun z hz => hgo z u (by omega) ⟨V, hv, fun i hi => ?_, ?_⟩)) (fun q => ?_)
    · rw [hw i hi]
      by_cases c1 : k'.toInt ≤ i ∧ (i : Int) < to'.toInt
      · rw [if_pos c1, if_pos (show (i : Int) < z.toInt by omega)]
        have R := trn_run (n := n) (v := v) (o := o) (L := lev'.toInt) (a := k'.toInt.toNat) (b := to'.toInt.toNat - 1) (i := i) (by omega) (by omega) (fun x g1 g2 => hrun x (by omega) (by omega)) (by
          rcases hb with z | z | z
          · exact Or.inl (by omega)
          · omega
          · exact Or.inr z) (by
          rcases hend with z | z
          · exact Or.inl (by omega)
          · rw [show to'.toInt.toNat - 1 + 1 = to'.toInt.toNat by omega]; exact Or.inr z)
        rw [R]
        by_cases c2 : (i : Int) < k'.toInt + j.toInt ∨ to'.toInt - 1 - j.toInt < i
        · rw [if_pos c2]
        · rw [if_neg c2]
          rw [show k'.toInt.toNat + (to'.toInt.toNat - 1) - i = i by omega]
      · rw [if_neg c1]
        by_cases c2 : (i : Int) < k'.toInt
        · rw [if_pos c2, if_pos (by omega)]
        · rw [if_neg c2]
          by_cases c3 : (i : Int) = to'.toInt
          · rw [if_pos (by omega)]
            unfold trnF
            rcases hend with z | z
            · omega
            · rw [show to'.toInt.toNat = i by omega] at z
              rw [if_neg z]
          · rw [if_neg (by omega)]
    · rcases hend with g | g
      · exact Or.inr (Or.inl (by omega))
      · rw [show z.toInt.toNat - 1 = to'.toInt.toNat by omega]; exact Or.inr (Or.inr g)
    · have a1 : (k' + j).toInt = k'.toInt + j.toInt := i_add (by omega)
      have a2 : (to' - (1 : Int32) - j).toInt = to'.toInt - 1 - j.toInt := by rw [i_sub (by omega), t1]
      have x1 := hw (k'.toInt.toNat + j.toInt.toNat) (by omega)
      rw [if_pos (by omega), if_neg (by omega)] at x1
      have x2 := hw (to'.toInt.toNat - 1 - j.toInt.toNat) (by omega)
      rw [if_pos (by omega), if_neg (by omega)] at x2
      refine wp_ald (by omega) (wp_ald (by omega) (wp_ast (by omega) (wp_ast (by omega) (wp_add (by omega) (fun z hz => ih (s', lev', k', to', z, _) ⟨rfl, rfl, rfl, rfl, oc_tr V (oc_tr (oc_setI rfl) (oc_setI rfl)), by dsimp only; omega, by dsimp only; omega, fun i hi => ?_⟩ (by dsimp only; omega))))))
      dsimp only
      rw [setI_at, setI_at, a1, a2, show (k'.toInt + j.toInt).toNat = k'.toInt.toNat + j.toInt.toNat by omega, show (to'.toInt - 1 - j.toInt).toNat = to'.toInt.toNat - 1 - j.toInt.toNat by omega]
      by_cases e1 : i = to'.toInt.toNat - 1 - j.toInt.toNat
      · rw [if_pos ⟨rfl, e1⟩, x1, if_pos (by omega), if_pos (by omega), show k'.toInt.toNat + (to'.toInt.toNat - 1) - i = k'.toInt.toNat + j.toInt.toNat by omega]
      · rw [if_neg (fun g => e1 g.2)]
        by_cases e2 : i = k'.toInt.toNat + j.toInt.toNat
        · rw [if_pos ⟨rfl, e2⟩, x2, if_pos (by omega), if_pos (by omega), show k'.toInt.toNat + (to'.toInt.toNat - 1) - i = to'.toInt.toNat - 1 - j.toInt.toNat by omega]
        · rw [if_neg (fun g => e2 g.2), hw i hi]
          by_cases c1 : k'.toInt ≤ i ∧ (i : Int) < to'.toInt
          · rw [if_pos c1, if_pos c1]
            by_cases c2 : (i : Int) < k'.toInt + j.toInt ∨ to'.toInt - 1 - j.toInt < i
            · rw [if_pos c2, if_pos (by omega)]
            · rw [if_neg c2, if_neg (by omega)]
          · rw [if_neg c1, if_neg c1]
  · dsimp only
    rw [hc i hi]
    by_cases c1 : k.toInt ≤ i ∧ (i : Int) < to.toInt
    · rw [if_pos c1, if_neg (by omega), if_neg (by omega)]
    · rw [if_neg c1]
theorem s_ord56 {w : Wd} {k : Int32} (hx : rtx w0 txt) (hs : 0 ≤ s.toInt ∧ s.toInt ≤ 5) (hln : (txt s.toInt.toNat).length = n) (hol : ∀ i, i < n → o i < n) (hn : n ≤ 40) (hS : ordS w0 w n v o lev.toInt k.toInt) (hk : 0 ≤ k.toInt ∧ k.toInt < n)
    (hgo : ∀ (z : Int32) (u : Wd), k.toInt < z.toInt → z.toInt ≤ n + 1 → ordS w0 u n v o lev.toInt z.toInt → Wp (rc (s, lev, z, u)) Q) :
    Wp (f_X11_laysOrder_56 rc s lev k k w) Q := by
  have L := LIT
  have M := L724
  unfold f_X11_laysOrder_56
  rw [FUv]
  refine wp_loop (fun σ : Int32 × Int32 × Int32 × Int32 × Wd => σ.1 = s ∧ σ.2.1 = lev ∧ σ.2.2.1 = k ∧ σ.2.2.2.2 = w ∧ k.toInt ≤ σ.2.2.2.1.toInt ∧ σ.2.2.2.1.toInt ≤ n ∧ ∀ j : Nat, k.toInt ≤ j → (j : Int) < σ.2.2.2.1.toInt → lev.toInt ≤ v (o j))
    (fun σ => (42 - σ.2.2.2.1.toInt).toNat) ?_ 100000 _ ⟨rfl, rfl, rfl, rfl, Int.le_refl _, by dsimp only; omega, fun j g1 g2 => by dsimp only at g2; omega⟩ (by dsimp only; omega)
  rintro rc2 ⟨s', lev', k', to, u⟩ ⟨rfl, rfl, rfl, rfl, ht0, ht1, hrun⟩ ih
  dsimp only at *
  have x2 : rtx u txt := rtx_fr hx (hS.1.1 716 (by decide)) (hS.1.1 717 (by decide))
  unfold g_X11_laysOrder_56
  refine s_len x2 hs (fun m hm => ?_)
  have go : (to.toInt = n ∨ ¬ lev'.toInt ≤ v (o to.toInt.toNat)) → Wp (f_X11_laysOrder_89 rc s' lev' k' to u) Q :=
    fun hend => s_ord92 hn hS ⟨hk.1, ht0⟩ ht1 hrun hend (fun z u2 hz h => hgo z u2 (by omega) (by omega) h)
  refine wp_ifle (fun q => go (Or.inl (by omega))) (fun q => ?_)
  have c := hS.2.2.1 to.toInt.toNat (by omega)
  rw [if_neg (by omega)] at c
  have ol := hol to.toInt.toNat (by omega)
  have lv2 : (u.1 722 (o to.toInt.toNat)).toInt = v (o to.toInt.toNat) := by rw [hS.1.1 722 (by decide)]; exact hS.2.1 _ ol
  refine wp_ald (by omega) (wp_ald (by omega) ?_)
  rw [c, show ((o to.toInt.toNat : Nat) : Int).toNat = o to.toInt.toNat by omega]
  refine wp_iflt (fun d => go (Or.inr (by omega))) (fun d => wp_add (by omega) (fun z hz => ih (s', lev', k', z, u) ⟨rfl, rfl, rfl, rfl, by dsimp only; omega, by dsimp only; omega, fun j g1 g2 => ?_⟩ (by dsimp only; omega)))
  dsimp only at g2
  by_cases e : (j : Int) = to.toInt
  · rw [show j = to.toInt.toNat by omega]; omega
  · exact hrun j g1 (by omega)
end
def ordR (w : Wd) (n : Nat) (o : Nat → Nat) : Prop := ∀ i : Nat, i < n → (w.1 732 i).toInt = (o i : Int)
theorem s_laysOrder {w : Wd} {tab : Nat → Int} {txt : Nat → List Int} {s b : Int32} (hk : tok tab) (ht : rtab w = tab) (hx : rtx w txt) (hkx : xok txt) (hs : 0 ≤ s.toInt ∧ s.toInt ≤ 5) (hb : b.toInt = -1 ∨ b.toInt = 0 ∨ b.toInt = 1) :
    Wp (f_X11_laysOrder s b w) (fun _ w' => lrg w w' ∧ ordR w' (txt s.toInt.toNat).length (Od (txt s.toInt.toNat).length (LV tab (txt s.toInt.toNat) (fr tab (txt s.toInt.toNat) (bsF tab (txt s.toInt.toNat) b.toInt) (txt s.toInt.toNat).length)) 13)) := by
  have L := LIT
  have l13 : (13 : Int32).toInt = 13 := by decide
  have M := L724
  have Y : lok40 (txt s.toInt.toNat) := hkx _ (slot_lt hs)
  have h40 := Y.1
  unfold f_X11_laysOrder
  refine wp_bd (s_laysLevels hk ht hx hkx hs hb) ?_
  rintro _ w1 ⟨R1, h1⟩
  have x1 : rtx w1 txt := rtx_fr hx (R1.1 716 (by decide) (by omega)) (R1.1 717 (by decide) (by omega))
  generalize LV tab (txt s.toInt.toNat) (fr tab (txt s.toInt.toNat) (bsF tab (txt s.toInt.toNat) b.toInt) (txt s.toInt.toNat).length) = v at h1 ⊢
  have OR : ∀ {u : Wd}, oOr w1 u → lrg w u := fun h => rcg_tr R1 ⟨fun k _ q => h.1 k (by omega), fun f _ => by rw [h.1 713 (by omega)], h.2⟩
  unfold f_X11_laysOrder_8
  rw [FUv]
  refine wp_loop (fun σ : Int32 × Int32 × Wd => σ.1 = s ∧ oOr w1 σ.2.2 ∧ 0 ≤ σ.2.1.toInt ∧ σ.2.1.toInt ≤ (txt s.toInt.toNat).length ∧ ∀ j : Nat, (j : Int) < σ.2.1.toInt → (σ.2.2.1 732 j).toInt = j)
    (fun σ => (42 - σ.2.1.toInt).toNat) ?_ 100000 _ ⟨rfl, oc_rf, by dsimp only; omega, by dsimp only; omega, fun j hj => by dsimp only at hj; omega⟩ (by dsimp only; omega)
  rintro rc ⟨s', k, u⟩ ⟨rfl, V, hk0, hk1, hid⟩ ih
  dsimp only at *
  have x2 : rtx u txt := rtx_fr x1 (V.1 716 (by decide)) (V.1 717 (by decide))
  unfold g_X11_laysOrder_8
  refine s_len x2 hs (fun n hn => ?_)
  refine wp_ifle (fun q => ?_) (fun q => wp_ast (by omega) (wp_add (by omega) (fun z hz => ih (s', z, _) ⟨rfl, oc_tr V (oc_setI rfl), by dsimp only; omega, by dsimp only; omega, fun j hj => ?_⟩ (by dsimp only; omega))))
  · unfold f_X11_laysOrder_34
    rw [FUv]
    refine wp_loop (fun σ : Int32 × Int32 × Wd => σ.1 = s' ∧ oOr w1 σ.2.2 ∧ 0 ≤ σ.2.1.toInt ∧ σ.2.1.toInt ≤ 13 ∧ ordR σ.2.2 (txt s'.toInt.toNat).length (Od (txt s'.toInt.toNat).length v (13 - σ.2.1.toInt.toNat)))
      (fun σ => σ.2.1.toInt.toNat) ?_ 100000 _ ⟨rfl, V, by dsimp only; omega, by dsimp only; omega, fun j hj => by dsimp only; rw [l13]; exact hid j (by omega)⟩ (by dsimp only; omega)
    rintro rc2 ⟨s2, lev, u2⟩ ⟨rfl, V2, hl0, hl1, hO⟩ ih2
    dsimp only at *
    unfold g_X11_laysOrder_34
    refine wp_ifle (fun c => wp_ret ⟨OR V2, ?_⟩) (fun c => ?_)
    · rw [show 13 - lev.toInt.toNat = 13 by omega] at hO; exact hO
    unfold f_X11_laysOrder_41
    rw [FUv]
    refine wp_loop (fun σ : Int32 × Int32 × Int32 × Wd => σ.1 = s2 ∧ σ.2.1 = lev ∧ 0 ≤ σ.2.2.1.toInt ∧ σ.2.2.1.toInt ≤ (txt s2.toInt.toNat).length + 1 ∧ ordS w1 σ.2.2.2 (txt s2.toInt.toNat).length v (Od (txt s2.toInt.toNat).length v (13 - lev.toInt.toNat)) lev.toInt σ.2.2.1.toInt)
      (fun σ => (42 - σ.2.2.1.toInt).toNat) ?_ 100000 _ ⟨rfl, rfl, by dsimp only; omega, by dsimp only; omega, V2, h1, fun j hj => by dsimp only; rw [if_neg (by omega)]; exact hO j hj, Or.inl L.1⟩ (by dsimp only; omega)
    rintro rc3 ⟨s3, lev3, j, u3⟩ ⟨rfl, rfl, hj0, hj1, hS⟩ ih3
    dsimp only at *
    have x3 : rtx u3 txt := rtx_fr x1 (hS.1.1 716 (by decide)) (hS.1.1 717 (by decide))
    unfold g_X11_laysOrder_41
    refine s_len x3 hs (fun n2 hn2 => ?_)
    refine wp_ifle (fun d => wp_add (by omega) (fun z hz => ih2 (s3, z, u3) ⟨rfl, hS.1, by dsimp only; omega, by dsimp only; omega, fun i hi => ?_⟩ (by dsimp only; omega))) (fun d => ?_)
    · dsimp only
      rw [hS.2.2.1 i hi, if_pos (by omega), show 13 - z.toInt.toNat = 13 - lev3.toInt.toNat + 1 by omega, Od_s, show (13 : Int) - ((13 - lev3.toInt.toNat : Nat) : Int) = lev3.toInt by omega]
    · exact s_ord56 x1 hs rfl (Od_lt _) h40 hS (by omega) (fun z u4 g1 g2 g3 => ih3 (s3, lev3, z, u4) ⟨rfl, rfl, by dsimp only; omega, g2, g3⟩ (by dsimp only; omega))
  · dsimp only at hj ⊢
    rw [setI_at]
    by_cases e : j = k.toInt.toNat
    · rw [if_pos ⟨rfl, e⟩]; omega
    · rw [if_neg (fun g => e g.2)]; exact hid j (by omega)
/-! shown -/
/-- the order of a text on the screen -/
def scrn (tab : Nat → Int) (l : List Int) (b : Int) : Nat → Nat := Od l.length (LV tab l (fr tab l (bsF tab l b) l.length)) 13
theorem bsF_01 {tab : Nat → Int} {l : List Int} {b : Int} (hb : b = -1 ∨ b = 0 ∨ b = 1) : bsF tab l b = 0 ∨ bsF tab l b = 1 := by
  unfold bsF
  split
  · exact bf_01 _ _
  · omega
theorem s_look {w : Wd} {tab : Nat → Int} {o : Nat} {b : Int32} {l : List Int} (hk : tok tab) (h : trel w 1 tab) (ho : okall w) (h7 : KD o = 7) (h6 : o ≤ 649) (hl : rl w o = l) (Y : lok40 l) (hb : b.toInt = -1 ∨ b.toInt = 0 ∨ b.toInt = 1) :
    Wp (bd (f_X3_lookAt o b w) (fun _ w9 => f_X3_screen w9)) (fun r w' => r = 671 ∧ lv w w' ∧ ordC w' l.length (scrn tab l b.toInt)) := by
  refine wp_bd (s_lookAt hk h ho h7 h6 hl Y hb) ?_
  rintro _ w1 ⟨V1, e1, e2⟩
  refine (s_screen V1.2 Y.1 ⟨e1, e2⟩ (fun p hp => LV_rng hk Y (bsF_01 hb) hp)).mono ?_
  rintro r w2 ⟨hr, V2, h2⟩
  exact ⟨hr, lv_tr V1 (cr_lv V2 (by decide) (by decide)), h2⟩
theorem bd_bd {R S T : Type} (o : Option (R × Wd)) (f : R → Wd → Option (S × Wd)) (g : S → Wd → Option (T × Wd)) : bd o (fun r w => bd (f r w) g) = bd (bd o f) g := by
  rcases o with _ | ⟨r, w⟩ <;> rfl
theorem k_shown {w : Wd} {tab : Nat → Int} {txt : Nat → List Int} {s p b : Int32} (hk : tok tab) (h : trel w 1 tab) (ho : okall w) (hx : ctx w txt) (hkx : xok txt) :
    Wp (f_X10_shown s p b w) (fun r w' => lv w w' ∧ ((bad_p txt s.toInt p.toInt ∧ r = .inl 1) ∨ (¬ bad_p txt s.toInt p.toInt ∧ bad_b b.toInt ∧ r = .inl 2) ∨
      (¬ bad_p txt s.toInt p.toInt ∧ ¬ bad_b b.toInt ∧ ∃ x : Int32, r = .inr x ∧ x.toInt = (scrn tab (txt s.toInt.toNat) b.toInt p.toInt.toNat : Nat)))) := by
  have L := LIT
  unfold f_X10_shown
  simp only [e_textOf, bdx_c]
  refine wp_if (fun hs => ?_) (fun hs => wp_ret ⟨lv_rf ho, Or.inl ⟨fun q => hs q.1, rfl⟩⟩)
  have hsN := slot_lt hs
  have K := slot_kd _ hsN
  have Y : lok40 (txt s.toInt.toNat) := hkx _ hsN
  refine wp_bd (s_size (ho _ K.1)) ?_
  rintro n _ ⟨rfl, hn⟩
  rw [hx _ hsN] at hn
  simp only [e_checkPlace, bdx_c]
  refine wp_if (fun hp => ?_) (fun hp => wp_ret ⟨lv_rf ho, Or.inl ⟨fun q => hp (by omega), rfl⟩⟩)
  have nb : ¬ bad_p txt s.toInt p.toInt := fun q => q ⟨hs, by omega⟩
  simp only [e_isWithin, bd_r, e_checkArgument, bdx_c]
  refine wp_if (fun hb => ?_) (fun hb => wp_ret ⟨lv_rf ho, Or.inr (Or.inl ⟨nb, fun q => hb (by omega), rfl⟩)⟩)
  rw [bd_bd]
  refine wp_bd (s_look hk h ho K.1 (by omega) (hx _ hsN) Y (by omega)) ?_
  rintro r w1 ⟨rfl, V1, e1⟩
  refine wp_bd (s_get (V1.2 _ KLR.2.2.2.2.2.2.2.2.2.2)) ?_
  rintro x _ ⟨rfl, hx2⟩
  refine wp_ret ⟨V1, Or.inr (Or.inr ⟨nb, fun q => q (by omega), x, rfl, ?_⟩)⟩
  have := e1.2 p.toInt.toNat (by omega)
  rw [show ((p.toInt.toNat : Nat) : Int) = p.toInt by omega] at this
  rw [hx2, this]
theorem r_shown {w : Wd} {tab : Nat → Int} {txt : Nat → List Int} {s p b : Int32} (hk : tok tab) (ht : rtab w = tab) (hx : rtx w txt) (hkx : xok txt) :
    Wp (f_X11_shown s p b w) (fun r w' => lrf w w' ∧ ((bad_p txt s.toInt p.toInt ∧ (w'.1 713 0).toInt = 1) ∨ (¬ bad_p txt s.toInt p.toInt ∧ bad_b b.toInt ∧ (w'.1 713 0).toInt = 2) ∨
      (¬ bad_p txt s.toInt p.toInt ∧ ¬ bad_b b.toInt ∧ (w'.1 713 0).toInt = 0 ∧ r.toInt = (scrn tab (txt s.toInt.toNat) b.toInt p.toInt.toNat : Nat)))) := by
  have L := LIT
  have M := L724
  unfold f_X11_shown
  obtain ⟨r, e, h⟩ := e_isPlace (s := s) (p := p) hx hkx
  rw [e, bd_r]
  rcases h with ⟨rfl, nb⟩ | ⟨rfl, nb⟩
  · rw [if_neg (by decide)]
    have hp : (0 ≤ s.toInt ∧ s.toInt ≤ 5) ∧ 0 ≤ p.toInt ∧ p.toInt < (txt s.toInt.toNat).length := by
      by_cases z : (0 ≤ s.toInt ∧ s.toInt ≤ 5) ∧ 0 ≤ p.toInt ∧ p.toInt < (txt s.toInt.toNat).length
      · exact z
      · exact absurd z nb
    have h40 := (hkx _ (slot_lt hp.1)).1
    simp only [e_in, bd_r, ite_zo]
    refine wp_if (fun hb => ?_) (fun hb => ?_)
    · unfold f_X11_shown_28
      rw [e_holds, bd_r, ite_zo, if_pos rfl]
      refine wp_bd (s_laysOrder hk (th0_t ht) (th0_x hx) hkx hp.1 (by omega)) ?_
      rintro _ w1 ⟨o1, h1⟩
      have O := lrf_0 o1
      refine wp_ald (by omega) (wp_ret ⟨O.1, Or.inr (Or.inr ⟨nb, fun q => q (by omega), by rw [O.2]; exact L.1, h1 _ (by omega)⟩)⟩)
    · unfold f_X11_shown_28
      rw [e_holds, bd_r, ite_zo, if_neg (by decide)]
      exact wp_ret ⟨rcg_fld (Or.inl rfl), Or.inr (Or.inl ⟨nb, fun q => hb (by omega), by rw [th0_v]; exact L.2.2.2.1⟩)⟩
  · rw [if_pos rfl]
    unfold f_X11_shown_28
    rw [e_holds, bd_r, ite_zo, if_neg (by decide)]
    exact wp_ret ⟨rcg_fld (Or.inl rfl), Or.inl ⟨nb, by rw [th0_v]; exact L.2.1⟩⟩
