/-! ===== directions: the reference lays levels ===== -/
def oLv (w w' : Wd) : Prop := oc (fun k => k = 722 ∨ k = 724 ∨ k = 727 ∨ k = 731 ∨ k = 732) w w'
theorem oLv_7 {w w' : Wd} (h : o724 w w') : oLv w w' := oc_mono h (fun k q => Or.inr (Or.inl q))
theorem oLv_3 {w w' : Wd} (h : o732 w w') : oLv w w' := oc_mono h (fun k q => q.elim (fun z => Or.inr (Or.inr (Or.inl z))) (fun z => Or.inr (Or.inr (Or.inr (Or.inr z)))))
/-- what is found of levels, in the reference -/
def fndR (w : Wd) (tab : Nat → Int) (l : List Int) (st : FSt) (F : Int) : Prop := ∀ p : Nat, p < l.length → gt st.2.1 p < F → (w.1 722 p).toInt = LV tab l st p
theorem frR_o {w w' : Wd} {st : FSt} {k : Nat} (h : oLv w w') (hR : frR w st k) : frR w' st k := by
  unfold frR
  rw [h.1 713 (by omega), h.1 723 (by omega), h.1 728 (by omega), h.1 729 (by omega), h.1 730 (by omega)]
  exact hR
section
variable {w0 : Wd} {tab : Nat → Int} {txt : Nat → List Int} {s : Int32} {rc : Int32 × Int32 × Wd → Option (Unit × Wd)} {Q : Unit → Wd → Prop} {st : FSt}
theorem s_lev141 {w : Wd} {F many lev : Int32} {P : List Int} {n : Nat} {f : Nat → Int} (hP : PI P n) (hn : n ≤ 40) (hm : many.toInt = P.length) (hM : mbR w P) (hf : wyR w P f) (hlev : 0 ≤ lev.toInt ∧ lev.toInt ≤ 9) (hr : ∀ i, i < P.length → 0 ≤ f i ∧ f i ≤ 2) (hF : 0 ≤ F.toInt ∧ F.toInt ≤ 50)
    (hgo : ∀ (z : Int32) (u : Wd), z.toInt = F.toInt + 1 → oc (fun k => k = 722) w u → (∀ i : Nat, i < P.length → (u.1 722 (gt P i).toNat).toInt = lvl lev.toInt (f i)) → (∀ p : Nat, (∀ i : Nat, i < P.length → gt P i ≠ p) → u.1 722 p = w.1 722 p) → Wp (rc (s, z, u)) Q) :
    Wp (f_X11_laysLevels_141 rc s F many lev 0 w) Q := by
  have L := LIT
  have M := L724
  have hPl := hP.1
  have m2 := i_mod2 (x := lev) (by omega)
  unfold f_X11_laysLevels_141
  rw [FUv]
  refine wp_loop (fun σ : Int32 × Int32 × Int32 × Int32 × Int32 × Wd => σ.1 = s ∧ σ.2.1 = F ∧ σ.2.2.1 = many ∧ σ.2.2.2.1 = lev ∧ oc (fun k => k = 722) w σ.2.2.2.2.2 ∧ 0 ≤ σ.2.2.2.2.1.toInt ∧ σ.2.2.2.2.1.toInt ≤ P.length ∧ (∀ i : Nat, (i : Int) < σ.2.2.2.2.1.toInt → (σ.2.2.2.2.2.1 722 (gt P i).toNat).toInt = lvl lev.toInt (f i)) ∧ ∀ p : Nat, (∀ i : Nat, i < P.length → gt P i ≠ p) → σ.2.2.2.2.2.1 722 p = w.1 722 p)
    (fun σ => (42 - σ.2.2.2.2.1.toInt).toNat) ?_ 100000 _ ⟨rfl, rfl, rfl, rfl, oc_rf, by dsimp only; omega, by dsimp only; omega, fun i hi => by dsimp only at hi; omega, fun p _ => rfl⟩ (by dsimp only; omega)
  rintro rc2 ⟨s', F', m', lev', k, u⟩ ⟨rfl, rfl, rfl, rfl, V, hk0, hk1, h1, h2⟩ ih
  dsimp only at *
  unfold g_X11_laysLevels_141
  refine wp_ifle (fun q => wp_add (by omega) (fun z hz => hgo z u (by omega) V (fun i hi => h1 i (by omega)) h2)) (fun q => ?_)
  have kl : k.toInt.toNat < P.length := by omega
  have B := hP.2.1 k.toInt.toNat kl
  have m1 : (u.1 731 k.toInt.toNat).toInt = gt P k.toInt.toNat := by rw [V.1 731 (by decide)]; exact hM _ kl
  have R := hr k.toInt.toNat kl
  have fk : (u.1 724 (gt P k.toInt.toNat).toNat).toInt = f k.toInt.toNat := by rw [V.1 724 (by decide)]; exact hf _ kl
  refine wp_ald (by omega) (wp_ald (by omega) (wp_ald (by omega) ?_))
  rw [m1]
  have go : ∀ t0 : Int32, lev'.toInt + t0.toInt = lvl lev'.toInt (f k.toInt.toNat) → (0 ≤ t0.toInt ∧ t0.toInt ≤ 2) → Wp (f_X11_laysLevels_198 rc2 s' F' m' lev' k 722 (u.1 731 k.toInt.toNat) lev' t0 u) Q := by
    intro t0 ht0 ht1
    have e1 : (lev' + t0).toInt = lvl lev'.toInt (f k.toInt.toNat) := by rw [i_add (by omega), ht0]
    unfold f_X11_laysLevels_198
    refine wp_ast (by omega) (wp_add (by omega) (fun z hz => ih (s', F', m', lev', z, _) ⟨rfl, rfl, rfl, rfl, oc_tr V (oc_setI rfl), by dsimp only; omega, by dsimp only; omega, fun i hi => ?_, fun p hp => ?_⟩ (by dsimp only; omega)))
    · dsimp only at hi ⊢
      have Bi := hP.2.1 i (by omega)
      rw [setI_at, m1]
      by_cases e : i = k.toInt.toNat
      · rw [if_pos ⟨rfl, by rw [e]⟩, e1, e]
      · rw [if_neg (fun z => e (hP.2.2 i k.toInt.toNat (by omega) kl (by omega)))]
        exact h1 i (by omega)
    · dsimp only
      rw [setI_at, m1]
      have := hp k.toInt.toNat kl
      rw [if_neg (by omega)]
      exact h2 p hp
  refine wp_ifeq (fun c => go _ ?_ (by omega)) (fun c => wp_ifeq (fun d => go 0 ?_ (by omega)) (fun d => go 1 ?_ (by omega)))
  · unfold lvl; rw [if_pos (by omega), fk]
  · unfold lvl; rw [if_neg (by omega), if_pos (by omega)]; omega
  · unfold lvl; rw [if_neg (by omega), if_neg (by omega)]; omega
theorem s_lev55 {w : Wd} {F lev : Int32} (hk : tok tab) (ht : rtab w = tab) (hx : rtx w txt) (hkx : xok txt) (hs : 0 ≤ s.toInt ∧ s.toInt ≤ 5) (hR : frR w st (txt s.toInt.toNat).length) (hF : 0 ≤ F.toInt ∧ F.toInt ≤ 50) (hlev : lev.toInt = gt st.2.2.1 F.toInt) (hlr : 0 ≤ lev.toInt ∧ lev.toInt ≤ 9)
    (hgo : ∀ (z : Int32) (u : Wd), z.toInt = F.toInt + 1 → oLv w u → (∀ p : Nat, p < (txt s.toInt.toNat).length → gt st.2.1 p = F.toInt → (u.1 722 p).toInt = LV tab (txt s.toInt.toNat) st p) → (∀ p : Nat, gt st.2.1 p ≠ F.toInt → u.1 722 p = w.1 722 p) → Wp (rc (s, z, u)) Q) :
    Wp (f_X11_laysLevels_55 rc s F 0 lev 0 w) Q := by
  have L := LIT
  have M := L724
  have M2 := L723
  have Y : lok40 (txt s.toInt.toNat) := hkx _ (slot_lt hs)
  have h40 := Y.1
  have m2 := i_mod2 (x := lev) (by omega)
  unfold f_X11_laysLevels_55
  rw [FUv]
  refine wp_loop (fun σ : Int32 × Int32 × Int32 × Int32 × Int32 × Wd => σ.1 = s ∧ σ.2.1 = F ∧ σ.2.2.2.1 = lev ∧ oc (fun k => k = 731) w σ.2.2.2.2.2 ∧ 0 ≤ σ.2.2.2.2.1.toInt ∧ σ.2.2.2.2.1.toInt ≤ (txt s.toInt.toNat).length ∧ σ.2.2.1.toInt = (pls st.2.1 F.toInt σ.2.2.2.2.1.toInt.toNat).length ∧ mbR σ.2.2.2.2.2 (pls st.2.1 F.toInt σ.2.2.2.2.1.toInt.toNat))
    (fun σ => (42 - σ.2.2.2.2.1.toInt).toNat) ?_ 100000 _ ⟨rfl, rfl, rfl, oc_rf, by dsimp only; omega, by dsimp only; omega, by dsimp only; rw [L.1]; rfl, by dsimp only; rw [L.1]; exact fun i hi => absurd hi (Nat.not_lt_zero _)⟩ (by dsimp only; omega)
  rintro rc2 ⟨s', F', m', lev', k, u⟩ ⟨rfl, rfl, rfl, V, hk0, hk1, hm, hM⟩ ih
  dsimp only at *
  have ck : ((k.toInt.toNat : Nat) : Int) = k.toInt := by omega
  obtain ⟨t2, x2⟩ := oc_r V (by decide) (by decide) (by decide) ht hx
  have PL := pls_le (fo := st.2.1) (F := F'.toInt) k.toInt.toNat
  unfold g_X11_laysLevels_55
  refine s_len x2 hs (fun n hn => ?_)
  refine wp_ifle (fun q => ?_) (fun q => ?_)
  · rw [show k.toInt.toNat = (txt s'.toInt.toNat).length by omega] at hm hM
    have hP : PI (pls st.2.1 F'.toInt (txt s'.toInt.toNat).length) (txt s'.toInt.toNat).length := pls_PI
    refine wp_bd (s_laysNumbers hk t2 x2 hkx hs hP hm hM hlr) ?_
    rintro _ u1 ⟨G1, g1⟩
    obtain ⟨t3, x3⟩ := oc_r G1 (by decide) (by decide) (by decide) t2 x2
    have M1 : mbR u1 (pls st.2.1 F'.toInt (txt s'.toInt.toNat).length) := fun i hi => by rw [G1.1 731 (by decide)]; exact hM i hi
    refine wp_bd (s_laysPartners hk t3 x3 hkx hs hP hm M1) ?_
    rintro _ u2 ⟨G2, g2⟩
    have M2b : mbR u2 (pls st.2.1 F'.toInt (txt s'.toInt.toNat).length) := fun i hi => by rw [G2.1 731 (by decide)]; exact M1 i hi
    have W2 : wyR u2 (pls st.2.1 F'.toInt (txt s'.toInt.toNat).length) (nmb (lev'.toInt % 2) (W0 tab (txt s'.toInt.toNat) (pls st.2.1 F'.toInt (txt s'.toInt.toNat).length))) := fun i hi => by rw [G2.1 724 (by decide)]; exact g1 i hi
    refine wp_bd (s_settlesPartners hP h40 M2b g2 (mp_I _) hm W2 (by omega)) ?_
    rintro _ u3 ⟨G3, g3⟩
    have M3 : mbR u3 (pls st.2.1 F'.toInt (txt s'.toInt.toNat).length) := fun i hi => by rw [G3.1 731 (by decide)]; exact M2b i hi
    refine wp_bd (s_settlesOthers hP h40 M3 hm g3 (by omega)) ?_
    rintro _ u4 ⟨G4, g4⟩
    have M4 : mbR u4 (pls st.2.1 F'.toInt (txt s'.toInt.toNat).length) := fun i hi => by rw [G4.1 731 (by decide)]; exact M3 i hi
    rw [m2, hlev] at g4
    have WF : wyR u4 (pls st.2.1 F'.toInt (txt s'.toInt.toNat).length) (wayF tab (txt s'.toInt.toNat) (pls st.2.1 F'.toInt (txt s'.toInt.toNat).length) (gt st.2.2.1 F'.toInt)) := g4
    have O4 : oLv w u4 := oc_tr (oc_mono V (fun k q => Or.inr (Or.inr (Or.inr (Or.inl q))))) (oc_tr (oLv_7 G1) (oc_tr (oLv_3 G2) (oc_tr (oLv_7 G3) (oLv_7 G4))))
    have e722 : u4.1 722 = w.1 722 := by rw [G4.1 722 (by decide), G3.1 722 (by decide), G2.1 722 (by decide), G1.1 722 (by decide), V.1 722 (by decide)]
    refine s_lev141 (lev := lev') hP h40 hm M4 WF hlr (fun i hi => wayF_rng hk Y hP hi) hF (fun z u5 hz h5 h6 h7 => hgo z u5 hz (oc_tr O4 (oc_mono h5 (fun k q => Or.inl q))) (fun p hp hpF => ?_) (fun p hpF => ?_))
    · have Q := pls_of hpF _ hp
      have := h6 _ Q.1
      rw [Q.2] at this
      rw [show ((p : Int)).toNat = p by omega] at this
      rw [this, hlev]
      unfold LV LVF
      rw [hpF]
    · rw [h7 p (fun i hi z => ?_), e722]
      obtain ⟨p2, h1, h2, h3, _⟩ := pls_at _ i hi
      rw [h2] at z
      have : p2 = p := by omega
      subst this
      exact hpF h3
  · refine wp_ast (by omega) ?_
    have V1 : oc (fun k => k = 731) w (setI u 731 m'.toInt.toNat k) := oc_tr V (oc_setI rfl)
    have fk := hR.2.1 k.toInt.toNat (by omega)
    have mm : m'.toInt.toNat = (pls st.2.1 F'.toInt k.toInt.toNat).length := by omega
    refine wp_ald (by omega) ?_
    have e723 : (setI u 731 m'.toInt.toNat k).1 723 k.toInt.toNat = w.1 723 k.toInt.toNat := by rw [setI_at, if_neg (by omega), V.1 723 (by decide)]
    rw [e723]
    have old : ∀ i : Nat, i < (pls st.2.1 F'.toInt k.toInt.toNat).length → ((setI u 731 m'.toInt.toNat k).1 731 i).toInt = gt (pls st.2.1 F'.toInt k.toInt.toNat) i := by
      intro i hi
      rw [setI_at, if_neg (by omega)]; exact hM i hi
    unfold f_X11_laysLevels_93
    refine wp_ifeq (fun c => wp_add (by omega) (fun z hz => wp_add (by omega) (fun z2 hz2 => ih (s', F', z, lev', z2, _) ⟨rfl, rfl, rfl, V1, by dsimp only; omega, by dsimp only; omega, ?_, ?_⟩ (by dsimp only; omega)))) (fun c => wp_add (by omega) (fun z hz => wp_add (by omega) (fun z2 hz2 => ih (s', F', z, lev', z2, _) ⟨rfl, rfl, rfl, V1, by dsimp only; omega, by dsimp only; omega, ?_, ?_⟩ (by dsimp only; omega))))
    · dsimp only
      rw [show z2.toInt.toNat = k.toInt.toNat + 1 by omega, pls_s, if_pos (by omega), List.length_append, List.length_singleton]; omega
    · dsimp only
      rw [show z2.toInt.toNat = k.toInt.toNat + 1 by omega, pls_s, if_pos (by omega)]
      intro i hi
      rw [List.length_append, List.length_singleton] at hi
      rw [gt_snoc]
      by_cases e : i = (pls st.2.1 F'.toInt k.toInt.toNat).length
      · rw [if_pos (by omega), setI_at, if_pos ⟨rfl, by omega⟩]; exact ck.symm
      · rw [if_neg (by omega)]; exact old i (by omega)
    · dsimp only
      rw [show z2.toInt.toNat = k.toInt.toNat + 1 by omega, pls_s, if_neg (by omega)]; omega
    · dsimp only
      rw [show z2.toInt.toNat = k.toInt.toNat + 1 by omega, pls_s, if_neg (by omega)]
      exact old
end
def lrg (w w' : Wd) : Prop := rcg (fun f => f = 21) (fun k => 722 ≤ k ∧ k ≤ 732) w w'
theorem lrg_o {w w' : Wd} (h : oLv w w') : lrg w w' := ⟨fun k _ hk => h.1 k (by omega), fun f _ => by rw [h.1 713 (by omega)], h.2⟩
theorem s_laysLevels {w : Wd} {tab : Nat → Int} {txt : Nat → List Int} {s b : Int32} (hk : tok tab) (ht : rtab w = tab) (hx : rtx w txt) (hkx : xok txt) (hs : 0 ≤ s.toInt ∧ s.toInt ≤ 5) (hb : b.toInt = -1 ∨ b.toInt = 0 ∨ b.toInt = 1) :
    Wp (f_X11_laysLevels s b w) (fun _ w' => lrg w w' ∧ ∀ p : Nat, p < (txt s.toInt.toNat).length → (w'.1 722 p).toInt = LV tab (txt s.toInt.toNat) (fr tab (txt s.toInt.toNat) (bsF tab (txt s.toInt.toNat) b.toInt) (txt s.toInt.toNat).length) p) := by
  have L := LIT
  have M2 := L723
  have Y : lok40 (txt s.toInt.toNat) := hkx _ (slot_lt hs)
  have h40 := Y.1
  unfold f_X11_laysLevels
  refine wp_bd (s_closes hk ht hx hkx hs) ?_
  rintro _ w1 ⟨o1, i1⟩
  obtain ⟨t1, x1⟩ := oc_r o1 (by omega) (by omega) (by omega) ht hx
  have R1 : lrg w w1 := ⟨fun k _ hk => o1.1 k (by omega), fun f _ => by rw [o1.1 713 (by omega)], o1.2⟩
  have main : ∀ c : Int32, (c.toInt = 0 ∨ c.toInt = 1) → bsF tab (txt s.toInt.toNat) b.toInt = c.toInt → Wp (f_X11_laysLevels_28 s s c w1) (fun _ w' => lrg w w' ∧ ∀ p : Nat, p < (txt s.toInt.toNat).length → (w'.1 722 p).toInt = LV tab (txt s.toInt.toNat) (fr tab (txt s.toInt.toNat) (bsF tab (txt s.toInt.toNat) b.toInt) (txt s.toInt.toNat).length) p) := by
    intro c hc he
    rw [he]
    unfold f_X11_laysLevels_28
    refine wp_bd (s_laysFrames hk t1 x1 hkx hs i1 hc) ?_
    rintro _ w2 ⟨o2, f2⟩
    obtain ⟨t2, x2⟩ := rfr_x o2 t1 x1
    have R2 : lrg w w2 := rcg_tr R1 (rcg_mono o2 (fun k q => q) (fun k q => by omega))
    have I := fr_I (tab := tab) (l := txt s.toInt.toNat) hc (txt s.toInt.toNat).length h40
    generalize fr tab (txt s.toInt.toNat) c.toInt (txt s.toInt.toNat).length = st at f2 I ⊢
    unfold f_X11_laysLevels_33
    rw [FUv]
    refine wp_loop (fun σ : Int32 × Int32 × Wd => σ.1 = s ∧ oLv w2 σ.2.2 ∧ 0 ≤ σ.2.1.toInt ∧ σ.2.1.toInt ≤ st.2.2.1.length ∧ fndR σ.2.2 tab (txt s.toInt.toNat) st σ.2.1.toInt)
      (fun σ => (50 - σ.2.1.toInt).toNat) ?_ 100000 _ ⟨rfl, oc_rf, by dsimp only; omega, by dsimp only; omega, fun p hp hpF => ?_⟩ (by dsimp only; omega)
    · rintro rc ⟨s', F, u⟩ ⟨rfl, V, hF0, hF1, hfd⟩ ih
      dsimp only at *
      have f3 := frR_o V f2
      obtain ⟨t3, x3⟩ := oc_r V (by omega) (by omega) (by omega) t2 x2
      unfold g_X11_laysLevels_33
      have cnt := f3.1
      refine wp_ifle (fun q => wp_ret ⟨rcg_tr R2 (lrg_o V), fun p hp => hfd p hp ?_⟩) (fun q => ?_)
      · have := I.2.2.2.2.2.1 p (by omega) (by omega); omega
      have lf := (f3.2.2 F.toInt.toNat (by omega)).1
      rw [show ((F.toInt.toNat : Nat) : Int) = F.toInt by omega] at lf
      have Lr := I.2.2.1 F.toInt hF0 (by omega)
      have I1 := I.1
      refine wp_ald (by omega) ?_
      refine s_lev55 hk t3 x3 hkx hs f3 (by omega) lf (by omega) (fun z u2 hz h1 h2 h3 => ih (s', z, u2) ⟨rfl, oc_tr V h1, by dsimp only; omega, by dsimp only; omega, fun p hp hpF => ?_⟩ (by dsimp only; omega))
      dsimp only at hpF ⊢
      by_cases e : gt st.2.1 p = F.toInt
      · exact h2 p hp e
      · rw [h3 p e]; exact hfd p hp (by omega)
    · dsimp only at hpF
      have := I.2.2.2.2.2.1 p (by omega) (by omega)
      omega
  refine wp_ifeq (fun c => ?_) (fun c => main b (by omega) (by unfold bsF; rw [if_neg (by omega)]))
  refine s_len x1 hs (fun n hn => ?_)
  refine wp_bd (r_baseOf (x := 0) (p := 0) hk t1 x1 hkx hs i1 (by omega) (Or.inl ⟨rfl, hn⟩)) ?_
  rintro r _ ⟨rfl, hr⟩
  rw [L.1] at hr
  refine main r (by rw [hr]; exact bf_01 _ _) ?_
  unfold bsF
  rw [if_pos (by omega), hr]; rfl
theorem e_isPlace {w : Wd} {txt : Nat → List Int} {s p : Int32} (hx : rtx w txt) (hkx : xok txt) : ∃ r : Int32, f_X11_isPlace s p w = some (r, w) ∧ ((r = 1 ∧ ¬ bad_p txt s.toInt p.toInt) ∨ (r = 0 ∧ bad_p txt s.toInt p.toInt)) := by
  have L := LIT
  have H : Wp (f_X11_isPlace s p w) (fun r w' => w = w' ∧ ((r = 1 ∧ ¬ bad_p txt s.toInt p.toInt) ∨ (r = 0 ∧ bad_p txt s.toInt p.toInt))) := by
    unfold f_X11_isPlace
    simp only [e_isSlot, bd_r, ite_zo]
    refine wp_if (fun hs => ?_) (fun hs => wp_ret ⟨rfl, Or.inr ⟨rfl, fun q => hs q.1⟩⟩)
    have h40 := (hkx _ (slot_lt hs)).1
    refine s_len hx hs (fun n hn => ?_)
    have n1 : (n - 1).toInt = n.toInt - 1 := by rw [i_sub (by omega), L.2.1]
    simp only [e_in, bd_r, ite_zo, n1, L.1]
    exact wp_if (fun hp => wp_ret ⟨rfl, Or.inl ⟨rfl, fun q => q ⟨hs, by omega⟩⟩⟩) (fun hp => wp_ret ⟨rfl, Or.inr ⟨rfl, fun q => hp (by omega)⟩⟩)
  obtain ⟨r, w', e, rfl, h⟩ := H
  exact ⟨r, e, h⟩
def lrf (w w' : Wd) : Prop := rcg (fun f => f = 0 ∨ f = 21) (fun k => 722 ≤ k ∧ k ≤ 732) w w'
theorem lrf_0 {w w' : Wd} {v : Int32} (h : lrg (setI w 713 0 v) w') : lrf w w' ∧ w'.1 713 0 = v := by
  refine ⟨rcg_tr (rcg_fld (Or.inl rfl)) (rcg_mono h (fun f q => Or.inr q) (fun k q => q)), ?_⟩
  rw [h.2.1 0 (by decide), setI_at, if_pos ⟨rfl, rfl⟩]
theorem th0_x {w : Wd} {txt : Nat → List Int} {v : Int32} (hx : rtx w txt) : rtx (setI w 713 0 v) txt := rtx_fr hx (by funext c; rw [setI_at, if_neg (by omega)]) (by funext c; rw [setI_at, if_neg (by omega)])
theorem th0_t {w : Wd} {tab : Nat → Int} {v : Int32} (ht : rtab w = tab) : rtab (setI w 713 0 v) = tab := (rtab_fr (w := w) (w' := setI w 713 0 v) (by funext c; rw [setI_at, if_neg (by omega)])).trans ht
theorem th0_v (w : Wd) (v : Int32) : (setI w 713 0 v).1 713 0 = v := by rw [setI_at, if_pos ⟨rfl, rfl⟩]
theorem r_level {w : Wd} {tab : Nat → Int} {txt : Nat → List Int} {s p b : Int32} (hk : tok tab) (ht : rtab w = tab) (hx : rtx w txt) (hkx : xok txt) :
    Wp (f_X11_level s p b w) (fun r w' => lrf w w' ∧ ((bad_p txt s.toInt p.toInt ∧ (w'.1 713 0).toInt = 1) ∨ (¬ bad_p txt s.toInt p.toInt ∧ bad_b b.toInt ∧ (w'.1 713 0).toInt = 2) ∨
      (¬ bad_p txt s.toInt p.toInt ∧ ¬ bad_b b.toInt ∧ (w'.1 713 0).toInt = 0 ∧ r.toInt = LV tab (txt s.toInt.toNat) (fr tab (txt s.toInt.toNat) (bsF tab (txt s.toInt.toNat) b.toInt) (txt s.toInt.toNat).length) p.toInt.toNat))) := by
  have L := LIT
  have M := L724
  unfold f_X11_level
  obtain ⟨r, e, h⟩ := e_isPlace (s := s) (p := p) hx hkx
  rw [e, bd_r]
  rcases h with ⟨rfl, nb⟩ | ⟨rfl, nb⟩
  · rw [if_neg (by decide)]
    have hp : (0 ≤ s.toInt ∧ s.toInt ≤ 5) ∧ 0 ≤ p.toInt ∧ p.toInt < (txt s.toInt.toNat).length := by
      by_cases z : (0 ≤ s.toInt ∧ s.toInt ≤ 5) ∧ 0 ≤ p.toInt ∧ p.toInt < (txt s.toInt.toNat).length
      · exact z
      · exact absurd z nb
    have h40 := (hkx _ (slot_lt hp.1)).1
    simp only [e_in, bd_r, ite_zo]
    refine wp_if (fun hb => ?_) (fun hb => ?_)
    · unfold f_X11_level_28
      rw [e_holds, bd_r, ite_zo, if_pos rfl]
      refine wp_bd (s_laysLevels hk (th0_t ht) (th0_x hx) hkx hp.1 (by omega)) ?_
      rintro _ w1 ⟨o1, h1⟩
      have O := lrf_0 o1
      refine wp_ald (by omega) (wp_ret ⟨O.1, Or.inr (Or.inr ⟨nb, fun q => q (by omega), by rw [O.2]; exact L.1, h1 _ (by omega)⟩)⟩)
    · unfold f_X11_level_28
      rw [e_holds, bd_r, ite_zo, if_neg (by decide)]
      exact wp_ret ⟨rcg_fld (Or.inl rfl), Or.inr (Or.inl ⟨nb, fun q => hb (by omega), by rw [th0_v]; exact L.2.2.2.1⟩)⟩
  · rw [if_pos rfl]
    unfold f_X11_level_28
    rw [e_holds, bd_r, ite_zo, if_neg (by decide)]
    exact wp_ret ⟨rcg_fld (Or.inl rfl), Or.inl ⟨nb, by rw [th0_v]; exact L.2.1⟩⟩
