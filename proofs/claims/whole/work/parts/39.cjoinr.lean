/-! ===== the reference joins ===== -/
theorem gt_erase {xs : List Int} {p k : Nat} : gt (xs.eraseIdx p) k = if k < p then gt xs k else gt xs (k + 1 : Nat) := by
  rw [gt_nat, List.getD_eq_getElem?_getD, List.getElem?_eraseIdx]
  by_cases c : k < p
  · rw [if_pos c, if_pos c, gt_nat, List.getD_eq_getElem?_getD]
  · rw [if_neg c, if_neg c, gt_nat, List.getD_eq_getElem?_getD]
theorem s_takesOut {w : Wd} {xs : List Int} {p : Int32} (h : rwk w xs) (hp : 0 ≤ p.toInt ∧ p.toInt < xs.length) (h100 : xs.length ≤ 100) :
    Wp (f_X11_takesOut p w) (fun _ w' => rcg wkf wko w w' ∧ rwk w' (xs.eraseIdx p.toInt.toNat) ∧ w'.1 713 12 = w.1 713 12) := by
  have L := LIT
  have n1 : (w.1 713 11 - 1).toInt = xs.length - 1 := by rw [i_sub (by rw [h.1]; omega), h.1, L.2.1]
  unfold f_X11_takesOut wr
  unfold f_X11_takesOut_12
  refine wp_loop (fun (σ : Int32 × Wd) => p.toInt ≤ σ.1.toInt ∧ σ.1.toInt ≤ xs.length - 1 ∧ rcg wkf wko w σ.2 ∧ (σ.2.1 713 11).toInt = xs.length - 1 ∧ σ.2.1 713 12 = w.1 713 12 ∧ ∀ k : Nat, k < xs.length → (σ.2.1 720 k).toInt = if k < p.toInt ∨ σ.1.toInt ≤ k then gt xs k else gt xs (k + 1 : Nat)) (fun (σ : Int32 × Wd) => xs.length - σ.1.toInt.toNat) ?_ FU _
    ⟨by dsimp only; omega, by dsimp only; omega, rcg_fld (Or.inl rfl), by dsimp only; rw [setI_at, if_pos ⟨rfl, rfl⟩, n1], by dsimp only; rw [setI_at, if_neg (by omega)], fun k hk => ?_⟩ (by rw [FUv]; dsimp only; omega)
  · rintro rc ⟨k, u⟩ ⟨h0, h1, hr, hn, hz, hg⟩ ih
    dsimp only at h0 h1 hr hn hz hg
    show Wp (g_X11_takesOut_12 rc k u) _
    unfold g_X11_takesOut_12
    refine wp_ifle (fun q => wp_ret ⟨hr, rwk_mk ?_ (fun j hj => ?_), hz⟩) (fun q => ?_)
    · rw [hn, List.length_eraseIdx_of_lt (by omega)]; omega
    · rw [List.length_eraseIdx_of_lt (by omega)] at hj
      rw [hg j (by omega), gt_erase]
      by_cases c : j < p.toInt.toNat
      · rw [if_pos (by omega), if_pos c]
      · rw [if_neg (by omega), if_neg c]
    · have k1 : (k + 1).toInt = k.toInt + 1 := by rw [i_add (by omega), L.2.1]
      refine wp_ald (by rw [L720]; omega) (wp_ast (by rw [L720]; omega) (wp_add (by omega) (fun z hz2 => ?_)))
      refine ih (z, _) ⟨by dsimp only; omega, by dsimp only; omega, rcg_tr hr (rcg_set (by decide) rfl), by dsimp only; rw [setI_at, if_neg (by omega)]; exact hn, by dsimp only; rw [setI_at, if_neg (by omega)]; exact hz, fun j hj => ?_⟩ (by dsimp only; omega)
      dsimp only
      rw [setI_at]
      by_cases c : j = k.toInt.toNat
      · rw [if_pos ⟨rfl, c⟩, hg _ (by omega), if_pos (by omega), if_neg (by omega)]
        congr 1
        omega
      · rw [if_neg (fun q => c q.2), hg j hj]
        by_cases c2 : j < p.toInt ∨ k.toInt ≤ j
        · rw [if_pos c2, if_pos (by omega)]
        · rw [if_neg c2, if_neg (by omega)]
  · dsimp only
    rw [setI_at, if_neg (by omega), if_pos (by omega)]
    exact rwk_at h hk
theorem s_joinsAll {w : Wd} {tab : Nat → Int} {zs : List Int} (hk : tok tab) (ht : rtab w = tab) (h : rwk w zs) (hl : lets zs) (h80 : zs.length ≤ 80) :
    Wp (f_X11_joinsAll w) (fun _ w' => rcg wkf wko w w' ∧ rwk w' (jnd tab zs) ∧ w'.1 713 12 = w.1 713 12) := by
  have L := LIT
  unfold f_X11_joinsAll f_X11_joinsAll_2
  by_cases he : zs.length = 0
  · have ez : zs = [] := List.eq_nil_of_length_eq_zero he
    rw [show FU = 99999 + 1 from rfl]
    show Wp (g_X11_joinsAll_2 _ 1 w) _
    unfold g_X11_joinsAll_2
    refine wp_ifle (fun q => wp_ret ⟨rcg_rf, by rw [ez] at h ⊢; exact h, rfl⟩) (fun q => by rw [h.1] at q; omega)
  refine wp_loop (fun (σ : Int32 × Wd) => rcg wkf wko w σ.2 ∧ σ.2.1 713 12 = w.1 713 12 ∧ ∃ i : Nat, i ≤ zs.length ∧ rwk σ.2 (jnd tab (zs.take i) ++ zs.drop i) ∧ σ.1.toInt = (jnd tab (zs.take i)).length ∧ 1 ≤ i) (fun (σ : Int32 × Wd) => (σ.2.1 713 11).toInt.toNat - σ.1.toInt.toNat) ?_ FU _
    ⟨rcg_rf, rfl, 1, by omega, ?_, ?_, Nat.le_refl 1⟩ (by rw [FUv]; dsimp only; rw [h.1]; omega)
  · rintro rc ⟨k, u⟩ ⟨hr, hz, i, hi, hw, hkk, hi1⟩ ih
    dsimp only at hr hz hw hkk
    show Wp (g_X11_joinsAll_2 rc k u) _
    have tu : rtab u = tab := by rw [rtab_wk hr, ht]
    have jl := jnd_len tab zs i hi
    have letA : lets (jnd tab (zs.take i)) := jnd_let (fun z hz => hl z (List.mem_of_mem_take hz))
    have letW : lets (jnd tab (zs.take i) ++ zs.drop i) := lets_app.mpr ⟨letA, fun z hz => hl z (List.mem_of_mem_drop hz)⟩
    have lenW : (jnd tab (zs.take i) ++ zs.drop i).length = (jnd tab (zs.take i)).length + (zs.length - i) := by rw [List.length_append, List.length_drop]
    unfold g_X11_joinsAll_2
    refine wp_ifle (fun q => ?_) (fun q => ?_)
    · rw [hw.1] at q
      have : i = zs.length := by omega
      subst this
      rw [List.take_length, List.drop_length, List.append_nil] at hw
      exact wp_ret ⟨hr, hw, hz⟩
    · rw [hw.1] at q
      have hil : i < zs.length := by omega
      have gx : gt (jnd tab (zs.take i) ++ zs.drop i) ((k.toInt.toNat : Nat) : Int) = gt zs (i : Nat) := by
        rw [gt_app_r (by omega), gt_drop]; congr 1; omega
      have lx := lets_gt hl (k := ((i : Nat) : Int)) (by omega) (by omega)
      have nxt : jnd tab (zs.take (i + 1)) = jstep tab (jnd tab (zs.take i)) (gt zs (i : Nat)) := by rw [take_succ_gt hil, jnd_snoc]
      have gA : ∀ n : Nat, n < (jnd tab (zs.take i)).length → gt (jnd tab (zs.take i) ++ zs.drop i) (n : Nat) = gt (jnd tab (zs.take i)) (n : Nat) := fun n hn => gt_app_l hn
      have dr : zs.drop i = gt zs (i : Nat) :: zs.drop (i + 1) := by rw [gt_getElem hil, List.getElem_cons_drop]
      generalize hA : jnd tab (zs.take i) = A at *
      generalize hx : gt zs (i : Nat) = x at *
      have sr := sf_rng tab (jo tab x) A A.length
      -- nothing joins
      have keep : jstep tab A x = A ++ [x] → Wp (lt (k + 1) fun x1 => rc (x1, u)) (fun _ w' => rcg wkf wko w w' ∧ rwk w' (jnd tab zs) ∧ w'.1 713 12 = w.1 713 12) := by
        intro he2
        refine wp_add (by omega) (fun z hz2 => ?_)
        refine ih (z, u) ⟨hr, hz, i + 1, by omega, ?_, ?_, by omega⟩ (by dsimp only; rw [hw.1]; omega)
        · dsimp only
          rw [nxt, he2, List.append_assoc, List.singleton_append, ← dr]; exact hw
        · dsimp only
          rw [nxt, he2, List.length_append, List.length_singleton]; omega
      refine wp_sub (by omega) (fun s0 hs0 => ?_)
      unfold f_X11_joinsAll_16
      refine wp_loop (fun (σ : Int32 × Int32 × Int32 × Wd) => σ.1 = k ∧ σ.2.2.2 = u ∧ -1 ≤ σ.2.1.toInt ∧ σ.2.1.toInt < k.toInt ∧ ((σ.2.2.1 = 1 ∧ sf tab (jo tab x) A (σ.2.1.toInt + 1).toNat = sf tab (jo tab x) A A.length) ∨ (σ.2.2.1 = 0 ∧ sf tab (jo tab x) A A.length = -1))) (fun (σ : Int32 × Int32 × Int32 × Wd) => (σ.2.1.toInt + 1).toNat) ?_ FU _
        ⟨rfl, rfl, by dsimp only; omega, by dsimp only; omega, Or.inl ⟨rfl, by dsimp only; congr 1; omega⟩⟩ (by rw [FUv]; dsimp only; omega)
      rintro rc2 ⟨k', s, m, u'⟩ ⟨e1, e2, hs1, hs2, hm⟩ ih2
      dsimp only at e1 e2 hs1 hs2 hm
      subst e1; subst e2
      show Wp (g_X11_joinsAll_16 rc2 rc k' s m u') _
      -- the look back is over
      have fin : (s.toInt < 0 ∨ jo tab (gt A (s.toInt.toNat : Nat)) = 0) → Wp (f_X11_joinsAll_75 rc k' s m u') (fun _ w' => rcg wkf wko w w' ∧ rwk w' (jnd tab zs) ∧ w'.1 713 12 = w.1 713 12) := by
        intro hend
        unfold f_X11_joinsAll_75 f_X11_joinsAll_102
        have no : ∀ n : Int32, n = -1 → sf tab (jo tab x) A A.length = -1 → Wp (f_X11_joinsAll_103 rc k' s n u') (fun _ w' => rcg wkf wko w w' ∧ rwk w' (jnd tab zs) ∧ w'.1 713 12 = w.1 713 12) := by
          rintro n rfl h1
          unfold f_X11_joinsAll_103
          rw [if_pos rfl]
          exact keep (by unfold jstep; rw [if_pos h1])
        refine wp_iflt (fun q1 => no _ rfl ?_) (fun q1 => wp_ifeq (fun q2 => no _ rfl ?_) (fun q2 => ?_))
        · rcases hm with ⟨_, h1⟩ | ⟨_, h1⟩
          · rw [← h1, show (s.toInt + 1).toNat = 0 by omega]; rfl
          · exact h1
        · rcases hm with ⟨h0, _⟩ | ⟨_, h1⟩
          · rw [h0] at q2; omega
          · exact h1
        · rcases hm with ⟨_, h1⟩ | ⟨h0, _⟩
          · rw [show (s.toInt + 1).toNat = s.toInt.toNat + 1 by omega] at h1
            simp only [sf] at h1
            rw [if_pos (by rcases hend with c | c; omega; exact c)] at h1
            refine wp_ald (by rw [L720]; omega) (wp_ald (by rw [L720]; omega) ?_)
            have va : (u'.1 720 s.toInt.toNat).toInt = gt A (s.toInt.toNat : Nat) := by rw [rwk_at hw (by omega), gA _ (by omega)]
            have vb : (u'.1 720 k'.toInt.toNat).toInt = x := by rw [rwk_at hw (by omega), gx]
            have la := lets_gt letA (k := ((s.toInt.toNat : Nat) : Int)) (by omega) (by omega)
            refine wp_bd (s_joinedR tu (by rw [va]; exact la) (by rw [vb]; exact lx)) ?_
            rintro c _ ⟨rfl, hc⟩
            rw [va, vb, h1] at hc
            unfold f_X11_joinsAll_103
            refine wp_ifeq (fun q3 => ?_) (fun q3 => ?_)
            · refine keep ?_
              unfold jstep
              rw [if_neg (by omega), if_pos (by rw [← hc]; omega)]
            · have cr := jfd_rng tab (gt A (sf tab (jo tab x) A A.length)) x 96
              have he2 : jstep tab A x = A.set s.toInt.toNat c.toInt := by
                unfold jstep
                rw [if_neg (by omega), if_neg (by rw [← hc]; omega), ← hc, ← h1]
                rfl
              refine wp_ast (by rw [L720]; omega) ?_
              have K1 := rwk_set hw (k := s.toInt.toNat) (by omega) c
              refine wp_bd (s_takesOut K1 (by rw [List.length_set]; omega) (by rw [List.length_set]; omega)) ?_
              rintro _ w3 ⟨r3, y3, z3⟩
              have e3 : ((A ++ zs.drop i).set s.toInt.toNat c.toInt).eraseIdx k'.toInt.toNat = A.set s.toInt.toNat c.toInt ++ zs.drop (i + 1) := by
                rw [List.set_append_left _ _ (by omega), dr, List.eraseIdx_append_of_length_le (by rw [List.length_set]; omega), List.length_set, show k'.toInt.toNat - A.length = 0 by omega]
                rfl
              rw [e3] at y3
              refine ih (k', w3) ⟨rcg_tr (rcg_tr hr (rcg_set (by decide) rfl)) r3, by rw [z3, setI_at, if_neg (by omega)]; exact hz, i + 1, by omega, ?_, ?_, by omega⟩ ?_
              · dsimp only; rw [nxt, he2]; exact y3
              · dsimp only; rw [nxt, he2, List.length_set]; exact hkk
              · dsimp only
                rw [y3.1, hw.1, List.length_append, List.length_set, List.length_drop]
                omega
          · rw [h0] at q2; omega
      unfold g_X11_joinsAll_16
      refine wp_iflt (fun q1 => fin (Or.inl (by omega))) (fun q1 => ?_)
      have sl : s.toInt = ((s.toInt.toNat : Nat) : Int) := by omega
      refine s_wof (K := fun _ x3 w2 => if x3 ≤ 0 then f_X11_joinsAll_75 rc k' s m w2 else if m = 0 then f_X11_joinsAll_67 rc2 k' s w2 else ald w2 720 s fun x4 => bd (f_X11_of x4 0 w2) fun x6 w5 => ald w5 720 k' fun x7 => bd (f_X11_of x7 0 w5) fun x9 w8 => if x9 ≤ x6 then f_X11_joinsAll_67 rc2 k' s w8 else lt (s + -1) fun x10 => rc2 (k', x10, 1, w8)) hw letW (by omega) (by omega) (by omega) (fun a ja ha la hja => ?_)
      have hja' : ja.toInt = jo tab a.toInt := by rw [hja, tu, L.1]; rfl
      rw [sl, gA _ (by omega)] at ha
      have jr := jo_rng hk la
      refine wp_ifle (fun q2 => fin (Or.inr (by rw [← ha]; omega))) (fun q2 => ?_)
      have goon : ∀ n : Int32, ((n = 1 ∧ sf tab (jo tab x) A s.toInt.toNat = sf tab (jo tab x) A A.length) ∨ (n = 0 ∧ sf tab (jo tab x) A A.length = -1)) → Wp (lt (s + -1) fun x10 => rc2 (k', x10, n, u')) (fun _ w' => rcg wkf wko w w' ∧ rwk w' (jnd tab zs) ∧ w'.1 713 12 = w.1 713 12) := by
        intro n hn
        refine wp_add (by omega) (fun z hz2 => ?_)
        refine ih2 (k', z, n, u') ⟨rfl, rfl, by dsimp only; omega, by dsimp only; omega, ?_⟩ (by dsimp only; omega)
        dsimp only
        rw [show (z.toInt + 1).toNat = s.toInt.toNat by omega]
        exact hn
      unfold f_X11_joinsAll_67
      refine wp_ifeq (fun q3 => goon 0 ?_) (fun q3 => ?_)
      · rcases hm with ⟨h0, _⟩ | ⟨_, h1⟩
        · rw [h0] at q3; omega
        · exact Or.inr ⟨rfl, h1⟩
      · have hm1 : m = 1 ∧ sf tab (jo tab x) A (s.toInt + 1).toNat = sf tab (jo tab x) A A.length := by
          rcases hm with h0 | ⟨h0, _⟩
          · exact h0
          · rw [h0] at q3; omega
        have h1 := hm1.2
        rw [show (s.toInt + 1).toNat = s.toInt.toNat + 1 by omega] at h1
        simp only [sf] at h1
        rw [← ha, if_neg (by omega)] at h1
        refine s_wof (K := fun _ x6 w5 => ald w5 720 k' fun x7 => bd (f_X11_of x7 0 w5) fun x9 w8 => if x9 ≤ x6 then lt (s + -1) (fun x1 => rc2 (k', x1, 0, w8)) else lt (s + -1) fun x10 => rc2 (k', x10, 1, w8)) hw letW (by omega) (by omega) (by omega) (fun b jb hb lb hjb => ?_)
        have hjb' : jb.toInt = jo tab b.toInt := by rw [hjb, tu, L.1]; rfl
        rw [sl, gA _ (by omega), ← ha] at hb
        rw [hb] at hjb'
        refine s_wof (K := fun _ x9 w8 => if x9 ≤ jb then lt (s + -1) (fun x1 => rc2 (k', x1, 0, w8)) else lt (s + -1) fun x10 => rc2 (k', x10, 1, w8)) hw letW (by omega) (by omega) (by omega) (fun c jc hc lc hjc => ?_)
        have hjc' : jc.toInt = jo tab c.toInt := by rw [hjc, tu, L.1]; rfl
        rw [show k'.toInt = ((k'.toInt.toNat : Nat) : Int) by omega, gx] at hc
        rw [hc] at hjc'
        refine wp_ifle (fun q4 => goon 0 (Or.inr ⟨rfl, ?_⟩)) (fun q4 => goon 1 (Or.inl ⟨rfl, ?_⟩))
        · rw [if_neg (by omega)] at h1; exact h1.symm
        · rw [if_pos (by omega)] at h1; exact h1
  · dsimp only
    have : jnd tab (zs.take 1) = zs.take 1 := by
      cases zs with
      | nil => rfl
      | cons a t => rfl
    rw [this, List.take_append_drop]; exact h
  · dsimp only
    rw [L.2.1]
    cases zs with
    | nil => exact absurd rfl he
    | cons a t => rfl
