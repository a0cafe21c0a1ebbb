/-! ===== the reference splits and sorts ===== -/
theorem rwk_sg {w : Wd} {xs : List Int} (h : rwk w xs) : sg w 720 0 (w.1 713 11).toInt.toNat = xs := by
  rw [h.1, Int.toNat_natCast]; exact h.2
theorem s_wof {w : Wd} {xs : List Int} {k j : Int32} {R : Type} {K : Int32 → Int32 → Wd → Option (R × Wd)} {Q : R → Wd → Prop} (h : rwk w xs) (hl : lets xs) (hk : 0 ≤ k.toInt ∧ k.toInt < xs.length) (h100 : xs.length ≤ 100) (hj : 0 ≤ j.toInt ∧ j.toInt < 9)
    (kk : ∀ x y : Int32, x.toInt = gt xs k.toInt → 0 ≤ x.toInt ∧ x.toInt ≤ 95 → y.toInt = rtab w (9 * x.toInt.toNat + j.toInt.toNat) → Wp (K x y w) Q) : Wp (ald w 720 k (fun x => bd (f_X11_of x j w) (fun y w2 => K x y w2))) Q := by
  refine wp_ald (by rw [L720]; omega) ?_
  have hx := rwk_at h (k := k.toInt.toNat) (by omega)
  have lx := lets_gt hl (k := ((k.toInt.toNat : Nat) : Int)) (by omega) (by omega)
  rw [← hx] at lx
  refine wp_bd (s_of lx.1 (by omega) hj) ?_
  rintro y _ ⟨rfl, hy⟩
  refine kk _ y ?_ lx hy
  rw [hx]
  congr 1
  omega
theorem dbl_split {tab : Nat → Int} (hk : tok tab) {ys : List Int} (hl : lets ys) {k : Nat} (hkn : k < ys.length) (hs : ¬ s1 tab (gt ys k) < 0) :
    (dbl ys k (s1 tab (gt ys k)) (s2 tab (gt ys k))).take k ++ xls tab ((dbl ys k (s1 tab (gt ys k)) (s2 tab (gt ys k))).drop k) = ys.take k ++ xls tab (ys.drop k) ∧ lets (dbl ys k (s1 tab (gt ys k)) (s2 tab (gt ys k))) := by
  have lx := lets_gt hl (k := (k : Int)) (by omega) (by omega)
  have S := s12 hk lx
  have e : ys.drop k = gt ys k :: ys.drop (k + 1) := by rw [gt_getElem hkn, List.getElem_cons_drop]
  have lt' : (ys.take k).length = k := by rw [List.length_take]; omega
  constructor
  · unfold dbl
    rw [List.take_append_of_le_length (by omega), List.take_of_length_le (by omega), List.drop_append_of_le_length (by omega), List.drop_of_length_le (by omega), List.nil_append, e, xls_cons, xls_cons, xls_cons, xl_2 hk lx hs, List.append_assoc]
  · unfold dbl
    refine lets_app.mpr ⟨fun z hz => hl z (List.mem_of_mem_take hz), lets_cons.mpr ⟨by omega, lets_cons.mpr ⟨by omega, fun z hz => hl z (List.mem_of_mem_drop hz)⟩⟩⟩
def splout (tab : Nat → Int) (w : Wd) (xs : List Int) (w' : Wd) : Prop := rcg wkf wko w w' ∧ (((xls tab xs).length ≤ 80 ∧ (w'.1 713 12).toInt = 0 ∧ rwk w' (srt tab (xls tab xs))) ∨ (80 < (xls tab xs).length ∧ (w'.1 713 12).toInt = 1))
theorem s_bubble {w : Wd} {tab : Nat → Int} {zs : List Int} {Q : Unit → Wd → Prop} (hk : tok tab) (ht : rtab w = tab) (h : rwk w zs) (hl : lets zs) (h80 : zs.length ≤ 80) (h0 : (w.1 713 12).toInt = 0)
    (kk : ∀ w', rcg wkf wko w w' → (w'.1 713 12).toInt = 0 → rwk w' (srt tab zs) → Q () w') : Wp (f_X11_splitsAll_76 1 w) Q := by
  have L := LIT
  unfold f_X11_splitsAll_76
  have bnd : ∀ ys : List Int, lets ys → ys.length = zs.length → 0 ≤ pot tab 0 ys ∧ pot tab 0 ys ≤ 57600 := by
    intro ys h1 h2
    have := pot_le hk ys 0 80 h1 (by omega)
    omega
  refine wp_loop (fun (σ : Int32 × Wd) => (σ.1.toInt = 0 ∨ σ.1.toInt = 1) ∧ rcg wkf wko w σ.2 ∧ (σ.2.1 713 12).toInt = 0 ∧ ∃ ys, rwk σ.2 ys ∧ ys.length = zs.length ∧ lets ys ∧ srr tab ys = srr tab zs ∧ (σ.1.toInt = 0 → nrm tab ys)) (fun (σ : Int32 × Wd) => (57600 - pot tab 0 (sg σ.2 720 0 (σ.2.1 713 11).toInt.toNat)).toNat + σ.1.toInt.toNat) ?_ FU _
    ⟨Or.inr L.2.1, rcg_rf, h0, zs, h, rfl, hl, rfl, fun q => by dsimp only at q; omega⟩ (by rw [FUv]; dsimp only; rw [rwk_sg h]; have := bnd zs hl rfl; omega)
  rintro rc ⟨m, u⟩ ⟨hm, hr, hz, ys, hy, hlen, hly, hsr, hn⟩ ih
  dsimp only at hm hr hz hy hn
  show Wp (g_X11_splitsAll_76 rc m u) _
  unfold g_X11_splitsAll_76
  refine wp_ifeq (fun q => ?_) (fun q => ?_)
  · refine wp_ret (kk u hr hz ?_)
    have e : srt tab zs = ys := by
      have : srt tab ys = srt tab zs := by unfold srt; rw [hsr]
      rw [← this, srt_nrm (hn (by omega))]
    rw [e]; exact hy
  · have hm1 : m.toInt = 1 := by omega
    have p0 := bnd ys hly hlen
    have mu0 : (57600 - pot tab 0 (sg u 720 0 (u.1 713 11).toInt.toNat)).toNat + m.toInt.toNat = (57600 - pot tab 0 ys).toNat + 1 := by rw [rwk_sg hy, hm1]; rfl
    unfold f_X11_splitsAll_84
    refine wp_loop (fun (σ : Int32 × Int32 × Wd) => 1 ≤ σ.2.1.toInt ∧ (σ.2.1.toInt ≤ zs.length ∨ σ.2.1.toInt = 1) ∧ rcg wkf wko w σ.2.2 ∧ (σ.2.2.1 713 12).toInt = 0 ∧ ∃ ys2, rwk σ.2.2 ys2 ∧ ys2.length = zs.length ∧ lets ys2 ∧ srr tab ys2 = srr tab zs ∧
      ((σ.1.toInt = 0 ∧ ys2 = ys ∧ ∀ i : Nat, (i : Int) + 1 < σ.2.1.toInt → i + 1 < ys.length → ¬ (0 < jo tab (gt ys (i + 1 : Nat)) ∧ jo tab (gt ys (i + 1 : Nat)) < jo tab (gt ys i))) ∨ (σ.1.toInt = 1 ∧ pot tab 0 ys < pot tab 0 ys2))) (fun (σ : Int32 × Int32 × Wd) => zs.length + 1 - σ.2.1.toInt.toNat) ?_ FU _
      ⟨by dsimp only; omega, by dsimp only; omega, hr, hz, ys, hy, hlen, hly, hsr, Or.inl ⟨L.1, rfl, fun i hi => by dsimp only at hi; omega⟩⟩ (by rw [FUv]; dsimp only; omega)
    rintro rc2 ⟨m2, j, u2⟩ ⟨hj0, hj1, hr2, hz2, ys2, hy2, hlen2, hly2, hsr2, hcase⟩ ih2
    dsimp only at hj0 hj1 hr2 hz2 hy2 hcase
    show Wp (g_X11_splitsAll_84 rc2 rc m2 j u2) _
    unfold g_X11_splitsAll_84
    have tu2 : rtab u2 = tab := by rw [rtab_wk hr2, ht]
    refine wp_ifle (fun q2 => ?_) (fun q2 => ?_)
    · have p2 := bnd ys2 hly2 hlen2
      rw [hy2.1] at q2
      refine ih (m2, u2) ⟨by rcases hcase with c | c; exact Or.inl c.1; exact Or.inr c.1, hr2, hz2, ys2, hy2, hlen2, hly2, hsr2, fun q3 => ?_⟩ ?_
      · dsimp only at q3
        rcases hcase with ⟨_, rfl, c⟩ | ⟨c, _⟩
        · intro i hi
          exact c i (by omega) hi
        · omega
      · dsimp only
        rw [mu0, rwk_sg hy2]
        rcases hcase with ⟨c1, rfl, _⟩ | ⟨c1, c2⟩ <;> omega
    · rw [hy2.1] at q2
      have hjl : j.toInt < ys2.length := by omega
      have j1 : (j - 1).toInt = j.toInt - 1 := by rw [i_sub (by omega), L.2.1]
      have jn : j.toInt = ((j.toInt.toNat - 1 + 1 : Nat) : Int) := by omega
      refine s_wof (K := fun _ x3 w2 => if x3 ≤ 0 then lt (j + 1) fun x4 => rc2 (m2, x4, w2) else ald w2 720 (j - 1) fun x5 => bd (f_X11_of x5 0 w2) fun x7 w6 => if x7 ≤ x3 then lt (j + 1) fun x8 => rc2 (m2, x8, w6) else ald w6 720 j fun x9 => ald w6 720 (j - 1) fun x10 => ast w6 720 j x10 fun w11 => ast w11 720 (j - 1) x9 fun w12 => lt (j + 1) fun x13 => rc2 (1, x13, w12)) hy2 hly2 (by omega) (by omega) (by omega) (fun a ja ha la hja => ?_)
      have hja' : ja.toInt = jo tab a.toInt := by rw [hja, tu2, L.1]; rfl
      have skip : ¬ (0 < jo tab (gt ys2 (j.toInt.toNat - 1 + 1 : Nat)) ∧ jo tab (gt ys2 (j.toInt.toNat - 1 + 1 : Nat)) < jo tab (gt ys2 (j.toInt.toNat - 1 : Nat))) → Wp (lt (j + 1) fun x4 => rc2 (m2, x4, u2)) Q := by
        intro hnot
        refine wp_add (by omega) (fun z hz3 => ?_)
        refine ih2 (m2, z, u2) ⟨by dsimp only; omega, by dsimp only; omega, hr2, hz2, ys2, hy2, hlen2, hly2, hsr2, ?_⟩ (by dsimp only; omega)
        dsimp only
        rcases hcase with ⟨c1, rfl, c3⟩ | ⟨c1, c2⟩
        · refine Or.inl ⟨c1, rfl, fun i hi hi2 => ?_⟩
          by_cases e : i = j.toInt.toNat - 1
          · rw [e]; exact hnot
          · exact c3 i (by omega) hi2
        · exact Or.inr ⟨c1, c2⟩
      rw [jn] at ha
      refine wp_ifle (fun q3 => skip (by rw [← ha]; omega)) (fun q3 => ?_)
      refine s_wof (K := fun _ x7 w6 => if x7 ≤ ja then lt (j + 1) fun x8 => rc2 (m2, x8, w6) else ald w6 720 j fun x9 => ald w6 720 (j - 1) fun x10 => ast w6 720 j x10 fun w11 => ast w11 720 (j - 1) x9 fun w12 => lt (j + 1) fun x13 => rc2 (1, x13, w12)) hy2 hly2 (by omega) (by omega) (by omega) (fun b jb hb lb hjb => ?_)
      have hjb' : jb.toInt = jo tab b.toInt := by rw [hjb, tu2, L.1]; rfl
      rw [j1, show j.toInt - 1 = ((j.toInt.toNat - 1 : Nat) : Int) by omega] at hb
      refine wp_ifle (fun q4 => skip (by rw [← ha, ← hb]; omega)) (fun q4 => ?_)
      refine wp_ald (by rw [L720]; omega) (wp_ald (by rw [L720]; omega) (wp_ast (by rw [L720]; omega) (wp_ast (by rw [L720]; omega) ?_)))
      have va : (u2.1 720 j.toInt.toNat).toInt = gt ys2 (j.toInt.toNat - 1 + 1 : Nat) := by
        rw [rwk_at hy2 (by omega)]; congr 1; omega
      have vb : (u2.1 720 (j - 1).toInt.toNat).toInt = gt ys2 (j.toInt.toNat - 1 : Nat) := by
        rw [rwk_at hy2 (by omega)]; congr 1; omega
      obtain ⟨p, q, e1, e2, e3⟩ := two_at (xs := ys2) (i := j.toInt.toNat - 1) (by omega)
      have K1 := rwk_set (rwk_set hy2 (k := j.toInt.toNat) (by omega) (u2.1 720 (j - 1).toInt.toNat)) (k := (j - 1).toInt.toNat) (by rw [List.length_set]; omega) (u2.1 720 j.toInt.toNat)
      rw [va, vb, show j.toInt.toNat = j.toInt.toNat - 1 + 1 by omega, show (j - 1).toInt.toNat = j.toInt.toNat - 1 by omega] at K1
      rw [show j.toInt.toNat - 1 + 1 - 1 = j.toInt.toNat - 1 by omega, e3] at K1
      rw [ha, hb] at *
      generalize hA : gt ys2 (j.toInt.toNat - 1 + 1 : Nat) = A at *
      generalize hB : gt ys2 (j.toInt.toNat - 1 : Nat) = B at *
      have c0 : 0 < jo tab A := by omega
      have c1 : jo tab A < jo tab B := by omega
      refine wp_add (by omega) (fun z hz3 => ?_)
      refine ih2 (1, z, _) ⟨by dsimp only; omega, by dsimp only; omega, rcg_tr (rcg_tr hr2 (rcg_set (by decide) rfl)) (rcg_set (by decide) rfl), ?_, p ++ A :: B :: q, ?_, ?_, ?_, ?_, Or.inr ⟨L.2.1, ?_⟩⟩ (by dsimp only; omega)
      · dsimp only; rw [setI_at, if_neg (by omega), setI_at, if_neg (by omega)]; exact hz2
      · dsimp only
        rw [show (j - 1).toInt.toNat = j.toInt.toNat - 1 by omega]
        rw [show j.toInt.toNat - 1 + 1 = j.toInt.toNat by omega] at K1
        exact K1
      · rw [← hlen2, e1]; simp
      · rw [e1] at hly2
        have := lets_app.mp hly2
        have t2 := lets_cons.mp this.2
        have t3 := lets_cons.mp t2.2
        exact lets_app.mpr ⟨this.1, lets_cons.mpr ⟨t3.1, lets_cons.mpr ⟨t2.1, t3.2⟩⟩⟩
      · rw [← hsr2]
        conv => rhs; rw [e1]
        exact srr_swap c0 c1 p q
      · have hp1 := pot_swap (tab := tab) (a := B) (b := A) p q
        have hp2 : pot tab 0 ys2 = pot tab 0 (p ++ B :: A :: q) := congrArg (pot tab 0) e1
        rcases hcase with ⟨_, rfl, _⟩ | ⟨_, c2⟩ <;> omega
theorem s_splitsAll {w : Wd} {tab : Nat → Int} {xs : List Int} (hk : tok tab) (ht : rtab w = tab) (h : rwk w xs) (hl : lets xs) (h80 : xs.length ≤ 80) (h0 : (w.1 713 12).toInt = 0) : Wp (f_X11_splitsAll w) (fun _ => splout tab w xs) := by
  have L := LIT
  unfold f_X11_splitsAll f_X11_splitsAll_2
  refine wp_loop (fun (σ : Int32 × Wd) => rcg wkf wko w σ.2 ∧ ∃ ys, rwk σ.2 ys ∧ lets ys ∧ ys.length ≤ 81 ∧ 0 ≤ σ.1.toInt ∧ σ.1.toInt ≤ ys.length ∧ ys.take σ.1.toInt.toNat ++ xls tab (ys.drop σ.1.toInt.toNat) = xls tab xs ∧ (σ.2.1 713 12).toInt = if ys.length ≤ 80 then 0 else 1) (fun (σ : Int32 × Wd) => 2 * (82 - (σ.2.1 713 11).toInt.toNat) + ((σ.2.1 713 11).toInt.toNat - σ.1.toInt.toNat)) ?_ FU _
    ⟨rcg_rf, xs, h, hl, by omega, by dsimp only; omega, by dsimp only; omega, by dsimp only; rw [L.1]; rfl, by dsimp only; rw [if_pos h80]; exact h0⟩ (by rw [FUv]; dsimp only; rw [h.1]; omega)
  rintro rc ⟨k, u⟩ ⟨hr, ys, hy, hly, h81, hk0, hk1, hx, hz⟩ ih
  dsimp only at hr hy hk0 hk1 hx hz
  show Wp (g_X11_splitsAll_2 rc k u) _
  have tu : rtab u = tab := by rw [rtab_wk hr, ht]
  have xlen := congrArg List.length hx
  rw [List.length_append, List.length_take] at xlen
  have xge := xls_len tab (ys.drop k.toInt.toNat)
  rw [List.length_drop] at xge
  have fin : (ys.length ≤ 80 → ys.length ≤ k.toInt) → Wp (f_X11_splitsAll_63 u) (fun _ => splout tab w xs) := by
    intro hfin
    unfold f_X11_splitsAll_63 f_X11_splitsAll_75
    refine wp_ifeq (fun q => ?_) (fun q => ?_)
    · have y80 : ys.length ≤ 80 := by
        by_cases c : ys.length ≤ 80
        · exact c
        · rw [if_neg c] at hz; omega
      have e : ys = xls tab xs := by
        rw [List.take_of_length_le (by omega), List.drop_of_length_le (by omega)] at hx
        rw [← hx]; exact (List.append_nil _).symm
      refine s_bubble hk tu hy hly y80 (by omega) (fun w' h1 h2 h3 => ⟨rcg_tr hr h1, Or.inl ⟨by rw [← e]; exact y80, h2, by rw [← e]; exact h3⟩⟩)
    · have y81 : ¬ ys.length ≤ 80 := by
        intro c
        rw [if_pos c] at hz; omega
      rw [if_neg y81] at hz
      unfold f_X11_splitsAll_76
      rw [show FU = 99999 + 1 from rfl]
      show Wp (g_X11_splitsAll_76 _ 0 u) _
      unfold g_X11_splitsAll_76
      rw [if_pos rfl]
      exact wp_ret ⟨hr, Or.inr ⟨by omega, hz⟩⟩
  unfold g_X11_splitsAll_2
  refine wp_ifle (fun q => fin (fun _ => by rw [hy.1] at q; exact q)) (fun q => wp_ifeq (fun q2 => ?_) (fun q2 => fin (fun c => by rw [if_pos c] at hz; omega)))
  rw [hy.1] at q
  have y80 : ys.length ≤ 80 := by
    by_cases c : ys.length ≤ 80
    · exact c
    · rw [if_neg c] at hz; omega
  refine s_wof (K := fun _ x3 w2 => if x3 ≤ 0 then lt (k + 1) fun x4 => rc (x4, w2) else ald w2 720 k fun x5 => bd (f_X11_of x5 5 w2) fun x7 w6 => bd (f_X11_doubles k (x3 - 1) (x7 - 1) w6) fun _ w8 => rc (k, w8)) hy hly (by omega) (by omega) (by omega) (fun a x3 ha la hx3 => ?_)
  rw [tu, show (4 : Int32).toInt.toNat = 4 from by decide] at hx3
  have kn : k.toInt = ((k.toInt.toNat : Nat) : Int) := by omega
  rw [kn] at ha
  have S := s12 hk la
  have s1v : s1 tab a.toInt = x3.toInt - 1 := by rw [hx3]; rfl
  refine wp_ifle (fun q3 => ?_) (fun q3 => ?_)
  · refine wp_add (by omega) (fun z hz3 => ?_)
    refine ih (z, u) ⟨hr, ys, hy, hly, h81, by dsimp only; omega, by dsimp only; omega, ?_, by dsimp only; exact hz⟩ (by dsimp only; rw [hy.1]; omega)
    dsimp only
    rw [show z.toInt.toNat = k.toInt.toNat + 1 by omega, take_succ_gt (by omega), ← hx]
    have e : ys.drop k.toInt.toNat = gt ys (k.toInt.toNat : Nat) :: ys.drop (k.toInt.toNat + 1) := by rw [gt_getElem (by omega), List.getElem_cons_drop]
    conv => rhs; rw [e, xls_cons, ← ha, xl_1 hk la (by omega)]
    rw [List.append_assoc, ha]
  · refine s_wof (K := fun _ x7 w6 => bd (f_X11_doubles k (x3 - 1) (x7 - 1) w6) fun _ w8 => rc (k, w8)) hy hly (by omega) (by omega) (by omega) (fun b x7 hb lb hx7 => ?_)
    rw [tu, show (5 : Int32).toInt.toNat = 5 from by decide] at hx7
    rw [kn, ← ha] at hb
    have s2v : s2 tab a.toInt = x7.toInt - 1 := by rw [hx7, hb]; rfl
    have t1 : (x3 - 1).toInt = s1 tab (gt ys (k.toInt.toNat : Nat)) := by rw [i_sub (by omega), L.2.1, ← ha, s1v]
    have t2 : (x7 - 1).toInt = s2 tab (gt ys (k.toInt.toNat : Nat)) := by rw [i_sub (by omega), L.2.1, ← ha, s2v]
    have D := dbl_split hk hly (k := k.toInt.toNat) (by omega) (by rw [← ha]; omega)
    refine wp_bd (s_doubles hy (by omega) (by omega)) ?_
    rintro _ w8 ⟨r8, y8, z8⟩
    rw [t1, t2] at y8
    have dl : (dbl ys k.toInt.toNat (s1 tab (gt ys (k.toInt.toNat : Nat))) (s2 tab (gt ys (k.toInt.toNat : Nat)))).length = ys.length + 1 := dbl_len (by omega)
    refine ih (k, w8) ⟨rcg_tr hr r8, _, y8, D.2, by omega, by dsimp only; omega, by dsimp only; omega, by dsimp only; rw [D.1, hx], ?_⟩ (by dsimp only; rw [y8.1, hy.1, dl]; omega)
    dsimp only
    rw [z8, dl]
    by_cases c : ys.length + 1 ≤ 80
    · rw [if_pos (by omega), if_pos c]
    · rw [if_neg (by omega), if_neg c]
