/-! ===== folded forms ===== -/
def c1 (tab : Nat → Int) (x : Int) : Int := tab (9 * x.toNat + 6) - 1
def c2 (tab : Nat → Int) (x : Int) : Int := tab (9 * x.toNat + 7) - 1
theorem c12 {tab : Nat → Int} (hk : tok tab) {x : Int} (h : 0 ≤ x ∧ x ≤ 95) : -1 ≤ c1 tab x ∧ c1 tab x ≤ 95 ∧ -1 ≤ c2 tab x ∧ c2 tab x ≤ 95 ∧ (c1 tab x < 0 → c2 tab x < 0) := by
  have := (hk.1 x.toNat (by omega)).2.2.2.2.2.1
  unfold c1 c2
  omega
def cap (tab : Nat → Int) (x : Int) : List Int := if c1 tab x < 0 then [x] else if c2 tab x < 0 then [c1 tab x] else [c1 tab x, c2 tab x]
theorem cap_let {tab : Nat → Int} (hk : tok tab) {x : Int} (h : 0 ≤ x ∧ x ≤ 95) : lets (cap tab x) ∧ 1 ≤ (cap tab x).length ∧ (cap tab x).length ≤ 2 := by
  have := c12 hk h
  unfold cap
  by_cases a : c1 tab x < 0
  · rw [if_pos a]; exact ⟨lets_cons.mpr ⟨h, lets_nil⟩, Nat.le_refl 1, (by decide : 1 ≤ 2)⟩
  · rw [if_neg a]
    by_cases b : c2 tab x < 0
    · rw [if_pos b]; exact ⟨lets_cons.mpr ⟨by omega, lets_nil⟩, Nat.le_refl 1, (by decide : 1 ≤ 2)⟩
    · rw [if_neg b]; exact ⟨lets_cons.mpr ⟨by omega, lets_cons.mpr ⟨by omega, lets_nil⟩⟩, (by decide : 1 ≤ 2), Nat.le_refl 2⟩
def caps (tab : Nat → Int) (xs : List Int) : List Int := xs.flatMap (cap tab)
theorem caps_app (tab : Nat → Int) (xs ys : List Int) : caps tab (xs ++ ys) = caps tab xs ++ caps tab ys := List.flatMap_append
theorem caps_1 (tab : Nat → Int) (x : Int) : caps tab [x] = cap tab x := by
  unfold caps; rw [List.flatMap_cons, List.flatMap_nil, List.append_nil]
theorem caps_snoc {tab : Nat → Int} {xs : List Int} {i : Nat} (h : i < xs.length) : caps tab (xs.take (i + 1)) = caps tab (xs.take i) ++ cap tab (gt xs i) := by
  rw [take_succ_gt h, caps_app, caps_1]
theorem caps_let {tab : Nat → Int} (hk : tok tab) {xs : List Int} (h : lets xs) : lets (caps tab xs) ∧ (caps tab xs).length ≤ 2 * xs.length := by
  induction xs with
  | nil => exact ⟨lets_nil, Nat.le_refl 0⟩
  | cons x xs ih =>
    have q := lets_cons.mp h
    have c := cap_let hk q.1
    have r := ih q.2
    have e : caps tab (x :: xs) = cap tab x ++ caps tab xs := rfl
    rw [e, List.length_append, List.length_cons]
    exact ⟨lets_app.mpr ⟨c.1, r.1⟩, by omega⟩
/-- a text folded, with its marks and without -/
def fl (tab : Nat → Int) (xs : List Int) : List Int := xls tab (caps tab xs)
def fo (tab : Nat → Int) (xs : List Int) : List Int := unm tab (fl tab xs)
theorem fl_app (tab : Nat → Int) (xs ys : List Int) : fl tab (xs ++ ys) = fl tab xs ++ fl tab ys := by unfold fl; rw [caps_app, xls_app]
theorem fo_app (tab : Nat → Int) (xs ys : List Int) : fo tab (xs ++ ys) = fo tab xs ++ fo tab ys := by unfold fo; rw [fl_app, unm_app]
theorem unm_len (tab : Nat → Int) (xs : List Int) : (unm tab xs).length ≤ xs.length := List.length_filter_le ..
theorem unm_let {tab : Nat → Int} {xs : List Int} (h : lets xs) : lets (unm tab xs) := fun x hx => h x (List.mem_filter.mp hx).1
def ends (tab : Nat → Int) (xs : List Int) (n : Nat) : List Int := (List.range n).map (fun i => ((fo tab (xs.take (i + 1))).length : Int))
theorem ends_s (tab : Nat → Int) (xs : List Int) (n : Nat) : ends tab xs (n + 1) = ends tab xs n ++ [((fo tab (xs.take (n + 1))).length : Int)] := by simp [ends, List.range_succ]
theorem ends_len (tab : Nat → Int) (xs : List Int) (n : Nat) : (ends tab xs n).length = n := by simp [ends]
theorem ends_gt {tab : Nat → Int} {xs : List Int} {n k : Nat} (h : k < n) : gt (ends tab xs n) k = (fo tab (xs.take (k + 1))).length := by
  rw [gt_nat, List.getD_eq_getElem?_getD]
  simp [ends, List.getElem?_map, List.getElem?_range h]
def fcl2 (into k : Nat) : Prop := (640 ≤ k ∧ k < 650) ∨ k = into ∨ k = into + 1
theorem oc_fcl2 {w w' : Wd} {into o : Nat} {l : List Int} (hr : rs w w' o l) (h : o = into ∨ (640 ≤ o ∧ o < 649)) : oc (fcl2 into) w w' :=
  oc_rs hr (by unfold fcl2; omega) (by unfold fcl2; omega)
theorem oc_fc12 {w w' : Wd} {into i2 : Nat} (hr : oc (fcl i2) w w') (h : i2 = into ∨ (640 ≤ i2 ∧ i2 < 649)) : oc (fcl2 into) w w' :=
  oc_mono hr (fun k hk => by unfold fcl at hk; unfold fcl2; omega)
theorem row_frm : (KD 642 = 7 ∧ LEN (642 + 1) = 2) ∧ (KD 644 = 7 ∧ LEN (644 + 1) = 80) ∧ (KD 646 = 7 ∧ LEN (646 + 1) = 80) ∧ (KD 648 = 7 ∧ LEN (648 + 1) = 40) := by decide +kernel
theorem s_capitalInto {w : Wd} {tab : Nat → Int} {x : Int32} (hk : tok tab) (h : trel w 1 tab) (ho : okall w) (hx : 0 ≤ x.toInt ∧ x.toInt ≤ 95) :
    Wp (f_X1_capitalInto x 642 w) (fun _ w' => rs w w' 642 (cap tab x.toInt)) := by
  have L := LIT
  have C := c12 hk hx
  unfold f_X1_capitalInto
  refine wp_bd (s_cut0 (ho _ row_frm.1.1)) ?_
  rintro _ w1 h1
  have ok1 := okall_rs ho h1
  have t1 := trel_rs hk h h1 (by omega)
  refine wp_bd (s_capitalOneOf kd1 hx.1 (by omega) t1) ?_
  rintro a _ ⟨rfl, ha⟩
  have ha' : a.toInt = c1 tab x.toInt := ha
  refine wp_bd (s_capitalOtherOf kd1 hx.1 (by omega) t1) ?_
  rintro b _ ⟨rfl, hb⟩
  have hb' : b.toInt = c2 tab x.toInt := hb
  unfold f_X1_capitalInto_35
  have l1 : (rl w1 642).length = 0 := by rw [rs_l h1]; rfl
  refine wp_ifeq (fun q => ?_) (fun q => ?_)
  · refine wp_bd (s_add (ok1 _ row_frm.1.1) (by rw [l1, row_frm.1.2]; omega)) ?_
    rintro _ w2 ⟨rfl, h2⟩
    refine wp_ifeq (fun q2 => wp_ret ?_) (fun q2 => absurd q q2)
    rw [rs_l h1] at h2
    unfold cap
    rw [if_pos (by omega)]
    exact rs_tr h1 h2
  · refine wp_bd (s_add (ok1 _ row_frm.1.1) (by rw [l1, row_frm.1.2]; omega)) ?_
    rintro _ w2 ⟨rfl, h2⟩
    rw [rs_l h1] at h2
    refine wp_ifeq (fun q2 => absurd q2 q) (fun q2 => wp_ifeq (fun q3 => wp_ret ?_) (fun q3 => ?_))
    · unfold cap
      rw [if_neg (by omega), if_pos (by omega), ← ha']
      exact rs_tr h1 h2
    · refine wp_bd (s_add (okall_rs ok1 h2 _ row_frm.1.1) (by rw [rs_l h2, row_frm.1.2]; exact (by decide : 1 < 2))) ?_
      rintro _ w3 ⟨rfl, h3⟩
      rw [rs_l h2] at h3
      refine wp_ret ?_
      unfold cap
      rw [if_neg (by omega), if_neg (by omega), ← ha', ← hb']
      exact rs_tr (rs_tr h1 h2) h3
theorem s_addUnmarked {w : Wd} {tab : Nat → Int} {from_ into : Nat} {xs : List Int} (hk : tok tab) (h : trel w 1 tab) (ho : okall w) (hf : KD from_ = 7) (hi : KD into = 7) (h125 : 125 ≤ into) (hne : from_ ≠ into) (hx : rl w from_ = xs) (hl : lets xs) (hcap : (rl w into).length + xs.length ≤ LEN (into + 1)) :
    Wp (f_X1_addUnmarked from_ into w) (fun _ w' => rs w w' into (rl w into ++ unm tab xs)) := by
  have L := LIT
  have hb := okr_len (ho _ hi)
  unfold f_X1_addUnmarked f_X1_addUnmarked_2
  refine wp_loop (fun (σ : Nat × Nat × Int32 × Wd) => σ.1 = from_ ∧ σ.2.1 = into ∧ 0 ≤ σ.2.2.1.toInt ∧ σ.2.2.1.toInt ≤ xs.length ∧ rs w σ.2.2.2 into (rl w into ++ unm tab (xs.take σ.2.2.1.toInt.toNat))) (fun (σ : Nat × Nat × Int32 × Wd) => xs.length - σ.2.2.1.toInt.toNat) ?_ FU _
    ⟨rfl, rfl, by dsimp only; omega, by dsimp only; omega, by dsimp only; rw [L.1]; show rs w w into (rl w into ++ []); rw [List.append_nil]; exact rs_rf (ho _ hi)⟩ (by rw [FUv]; dsimp only; omega)
  rintro rc ⟨f, t, k, u⟩ ⟨e1, e2, h0, h1, hr⟩ ih
  dsimp only at e1 e2 h0 h1 hr
  subst e1; subst e2
  show Wp (g_X1_addUnmarked_2 rc f t k u) _
  unfold g_X1_addUnmarked_2
  have oku := okall_rs ho hr
  have tu := trel_rs hk h hr h125
  have ef : rl u f = xs := by rw [rs_rl hr hf hne, hx]
  refine wp_bd (s_size (oku _ hf)) ?_
  rintro n _ ⟨rfl, hn⟩
  rw [ef] at hn
  refine wp_ifle (fun q => wp_ret ?_) (fun q => ?_)
  · rwa [List.take_of_length_le (by omega)] at hr
  · refine wp_bd (s_get (oku _ hf)) ?_
    rintro y _ ⟨rfl, hy⟩
    rw [ef, show k.toInt = ((k.toInt.toNat : Nat) : Int) by omega] at hy
    have ly := lets_gt hl (k := ((k.toInt.toNat : Nat) : Int)) (by omega) (by omega)
    rw [← hy] at ly
    have tk : unm tab (xs.take (k.toInt.toNat + 1)) = unm tab (xs.take k.toInt.toNat) ++ unm tab [y.toInt] := by rw [take_succ_gt (by omega), unm_app, hy]
    refine wp_bd (s_joinsOf kd1 ly.1 (by omega) tu) ?_
    rintro j _ ⟨rfl, hj⟩
    have hj' : j.toInt = jo tab y.toInt := hj
    have ul := unm_len tab (xs.take k.toInt.toNat)
    rw [List.length_take] at ul
    refine wp_ifeq (fun q1 => ?_) (fun q1 => ?_)
    · refine wp_bd (s_get (oku _ hf)) ?_
      rintro y2 _ ⟨rfl, hy2⟩
      rw [ef, show k.toInt = ((k.toInt.toNat : Nat) : Int) by omega, ← hy] at hy2
      refine wp_bd (s_add (oku _ hi) (by rw [rs_l hr, List.length_append]; omega)) ?_
      rintro _ w2 ⟨rfl, h2⟩
      rw [rs_l hr] at h2
      refine wp_add (by omega) (fun z hz => ?_)
      refine ih (f, t, z, w2) ⟨rfl, rfl, by dsimp only; omega, by dsimp only; omega, ?_⟩ (by dsimp only; omega)
      dsimp only
      have e : unm tab [y.toInt] = [y.toInt] := by
        unfold unm
        rw [List.filter_cons_of_pos (by simp; omega)]; rfl
      rw [show z.toInt.toNat = k.toInt.toNat + 1 by omega, tk, e, ← hy2, ← List.append_assoc]
      exact rs_tr hr h2
    · refine wp_add (by omega) (fun z hz => ?_)
      refine ih (f, t, z, u) ⟨rfl, rfl, by dsimp only; omega, by dsimp only; omega, ?_⟩ (by dsimp only; omega)
      dsimp only
      have e : unm tab [y.toInt] = [] := by
        unfold unm
        rw [List.filter_cons_of_neg (by simp; omega)]; rfl
      rw [show z.toInt.toNat = k.toInt.toNat + 1 by omega, tk, e, List.append_nil]
      exact hr
theorem s_foldInto {w : Wd} {tab : Nat → Int} {t into : Nat} {xs : List Int} (hk : tok tab) (h : trel w 1 tab) (ho : okall w) (ht : KD t = 7) (hi : KD into = 7) (h125 : 125 ≤ into) (hti : t ≠ into) (ht6 : t < 640) (hi6 : 650 ≤ into) (hcap : LEN (into + 1) = 80) (hxs : rl w t = xs) (hl : lets xs) (h40 : xs.length ≤ 40) :
    Wp (f_X1_foldInto t into w) (fun r w' => okall w' ∧ trel w' 1 tab ∧ oc (fcl2 into) w w' ∧ ((r = 1 ∧ (fl tab xs).length ≤ 80 ∧ rl w' into = fo tab xs ∧ rl w' 648 = ends tab xs xs.length) ∨ (r = 0 ∧ 80 < (fl tab xs).length))) := by
  have L := LIT
  have e80 : (80 : Int32).toInt = 80 := by decide
  have R := row_frm
  have k1 := row_ne hi ht
  unfold f_X1_foldInto
  refine wp_bd (s_cut0 (ho _ hi)) ?_
  rintro _ w1 h1
  have ok1 := okall_rs ho h1
  refine wp_bd (s_cut0 (ok1 _ R.2.2.2.1)) ?_
  rintro _ w2 h2
  have ok2 := okall_rs ok1 h2
  unfold f_X1_foldInto_18
  refine wp_loop (fun (σ : Nat × Nat × Int32 × Int32 × Wd) => σ.1 = t ∧ σ.2.1 = into ∧ okall σ.2.2.2.2 ∧ trel σ.2.2.2.2 1 tab ∧ oc (fcl2 into) w σ.2.2.2.2 ∧ 0 ≤ σ.2.2.2.1.toInt ∧ σ.2.2.2.1.toInt ≤ xs.length ∧ σ.2.2.1.toInt = (fl tab (xs.take σ.2.2.2.1.toInt.toNat)).length ∧ σ.2.2.1.toInt ≤ 80 ∧
    rl σ.2.2.2.2 into = fo tab (xs.take σ.2.2.2.1.toInt.toNat) ∧ rl σ.2.2.2.2 648 = ends tab xs σ.2.2.2.1.toInt.toNat) (fun (σ : Nat × Nat × Int32 × Int32 × Wd) => xs.length - σ.2.2.2.1.toInt.toNat) ?_ FU _
    ⟨rfl, rfl, ok2, trel_rs hk (trel_rs hk h h1 h125) h2 (by omega), oc_tr (oc_fcl2 h1 (Or.inl rfl)) (oc_fcl2 h2 (Or.inr (by omega))), by dsimp only; omega, by dsimp only; omega, by dsimp only; rw [L.1]; rfl, by dsimp only; omega, by dsimp only; rw [rs_rl h2 hi (by omega), rs_l h1, L.1]; rfl, by dsimp only; rw [rs_l h2, L.1]; rfl⟩ (by rw [FUv]; dsimp only; omega)
  rintro rc ⟨t', into', tot, i, u⟩ ⟨q1, q2, oku, tu, ocu, h0, h1', htot, ht80, hin, hen⟩ ih
  dsimp only at q1 q2 oku tu ocu h0 h1' htot ht80 hin hen
  subst q1; subst q2
  show Wp (g_X1_foldInto_18 rc t' into' tot i u) _
  unfold g_X1_foldInto_18
  have tfr : ∀ v : Wd, oc (fcl2 into') w v → rl v t' = xs := by
    intro v hv
    rw [rl_fr (hv.1 t' (by unfold fcl2; omega)) (hv.1 (t' + 1) (by
      have k2 := row_ne ht hi
      have k3 := row_ne ht row_640.1
      unfold fcl2; omega)), hxs]
  refine wp_bd (s_size (oku _ ht)) ?_
  rintro n _ ⟨rfl, hn⟩
  rw [tfr u ocu] at hn
  refine wp_ifle (fun q => ?_) (fun q => ?_)
  · rw [List.take_of_length_le (by omega)] at hin htot
    rw [show i.toInt.toNat = xs.length by omega] at hen
    exact wp_ret ⟨oku, tu, ocu, Or.inl ⟨rfl, by omega, hin, hen⟩⟩
  · have il : i.toInt.toNat < xs.length := by omega
    refine wp_bd (s_get (oku _ ht)) ?_
    rintro y _ ⟨rfl, hy⟩
    rw [tfr u ocu, show i.toInt = ((i.toInt.toNat : Nat) : Int) by omega] at hy
    have ly := lets_gt hl (k := ((i.toInt.toNat : Nat) : Int)) (by omega) (by omega)
    rw [← hy] at ly
    have C := cap_let hk ly
    have tk := take_succ_gt il
    rw [← hy] at tk
    have flt : fl tab (xs.take (i.toInt.toNat + 1)) = fl tab (xs.take i.toInt.toNat) ++ xls tab (cap tab y.toInt) := by
      rw [tk, fl_app]; congr 1; unfold fl; rw [caps_1]
    have fot : fo tab (xs.take (i.toInt.toNat + 1)) = fo tab (xs.take i.toInt.toNat) ++ unm tab (xls tab (cap tab y.toInt)) := by
      unfold fo; rw [flt, unm_app]
    have flen := congrArg List.length flt
    rw [List.length_append] at flen
    have big : (fl tab (xs.take (i.toInt.toNat + 1))).length ≤ (fl tab xs).length := by
      have e : fl tab xs = fl tab (xs.take (i.toInt.toNat + 1)) ++ fl tab (xs.drop (i.toInt.toNat + 1)) := by rw [← fl_app, List.take_append_drop]
      rw [e, List.length_append]; omega
    refine wp_bd (s_capitalInto hk tu oku ly) ?_
    rintro _ w3 h3
    have ok3 := okall_rs oku h3
    have t3 := trel_rs hk tu h3 (by omega)
    have oc3 : oc (fcl2 into') w w3 := oc_tr ocu (oc_fcl2 h3 (Or.inr (by omega)))
    refine wp_bd (s_splitInto hk t3 ok3 R.1.1 R.2.1.1 (by omega) (by omega) (by omega) (by omega) R.2.1.2 (rs_l h3) C.1 (by omega)) ?_
    rintro r w4 ⟨ok4, t4, oc4, hr⟩
    have oc4' : oc (fcl2 into') w w4 := oc_tr oc3 (oc_fc12 oc4 (Or.inr (by omega)))
    have in4 : rl w4 into' = fo tab (xs.take i.toInt.toNat) := by
      rw [rl_fr (oc4.1 into' (by unfold fcl; omega)) (oc4.1 (into' + 1) (by unfold fcl; omega)), rs_rl h3 hi (by omega), hin]
    have en4 : rl w4 648 = ends tab xs i.toInt.toNat := by
      rw [rl_fr (oc4.1 648 (by unfold fcl; omega)) (oc4.1 (648 + 1) (by unfold fcl; omega)), rs_rl h3 R.2.2.2.1 (by omega), hen]
    rcases hr with ⟨rfl, hr1, hr2⟩ | ⟨rfl, hr1⟩
    · refine wp_ifeq (fun q => by omega) (fun _ => ?_)
      refine wp_bd (s_size (ok4 _ R.2.1.1)) ?_
      rintro s _ ⟨rfl, hs⟩
      rw [hr2, srt_len] at hs
      refine wp_add (by omega) (fun z hz => ?_)
      refine wp_ifle (fun q3 => ?_) (fun q3 => wp_ret ⟨ok4, t4, oc4', Or.inr ⟨rfl, by omega⟩⟩)
      have ul1 := unm_len tab (fl tab (xs.take i.toInt.toNat))
      have fol : (fo tab (xs.take i.toInt.toNat)).length ≤ (fl tab (xs.take i.toInt.toNat)).length := ul1
      refine wp_bd (s_addUnmarked hk t4 ok4 R.2.1.1 hi h125 (by omega) hr2 (srt_let (xls_let hk C.1)) (by rw [in4, srt_len, hcap]; omega)) ?_
      rintro _ w5 h5
      rw [in4, srt_unm, ← fot] at h5
      have ok5 := okall_rs ok4 h5
      refine wp_bd (s_size (ok5 _ hi)) ?_
      rintro e _ ⟨rfl, he⟩
      rw [rs_l h5] at he
      have en5 : rl w5 648 = ends tab xs i.toInt.toNat := by rw [rs_rl h5 R.2.2.2.1 (by omega), en4]
      refine wp_bd (s_add (ok5 _ R.2.2.2.1) (by rw [en5, ends_len, R.2.2.2.2]; omega)) ?_
      rintro _ w6 ⟨rfl, h6⟩
      rw [en5, he, ← ends_s] at h6
      refine wp_add (by omega) (fun i2 hi2 => ?_)
      refine ih (t', into', z, i2, w6) ⟨rfl, rfl, okall_rs ok5 h6, trel_rs hk (trel_rs hk t4 h5 h125) h6 (by omega), oc_tr (oc_tr oc4' (oc_fcl2 h5 (Or.inl rfl))) (oc_fcl2 h6 (Or.inr (by omega))), by dsimp only; omega, by dsimp only; omega, ?_, by dsimp only; omega, ?_, ?_⟩ (by dsimp only; omega)
      · dsimp only; rw [show i2.toInt.toNat = i.toInt.toNat + 1 by omega]; omega
      · dsimp only; rw [show i2.toInt.toNat = i.toInt.toNat + 1 by omega, rs_rl h6 hi (by omega), rs_l h5]
      · dsimp only; rw [show i2.toInt.toNat = i.toInt.toNat + 1 by omega, rs_l h6]
    · refine wp_ifeq (fun _ => wp_ret ⟨ok4, t4, oc4', Or.inr ⟨rfl, by omega⟩⟩) (fun q => by omega)
theorem s_foldedEnd {w : Wd} {tab : Nat → Int} {xs : List Int} {p : Int32} (ho : okall w) (he : rl w 648 = ends tab xs xs.length) (hp : 0 ≤ p.toInt ∧ p.toInt ≤ xs.length) : Wp (f_X1_foldedEnd p w) (fun r w' => w = w' ∧ r.toInt = (fo tab (xs.take p.toInt.toNat)).length) := by
  have L := LIT
  have pr := i_rng p
  unfold f_X1_foldedEnd
  refine wp_ifle (fun q => ?_) (fun q => wp_ret ⟨rfl, ?_⟩)
  · have p1 : (p - 1).toInt = p.toInt - 1 := by rw [i_sub (by omega), L.2.1]
    refine wp_bd (s_get (ho _ row_frm.2.2.2.1)) ?_
    rintro x _ ⟨rfl, hx⟩
    refine wp_ret ⟨rfl, ?_⟩
    rw [hx, he, p1, show p.toInt - 1 = ((p.toInt.toNat - 1 : Nat) : Int) by omega, ends_gt (by omega), show p.toInt.toNat - 1 + 1 = p.toInt.toNat by omega]
  · rw [show p.toInt.toNat = 0 by omega, L.1]; rfl

