/-! ===== forms by their numbers ===== -/
def lk (tab : Nat → Int) (x : Int) : Int := tab (9 * x.toNat + 3)
def lks (tab : Nat → Int) (xs : List Int) : List Int := xs.map (lk tab)
theorem lks_let {tab : Nat → Int} (hk : tok tab) {xs : List Int} (h : lets xs) : lets (lks tab xs) := by
  intro y hy
  obtain ⟨x, hx, rfl⟩ := List.mem_map.mp hy
  have := h x hx
  exact (hk.1 x.toNat (by omega)).2.2.2.1
theorem lks_len (tab : Nat → Int) (xs : List Int) : (lks tab xs).length = xs.length := List.length_map ..
theorem lks_gt {tab : Nat → Int} {xs : List Int} {k : Nat} (h : k < xs.length) : gt (lks tab xs) k = lk tab (gt xs k) := by
  rw [gt_getElem (by rw [lks_len]; exact h), gt_getElem h]
  unfold lks
  rw [List.getElem_map]
def sk (tab : Nat → Int) (xs : List Int) : List Int := lks tab (srt tab (xls tab xs))
/-- the form of a text, if it can be looked at so -/
def fsp (tab : Nat → Int) (f : Int) (xs : List Int) : Option (List Int) :=
  if f = 2 then (if (fl tab xs).length ≤ 80 then some (fo tab xs) else none)
  else if (xls tab xs).length ≤ 80 then
    (if f = 0 then some (srt tab (xls tab xs)) else if f = 1 then some (jnd tab (srt tab (xls tab xs)))
    else if (xls tab (sk tab xs)).length ≤ 80 then some (srt tab (xls tab (sk tab xs))) else none)
  else none
theorem jnd_le (tab : Nat → Int) (xs : List Int) : (jnd tab xs).length ≤ xs.length := by
  have := (jnd_len tab xs xs.length (Nat.le_refl _)).1
  rwa [List.take_length] at this
theorem fsp_ok {tab : Nat → Int} (hk : tok tab) {f : Int} {xs ys : List Int} (hl : lets xs) (h : fsp tab f xs = some ys) : lets ys ∧ ys.length ≤ 80 := by
  unfold fsp at h
  have hs : lets (srt tab (xls tab xs)) := srt_let (xls_let hk hl)
  by_cases a : f = 2
  · rw [if_pos a] at h
    by_cases b : (fl tab xs).length ≤ 80
    · rw [if_pos b] at h
      cases h
      have := unm_len tab (fl tab xs)
      exact ⟨unm_let (xls_let hk (caps_let hk hl).1), by unfold fo; omega⟩
    · rw [if_neg b] at h; cases h
  · rw [if_neg a] at h
    by_cases b : (xls tab xs).length ≤ 80
    · rw [if_pos b] at h
      by_cases c : f = 0
      · rw [if_pos c] at h; cases h
        exact ⟨hs, by rw [srt_len]; exact b⟩
      · rw [if_neg c] at h
        by_cases d : f = 1
        · rw [if_pos d] at h; cases h
          have := jnd_le tab (srt tab (xls tab xs))
          rw [srt_len] at this
          exact ⟨jnd_let hs, by omega⟩
        · rw [if_neg d] at h
          by_cases e : (xls tab (sk tab xs)).length ≤ 80
          · rw [if_pos e] at h; cases h
            exact ⟨srt_let (xls_let hk (lks_let hk hs)), by rw [srt_len]; exact e⟩
          · rw [if_neg e] at h; cases h
    · rw [if_neg b] at h; cases h
def fcr (tab : Nat → Int) (w : Wd) (into : Nat) (o : Option (List Int)) (r : Int32) (w' : Wd) : Prop :=
  okall w' ∧ trel w' 1 tab ∧ oc (fcl2 into) w w' ∧ ((r = 1 ∧ ∃ ys, o = some ys ∧ rl w' into = ys) ∨ (r = 0 ∧ o = none))
theorem s_skeletonInto {w : Wd} {tab : Nat → Int} {t into : Nat} {xs : List Int} (hk : tok tab) (h : trel w 1 tab) (ho : okall w) (ht : KD t = 7) (hi : KD into = 7) (ht6 : t < 640) (hi6 : 650 ≤ into) (hcap : LEN (into + 1) = 80) (hxs : rl w t = xs) (hl : lets xs) (h40 : xs.length ≤ 40) :
    Wp (f_X1_skeletonInto t into w) (fcr tab w into (fsp tab 3 xs)) := by
  have L := LIT
  have R := row_frm
  unfold f_X1_skeletonInto
  refine wp_bd (s_splitInto hk h ho ht R.2.2.1.1 (by omega) (by omega) (by omega) (by omega) R.2.2.1.2 hxs hl (by omega)) ?_
  rintro r w1 ⟨ok1, t1, oc1, hr⟩
  have oc1' : oc (fcl2 into) w w1 := oc_fc12 oc1 (Or.inr (by omega))
  rcases hr with ⟨rfl, hr1, hr2⟩ | ⟨rfl, hr1⟩
  · refine wp_ifeq (fun q => by omega) (fun _ => ?_)
    have lz : lets (srt tab (xls tab xs)) := srt_let (xls_let hk hl)
    have zl : (srt tab (xls tab xs)).length ≤ 80 := by rw [srt_len]; exact hr1
    have e3 : fsp tab 3 xs = if (xls tab (sk tab xs)).length ≤ 80 then some (srt tab (xls tab (sk tab xs))) else none := by
      unfold fsp; rw [if_neg (by decide), if_pos hr1, if_neg (by decide), if_neg (by decide)]
    have esk : sk tab xs = lks tab (srt tab (xls tab xs)) := rfl
    generalize srt tab (xls tab xs) = zs at *
    unfold f_X1_skeletonInto_16
    refine wp_loop (fun (σ : Nat × Int32 × Wd) => σ.1 = into ∧ 0 ≤ σ.2.1.toInt ∧ σ.2.1.toInt ≤ zs.length ∧ okall σ.2.2 ∧ trel σ.2.2 1 tab ∧ oc (fcl2 into) w σ.2.2 ∧ ∃ l2, rl σ.2.2 646 = l2 ∧ l2.length = zs.length ∧ (∀ k : Nat, k < zs.length → gt l2 k = if k < σ.2.1.toInt then lk tab (gt zs k) else gt zs k)) (fun (σ : Nat × Int32 × Wd) => zs.length - σ.2.1.toInt.toNat) ?_ FU _
      ⟨rfl, by dsimp only; omega, by dsimp only; omega, ok1, t1, oc1', zs, hr2, rfl, fun k _ => by dsimp only; rw [if_neg (by omega)]⟩ (by rw [FUv]; dsimp only; omega)
    rintro rc ⟨i', k, u⟩ ⟨e1, h0, h1, oku, tu, ocu, l2, hl2, hlen, hg⟩ ih
    dsimp only at e1 h0 h1 oku tu ocu hl2 hg
    subst e1
    show Wp (g_X1_skeletonInto_16 rc i' k u) _
    unfold g_X1_skeletonInto_16
    refine wp_bd (s_size (oku _ R.2.2.1.1)) ?_
    rintro n _ ⟨rfl, hn⟩
    rw [hl2] at hn
    refine wp_ifle (fun q => ?_) (fun q => ?_)
    · have e4 : l2 = sk tab xs := by
        rw [esk]
        refine gt_ext (by rw [lks_len, hlen]) (fun j hj => ?_)
        rw [hg j (by omega), if_pos (by omega), lks_gt (by omega)]
      rw [e4] at hl2
      refine wp_bd (s_splitInto hk tu oku R.2.2.1.1 hi (by omega) (by omega) (by omega) (by omega) hcap hl2 (by rw [esk]; exact lks_let hk lz) (by rw [← e4]; omega)) ?_
      rintro r2 w3 ⟨ok3, t3, oc3, hr3⟩
      have oc3' : oc (fcl2 i') w w3 := oc_tr ocu (oc_fc12 oc3 (Or.inl rfl))
      rcases hr3 with ⟨rfl, a, b⟩ | ⟨rfl, a⟩
      · exact wp_ret ⟨ok3, t3, oc3', Or.inl ⟨rfl, _, by rw [e3, if_pos a], b⟩⟩
      · exact wp_ret ⟨ok3, t3, oc3', Or.inr ⟨rfl, by rw [e3, if_neg (by omega)]⟩⟩
    · refine wp_bd (s_get (oku _ R.2.2.1.1)) ?_
      rintro y _ ⟨rfl, hy⟩
      have kn : k.toInt = ((k.toInt.toNat : Nat) : Int) := by omega
      rw [hl2, kn, hg _ (by omega), if_neg (by omega)] at hy
      have ly := lets_gt lz (k := ((k.toInt.toNat : Nat) : Int)) (by omega) (by omega)
      rw [← hy] at ly
      refine wp_bd (s_likeOf kd1 ly.1 (by omega) tu) ?_
      rintro z _ ⟨rfl, hz⟩
      have hz' : z.toInt = lk tab y.toInt := hz
      refine wp_bd (s_set_in (oku _ R.2.2.1.1) h0) ?_
      rintro _ w3 h3
      rw [hl2] at h3
      refine wp_add (by omega) (fun k2 hk2 => ?_)
      refine ih (i', k2, w3) ⟨rfl, by dsimp only; omega, by dsimp only; omega, okall_rs oku h3, trel_rs hk tu h3 (by omega), oc_tr ocu (oc_fcl2 h3 (Or.inr (by omega))), _, rs_l h3, by rw [List.length_set]; exact hlen, fun j hj => ?_⟩ (by dsimp only; omega)
      dsimp only
      rw [gt_setn (by omega)]
      by_cases c : j = k.toInt.toNat
      · rw [if_pos c, if_pos (by omega), hz', hy, c]
      · rw [if_neg c, hg j hj]
        by_cases d : j < k.toInt
        · rw [if_pos d, if_pos (by omega)]
        · rw [if_neg d, if_neg (by omega)]
  · refine wp_ifeq (fun _ => wp_ret ⟨ok1, t1, oc1', Or.inr ⟨rfl, ?_⟩⟩) (fun q => by omega)
    unfold fsp; rw [if_neg (by decide), if_neg (by omega)]
theorem s_formInto {w : Wd} {tab : Nat → Int} {t into : Nat} {f : Int32} {xs : List Int} (hk : tok tab) (h : trel w 1 tab) (ho : okall w) (ht : KD t = 7) (hi : KD into = 7) (ht6 : t < 640) (hi6 : 650 ≤ into) (hcap : LEN (into + 1) = 80) (hxs : rl w t = xs) (hl : lets xs) (h40 : xs.length ≤ 40) (hf : 0 ≤ f.toInt ∧ f.toInt ≤ 3) :
    Wp (f_X1_formInto t f into w) (fcr tab w into (fsp tab f.toInt xs)) := by
  have L := LIT
  unfold f_X1_formInto
  have k1 := row_ne hi ht
  refine wp_ifeq (fun q0 => ?_) (fun q0 => wp_ifeq (fun q1 => ?_) (fun q1 => wp_ifeq (fun q2 => ?_) (fun q2 => ?_)))
  · refine wp_bd (s_splitInto hk h ho ht hi (by omega) (by omega) (by omega) (by omega) hcap hxs hl (by omega)) ?_
    rintro r w1 ⟨ok1, t1, oc1, hr⟩
    refine wp_ret ⟨ok1, t1, oc_fc12 oc1 (Or.inl rfl), ?_⟩
    unfold fsp
    rw [if_neg (by omega)]
    rcases hr with ⟨rfl, a, b⟩ | ⟨rfl, a⟩
    · rw [if_pos a, if_pos (by omega)]; exact Or.inl ⟨rfl, _, rfl, b⟩
    · rw [if_neg (by omega)]; exact Or.inr ⟨rfl, rfl⟩
  · unfold f_X1_joinInto
    refine wp_bd (wp_bd (s_splitInto hk h ho ht hi (by omega) (by omega) (by omega) (by omega) hcap hxs hl (by omega)) (Q := fcr tab w into (fsp tab f.toInt xs)) ?_) (fun r w2 hh => wp_ret hh)
    rintro r w1 ⟨ok1, t1, oc1, hr⟩
    have oc1' := oc_fc12 oc1 (into := into) (Or.inl rfl)
    have e : fsp tab f.toInt xs = if (xls tab xs).length ≤ 80 then some (jnd tab (srt tab (xls tab xs))) else none := by
      unfold fsp
      rw [if_neg (by omega)]
      by_cases c : (xls tab xs).length ≤ 80
      · rw [if_pos c, if_pos c, if_neg (by omega), if_pos (by omega)]
      · rw [if_neg c, if_neg c]
    rw [e]
    rcases hr with ⟨rfl, a, b⟩ | ⟨rfl, a⟩
    · refine wp_ifeq (fun q => by omega) (fun _ => ?_)
      have lz : lets (srt tab (xls tab xs)) := srt_let (xls_let hk hl)
      refine wp_bd (s_size (ok1 _ hi)) ?_
      rintro n _ ⟨rfl, hn⟩
      rw [b] at hn
      have fin : ∀ x : Int32, x.toInt = (if 1 ≤ (srt tab (xls tab xs)).length then 1 else 0) → Wp (f_X1_joinInto_24 into x w1) (fcr tab w into (if (xls tab xs).length ≤ 80 then some (jnd tab (srt tab (xls tab xs))) else none)) := by
        intro x hx
        refine (s_joinTail hk t1 ok1 hi (by omega) b lz hx).mono ?_
        rintro r2 w2 ⟨rfl, h2⟩
        exact ⟨okall_rs ok1 h2, trel_rs hk t1 h2 (by omega), oc_tr oc1' (oc_fcl2 h2 (Or.inl rfl)), Or.inl ⟨rfl, _, by rw [if_pos a], rs_l h2⟩⟩
      exact wp_ifle (fun q => fin 1 (by rw [if_pos (by omega)]; exact L.2.1)) (fun q => fin 0 (by rw [if_neg (by omega)]; exact L.1))
    · refine wp_ifeq (fun _ => wp_ret ⟨ok1, t1, oc1', Or.inr ⟨rfl, by rw [if_neg (by omega)]⟩⟩) (fun q => by omega)
  · refine wp_bd (s_foldInto hk h ho ht hi (by omega) (by omega) ht6 hi6 hcap hxs hl h40) ?_
    rintro r w1 ⟨ok1, t1, oc1, hr⟩
    refine wp_ret ⟨ok1, t1, oc1, ?_⟩
    unfold fsp
    rw [if_pos (by omega)]
    rcases hr with ⟨rfl, a, b, _⟩ | ⟨rfl, a⟩
    · rw [if_pos a]; exact Or.inl ⟨rfl, _, rfl, b⟩
    · rw [if_neg (by omega)]; exact Or.inr ⟨rfl, rfl⟩
  · rw [show f.toInt = 3 by omega]
    exact wp_bd (s_skeletonInto hk h ho ht hi ht6 hi6 hcap hxs hl h40) (fun r w2 hh => wp_ret hh)
/-! the reference's -/
