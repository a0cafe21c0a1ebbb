/-! ===== orders: the reference ===== -/
def keyR (w : Wd) (K : List Int) : Prop := (w.1 713 29).toInt = K.length ∧ ∀ i : Nat, i < K.length → (w.1 734 i).toInt = gt K i
def kyf (f : Nat) : Prop := f = 11 ∨ f = 12 ∨ f = 29
def kyo (k : Nat) : Prop := k = 720 ∨ k = 734
theorem L734 : LEN 734 = 250 ∧ LEN 735 = 250 ∧ LEN 720 = 100 ∧ LEN 714 = 1740 := by decide +kernel
theorem ky_x {w w' : Wd} {tab : Nat → Int} {txt : Nat → List Int} {F : Nat → Prop} (h : rcg F kyo w w') (ht : rtab w = tab) (hx : rtx w txt) : rtab w' = tab ∧ rtx w' txt :=
  ⟨(rtab_fr (h.1 714 (by decide) (by unfold kyo; omega))).trans ht, rtx_fr hx (h.1 716 (by decide) (by unfold kyo; omega)) (h.1 717 (by decide) (by unfold kyo; omega))⟩
theorem wko_kyo {w w' : Wd} (h : rcg wkf wko w w') : rcg kyf kyo w w' := rcg_mono h (fun f q => by unfold wkf at q; unfold kyf; omega) (fun k q => Or.inl q)
/-- one more number of the key -/
theorem keyR_put {w : Wd} {K : List Int} {x : Int32} (h : keyR w K) (hl : K.length < 250) : keyR (setI (setI w 734 K.length x) 713 29 (Int32.ofNat (K.length + 1))) (K ++ [x.toInt]) := by
  refine ⟨?_, fun i hi => ?_⟩
  · rw [setI_at, if_pos ⟨rfl, rfl⟩, i_ofNat (by omega), List.length_append, List.length_singleton]
  · rw [List.length_append, List.length_singleton] at hi
    rw [setI_at, if_neg (by omega), setI_at, gt_snoc]
    by_cases e : i = K.length
    · rw [if_pos ⟨rfl, e⟩, if_pos (by omega)]
    · rw [if_neg (fun q => e q.2), if_neg (by omega)]; exact h.2 i (by omega)
section
variable {w0 : Wd} {tab : Nat → Int} {n : Int32} {zs : List Int} {Q : Int32 → Wd → Prop} {rc : Int32 × Int32 × Wd → Option (Int32 × Wd)}
/-- the state in which a key is laid -/
def kyS (w0 w : Wd) (zs K : List Int) : Prop := rcg (fun f => f = 29) (fun k => k = 734) w0 w ∧ rwk w0 zs ∧ keyR w K
theorem s_key142 {w : Wd} {r k c x : Int32} {rc2 : Int32 × Int32 × Int32 × Wd → Option (Int32 × Wd)} {K : List Int} (hS : kyS w0 w zs K) (hl : K.length < 245) (hk : 0 ≤ k.toInt ∧ k.toInt ≤ 100)
    (hgo : ∀ (z : Int32) (u : Wd), z.toInt = (if c.toInt = -1 then k.toInt + 1 else k.toInt + 2) → kyS w0 u zs (if 0 < x.toInt then K ++ [x.toInt] else K) → Wp (rc2 (n, r, z, u)) Q) :
    Wp (f_X11_keyed_142 rc2 n r k c x w) Q := by
  have L := LIT
  have M := L734
  obtain ⟨R, Z, hK⟩ := hS
  have k0 := hK.1
  have step : ∀ (d : Int32) (u : Wd), (d.toInt = 0 ∨ d.toInt = 1) → (∀ v : Int32, v.toInt = K.length + d.toInt → kyS w0 (setI u 713 29 v) zs (if 0 < x.toInt then K ++ [x.toInt] else K)) → u.1 713 29 = w.1 713 29 → Wp (f_X11_keyed_170 rc2 n r k c (u.1 713 29) d u) Q := by
    intro d u hd hu e
    have s1 : (u.1 713 29 + d).toInt = K.length + d.toInt := by rw [e, i_add (by omega), k0]
    unfold f_X11_keyed_170
    refine wp_wr (wp_ifeq (fun q => wp_add (by omega) (fun z hz => hgo z _ ?_ (hu _ s1))) (fun q => wp_add (by omega) (fun z hz => hgo z _ ?_ (hu _ s1))))
    · rw [if_pos (by omega)]; omega
    · rw [if_neg (by omega)]; omega
  unfold f_X11_keyed_142
  refine wp_ast (by omega) ?_
  have e1 : (w.1 713 29).toInt.toNat = K.length := by omega
  rw [e1]
  have e2 : (setI w 734 K.length x).1 713 29 = w.1 713 29 := by rw [setI_at, if_neg (by omega)]
  have R1 : rcg (fun f => f = 29) (fun k => k = 734) w0 (setI w 734 K.length x) := rcg_tr R (rcg_set (by decide) rfl)
  refine wp_ifle (fun q => step 0 _ (Or.inl L.1) (fun v hv => ⟨rcg_tr R1 (rcg_fld rfl), Z, ?_⟩) e2) (fun q => step 1 _ (Or.inr L.2.1) (fun v hv => ⟨rcg_tr R1 (rcg_fld rfl), Z, ?_⟩) e2)
  · rw [if_neg (by omega)]
    refine ⟨?_, fun i hi => ?_⟩
    · rw [setI_at, if_pos ⟨rfl, rfl⟩]; omega
    · rw [setI_at, if_neg (by omega), setI_at, if_neg (by omega)]; exact hK.2 i hi
  · rw [if_pos (by omega)]
    refine ⟨?_, fun i hi => ?_⟩
    · rw [setI_at, if_pos ⟨rfl, rfl⟩, List.length_append, List.length_singleton]; omega
    · rw [List.length_append, List.length_singleton] at hi
      rw [setI_at, if_neg (by omega), setI_at, gt_snoc]
      by_cases e : i = K.length
      · rw [if_pos ⟨rfl, e⟩, if_pos (by omega)]
      · rw [if_neg (fun q => e q.2), if_neg (by omega)]; exact hK.2 i (by omega)
theorem s_key47 {w : Wd} {r : Int32} {B : List Int} (hk : tok tab) (ht : rtab w0 = tab) (hn : 0 ≤ n.toInt ∧ n.toInt ≤ 1) (hr : 0 ≤ r.toInt ∧ r.toInt ≤ 2) (hS : kyS w0 w zs B) (hl : lets zs) (h80 : zs.length ≤ 80) (hB : B.length ≤ 163)
    (hgo : ∀ (z : Int32) (u : Wd), z.toInt = r.toInt + 1 → kyS w0 u zs (B ++ wk tab n.toInt.toNat r.toInt.toNat (unt tab n.toInt.toNat zs)) → Wp (rc (n, z, u)) Q) :
    Wp (f_X11_keyed_47 rc n r w) Q := by
  have L := LIT
  have M := L734
  have K := hk.2.1 n.toInt.toNat (by omega)
  have hnN : n.toInt.toNat < 2 := by omega
  unfold f_X11_keyed_47 f_X11_keyed_50
  rw [FUv]
  refine wp_loop (fun σ : Int32 × Int32 × Int32 × Wd => σ.1 = n ∧ σ.2.1 = r ∧ 0 ≤ σ.2.2.1.toInt ∧ σ.2.2.1.toInt ≤ zs.length + 1 ∧ ∃ (A : List Int) (f : Nat), kyS w0 σ.2.2.2 zs (B ++ A) ∧ A ++ wk tab n.toInt.toNat r.toInt.toNat (unz tab n.toInt.toNat zs f σ.2.2.1.toInt.toNat) = wk tab n.toInt.toNat r.toInt.toNat (unt tab n.toInt.toNat zs) ∧ zs.length ≤ f + σ.2.2.1.toInt.toNat ∧ A.length ≤ σ.2.2.1.toInt.toNat)
    (fun σ => (82 - σ.2.2.1.toInt).toNat) ?_ 100000 _ ⟨rfl, rfl, by dsimp only; omega, by dsimp only; omega, [], 100, by rw [List.append_nil]; exact hS, by dsimp only; rw [L.1, List.nil_append, show Int.toNat 0 = 0 from rfl, show unt tab n.toInt.toNat zs = unz tab n.toInt.toNat zs 100 0 from rfl], by dsimp only; omega, Nat.zero_le _⟩ (by dsimp only; omega)
  rintro rc2 ⟨n', r', k, u⟩ ⟨rfl, rfl, hk0, hk1, A, f, hA, he, hf, hAl⟩ ih
  dsimp only at *
  obtain ⟨R, Z, hK⟩ := hA
  have wm : (u.1 713 11).toInt = zs.length := by rw [R.2.1 11 (by decide)]; exact Z.1
  have zk : ∀ i : Nat, i < zs.length → (u.1 720 i).toInt = gt zs i := fun i hi => by rw [R.1 720 (by decide) (by decide)]; exact rwk_at Z hi
  have t2 : rtab u = tab := (rtab_fr (R.1 714 (by decide) (by decide))).trans ht
  unfold g_X11_keyed_50
  refine wp_ifle (fun q => wp_add (by omega) (fun z hz => hgo z u (by omega) ?_)) (fun q => ?_)
  · rw [unz_out (by omega), show wk tab n'.toInt.toNat r'.toInt.toNat [] = [] from rfl, List.append_nil] at he
    rw [← he]; exact ⟨R, Z, hK⟩
  have ck : ((k.toInt.toNat : Nat) : Int) = k.toInt := by omega
  obtain ⟨f', rfl⟩ : ∃ f', f = f' + 1 := ⟨f - 1, by omega⟩
  rw [unz_in (by omega), ck, show ((k.toInt.toNat + 1 : Nat) : Int) = k.toInt + 1 by omega] at he
  have k1 : (k + 1).toInt = k.toInt + 1 := by rw [i_add (by omega), L.2.1]
  have zl := zk k.toInt.toNat (by omega)
  rw [ck] at zl
  have zr := lets_gt hl hk0 (by omega)
  have lB : (B ++ A).length < 245 := by rw [List.length_append]; omega
  have e96 : (96 : Int32).toInt = 96 := by decide
  have e864 : (864 : Int32).toInt = 864 := by decide
  have l3 : (3 : Int32).toInt = 3 := by decide
  have letter : ct tab n'.toInt.toNat (gt zs k.toInt) (gt zs (k.toInt + 1)) = -1 → ∀ c : Int32, c.toInt = -1 → Wp (f_X11_keyed_95 rc2 n' r' k c u) Q := by
    intro hc c hc1
    rw [if_pos hc, wk_cons] at he
    unfold f_X11_keyed_95
    refine wp_ifeq (fun _ => ?_) (fun d => by omega)
    refine wp_ald (by omega) ?_
    have m1 : ((96 : Int32) * n').toInt = 96 * n'.toInt := i_mul' e96 (by omega)
    have m2 : ((96 : Int32) * n' + u.1 720 k.toInt.toNat).toInt = 96 * n'.toInt + gt zs k.toInt := by rw [i_add (by omega), m1, zl]
    have m3 : ((3 : Int32) * ((96 : Int32) * n' + u.1 720 k.toInt.toNat)).toInt = 3 * (96 * n'.toInt + gt zs k.toInt) := by rw [i_mul' l3 (by omega), m2]
    have m4 : ((864 : Int32) + (3 : Int32) * ((96 : Int32) * n' + u.1 720 k.toInt.toNat)).toInt = 864 + 3 * (96 * n'.toInt + gt zs k.toInt) := by rw [i_add (by omega), m3, e864]
    have m5 : ((864 : Int32) + (3 : Int32) * ((96 : Int32) * n' + u.1 720 k.toInt.toNat) + r').toInt = 864 + 3 * (96 * n'.toInt + gt zs k.toInt) + r'.toInt := by rw [i_add (by omega), m4]
    refine s_tb t2 (by omega) (fun y hy => ?_)
    have hw : y.toInt = wt tab n'.toInt.toNat r'.toInt.toNat (gt zs k.toInt) := by
      rw [hy, m5]
      unfold wt
      rw [if_pos (by omega)]
      congr 1
      omega
    refine s_key142 ⟨R, Z, hK⟩ lB (by omega) (fun z u2 hz h2 => ?_)
    rw [if_pos hc1] at hz
    rw [hw] at h2
    by_cases d : 0 < wt tab n'.toInt.toNat r'.toInt.toNat (gt zs k.toInt)
    · rw [if_pos d] at he h2
      rw [List.append_assoc] at h2
      refine ih (n', r', z, u2) ⟨rfl, rfl, by dsimp only; omega, by dsimp only; omega, _, f', h2, ?_, by dsimp only; omega, ?_⟩ (by dsimp only; omega)
      · dsimp only; rw [show z.toInt.toNat = k.toInt.toNat + 1 by omega, List.append_assoc]; exact he
      · dsimp only; rw [List.length_append, List.length_singleton]; omega
    · rw [if_neg d] at he h2
      refine ih (n', r', z, u2) ⟨rfl, rfl, by dsimp only; omega, by dsimp only; omega, A, f', h2, ?_, by dsimp only; omega, by dsimp only; omega⟩ (by dsimp only; omega)
      dsimp only; rw [show z.toInt.toNat = k.toInt.toNat + 1 by omega]; exact he
  refine wp_ifle (fun d => letter ?_ (-1) L.2.2.1) (fun d => ?_)
  · rw [show gt zs (k.toInt + 1) = -1 from gt_out (Or.inr (by omega))]
    exact ct_out hk hnN
  · have zl1 := zk (k.toInt.toNat + 1) (by omega)
    rw [show ((k.toInt.toNat + 1 : Nat) : Int) = k.toInt + 1 by omega] at zl1
    refine wp_ald (by omega) (wp_ald (by omega) ?_)
    rw [show (k + 1).toInt.toNat = k.toInt.toNat + 1 by omega]
    refine wp_bd (s_contraction (n := n') hn (by rw [t2]; exact hk)) ?_
    rintro c _ ⟨rfl, hc⟩
    rw [t2, zl, zl1] at hc
    rcases hc with ⟨c1, c2⟩ | ⟨j, c1, c2, c3⟩
    · exact letter (ct_no c2) c c1
    · have e := ct_yes hk hnN c1 c2
      have K1 := K.1
      rw [if_neg (by omega), e, wk_cons] at he
      unfold f_X11_keyed_95
      refine wp_ifeq (fun q2 => by omega) (fun _ => ?_)
      have m1 : (c + 2).toInt = c.toInt + 2 := by rw [i_add (by omega), L.2.2.2.1]
      have m2 : (c + 2 + r').toInt = c.toInt + 2 + r'.toInt := by rw [i_add (by omega), m1]
      refine s_tb t2 (by omega) (fun y hy => ?_)
      have hw : y.toInt = wt tab n'.toInt.toNat r'.toInt.toNat (96 + j) := by
        rw [hy, m2]
        unfold wt
        rw [if_neg (by omega)]
        congr 1
        omega
      refine s_key142 ⟨R, Z, hK⟩ lB (by omega) (fun z u2 hz h2 => ?_)
      rw [if_neg (by omega)] at hz
      rw [hw] at h2
      by_cases d2 : 0 < wt tab n'.toInt.toNat r'.toInt.toNat (96 + j)
      · rw [if_pos d2] at he h2
        rw [List.append_assoc] at h2
        refine ih (n', r', z, u2) ⟨rfl, rfl, by dsimp only; omega, by dsimp only; omega, _, f', h2, ?_, by dsimp only; omega, ?_⟩ (by dsimp only; omega)
        · dsimp only; rw [show z.toInt.toNat = k.toInt.toNat + 2 by omega, List.append_assoc]; exact he
        · dsimp only; rw [List.length_append, List.length_singleton]; omega
      · rw [if_neg d2] at he h2
        refine ih (n', r', z, u2) ⟨rfl, rfl, by dsimp only; omega, by dsimp only; omega, A, f', h2, ?_, by dsimp only; omega, by dsimp only; omega⟩ (by dsimp only; omega)
        dsimp only; rw [show z.toInt.toNat = k.toInt.toNat + 2 by omega]; exact he
end
theorem s_keyed {w : Wd} {tab : Nat → Int} {txt : Nat → List Int} {n s : Int32} (hk : tok tab) (ht : rtab w = tab) (hx : rtx w txt) (hkx : xok txt) (hn : 0 ≤ n.toInt ∧ n.toInt ≤ 1) (hs : 0 ≤ s.toInt ∧ s.toInt ≤ 5) :
    Wp (f_X11_keyed n s w) (fun r w' => rcg kyf kyo w w' ∧ ((r = 0 ∧ fsp tab 0 (txt s.toInt.toNat) = none) ∨ (r = 1 ∧ ∃ a, fsp tab 0 (txt s.toInt.toNat) = some a ∧ keyR w' (keyOf tab n.toInt.toNat (unt tab n.toInt.toNat a)) ∧ (keyOf tab n.toInt.toNat (unt tab n.toInt.toNat a)).length ≤ 242))) := by
  have L := LIT
  have M := L734
  have l3 : (3 : Int32).toInt = 3 := by decide
  unfold f_X11_keyed
  refine wp_bd (s_formed (f := 0) hk ht hx hkx hs (by omega)) ?_
  rintro r1 w1 ⟨R1, h1⟩
  rw [L.1] at h1
  rcases h1 with ⟨rfl, zs, f1, Z⟩ | ⟨rfl, f1⟩
  · rw [if_neg (by decide)]
    have Y := hkx _ (slot_lt hs)
    obtain ⟨hl, h80⟩ := fsp_ok hk Y.2 f1
    refine wp_wr ?_
    have t1 : rtab w1 = tab := (rtab_fr (R1.1 714 (by decide) (by unfold wko; omega))).trans ht
    have W0 := wk_len (tab := tab) (n := n.toInt.toNat) (r := 0) (unt tab n.toInt.toNat zs)
    have W1 := wk_len (tab := tab) (n := n.toInt.toNat) (r := 1) (unt tab n.toInt.toNat zs)
    have W2 := wk_len (tab := tab) (n := n.toInt.toNat) (r := 2) (unt tab n.toInt.toNat zs)
    have UL := unz_len (tab := tab) (n := n.toInt.toNat) (zs := zs) 100 0
    have UL2 : (unt tab n.toInt.toNat zs).length ≤ 80 := by unfold unt; omega
    unfold f_X11_keyed_18
    rw [FUv]
    refine wp_loop (fun σ : Int32 × Int32 × Wd => σ.1 = n ∧ 0 ≤ σ.2.1.toInt ∧ σ.2.1.toInt ≤ 3 ∧ kyS w1 σ.2.2 zs (if σ.2.1.toInt = 0 then [] else if σ.2.1.toInt = 1 then wk tab n.toInt.toNat 0 (unt tab n.toInt.toNat zs) else if σ.2.1.toInt = 2 then wk tab n.toInt.toNat 0 (unt tab n.toInt.toNat zs) ++ 0 :: wk tab n.toInt.toNat 1 (unt tab n.toInt.toNat zs) else keyOf tab n.toInt.toNat (unt tab n.toInt.toNat zs)))
      (fun σ => (4 - σ.2.1.toInt).toNat) ?_ 100000 _ ⟨rfl, by dsimp only; omega, by dsimp only; omega, ?_⟩ (by dsimp only; omega)
    · rintro rc ⟨n', r, u⟩ ⟨rfl, hr0, hr1, hS⟩ ih
      dsimp only at *
      unfold g_X11_keyed_18
      refine wp_ifle (fun q => wp_ret ⟨?_, Or.inr ⟨rfl, zs, f1, ?_, ?_⟩⟩) (fun q => ?_)
      · exact rcg_tr (wko_kyo R1) (rcg_mono hS.1 (fun f h => Or.inr (Or.inr h)) (fun k h => Or.inr h))
      · rw [if_neg (by omega), if_neg (by omega), if_neg (by omega)] at hS; exact hS.2.2
      · unfold keyOf; rw [List.length_append, List.length_cons, List.length_append, List.length_cons]; omega
      have go : ∀ (B : List Int) (u1 : Wd), kyS w1 u1 zs B → B.length ≤ 163 → B ++ wk tab n'.toInt.toNat r.toInt.toNat (unt tab n'.toInt.toNat zs) = (if r.toInt + 1 = 0 then [] else if r.toInt + 1 = 1 then wk tab n'.toInt.toNat 0 (unt tab n'.toInt.toNat zs) else if r.toInt + 1 = 2 then wk tab n'.toInt.toNat 0 (unt tab n'.toInt.toNat zs) ++ 0 :: wk tab n'.toInt.toNat 1 (unt tab n'.toInt.toNat zs) else keyOf tab n'.toInt.toNat (unt tab n'.toInt.toNat zs)) →
          Wp (f_X11_keyed_47 rc n' r u1) (fun r w' => rcg kyf kyo w w' ∧ ((r = 0 ∧ fsp tab 0 (txt s.toInt.toNat) = none) ∨ (r = 1 ∧ ∃ a, fsp tab 0 (txt s.toInt.toNat) = some a ∧ keyR w' (keyOf tab n'.toInt.toNat (unt tab n'.toInt.toNat a)) ∧ (keyOf tab n'.toInt.toNat (unt tab n'.toInt.toNat a)).length ≤ 242))) := by
        intro B u1 hB hBl hfin
        refine s_key47 hk t1 hn (by omega) hB hl h80 hBl (fun z u2 hz h2 => ih (n', z, u2) ⟨rfl, by dsimp only; omega, by dsimp only; omega, ?_⟩ (by dsimp only; omega))
        dsimp only
        rw [hz, ← hfin]; exact h2
      refine wp_ifle (fun c => ?_) (fun c => ?_)
      · rw [if_pos (by omega)] at hS
        refine go [] u hS (Nat.zero_le _) ?_
        rw [if_neg (by omega), if_pos (by omega), show r.toInt.toNat = 0 by omega]; rfl
      · have kl := hS.2.2.1
        by_cases e : r.toInt = 1
        · rw [if_neg (by omega), if_pos e] at hS kl
          refine wp_ast (by omega) (wp_wr ?_)
          have e1 : (u.1 713 29).toInt.toNat = (wk tab n'.toInt.toNat 0 (unt tab n'.toInt.toNat zs)).length := by omega
          rw [e1, setI_at, if_neg (by omega)]
          have e2 : u.1 713 29 + 1 = Int32.ofNat ((wk tab n'.toInt.toNat 0 (unt tab n'.toInt.toNat zs)).length + 1) := by
            rw [i_eq, i_add (by omega), L.2.1, i_ofNat (by omega)]; omega
          rw [e2]
          refine go _ _ ⟨rcg_tr hS.1 (rcg_tr (rcg_set (by decide) rfl) (rcg_fld rfl)), hS.2.1, keyR_put hS.2.2 (by omega)⟩ ?_ ?_
          · rw [List.length_append, List.length_singleton]; omega
          · rw [if_neg (by omega), if_neg (by omega), if_pos (by omega), show r.toInt.toNat = 1 by omega, List.append_assoc, L.1]; rfl
        · rw [if_neg (by omega), if_neg e, if_pos (by omega)] at hS kl
          have lB : (wk tab n'.toInt.toNat 0 (unt tab n'.toInt.toNat zs) ++ 0 :: wk tab n'.toInt.toNat 1 (unt tab n'.toInt.toNat zs)).length ≤ 161 := by rw [List.length_append, List.length_cons]; omega
          refine wp_ast (by omega) (wp_wr ?_)
          have e1 : (u.1 713 29).toInt.toNat = (wk tab n'.toInt.toNat 0 (unt tab n'.toInt.toNat zs) ++ 0 :: wk tab n'.toInt.toNat 1 (unt tab n'.toInt.toNat zs)).length := by omega
          rw [e1, setI_at, if_neg (by omega)]
          have e2 : u.1 713 29 + 1 = Int32.ofNat ((wk tab n'.toInt.toNat 0 (unt tab n'.toInt.toNat zs) ++ 0 :: wk tab n'.toInt.toNat 1 (unt tab n'.toInt.toNat zs)).length + 1) := by
            rw [i_eq, i_add (by omega), L.2.1, i_ofNat (by omega)]; omega
          rw [e2]
          refine go _ _ ⟨rcg_tr hS.1 (rcg_tr (rcg_set (by decide) rfl) (rcg_fld rfl)), hS.2.1, keyR_put hS.2.2 (by omega)⟩ ?_ ?_
          · rw [List.length_append, List.length_singleton]; omega
          · rw [if_neg (by omega), if_neg (by omega), if_neg (by omega), show r.toInt.toNat = 2 by omega]
            unfold keyOf
            rw [List.append_assoc, List.append_assoc, List.cons_append, L.1]; rfl
    · dsimp only
      rw [if_pos L.1]
      exact ⟨rcg_fld rfl, Z, by rw [setI_at, if_pos ⟨rfl, rfl⟩]; exact L.1, fun i hi => absurd hi (Nat.not_lt_zero _)⟩
  · rw [if_pos rfl]
    exact wp_ret ⟨wko_kyo R1, Or.inl ⟨rfl, f1⟩⟩
theorem s_compares {w : Wd} {A B : List Int} {m : Int32} (hm : m.toInt = A.length) (hA : ∀ i : Nat, i < A.length → (w.1 735 i).toInt = gt A i) (hB : keyR w B) (hA2 : A.length ≤ 242) (hB2 : B.length ≤ 242) :
    Wp (f_X11_compares m w) (fun x w' => w = w' ∧ x.toInt = cmpL A B) := by
  have I := LIT
  have M := L734
  have k0 := hB.1
  unfold f_X11_compares f_X11_compares_2
  rw [FUv]
  refine wp_loop (fun σ : Int32 × Int32 × Wd => σ.1 = m ∧ σ.2.2 = w ∧ 0 ≤ σ.2.1.toInt ∧ σ.2.1.toInt ≤ A.length ∧ σ.2.1.toInt ≤ B.length ∧ cmpL (A.drop σ.2.1.toInt.toNat) (B.drop σ.2.1.toInt.toNat) = cmpL A B)
    (fun σ => (245 - σ.2.1.toInt).toNat) ?_ 100000 _ ⟨rfl, rfl, by dsimp only; omega, by dsimp only; omega, by dsimp only; omega, by dsimp only; rw [I.1]; rfl⟩ (by dsimp only; omega)
  rintro rc ⟨m', k, u⟩ ⟨rfl, rfl, hk0, hk1, hk2, he⟩ ih
  dsimp only at *
  unfold g_X11_compares_2
  have fin : (A.length = k.toInt.toNat ∨ B.length = k.toInt.toNat) → Wp (f_X11_compares_57 m' u) (fun x w' => u = w' ∧ x.toInt = cmpL A B) := by
    intro hend
    unfold f_X11_compares_57
    refine wp_ifle (fun q => wp_ifle (fun q2 => wp_ret ⟨rfl, ?_⟩) (fun q2 => wp_ret ⟨rfl, ?_⟩)) (fun q => wp_ret ⟨rfl, ?_⟩)
    · rw [List.drop_eq_nil_of_le (by omega), List.drop_eq_nil_of_le (by omega)] at he
      rw [← he]; exact I.1
    · rw [drop_gt (us := A) (by omega), List.drop_eq_nil_of_le (show B.length ≤ k.toInt.toNat by omega)] at he
      rw [← he]; exact I.2.1
    · rw [drop_gt (us := B) (by omega), List.drop_eq_nil_of_le (by omega)] at he
      rw [← he]; exact I.2.2.1
  refine wp_ifle (fun q => fin (Or.inr (by omega))) (fun q => wp_ifle (fun q2 => fin (Or.inl (by omega))) (fun q2 => ?_))
  have a := hA k.toInt.toNat (by omega)
  have b := hB.2 k.toInt.toNat (by omega)
  rw [drop_gt (us := A) (by omega), drop_gt (us := B) (by omega), cmpL, ← a, ← b] at he
  refine wp_ald (by omega) (wp_ald (by omega) (wp_ifeq (fun c => wp_add (by omega) (fun z hz => ih (m', z, u) ⟨rfl, rfl, by dsimp only; omega, by dsimp only; omega, by dsimp only; omega, ?_⟩ (by dsimp only; omega))) (fun c => wp_ald (by omega) (wp_ald (by omega) (wp_ifle (fun d => wp_ret ⟨rfl, ?_⟩) (fun d => wp_ret ⟨rfl, ?_⟩))))))
  · dsimp only
    rw [if_pos c.symm] at he
    rw [show z.toInt.toNat = k.toInt.toNat + 1 by omega]; exact he
  · rw [if_neg (fun e => c e.symm), if_neg (by omega)] at he
    rw [← he]; exact I.2.1
  · rw [if_neg (fun e => c e.symm), if_pos (by omega)] at he
    rw [← he]; exact I.2.2.1
def cpf (f : Nat) : Prop := f = 0 ∨ f = 11 ∨ f = 12 ∨ f = 29
def cpo (k : Nat) : Prop := k = 720 ∨ k = 734 ∨ k = 735
theorem ky_cp {w w' : Wd} (h : rcg kyf kyo w w') : rcg cpf cpo w w' := rcg_mono h (fun f q => by unfold kyf at q; unfold cpf; omega) (fun k q => by unfold kyo at q; unfold cpo; omega)
theorem r_compare {w : Wd} {tab : Nat → Int} {txt : Nat → List Int} {n s t : Int32} (hk : tok tab) (ht : rtab w = tab) (hx : rtx w txt) (hkx : xok txt) :
    Wp (f_X11_compare n s t w) (fun r w' => rcg cpf cpo w w' ∧ ((bad_lt n.toInt s.toInt t.toInt ∧ (w'.1 713 0).toInt = 1) ∨ (¬ bad_lt n.toInt s.toInt t.toInt ∧ (fsp tab 0 (txt s.toInt.toNat) = none ∨ fsp tab 0 (txt t.toInt.toNat) = none) ∧ (w'.1 713 0).toInt = 2) ∨
      (¬ bad_lt n.toInt s.toInt t.toInt ∧ (w'.1 713 0).toInt = 0 ∧ ∃ a b : List Int, fsp tab 0 (txt s.toInt.toNat) = some a ∧ fsp tab 0 (txt t.toInt.toNat) = some b ∧ r.toInt = cmk tab n.toInt.toNat (unt tab n.toInt.toNat a) (unt tab n.toInt.toNat b)))) := by
  have I := LIT
  have M := L734
  -- no key: the copy is nothing
  have skip : ∀ (u : Wd) (v4 m : Int32), f_X11_compare_58 n t v4 0 m 0 u = f_X11_compare_108 v4 m u := by
    intro u v4 m
    unfold f_X11_compare_58
    rw [FUv]
    show g_X11_compare_58 _ n t v4 0 m 0 u = _
    unfold g_X11_compare_58
    have e : f_X11_compare_90 n t v4 0 m u = f_X11_compare_108 v4 m u := by unfold f_X11_compare_90; rw [if_pos rfl]
    rw [e]
    split
    · rfl
    · rw [if_pos rfl]
  have bad : bad_lt n.toInt s.toInt t.toInt → Wp (f_X11_compare_25 n s t w) (fun r w' => rcg cpf cpo w w' ∧ ((bad_lt n.toInt s.toInt t.toInt ∧ (w'.1 713 0).toInt = 1) ∨ (¬ bad_lt n.toInt s.toInt t.toInt ∧ (fsp tab 0 (txt s.toInt.toNat) = none ∨ fsp tab 0 (txt t.toInt.toNat) = none) ∧ (w'.1 713 0).toInt = 2) ∨
      (¬ bad_lt n.toInt s.toInt t.toInt ∧ (w'.1 713 0).toInt = 0 ∧ ∃ a b : List Int, fsp tab 0 (txt s.toInt.toNat) = some a ∧ fsp tab 0 (txt t.toInt.toNat) = some b ∧ r.toInt = cmk tab n.toInt.toNat (unt tab n.toInt.toNat a) (unt tab n.toInt.toNat b)))) := by
    intro hb
    unfold f_X11_compare_25 f_X11_compare_26 f_X11_compare_46 f_X11_compare_47
    rw [if_pos rfl]
    refine wp_lt (fun m _ => ?_)
    rw [skip]
    unfold f_X11_compare_108 f_X11_compare_109 f_X11_compare_131
    rw [if_pos rfl, e_holds, bd_r, ite_zo, if_neg (by decide)]
    exact wp_ret ⟨rcg_fld (Or.inl rfl), Or.inl ⟨hb, by rw [th0_v]; exact I.2.1⟩⟩
  unfold f_X11_compare
  simp only [e_isLanguage, e_isSlot, bd_r, ite_zo]
  refine wp_if (fun hn => ?_) (fun hn => bad (fun q => hn q.1))
  refine wp_if (fun hs => ?_) (fun hs => bad (fun q => hs q.2.1))
  refine wp_if (fun ht2 => ?_) (fun ht2 => bad (fun q => ht2 q.2.2))
  have nb : ¬ bad_lt n.toInt s.toInt t.toInt := fun q => q ⟨hn, hs, ht2⟩
  have none2 : ∀ (u : Wd) (m : Int32), rcg cpf cpo w u → (fsp tab 0 (txt s.toInt.toNat) = none ∨ fsp tab 0 (txt t.toInt.toNat) = none) → Wp (f_X11_compare_108 1 m u) (fun r w' => rcg cpf cpo w w' ∧ ((bad_lt n.toInt s.toInt t.toInt ∧ (w'.1 713 0).toInt = 1) ∨ (¬ bad_lt n.toInt s.toInt t.toInt ∧ (fsp tab 0 (txt s.toInt.toNat) = none ∨ fsp tab 0 (txt t.toInt.toNat) = none) ∧ (w'.1 713 0).toInt = 2) ∨
      (¬ bad_lt n.toInt s.toInt t.toInt ∧ (w'.1 713 0).toInt = 0 ∧ ∃ a b : List Int, fsp tab 0 (txt s.toInt.toNat) = some a ∧ fsp tab 0 (txt t.toInt.toNat) = some b ∧ r.toInt = cmk tab n.toInt.toNat (unt tab n.toInt.toNat a) (unt tab n.toInt.toNat b)))) := by
    intro u m hR hno
    unfold f_X11_compare_108 f_X11_compare_109 f_X11_compare_131
    rw [if_neg (by decide), if_pos rfl, e_holds, bd_r, ite_zo, if_neg (by decide)]
    exact wp_ret ⟨rcg_tr hR (rcg_fld (Or.inl rfl)), Or.inr (Or.inl ⟨nb, hno, by rw [th0_v]; exact I.2.2.2.1⟩)⟩
  unfold f_X11_compare_26
  rw [if_neg (by decide)]
  refine wp_bd (s_keyed hk ht hx hkx hn hs) ?_
  rintro r1 w1 ⟨R1, h1⟩
  rcases h1 with ⟨rfl, h1⟩ | ⟨rfl, a, f1, K1, len1⟩
  · rw [if_pos rfl]
    unfold f_X11_compare_46 f_X11_compare_47
    refine wp_lt (fun m _ => ?_)
    rw [skip]
    exact none2 w1 m (ky_cp R1) (Or.inl h1)
  · rw [if_neg (by decide)]
    obtain ⟨t1, x1⟩ := ky_x R1 ht hx
    generalize hKA : keyOf tab n.toInt.toNat (unt tab n.toInt.toNat a) = KA at K1 len1
    unfold f_X11_compare_47
    refine wp_lt (fun m hm => ?_)
    have hm2 : m.toInt = KA.length := by rw [hm]; exact K1.1
    unfold f_X11_compare_58
    rw [FUv]
    refine wp_loop (fun σ : Int32 × Int32 × Int32 × Int32 × Int32 × Int32 × Wd => σ.1 = n ∧ σ.2.1 = t ∧ σ.2.2.1 = 1 ∧ σ.2.2.2.1 = 1 ∧ σ.2.2.2.2.1 = m ∧ 0 ≤ σ.2.2.2.2.2.1.toInt ∧ σ.2.2.2.2.2.1.toInt ≤ KA.length ∧ oc (fun k => k = 735) w1 σ.2.2.2.2.2.2 ∧ ∀ i : Nat, (i : Int) < σ.2.2.2.2.2.1.toInt → (σ.2.2.2.2.2.2.1 735 i).toInt = gt KA i)
      (fun σ => (245 - σ.2.2.2.2.2.1.toInt).toNat) ?_ 100000 _ ⟨rfl, rfl, rfl, rfl, rfl, by dsimp only; omega, by dsimp only; omega, oc_rf, fun i hi => by dsimp only at hi; omega⟩ (by dsimp only; omega)
    rintro rc ⟨n', t', v4, v5, m', k, u⟩ ⟨rfl, rfl, rfl, rfl, rfl, hk0, hk1, V, hc⟩ ih
    dsimp only at *
    have R2 : rcg cpf cpo w u := rcg_tr (ky_cp R1) ⟨fun k _ q => V.1 k (fun e => q (Or.inr (Or.inr e))), fun f _ => by rw [V.1 713 (by decide)], V.2⟩
    unfold g_X11_compare_58
    refine wp_ifle (fun q => ?_) (fun q => ?_)
    · unfold f_X11_compare_90
      rw [if_neg (by decide)]
      have t3 : rtab u = tab := (rtab_fr (V.1 714 (by decide))).trans t1
      have x3 : rtx u txt := rtx_fr x1 (V.1 716 (by decide)) (V.1 717 (by decide))
      refine wp_bd (s_keyed hk t3 x3 hkx hn ht2) ?_
      rintro r2 w2 ⟨R3, h2⟩
      rcases h2 with ⟨rfl, h2⟩ | ⟨rfl, b, f2, K2, len2⟩
      · rw [if_pos rfl]
        exact none2 w2 m' (rcg_tr R2 (ky_cp R3)) (Or.inr h2)
      · rw [if_neg (by decide)]
        unfold f_X11_compare_109 f_X11_compare_131
        rw [if_neg (by decide), if_neg (by decide), e_holds, bd_r, ite_zo, if_pos rfl]
        have A2 : ∀ i : Nat, i < KA.length → ((setI w2 713 0 0).1 735 i).toInt = gt KA i := fun i hi => by
          rw [setI_at, if_neg (by omega), R3.1 735 (by decide) (by unfold kyo; omega)]; exact hc i (by omega)
        have K3 : keyR (setI w2 713 0 0) (keyOf tab n'.toInt.toNat (unt tab n'.toInt.toNat b)) := ⟨by rw [setI_at, if_neg (by omega)]; exact K2.1, fun i hi => by rw [setI_at, if_neg (by omega)]; exact K2.2 i hi⟩
        refine wp_bd (s_compares hm2 A2 K3 len1 len2) ?_
        rintro x _ ⟨rfl, hx2⟩
        refine wp_ret ⟨rcg_tr R2 (rcg_tr (ky_cp R3) (rcg_fld (Or.inl rfl))), Or.inr (Or.inr ⟨nb, by rw [th0_v]; exact I.1, a, b, f1, f2, ?_⟩)⟩
        rw [hx2, ← hKA, cmk_key]
    · rw [if_neg (by decide)]
      have g := K1.2 k.toInt.toNat (by omega)
      have g2 : u.1 734 k.toInt.toNat = w1.1 734 k.toInt.toNat := by rw [V.1 734 (by decide)]
      refine wp_ald (by omega) (wp_ast (by omega) (wp_add (by omega) (fun z hz => ih (n', t', 1, 1, m', z, _) ⟨rfl, rfl, rfl, rfl, rfl, by dsimp only; omega, by dsimp only; omega, oc_tr V (oc_setI rfl), fun i hi => ?_⟩ (by dsimp only; omega))))
      dsimp only at hi ⊢
      rw [setI_at, g2]
      by_cases e : i = k.toInt.toNat
      · rw [if_pos ⟨rfl, e⟩, e]; exact g
      · rw [if_neg (fun q => e q.2)]; exact hc i (by omega)
def kef (f : Nat) : Prop := f = 0 ∨ f = 11 ∨ f = 12 ∨ f = 29
theorem r_key {w : Wd} {tab : Nat → Int} {txt : Nat → List Int} {n s p : Int32} (hk : tok tab) (ht : rtab w = tab) (hx : rtx w txt) (hkx : xok txt) :
    Wp (f_X11_key n s p w) (fun r w' => rcg cpf cpo w w' ∧ ((bad_l1 n.toInt s.toInt ∧ (w'.1 713 0).toInt = 1) ∨ (¬ bad_l1 n.toInt s.toInt ∧ fsp tab 0 (txt s.toInt.toNat) = none ∧ (w'.1 713 0).toInt = 2) ∨
      (¬ bad_l1 n.toInt s.toInt ∧ ∃ a : List Int, fsp tab 0 (txt s.toInt.toNat) = some a ∧ ((¬ (-1 ≤ p.toInt ∧ p.toInt ≤ ((keyOf tab n.toInt.toNat (unt tab n.toInt.toNat a)).length : Int) - 1) ∧ (w'.1 713 0).toInt = 1) ∨
        ((-1 ≤ p.toInt ∧ p.toInt ≤ ((keyOf tab n.toInt.toNat (unt tab n.toInt.toNat a)).length : Int) - 1) ∧ (w'.1 713 0).toInt = 0 ∧ r.toInt = if p.toInt = -1 then ((keyOf tab n.toInt.toNat (unt tab n.toInt.toNat a)).length : Int) else gt (keyOf tab n.toInt.toNat (unt tab n.toInt.toNat a)) p.toInt))))) := by
  have I := LIT
  have M := L734
  have bad : bad_l1 n.toInt s.toInt → Wp (f_X11_key_18 n s p w) (fun r w' => rcg cpf cpo w w' ∧ ((bad_l1 n.toInt s.toInt ∧ (w'.1 713 0).toInt = 1) ∨ (¬ bad_l1 n.toInt s.toInt ∧ fsp tab 0 (txt s.toInt.toNat) = none ∧ (w'.1 713 0).toInt = 2) ∨
      (¬ bad_l1 n.toInt s.toInt ∧ ∃ a : List Int, fsp tab 0 (txt s.toInt.toNat) = some a ∧ ((¬ (-1 ≤ p.toInt ∧ p.toInt ≤ ((keyOf tab n.toInt.toNat (unt tab n.toInt.toNat a)).length : Int) - 1) ∧ (w'.1 713 0).toInt = 1) ∨
        ((-1 ≤ p.toInt ∧ p.toInt ≤ ((keyOf tab n.toInt.toNat (unt tab n.toInt.toNat a)).length : Int) - 1) ∧ (w'.1 713 0).toInt = 0 ∧ r.toInt = if p.toInt = -1 then ((keyOf tab n.toInt.toNat (unt tab n.toInt.toNat a)).length : Int) else gt (keyOf tab n.toInt.toNat (unt tab n.toInt.toNat a)) p.toInt))))) := by
    intro hb
    unfold f_X11_key_18 f_X11_key_19 f_X11_key_39 f_X11_key_40 f_X11_key_80
    rw [if_pos rfl, if_pos rfl, e_holds, bd_r, ite_zo, if_neg (by decide)]
    exact wp_ret ⟨rcg_fld (Or.inl rfl), Or.inl ⟨hb, by rw [th0_v]; exact I.2.1⟩⟩
  unfold f_X11_key
  simp only [e_isLanguage, e_isSlot, bd_r, ite_zo]
  refine wp_if (fun hn => ?_) (fun hn => bad (fun q => hn q.1))
  refine wp_if (fun hs => ?_) (fun hs => bad (fun q => hs q.2))
  have nb : ¬ bad_l1 n.toInt s.toInt := fun q => q ⟨hn, hs⟩
  unfold f_X11_key_19
  rw [if_neg (by decide)]
  refine wp_bd (s_keyed hk ht hx hkx hn hs) ?_
  rintro r1 w1 ⟨R1, h1⟩
  rcases h1 with ⟨rfl, h1⟩ | ⟨rfl, a, f1, K1, len1⟩
  · rw [if_pos rfl]
    unfold f_X11_key_39 f_X11_key_40 f_X11_key_80
    rw [if_neg (by decide), if_pos rfl, e_holds, bd_r, ite_zo, if_neg (by decide)]
    exact wp_ret ⟨rcg_tr (ky_cp R1) (rcg_fld (Or.inl rfl)), Or.inr (Or.inl ⟨nb, h1, by rw [th0_v]; exact I.2.2.2.1⟩)⟩
  · rw [if_neg (by decide)]
    have k0 := K1.1
    have p1 : (w1.1 713 29 - 1).toInt = (w1.1 713 29).toInt - 1 := by rw [i_sub (by omega), I.2.1]
    unfold f_X11_key_40
    rw [if_neg (by decide), if_neg (by decide)]
    simp only [e_in, bd_r, ite_zo, p1]
    refine wp_if (fun c => ?_) (fun c => ?_)
    · unfold f_X11_key_80
      rw [e_holds, bd_r, ite_zo, if_pos rfl]
      refine wp_ifeq (fun d => wp_ret ⟨rcg_tr (ky_cp R1) (rcg_fld (Or.inl rfl)), Or.inr (Or.inr ⟨nb, a, f1, Or.inr ⟨by omega, by rw [th0_v]; exact I.1, ?_⟩⟩)⟩) (fun d => wp_ald (by omega) (wp_ret ⟨rcg_tr (ky_cp R1) (rcg_fld (Or.inl rfl)), Or.inr (Or.inr ⟨nb, a, f1, Or.inr ⟨by omega, by rw [th0_v]; exact I.1, ?_⟩⟩)⟩))
      · rw [if_pos (by omega), setI_at, if_neg (by omega)]; exact k0
      · rw [if_neg (by omega), setI_at, if_neg (by omega)]
        have := K1.2 p.toInt.toNat (by omega)
        rw [show ((p.toInt.toNat : Nat) : Int) = p.toInt by omega] at this
        exact this
    · unfold f_X11_key_80
      rw [e_holds, bd_r, ite_zo, if_neg (by decide)]
      exact wp_ret ⟨rcg_tr (ky_cp R1) (rcg_fld (Or.inl rfl)), Or.inr (Or.inr ⟨nb, a, f1, Or.inl ⟨fun q => c (by omega), by rw [th0_v]; exact I.2.1⟩⟩)⟩
