/-! ===== patterns: the reference reads ===== -/
def spt (w w' : Wd) (p : Int) : Prop := rcg (fun f => f = 44) (fun _ => False) w w' ∧ (w'.1 713 44).toInt = p
theorem spt_set {w : Wd} {v : Int32} : spt w (setI w 713 44 v) v.toInt := ⟨rcg_fld rfl, by rw [setI_at, if_pos ⟨rfl, rfl⟩]⟩
theorem spt_tr {w w1 w2 : Wd} {p q : Int} (h : spt w w1 p) (g : spt w1 w2 q) : spt w w2 q := ⟨rcg_tr h.1 g.1, g.2⟩
theorem rta_fr {w w' : Wd} {tp : List Int} (h : rta w tp) (h7 : w'.1 713 7 = w.1 713 7) (h8 : w'.1 718 = w.1 718) : rta w' tp := by
  refine ⟨by rw [h7]; exact h.1, ?_⟩
  have e : sg w' 718 0 tp.length = sg w 718 0 tp.length := sg_ext (fun i _ => by rw [h8])
  rw [e]; exact h.2
theorem spt_t {w w' : Wd} {p : Int} {tp : List Int} (h : spt w w' p) (ht : rta w tp) : rta w' tp := rta_fr ht (h.1.2.1 7 (by decide)) (h.1.1 718 (by decide) (by simp))
theorem rta_gt {w : Wd} {tp : List Int} (h : rta w tp) {k : Nat} (hk : k < tp.length) : (w.1 718 k).toInt = gt tp k := by
  have e : (sg w 718 0 tp.length)[k]? = some (w.1 718 (0 + k)).toInt := sg_at hk
  rw [h.2, Nat.zero_add] at e
  rw [gt_nat, List.getD_eq_getElem?_getD, e]; rfl
theorem s_taping {w : Wd} {tp : List Int} {p : Int} (ht : rta w tp) (hb : tpok tp) (hp : (w.1 713 44).toInt = p) (h0 : 0 ≤ p) : Wp (f_X11_taping w) (fun r w' => w = w' ∧ r.toInt = gt tp p) := by
  have L := LIT
  have l718 : LEN 718 = 160 := LENs.2.2.2.2.2.2.1
  have t0 := ht.1
  have tl := hb.1
  unfold f_X11_taping
  refine wp_ifle (fun c => wp_ret ⟨rfl, ?_⟩) (fun c => wp_ald (by omega) (wp_ret ⟨rfl, ?_⟩))
  · rw [gt_out (Or.inr (by omega))]; exact L.2.2.1
  · have := rta_gt ht (k := p.toNat) (by omega)
    rw [show ((p.toNat : Nat) : Int) = p by omega] at this
    rw [hp]; exact this
theorem tp_gt {tp : List Int} (hb : tpok tp) (i : Int) : -1 ≤ gt tp i ∧ gt tp i ≤ 255 := by
  by_cases h : 0 ≤ i ∧ i < tp.length
  · rw [gt_in h.1, List.getD_eq_getElem?_getD, List.getElem?_eq_getElem (by omega)]
    have := hb.2 _ (List.getElem_mem (l := tp) (n := i.toNat) (by omega))
    show -1 ≤ tp[i.toNat] ∧ tp[i.toNat] ≤ 255
    omega
  · rw [gt_out (by omega)]; omega
theorem s_readsSet {w : Wd} {tp : List Int} {p : Int} (ht : rta w tp) (hb : tpok tp) (hp : (w.1 713 44).toInt = p) (hp2 : 0 ≤ p ∧ p ≤ 300) :
    Wp (f_X11_readsSet w) (fun r w' => spt w w' (rdP tp p) ∧ r.toInt = rdS tp p) := by
  have L := LIT
  have l33 : (33 : Int32).toInt = 33 := by decide
  have l35 : (35 : Int32).toInt = 35 := by decide
  have l48 : (48 : Int32).toInt = 48 := by decide
  have l57 : (57 : Int32).toInt = 57 := by decide
  have l10 : (10 : Int32).toInt = 10 := by decide
  have l100 : (100 : Int32).toInt = 100 := by decide
  have lm : (-1000 : Int32).toInt = -1000 := by decide
  have c46 : (46 : Int32).toInt = 46 := by decide
  have c76 : (76 : Int32).toInt = 76 := by decide
  have c77 : (77 : Int32).toInt = 77 := by decide
  have c66 : (66 : Int32).toInt = 66 := by decide
  have c68 : (68 : Int32).toInt = 68 := by decide
  have c83 : (83 : Int32).toInt = 83 := by decide
  have c67 : (67 : Int32).toInt = 67 := by decide
  have l3 : (3 : Int32).toInt = 3 := by decide
  have l4 : (4 : Int32).toInt = 4 := by decide
  have l5 : (5 : Int32).toInt = 5 := by decide
  have l6 : (6 : Int32).toInt = 6 := by decide
  have b01 := rdB_01 tp p
  have C := rdC_rng tp (p + rdB tp p)
  have main : ∀ (t s : Int32), t.toInt = rdB tp p → s.toInt = rdB tp p → Wp (f_X11_readsSet_29 t (w.1 713 44) s w) (fun r w' => spt w w' (rdP tp p) ∧ r.toInt = rdS tp p) := by
    intro t s ht1 hs1
    have e1 : (w.1 713 44 + s).toInt = p + rdB tp p := by rw [i_add (by omega), hp, hs1]
    have fin : ∀ (c : Int32) (w1 : Wd), spt w w1 (rdP tp p) → c.toInt = rdC tp (p + rdB tp p) → Wp (f_X11_readsSet_221 t c w1) (fun r w' => spt w w' (rdP tp p) ∧ r.toInt = rdS tp p) := by
      intro c w1 S hc
      unfold f_X11_readsSet_221
      refine wp_ifeq (fun z => wp_ret ⟨S, ?_⟩) (fun z => wp_ifeq (fun z2 => wp_ret ⟨S, ?_⟩) (fun z2 => wp_ret ⟨S, ?_⟩))
      · unfold rdS; rw [if_pos (by omega)]; omega
      · unfold rdS; rw [if_neg (by omega), if_neg (show ¬ rdB tp p = 1 by omega)]; exact hc
      · unfold rdS; rw [if_neg (by omega), if_pos (show rdB tp p = 1 by omega), i_sub (by omega)]; omega
    unfold f_X11_readsSet_29
    refine wp_wr ?_
    have S1 : spt w (setI w 713 44 (w.1 713 44 + s)) (p + rdB tp p) := by rw [← e1]; exact spt_set
    generalize setI w 713 44 (w.1 713 44 + s) = w1 at S1 ⊢
    have t1 := spt_t S1 ht
    refine wp_bd (s_taping t1 hb S1.2 (by omega)) ?_
    rintro x _ ⟨rfl, hx⟩
    have e2 : (w1.1 713 44 + 1).toInt = p + rdB tp p + 1 := by rw [i_add (by have := S1.2; omega), S1.2, L.2.1]
    refine wp_wr ?_
    have S2 : spt w (setI w1 713 44 (w1.1 713 44 + 1)) (p + rdB tp p + 1) := by rw [← e2]; exact spt_tr S1 spt_set
    generalize setI w1 713 44 (w1.1 713 44 + 1) = w2 at S2 ⊢
    have t2 := spt_t S2 ht
    have p122 : ∀ c : Int32, (x.toInt ≠ 35 → c.toInt = pcode x.toInt) → Wp (f_X11_readsSet_122 t x c w2) (fun r w' => spt w w' (rdP tp p) ∧ r.toInt = rdS tp p) := by
      intro c hc
      unfold f_X11_readsSet_122
      refine wp_ifeq (fun z => ?_) (fun z => fin c w2 ?_ ?_)
      · have h35 : gt tp (p + rdB tp p) = 35 := by omega
        have b1 := tp_gt hb (p + rdB tp p + 1)
        have b2 := tp_gt hb (p + rdB tp p + 2)
        refine wp_bd (s_taping t2 hb S2.2 (by omega)) ?_
        rintro a _ ⟨rfl, ha⟩
        have e3 : (w2.1 713 44 + 1).toInt = p + rdB tp p + 2 := by rw [i_add (by have := S2.2; omega), S2.2, L.2.1]; omega
        refine wp_wr ?_
        have S3 : spt w (setI w2 713 44 (w2.1 713 44 + 1)) (p + rdB tp p + 2) := by rw [← e3]; exact spt_tr S2 spt_set
        generalize setI w2 713 44 (w2.1 713 44 + 1) = w3 at S3 ⊢
        have t3 := spt_t S3 ht
        refine wp_bd (s_taping t3 hb S3.2 (by omega)) ?_
        rintro b _ ⟨rfl, hb2⟩
        have e4 : (w3.1 713 44 + 1).toInt = p + rdB tp p + 3 := by rw [i_add (by have := S3.2; omega), S3.2, L.2.1]; omega
        refine wp_wr ?_
        have S4 : spt w (setI w3 713 44 (w3.1 713 44 + 1)) (rdP tp p) := by
          have : rdP tp p = p + rdB tp p + 3 := by unfold rdP; rw [if_pos h35]
          rw [this, ← e4]; exact spt_tr S3 spt_set
        generalize setI w3 713 44 (w3.1 713 44 + 1) = w4 at S4 ⊢
        have m1 : (a - 48).toInt = a.toInt - 48 := by rw [i_sub (by omega), l48]
        have m2 : ((10 : Int32) * (a - 48)).toInt = 10 * (a.toInt - 48) := by rw [i_mul' l10 (by omega), m1]
        have m3 : ((10 : Int32) * (a - 48) + b).toInt = 10 * (a.toInt - 48) + b.toInt := by rw [i_add (by omega), m2]
        refine wp_sub (by omega) (fun y hy => ?_)
        simp only [e_in, e_isLetterR, bd_r, ite_zo, l48, l57]
        have bad : ¬ ((48 ≤ gt tp (p + rdB tp p + 1) ∧ gt tp (p + rdB tp p + 1) ≤ 57) ∧ (48 ≤ gt tp (p + rdB tp p + 2) ∧ gt tp (p + rdB tp p + 2) ≤ 57) ∧ 10 * (gt tp (p + rdB tp p + 1) - 48) + (gt tp (p + rdB tp p + 2) - 48) ≤ 95) → Wp (f_X11_readsSet_217 t w4) (fun r w' => spt w w' (rdP tp p) ∧ r.toInt = rdS tp p) := by
          intro nf
          unfold f_X11_readsSet_217 f_X11_readsSet_220
          refine fin (-1000) w4 S4 ?_
          unfold rdC; rw [if_pos h35, if_neg nf]; exact lm
        refine wp_if (fun d1 => wp_if (fun d2 => wp_if (fun d3 => ?_) (fun d3 => bad (by omega))) (fun d2 => bad (by omega))) (fun d1 => bad (by omega))
        unfold f_X11_readsSet_220
        refine fin _ w4 S4 ?_
        unfold rdC
        rw [if_pos h35, if_pos (by omega), i_add (by omega)]; omega
      · have : rdP tp p = p + rdB tp p + 1 := by unfold rdP; rw [if_neg (by omega)]
        rw [this]; exact S2
      · rw [hc (by omega)]
        unfold rdC; rw [if_neg (by omega), hx]
    have P : ∀ v : Int, x.toInt = v → pcode x.toInt = pcode v := fun v h => by rw [h]
    refine wp_ifeq (fun z => p122 0 (fun _ => by rw [P 46 (by omega)]; decide)) (fun z1 => wp_ifeq (fun z => p122 1 (fun _ => by rw [P 76 (by omega)]; decide)) (fun z2 => wp_ifeq (fun z => p122 2 (fun _ => by rw [P 77 (by omega)]; decide)) (fun z3 => wp_ifeq (fun z => p122 3 (fun _ => by rw [P 66 (by omega)]; decide)) (fun z4 => wp_ifeq (fun z => p122 4 (fun _ => by rw [P 68 (by omega)]; decide)) (fun z5 => wp_ifeq (fun z => p122 5 (fun _ => by rw [P 83 (by omega)]; decide)) (fun z6 => wp_ifeq (fun z => p122 6 (fun _ => by rw [P 67 (by omega)]; decide)) (fun z7 => p122 (-1000) (fun _ => ?_))))))))
    unfold pcode
    rw [if_neg (by omega), if_neg (by omega), if_neg (by omega), if_neg (by omega), if_neg (by omega), if_neg (by omega), if_neg (by omega)]
    exact lm
  unfold f_X11_readsSet
  refine wp_bd (s_taping ht hb hp hp2.1) ?_
  rintro x _ ⟨rfl, hx⟩
  unfold f_X11_readsSet_14
  refine wp_ifeq (fun c => ?_) (fun c => ?_)
  · have e : rdB tp p = 1 := by unfold rdB; rw [if_pos (by omega)]
    rw [if_neg (by decide)]
    exact main 1 1 (by rw [e]; exact L.2.1) (by rw [e]; exact L.2.1)
  · have e : rdB tp p = 0 := by unfold rdB; rw [if_neg (by omega)]
    rw [if_pos rfl]
    exact main 0 0 (by rw [e]; exact L.1) (by rw [e]; exact L.1)
/-- what the reference keeps of a pattern -/
def pg (l : List PC) (i : Nat) : PC := l.getD i (0, 0, 0)
def patA (w : Wd) (l : List PC) : Prop := ∀ i : Nat, i < l.length → (w.1 737 i).toInt = (pg l i).1 ∧ (w.1 736 i).toInt = (pg l i).2.1 ∧ (w.1 738 i).toInt = (pg l i).2.2
def patR (w : Wd) (l : List PC) : Prop := (w.1 713 32).toInt = l.length ∧ patA w l
theorem pg_snoc {l : List PC} {x : PC} {i : Nat} (h : i ≤ l.length) : pg (l ++ [x]) i = if i = l.length then x else pg l i := by
  unfold pg
  rw [List.getD_eq_getElem?_getD, List.getD_eq_getElem?_getD]
  by_cases e : i = l.length
  · rw [if_pos e, e, List.getElem?_append_right (Nat.le_refl _), Nat.sub_self]; rfl
  · rw [if_neg e, List.getElem?_append_left (by omega)]
theorem L736 : LEN 736 = 8 ∧ LEN 737 = 8 ∧ LEN 738 = 8 := by decide +kernel
/-- reading, kept or not -/
def rpf (kept : Prop) (w w' : Wd) : Prop := rcg (fun f => f = 44) (fun k => kept ∧ 736 ≤ k ∧ k ≤ 738) w w'
theorem s_readsPattern {w : Wd} {tp : List Int} {b : Int32} (ht : rta w tp) (hb : tpok tp) (hb01 : b.toInt = 0 ∨ b.toInt = 1) :
    Wp (f_X11_readsPattern b w) (fun r w' => rpf (b.toInt = 1) w w' ∧ ((r.toInt = -1 ∧ pat tp = none) ∨ ∃ l, pat tp = some l ∧ r.toInt = l.length ∧ l.length ≤ 8 ∧ (b.toInt = 1 → patA w' l))) := by
  have L := LIT
  have M := L736
  have l60 : (60 : Int32).toInt = 60 := by decide
  have l42 : (42 : Int32).toInt = 42 := by decide
  have l63 : (63 : Int32).toInt = 63 := by decide
  have l8 : (8 : Int32).toInt = 8 := by decide
  have lm : (-1000 : Int32).toInt = -1000 := by decide
  have l999 : (999 : Int32).toInt = 999 := by decide
  have tl := hb.1
  unfold f_X11_readsPattern
  refine wp_wr ?_
  have S0 : spt w (setI w 713 44 0) (0 : Int32).toInt := spt_set
  have sp_rp : ∀ {w1 : Wd} {p : Int}, spt w w1 p → rpf (b.toInt = 1) w w1 := fun h => rcg_mono h.1 (fun f q => q) (fun k q => q.elim)
  unfold f_X11_readsPattern_7
  rw [FUv]
  refine wp_loop (fun σ : Int32 × Int32 × Wd => σ.1 = b ∧ rpf (b.toInt = 1) w σ.2.2 ∧ ∃ (p : Int) (f : Nat) (A : List PC), (σ.2.2.1 713 44).toInt = p ∧ 0 ≤ p ∧ p ≤ 170 ∧ σ.2.1.toInt = A.length ∧ A.length ≤ 8 ∧ (prs tp f p A.length).map (fun l => A ++ l) = pat tp ∧ 172 ≤ f + p ∧ (b.toInt = 1 → patA σ.2.2 A))
    (fun σ => (171 - (σ.2.2.1 713 44).toInt).toNat) ?_ 100000 _ ⟨rfl, sp_rp S0, 0, 200, [], by dsimp only; rw [S0.2, L.1], by omega, by omega, by dsimp only; rw [L.1]; rfl, Nat.zero_le _, ?_, by omega, fun _ i hi => absurd hi (Nat.not_lt_zero _)⟩ (by dsimp only; rw [S0.2]; omega)
  · rintro rc ⟨b', m, u⟩ ⟨rfl, V, p, f, A, hp, hp0, hp170, hm, hAl, hT, hf, hK⟩ ih
    dsimp only at *
    have tu : rta u tp := rta_fr ht (V.2.1 7 (by decide)) (V.1 718 (by decide) (by omega))
    have t7 := tu.1
    obtain ⟨f', rfl⟩ : ∃ f', f = f' + 1 := ⟨f - 1, by omega⟩
    unfold g_X11_readsPattern_7
    refine wp_ifle (fun c => ?_) (fun c => ?_)
    · rw [prs_end (by omega)] at hT
      refine wp_ret ⟨V, Or.inr ⟨A, ?_, hm, hAl, hK⟩⟩
      rw [← hT, Option.map_some, List.append_nil]
    have nend : ¬ tp.length ≤ p := by omega
    have N := pcN_rng tp p
    refine wp_bd (s_taping tu hb hp hp0) ?_
    rintro x _ ⟨rfl, hx⟩
    have fr : ∀ {u1 : Wd} {q : Int}, spt u u1 q → rpf (b'.toInt = 1) w u1 := fun h => rcg_tr V (rcg_mono h.1 (fun f q => q) (fun k q => q.elim))
    have kp : ∀ {u1 : Wd} {q : Int}, spt u u1 q → b'.toInt = 1 → patA u1 A := fun h e i hi => by
      rw [h.1.1 737 (by decide) (by simp), h.1.1 736 (by decide) (by simp), h.1.1 738 (by decide) (by simp)]; exact hK e i hi
    -- behind the sets
    have p117 : ∀ (bk st rp t2 : Int32) (u1 : Wd), spt u u1 (pcR tp p) → bk.toInt = pcB tp p → st.toInt = pcS tp p → rp.toInt = pcT tp p → t2.toInt = (if 0 < pcT tp p then 1 else 0) → Wp (f_X11_readsPattern_117 rc b' m bk st rp (u1.1 713 44) t2 u1) (fun r w' => rpf (b'.toInt = 1) w w' ∧ ((r.toInt = -1 ∧ pat tp = none) ∨ ∃ l, pat tp = some l ∧ r.toInt = l.length ∧ l.length ≤ 8 ∧ (b'.toInt = 1 → patA w' l))) := by
      intro bk st rp t2 u1 S hbk hst hrp ht2
      have t01 : t2.toInt = 0 ∨ t2.toInt = 1 := by rw [ht2]; split <;> omega
      have eN : pcN tp p = pcR tp p + (if 0 < pcT tp p then 1 else 0) := rfl
      have e1 : (u1.1 713 44 + t2).toInt = pcN tp p := by rw [i_add (by have := S.2; omega), S.2, ht2, eN]
      unfold f_X11_readsPattern_117
      refine wp_wr ?_
      have S2 : spt u (setI u1 713 44 (u1.1 713 44 + t2)) (pcN tp p) := by rw [← e1]; exact spt_tr S spt_set
      generalize setI u1 713 44 (u1.1 713 44 + t2) = u2 at S2 ⊢
      have nope : (pcB tp p = -1000 ∨ pcS tp p = -1000 ∨ A.length = 8) → Wp (some ((-1 : Int32), u2)) (fun r w' => rpf (b'.toInt = 1) w w' ∧ ((r.toInt = -1 ∧ pat tp = none) ∨ ∃ l, pat tp = some l ∧ r.toInt = l.length ∧ l.length ≤ 8 ∧ (b'.toInt = 1 → patA w' l))) := by
        intro h
        rw [prs_bad nend h] at hT
        exact wp_ret ⟨fr S2, Or.inl ⟨L.2.2.1, hT.symm⟩⟩
      refine wp_ifeq (fun d1 => nope (Or.inl (by omega))) (fun d1 => wp_ifeq (fun d2 => nope (Or.inr (Or.inl (by omega)))) (fun d2 => wp_ifeq (fun d3 => nope (Or.inr (Or.inr (by omega)))) (fun d3 => ?_)))
      have ok : ¬ (pcB tp p = -1000 ∨ pcS tp p = -1000 ∨ A.length = 8) := by omega
      rw [prs_in nend ok] at hT
      have next : ∀ (z : Int32) (u3 : Wd), z.toInt = m.toInt + (1 : Int32).toInt → rpf (b'.toInt = 1) w u3 → (u3.1 713 44).toInt = pcN tp p → (b'.toInt = 1 → patA u3 (A ++ [(pcB tp p, pcS tp p, pcT tp p)])) → Wp (rc (b', z, u3)) (fun r w' => rpf (b'.toInt = 1) w w' ∧ ((r.toInt = -1 ∧ pat tp = none) ∨ ∃ l, pat tp = some l ∧ r.toInt = l.length ∧ l.length ≤ 8 ∧ (b'.toInt = 1 → patA w' l))) := by
        intro z u3 hz h1 h2 h3
        refine ih (b', z, u3) ⟨rfl, h1, pcN tp p, f', A ++ [(pcB tp p, pcS tp p, pcT tp p)], h2, by omega, by omega, ?_, ?_, ?_, by omega, h3⟩ (by dsimp only; omega)
        · dsimp only; rw [List.length_append, List.length_singleton]; omega
        · rw [List.length_append, List.length_singleton]; omega
        · rw [List.length_append, List.length_singleton, ← hT, Option.map_map]
          congr 1
          funext l
          show A ++ [(pcB tp p, pcS tp p, pcT tp p)] ++ l = A ++ ((pcB tp p, pcS tp p, pcT tp p) :: l)
          rw [List.append_assoc]; rfl
      refine wp_ifeq (fun d4 => wp_add (by omega) (fun z hz => next z u2 hz (fr S2) S2.2 (fun g => by omega))) (fun d4 => ?_)
      have b1 : b'.toInt = 1 := by omega
      have mm : m.toInt.toNat = A.length := by omega
      refine wp_ast (by omega) (wp_ast (by omega) (wp_ast (by omega) ?_))
      rw [mm]
      refine wp_add (by omega) (fun z hz => next z _ hz (rcg_tr (fr S2) (rcg_tr (rcg_set (by decide) ⟨b1, by omega⟩) (rcg_tr (rcg_set (by decide) ⟨b1, by omega⟩) (rcg_set (by decide) ⟨b1, by omega⟩)))) ?_ (fun _ i hi => ?_))
      · rw [setI_at, if_neg (by omega), setI_at, if_neg (by omega), setI_at, if_neg (by omega)]; exact S2.2
      · rw [List.length_append, List.length_singleton] at hi
        rw [pg_snoc (by omega)]
        by_cases e : i = A.length
        · rw [if_pos e]
          refine ⟨?_, ?_, ?_⟩
          · rw [setI_at, if_neg (by omega), setI_at, if_neg (by omega), setI_at, if_pos ⟨rfl, e⟩]; exact hbk
          · rw [setI_at, if_neg (by omega), setI_at, if_pos ⟨rfl, e⟩]; exact hst
          · rw [setI_at, if_pos ⟨rfl, e⟩]; exact hrp
        · rw [if_neg e]
          have K := kp S2 b1 i (by omega)
          refine ⟨?_, ?_, ?_⟩
          · rw [setI_at, if_neg (by omega), setI_at, if_neg (by omega), setI_at, if_neg (fun q => e q.2)]; exact K.1
          · rw [setI_at, if_neg (by omega), setI_at, if_neg (fun q => e q.2), setI_at, if_neg (by omega)]; exact K.2.1
          · rw [setI_at, if_neg (fun q => e q.2), setI_at, if_neg (by omega), setI_at, if_neg (by omega)]; exact K.2.2
    -- the set itself
    have p65 : ∀ (bk : Int32) (u1 : Wd), spt u u1 (pcQ tp p) → bk.toInt = pcB tp p → (0 ≤ pcQ tp p ∧ pcQ tp p ≤ 200) → Wp (f_X11_readsPattern_65 rc b' m bk u1) (fun r w' => rpf (b'.toInt = 1) w w' ∧ ((r.toInt = -1 ∧ pat tp = none) ∨ ∃ l, pat tp = some l ∧ r.toInt = l.length ∧ l.length ≤ 8 ∧ (b'.toInt = 1 → patA w' l))) := by
      intro bk u1 S hbk hQ
      have R1 := rdP_rng tp (pcQ tp p)
      have eR : pcR tp p = rdP tp (pcQ tp p) := rfl
      have eT : pcT tp p = rpt (gt tp (pcR tp p)) := rfl
      unfold f_X11_readsPattern_65
      refine wp_bd (s_readsSet (p := pcQ tp p) (spt_t S tu) hb S.2 (by omega)) ?_
      rintro st u2 ⟨S2, hst⟩
      have S3 : spt u u2 (pcR tp p) := spt_tr S S2
      have t3 := spt_t S3 tu
      unfold f_X11_readsPattern_100
      refine wp_bd (s_taping t3 hb S3.2 (by omega)) ?_
      rintro y _ ⟨rfl, hy⟩
      refine wp_ifeq (fun d => ?_) (fun d => ?_)
      · have e : pcT tp p = 2 := by rw [eT]; unfold rpt; rw [if_pos (by omega)]
        rw [if_neg (by decide)]
        exact p117 bk st 2 1 u2 S3 hbk hst (by rw [e]; exact L.2.2.2.1) (by rw [e, if_pos (by decide)]; exact L.2.1)
      · refine wp_bd (s_taping t3 hb S3.2 (by omega)) ?_
        rintro y2 _ ⟨rfl, hy2⟩
        refine wp_ifeq (fun d2 => ?_) (fun d2 => ?_)
        · have e : pcT tp p = 1 := by rw [eT]; unfold rpt; rw [if_neg (by omega), if_pos (by omega)]
          rw [if_neg (by decide)]
          exact p117 bk st 1 1 u2 S3 hbk hst (by rw [e]; exact L.2.1) (by rw [e, if_pos (by decide)]; exact L.2.1)
        · have e : pcT tp p = 0 := by rw [eT]; unfold rpt; rw [if_neg (by omega), if_neg (by omega)]
          rw [if_pos (by decide)]
          exact p117 bk st 0 0 u2 S3 hbk hst (by rw [e]; exact L.1) (by rw [e, if_neg (by decide)]; exact L.1)
    unfold f_X11_readsPattern_32 f_X11_readsPattern_47
    refine wp_ifeq (fun d => ?_) (fun d => ?_)
    · have eB : pcB tp p = rdS tp (p + 1) := by unfold pcB; rw [if_pos (by omega)]
      have eQ : pcQ tp p = rdP tp (p + 1) := by unfold pcQ; rw [if_pos (by omega)]
      have R1 := rdP_rng tp (p + 1)
      have e1 : (u.1 713 44 + 1).toInt = p + 1 := by rw [i_add (by omega), L.2.1, hp]
      rw [if_neg (by decide)]
      refine wp_wr ?_
      rw [if_neg (by decide)]
      have S1 : spt u (setI u 713 44 (u.1 713 44 + 1)) (p + 1) := by rw [← e1]; exact spt_set
      refine wp_bd (s_readsSet (p := p + 1) (spt_t S1 tu) hb S1.2 (by omega)) ?_
      rintro bk u2 ⟨S2, hbk⟩
      exact p65 bk u2 (by rw [eQ]; exact spt_tr S1 S2) (by rw [eB]; exact hbk) (by rw [eQ]; omega)
    · have eB : pcB tp p = 999 := by unfold pcB; rw [if_neg (by omega)]
      have eQ : pcQ tp p = p := by unfold pcQ; rw [if_neg (by omega)]
      have e1 : (u.1 713 44 + 0).toInt = p := by rw [i_add (by omega), L.1, hp]; omega
      rw [if_pos rfl]
      refine wp_wr ?_
      rw [if_pos rfl]
      have S1 : spt u (setI u 713 44 (u.1 713 44 + 0)) p := by
        have := spt_set (w := u) (v := u.1 713 44 + 0)
        rwa [e1] at this
      exact p65 999 _ (by rw [eQ]; exact S1) (by rw [eB]; exact l999) (by rw [eQ]; omega)
  · show (prs tp 200 0 0).map (fun l => [] ++ l) = pat tp
    rw [show (fun l : List PC => [] ++ l) = id from rfl, Option.map_id]; rfl
theorem r_pattern {w : Wd} {tp : List Int} (ht : rta w tp) (hb : tpok tp) :
    Wp (f_X11_pattern w) (fun r w' => (w'.1 713 7).toInt = 0 ∧
      ((pat tp = none ∧ rcg (fun f => f = 0 ∨ f = 7 ∨ f = 44) (fun _ => False) w w' ∧ (w'.1 713 0).toInt = 1) ∨
      (∃ l, pat tp = some l ∧ l.length ≤ 8 ∧ rcg (fun f => f = 0 ∨ f = 7 ∨ f = 44 ∨ f = 31 ∨ f = 32) (fun k => 736 ≤ k ∧ k ≤ 738) w w' ∧ (w'.1 713 0).toInt = 0 ∧ r.toInt = l.length ∧ (w'.1 713 31).toInt = 1 ∧ patR w' l))) := by
  have L := LIT
  unfold f_X11_pattern
  refine wp_bd (s_readsPattern (b := 0) ht hb (Or.inl L.1)) ?_
  rintro r1 w1 ⟨R1, h1⟩
  have R1' : rcg (fun f => f = 0 ∨ f = 7 ∨ f = 44) (fun _ => False) w w1 := rcg_mono R1 (fun f q => Or.inr (Or.inr q)) (fun k q => by have := q.1; omega)
  have t1 : rta w1 tp := rta_fr ht (R1.2.1 7 (by decide)) (R1.1 718 (by decide) (by omega))
  rcases h1 with ⟨h1, hn⟩ | ⟨l, hl, h1, h8, _⟩
  · refine wp_ifeq (fun c => ?_) (fun c => by omega)
    unfold f_X11_pattern_17
    rw [e_holds, bd_r, ite_zo, if_neg (by decide)]
    unfold f_X11_pattern_37
    refine wp_wr (wp_ifeq (fun _ => wp_ret ⟨?_, Or.inl ⟨hn, ?_, ?_⟩⟩) (fun d => by omega))
    · rw [setI_at, if_pos ⟨rfl, rfl⟩]; exact L.1
    · exact rcg_tr R1' (rcg_tr (rcg_fld (Or.inl rfl)) (rcg_fld (Or.inr (Or.inl rfl))))
    · rw [setI_at, if_neg (by omega), th0_v]; exact L.2.1
  · refine wp_ifeq (fun c => by omega) (fun c => ?_)
    unfold f_X11_pattern_17
    rw [e_holds, bd_r, ite_zo, if_pos rfl]
    refine wp_wr ?_
    have R2 : rcg (fun f => f = 0 ∨ f = 7 ∨ f = 44 ∨ f = 31 ∨ f = 32) (fun k => 736 ≤ k ∧ k ≤ 738) w (setI (setI w1 713 0 0) 713 31 1) :=
      rcg_tr (rcg_mono R1' (fun f q => by omega) (fun k q => q.elim)) (rcg_tr (rcg_fld (Or.inl rfl)) (rcg_fld (by omega)))
    have t2 : rta (setI (setI w1 713 0 0) 713 31 1) tp := rta_fr t1 (by rw [setI_at, if_neg (by omega), setI_at, if_neg (by omega)]) (by funext q; rw [setI_at, if_neg (by omega), setI_at, if_neg (by omega)])
    have z0 : ((setI (setI w1 713 0 0) 713 31 1).1 713 0).toInt = 0 := by rw [setI_at, if_neg (by omega), th0_v]; exact L.1
    have z1 : ((setI (setI w1 713 0 0) 713 31 1).1 713 31).toInt = 1 := by rw [setI_at, if_pos ⟨rfl, rfl⟩]; exact L.2.1
    generalize setI (setI w1 713 0 0) 713 31 1 = w2 at R2 t2 z0 z1 ⊢
    refine wp_bd (s_readsPattern (b := 1) t2 hb (Or.inr L.2.1)) ?_
    rintro r3 w3 ⟨R3, h3⟩
    rcases h3 with ⟨_, hn⟩ | ⟨l2, hl2, h3, _, hA⟩
    · rw [hl] at hn; cases hn
    · have : l2 = l := by rw [hl] at hl2; exact (Option.some.inj hl2).symm
      subst this
      have hA2 := hA L.2.1
      unfold f_X11_pattern_37
      refine wp_wr (wp_wr (wp_ifeq (fun d => by omega) (fun d => wp_ret ⟨?_, Or.inr ⟨l2, hl, h8, ?_, ?_, h1, ?_, ?_, ?_⟩⟩)))
      · rw [setI_at, if_pos ⟨rfl, rfl⟩]; exact L.1
      · exact rcg_tr R2 (rcg_tr (rcg_mono R3 (fun f q => by omega) (fun k q => q.2)) (rcg_tr (rcg_fld (by omega)) (rcg_fld (by omega))))
      · rw [setI_at, if_neg (by omega), setI_at, if_neg (by omega), R3.2.1 0 (by decide)]; exact z0
      · rw [setI_at, if_neg (by omega), setI_at, if_neg (by omega), R3.2.1 31 (by decide)]; exact z1
      · rw [setI_at, if_neg (by omega), setI_at, if_pos ⟨rfl, rfl⟩]; exact h3
      · intro i hi
        rw [setI_at, if_neg (by omega), setI_at, if_neg (by omega), setI_at, if_neg (by omega), setI_at, if_neg (by omega), setI_at, if_neg (by omega), setI_at, if_neg (by omega)]
        exact hA2 i hi
