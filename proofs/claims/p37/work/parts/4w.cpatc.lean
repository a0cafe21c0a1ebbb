/-! ===== patterns: the class reads ===== -/
def pf (d : Nat) (w w' : Wd) : Prop := oc (fun k => d ≤ k ∧ k ≤ d + 8) w w' ∧ okall w'
theorem pf_tr {d : Nat} {w w1 w2 : Wd} (h : pf d w w1) (g : pf d w1 w2) : pf d w w2 := ⟨oc_tr h.1 g.1, g.2⟩
theorem pf_mv {d : Nat} {w w' : Wd} {p : Int} (hd : KD d = 5) (ho : okall w) (h : mv w w' d p) : pf d w w' :=
  ⟨⟨fun k hk => h.1 k (by omega), h.2.2.1⟩, okall_fr ho (fun o h7 => h.1 o (by rintro rfl; omega))⟩
theorem pf_rs {d o : Nat} {w w1 w2 : Wd} {l : List Int} (h : pf d w w1) (hr : rs w1 w2 o l) (h1 : d ≤ o) (h2 : o + 1 ≤ d + 8) : pf d w w2 := ⟨oc_tr h.1 (oc_rs hr (by omega) (by omega)), okall_rs h.2 hr⟩
theorem pf_t {d : Nat} {w w' : Wd} {tp : List Int} (hd : KD d = 5) (h : pf d w w') (ht : rl w 635 = tp) : rl w' 635 = tp := by
  have F := pat_facts d hd
  rw [rl_fr (h.1.1 635 (by omega)) (h.1.1 636 (by omega))]; exact ht
theorem tape7 : KD 635 = 7 := by decide +kernel
theorem patC_mv {w w' : Wd} {d : Nat} {p : Int} {A : List PC} (h : patC w d A) (g : mv w w' d p) : patC w' d A := by
  unfold patC
  rw [mv_rl g (by omega) (by omega), mv_rl g (by omega) (by omega), mv_rl g (by omega) (by omega)]
  exact h
theorem s_readPiece {w : Wd} {d : Nat} {tp : List Int} {p : Int} {A : List PC} (hd : KD d = 5) (ho : okall w) (ht : rl w 635 = tp) (hb : tpok tp) (hp : (w.1 d 4).toInt = p) (hp2 : 0 ≤ p ∧ p ≤ 200) (hA : patC w d A) (hAl : A.length ≤ 8) :
    Wp (f_X5_readPiece d 635 w) (fun r w' => pf d w w' ∧ ((r = 0 ∧ (pcB tp p = -1000 ∨ pcS tp p = -1000 ∨ A.length = 8)) ∨ (r = 1 ∧ ¬ (pcB tp p = -1000 ∨ pcS tp p = -1000 ∨ A.length = 8) ∧ (w'.1 d 4).toInt = pcN tp p ∧ patC w' d (A ++ [(pcB tp p, pcS tp p, pcT tp p)])))) := by
  have L := LIT
  have F := pat_facts d hd
  have l60 : (60 : Int32).toInt = 60 := by decide
  have l42 : (42 : Int32).toInt = 42 := by decide
  have l63 : (63 : Int32).toInt = 63 := by decide
  -- from the set on
  have main : ∀ (lk : Int32) (w1 : Wd), mv w w1 d (pcQ tp p) → lk.toInt = lkc (pcB tp p) → pcB tp p ≠ -1000 → (0 ≤ pcQ tp p ∧ pcQ tp p ≤ 210) → Wp (f_X5_readPiece_38 d 635 lk w1) (fun r w' => pf d w w' ∧ ((r = 0 ∧ (pcB tp p = -1000 ∨ pcS tp p = -1000 ∨ A.length = 8)) ∨ (r = 1 ∧ ¬ (pcB tp p = -1000 ∨ pcS tp p = -1000 ∨ A.length = 8) ∧ (w'.1 d 4).toInt = pcN tp p ∧ patC w' d (A ++ [(pcB tp p, pcS tp p, pcT tp p)])))) := by
    intro lk w1 M hlk hB hQ
    have P1 := pf_mv hd ho M
    unfold f_X5_readPiece_38
    refine wp_bd (s_readSet (p := pcQ tp p) hd (P1.2 _ tape7) (pf_t hd P1 ht) hb M.2.2.2 (by omega)) ?_
    rintro st w2 ⟨M2, hst⟩
    have M3 := mv_tr M M2
    have P2 := pf_mv hd ho M3
    have S := rdS_rng tp (pcQ tp p)
    have eS : pcS tp p = rdS tp (pcQ tp p) := rfl
    refine wp_ifeq (fun c => ?_) (fun c => ?_)
    · refine wp_ret ⟨P2, Or.inl ⟨rfl, Or.inr (Or.inl ?_)⟩⟩
      rcases S with g | g
      · exact g
      · have := cls_rng g; omega
    have hS : pcS tp p ≠ -1000 := fun g => by
      rw [eS] at g
      rw [g] at hst
      have : cls (-1000) = -1 := by unfold cls; rw [if_pos rfl]
      omega
    refine wp_bd (s_get (P2.2 _ tape7)) ?_
    rintro y _ ⟨rfl, hy⟩
    have R1 := rdP_rng tp (pcQ tp p)
    have eR : pcR tp p = rdP tp (pcQ tp p) := rfl
    rw [pf_t hd P2 ht, M3.2.2.2, ← eR] at hy
    have q2 := M3.2.2.2
    rw [← eR] at q2
    -- the three rows
    have rows : ∀ (v5 : Int32) (w3 : Wd), mv w w3 d (pcN tp p) → (v5.toInt = 0 → pcT tp p = 0) → (v5.toInt ≠ 0 → y.toInt = tmc (pcT tp p)) → Wp (f_X5_readPiece_97 d lk st y v5 w3) (fun r w' => pf d w w' ∧ ((r = 0 ∧ (pcB tp p = -1000 ∨ pcS tp p = -1000 ∨ A.length = 8)) ∨ (r = 1 ∧ ¬ (pcB tp p = -1000 ∨ pcS tp p = -1000 ∨ A.length = 8) ∧ (w'.1 d 4).toInt = pcN tp p ∧ patC w' d (A ++ [(pcB tp p, pcS tp p, pcT tp p)])))) := by
      intro v5 w3 M4 h0 h1
      have P3 := pf_mv hd ho M4
      have C := patC_mv hA M4
      have c1 : (rl w3 (d + 1)).length = A.length := by rw [C.1, List.length_map]
      have c2 : (rl w3 (d + 3)).length = A.length := by rw [C.2.1, List.length_map]
      have c3 : (rl w3 (d + 5)).length = A.length := by rw [C.2.2, List.length_map]
      unfold f_X5_readPiece_97
      by_cases e8 : A.length = 8
      · refine wp_bd (s_add_full (P3.2 _ F.1) (by omega)) ?_
        rintro r _ ⟨rfl, rfl⟩
        rw [if_pos rfl]
        exact wp_ret ⟨P3, Or.inl ⟨rfl, Or.inr (Or.inr e8)⟩⟩
      · refine wp_bd (s_add (P3.2 _ F.1) (by omega)) ?_
        rintro r w4 ⟨rfl, r4⟩
        rw [if_neg (by decide)]
        have P4 := pf_rs P3 r4 (by omega) (by omega)
        refine wp_bd (s_add (P4.2 _ F.2.2.1) (by rw [rs_rl r4 F.2.2.1 (by omega)]; omega)) ?_
        rintro r w5 ⟨rfl, r5⟩
        rw [if_neg (by decide)]
        have P5 := pf_rs P4 r5 (by omega) (by omega)
        have last : ∀ t : Int32, t.toInt = tmc (pcT tp p) → Wp (f_X5_readPiece_134 (d + 5) t w5) (fun r w' => pf d w w' ∧ ((r = 0 ∧ (pcB tp p = -1000 ∨ pcS tp p = -1000 ∨ A.length = 8)) ∨ (r = 1 ∧ ¬ (pcB tp p = -1000 ∨ pcS tp p = -1000 ∨ A.length = 8) ∧ (w'.1 d 4).toInt = pcN tp p ∧ patC w' d (A ++ [(pcB tp p, pcS tp p, pcT tp p)])))) := by
          intro t ht2
          unfold f_X5_readPiece_134
          refine wp_bd (s_add (P5.2 _ F.2.2.2.2.1) (by rw [rs_rl r5 F.2.2.2.2.1 (by omega), rs_rl r4 F.2.2.2.2.1 (by omega)]; omega)) ?_
          rintro r w6 ⟨rfl, r6⟩
          rw [if_neg (by decide)]
          have P6 := pf_rs P5 r6 (by omega) (by omega)
          refine wp_ret ⟨P6, Or.inr ⟨rfl, fun g => g.elim hB (fun g => g.elim hS e8), ?_, ?_, ?_, ?_⟩⟩
          · rw [rs_ob r6 (by omega) (by omega), rs_ob r5 (by omega) (by omega), rs_ob r4 (by omega) (by omega)]; exact M4.2.2.2
          · rw [rs_rl r6 F.1 (by omega), rs_rl r5 F.1 (by omega), rs_l r4, C.1, List.map_append, hlk]; rfl
          · rw [rs_rl r6 F.2.2.1 (by omega), rs_l r5, rs_rl r4 F.2.2.1 (by omega), C.2.1, List.map_append, hst]; rfl
          · rw [rs_l r6, rs_rl r5 F.2.2.2.2.1 (by omega), rs_rl r4 F.2.2.2.2.1 (by omega), C.2.2, List.map_append, ht2]; rfl
        refine wp_ifeq (fun z => last (-1) ?_) (fun z => last y (h1 (by omega)))
        rw [h0 (by omega)]
        unfold tmc
        rw [if_neg (by decide), if_neg (by decide)]; exact L.2.2.1
    have eT : pcT tp p = rpt (gt tp (pcR tp p)) := rfl
    have eN : pcN tp p = pcR tp p + (if 0 < pcT tp p then 1 else 0) := rfl
    unfold f_X5_readPiece_80
    have up : ∀ v : Int, (v = 2 ∨ v = 1) → pcT tp p = v → y.toInt = tmc v → Wp (if (1 : Int32) = 0 then f_X5_readPiece_97 d lk st y 1 w2 else wr (setI w2 d 4 ((w2.1 d 4) + (1 : Int32))) (fun w1 => f_X5_readPiece_97 d lk st y 1 w1)) (fun r w' => pf d w w' ∧ ((r = 0 ∧ (pcB tp p = -1000 ∨ pcS tp p = -1000 ∨ A.length = 8)) ∨ (r = 1 ∧ ¬ (pcB tp p = -1000 ∨ pcS tp p = -1000 ∨ A.length = 8) ∧ (w'.1 d 4).toInt = pcN tp p ∧ patC w' d (A ++ [(pcB tp p, pcS tp p, pcT tp p)])))) := by
      intro v hv hT hyv
      have e1 : (w2.1 d 4 + 1).toInt = pcN tp p := by rw [i_add (by omega), L.2.1, q2, eN, if_pos (by omega)]
      rw [if_neg (by decide)]
      refine wp_wr (rows 1 _ ?_ (fun g => by omega) (fun _ => by rw [hT]; exact hyv))
      rw [← e1]; exact mv_tr M3 mv_set
    refine wp_ifeq (fun c2 => up 2 (Or.inl rfl) ?_ ?_) (fun c2 => wp_ifeq (fun c3 => up 1 (Or.inr rfl) ?_ ?_) (fun c3 => ?_))
    · rw [eT]; unfold rpt; rw [if_pos (by omega)]
    · unfold tmc; rw [if_pos rfl]; omega
    · rw [eT]; unfold rpt; rw [if_neg (by omega), if_pos (by omega)]
    · unfold tmc; rw [if_neg (by decide), if_pos rfl]; omega
    · have hT : pcT tp p = 0 := by rw [eT]; unfold rpt; rw [if_neg (by omega), if_neg (by omega)]
      rw [if_pos rfl]
      refine rows 0 w2 ?_ (fun _ => hT) (fun g => absurd L.1 g)
      rw [eN, hT, if_neg (by decide), Int.add_zero, eR]; exact M3
  unfold f_X5_readPiece
  refine wp_bd (s_get (ho _ tape7)) ?_
  rintro x _ ⟨rfl, hx⟩
  rw [ht, hp] at hx
  refine wp_ifeq (fun c => ?_) (fun c => ?_)
  · have eB : pcB tp p = rdS tp (p + 1) := by unfold pcB; rw [if_pos (by omega)]
    have eQ : pcQ tp p = rdP tp (p + 1) := by unfold pcQ; rw [if_pos (by omega)]
    have e1 : (w.1 d 4 + 1).toInt = p + 1 := by rw [i_add (by omega), L.2.1, hp]
    refine wp_wr ?_
    have M1 : mv w (setI w d 4 (w.1 d 4 + 1)) d (p + 1) := by rw [← e1]; exact mv_set
    have P1 := pf_mv hd ho M1
    have R1 := rdP_rng tp (p + 1)
    refine wp_bd (s_readSet (p := p + 1) hd (P1.2 _ tape7) (pf_t hd P1 ht) hb M1.2.2.2 (by omega)) ?_
    rintro lk w2 ⟨M2, hlk⟩
    have S := rdS_rng tp (p + 1)
    refine wp_ifeq (fun c2 => ?_) (fun c2 => ?_)
    · refine wp_ret ⟨pf_mv hd ho (mv_tr M1 M2), Or.inl ⟨rfl, Or.inl ?_⟩⟩
      rw [eB]
      rcases S with g | g
      · exact g
      · have := cls_rng g; omega
    · have hB : pcB tp p ≠ -1000 := fun g => by
        rw [eB] at g
        rw [g] at hlk
        have : cls (-1000) = -1 := by unfold cls; rw [if_pos rfl]
        omega
      refine main lk w2 (by rw [eQ]; exact mv_tr M1 M2) ?_ hB (by rw [eQ]; omega)
      have n9 : pcB tp p ≠ 999 := by
        rcases S with g | g
        · omega
        · unfold scd at g; omega
      unfold lkc
      rw [if_neg n9, eB]; exact hlk
  · have eB : pcB tp p = 999 := by unfold pcB; rw [if_neg (by omega)]
    have eQ : pcQ tp p = p := by unfold pcQ; rw [if_neg (by omega)]
    refine main (-1) w ⟨fun _ _ => rfl, fun _ _ => rfl, rfl, by rw [eQ]; exact hp⟩ ?_ (by omega) (by rw [eQ]; omega)
    unfold lkc; rw [if_pos eB]; exact L.2.2.1
theorem s_read {w : Wd} {d : Nat} {tp : List Int} (hd : KD d = 5) (ho : okall w) (ht : rl w 635 = tp) (hb : tpok tp) :
    Wp (f_X5_read d 635 w) (fun r w' => pf d w w' ∧ ((r = 0 ∧ pat tp = none) ∨ (r = 1 ∧ ∃ pcs, pat tp = some pcs ∧ patC w' d pcs ∧ pcs.length ≤ 8))) := by
  have L := LIT
  have F := pat_facts d hd
  have l160 : (160 : Int32).toInt = 160 := by decide
  unfold f_X5_read
  refine wp_bd (s_cut0 (ho _ F.1)) ?_
  rintro _ w1 q1
  have P1 : pf d w w1 := ⟨oc_rs q1 (by omega) (by omega), okall_rs ho q1⟩
  refine wp_bd (s_cut0 (P1.2 _ F.2.2.1)) ?_
  rintro _ w2 q2
  have P2 := pf_rs P1 q2 (by omega) (by omega)
  refine wp_bd (s_cut0 (P2.2 _ F.2.2.2.2.1)) ?_
  rintro _ w3 q3
  have P3 := pf_rs P2 q3 (by omega) (by omega)
  refine wp_wr ?_
  have M4 : mv w3 (setI w3 d 4 0) d (0 : Int32).toInt := mv_set
  have P4 := pf_tr P3 (pf_mv hd P3.2 M4)
  have C4 : patC (setI w3 d 4 0) d [] := by
    refine patC_mv ⟨?_, ?_, ?_⟩ M4
    · rw [rs_rl q3 F.1 (by omega), rs_rl q2 F.1 (by omega), rs_l q1]; rfl
    · rw [rs_rl q3 F.2.2.1 (by omega), rs_l q2]; rfl
    · rw [rs_l q3]; rfl
  unfold f_X5_read_31
  rw [FUv]
  refine wp_loop (fun σ : Nat × Nat × Int32 × Wd => σ.1 = d ∧ σ.2.1 = 635 ∧ pf d w σ.2.2.2 ∧ 0 ≤ σ.2.2.1.toInt ∧ σ.2.2.1.toInt ≤ 160 ∧ ∃ (p : Int) (f : Nat) (A : List PC), (σ.2.2.2.1 d 4).toInt = p ∧ σ.2.2.1.toInt ≤ p ∧ p ≤ 170 ∧ patC σ.2.2.2 d A ∧ A.length ≤ 8 ∧ (prs tp f p A.length).map (fun l => A ++ l) = pat tp ∧ 172 ≤ f + p)
    (fun σ => (161 - σ.2.2.1.toInt).toNat) ?_ 100000 _ ⟨rfl, rfl, P4, by dsimp only; omega, by dsimp only; omega, 0, 200, [], by dsimp only; rw [M4.2.2.2, L.1], by dsimp only; omega, by omega, C4, Nat.zero_le _, ?_, by omega⟩ (by dsimp only; omega)
  · rintro rc ⟨d', t', s, u⟩ ⟨rfl, rfl, V, hs0, hs1, p, f, A, hp, hsp, hp170, hC, hAl, hT, hf⟩ ih
    dsimp only at *
    have tl := hb.1
    obtain ⟨f', rfl⟩ : ∃ f', f = f' + 1 := ⟨f - 1, by omega⟩
    have done : tp.length ≤ p → Wp (some ((1 : Int32), u)) (fun r w' => pf d' w w' ∧ ((r = 0 ∧ pat tp = none) ∨ (r = 1 ∧ ∃ pcs, pat tp = some pcs ∧ patC w' d' pcs ∧ pcs.length ≤ 8))) := by
      intro h
      rw [prs_end h] at hT
      refine wp_ret ⟨V, Or.inr ⟨rfl, A, ?_, hC, hAl⟩⟩
      rw [← hT, Option.map_some, List.append_nil]
    unfold g_X5_read_31
    refine wp_ifle (fun c => done (by omega)) (fun c => ?_)
    refine wp_bd (s_size (V.2 _ tape7)) ?_
    rintro n _ ⟨rfl, hn⟩
    rw [pf_t hd V ht] at hn
    refine wp_ifle (fun c2 => done (by omega)) (fun c2 => ?_)
    refine wp_bd (s_readPiece (p := p) hd V.2 (pf_t hd V ht) hb hp (by omega) hC hAl) ?_
    rintro r u2 ⟨V2, h2⟩
    have N := pcN_rng tp p
    rcases h2 with ⟨rfl, h2⟩ | ⟨rfl, h2, h3, h4⟩
    · rw [prs_bad (by omega) h2] at hT
      rw [if_pos rfl]
      exact wp_ret ⟨pf_tr V V2, Or.inl ⟨rfl, hT.symm⟩⟩
    · rw [prs_in (by omega) h2] at hT
      rw [if_neg (by decide)]
      refine wp_add (by omega) (fun z hz => ih (d', 635, z, u2) ⟨rfl, rfl, pf_tr V V2, by dsimp only; omega, by dsimp only; omega, pcN tp p, f', A ++ [(pcB tp p, pcS tp p, pcT tp p)], h3, by dsimp only; omega, by omega, h4, ?_, ?_, by omega⟩ (by dsimp only; omega))
      · rw [List.length_append, List.length_singleton]; omega
      · rw [List.length_append, List.length_singleton, ← hT, Option.map_map]
        congr 1
        funext l
        show A ++ [(pcB tp p, pcS tp p, pcT tp p)] ++ l = A ++ ((pcB tp p, pcS tp p, pcT tp p) :: l)
        rw [List.append_assoc]; rfl
  · show (prs tp 200 0 0).map (fun l => [] ++ l) = pat tp
    rw [show (fun l : List PC => [] ++ l) = id from rfl, Option.map_id]; rfl

