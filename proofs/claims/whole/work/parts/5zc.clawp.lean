/-! ===== the law's cases: pattern ===== -/
section
variable {w : Wd}
theorem law_pattern (h : INV w) : Wp (f_X10_pattern w) (fun r w1 => ∀ u : Wd, sameW w1 u → Wp (f_X11_pattern u) (fun v w2 => INW u w2 ∧ ag kc3 r (w2.1 713 0) v)) := by
  obtain ⟨tab, txt, nv, sav, tp, os, pt, hc, hr, hO⟩ := h
  have P := hc.2.2.2.2.2.2.2
  have pT := pat_rng P.1
  have pD := pat_rng P.2.1
  have pN := P.2.2
  refine (k_pattern hc.1 hc.2.2.2.2.1 hO.2.2.2.2.1 rfl rfl P.2.1).mono ?_
  rintro r w1 ⟨ok, ct, hk⟩ u su
  have O' : OKS tab txt nv sav [] os := ⟨hO.1, hO.2.1, hO.2.2.1, hO.2.2.2.1, tpok_nil, hO.2.2.2.2.2⟩
  rcases hk with ⟨hp, rfl, o⟩ | ⟨l, x, hp, l8, rfl, hx, e2, hk1, hk2, h11, hpc⟩
  · have C : CLS w1 tab txt nv sav [] os pt := CLS_oc hO hc o ok (by omega) (fun k _ _ => by omega) (fun k _ _ => by omega) (trel_oc hO.1 hc.2.1 o (fun k _ _ => by omega)) (ctx_oc hc.2.2.1 o (fun k _ _ => by omega)) ct (cou_oc hc.2.2.2.2.2.1 o (by omega) (by omega))
    have r1 := REF_oc hr o (fun k hk => by omega)
    have C := CLS_same su C
    have r1 := REF_same su r1
    refine (r_pattern r1.2.2.2.1 hO.2.2.2.2.1).mono ?_
    rintro v w2 ⟨z7, hv⟩
    rcases hv with ⟨_, rr, t⟩ | ⟨l2, hp2, _⟩
    · exact ⟨g_ref O' C r1 rr (fun k q => by omega) (fun k q => q.elim) (rtx_rcg r1.2.1 rr (fun q => q) (fun q => q)) ⟨z7, rfl⟩ (rou_rcg r1.2.2.2.2.1 rr (by omega) (fun q => q)), agE t rfl (by decide)⟩
    · rw [hp] at hp2; cases hp2
  · have pk : pok l := pat_ok hp
    have KDT := P.1
    have C : CLS w1 tab txt nv sav [] os (some l) := by
      refine ⟨ok, trel_fr hO.1 hc.2.1 (fun k a b => hk1 k (by omega) (by omega) (by omega) (by omega)), ctx_fr hc.2.2.1 (fun k a b => hk1 k (by omega) (by omega) (by omega) (by omega)), ⟨?_, fun v hv => ?_⟩, ct, ?_, ⟨h11, ?_, pk⟩, ?_⟩
      · rw [hk2 2 (by decide)]; exact hc.2.2.2.1.1
      · have n4 := hO.2.2.1
        exact trel_fr (hO.2.2.2.1 v hv) (hc.2.2.2.1.2 v hv) (fun k a b => hk1 k (by omega) (by omega) (by omega) (by omega))
      · show rl w1 637 = os
        rw [rl_fr (hk1 637 (by omega) (by omega) (by omega) (by omega)) (hk1 (637 + 1) (by omega) (by omega) (by omega) (by omega))]; exact hc.2.2.2.2.2.1
      · rw [e2]; exact hpc
      · rw [e2]; exact ⟨P.2.1, P.1, fun q => P.2.2 q.symm⟩
    have r1 : REF w1 tab txt nv sav tp os pt := by
      have o : oc (fun k => k < 713) w (w1.1, w.2) := ⟨fun k hk => hk1 k (by omega) (by omega) (by omega) (by omega), rfl⟩
      exact REF_oc (w' := (w1.1, w.2)) hr o (fun k hk => by omega)
    have C := CLS_same su C
    have r1 := REF_same su r1
    refine (r_pattern r1.2.2.2.1 hO.2.2.2.2.1).mono ?_
    rintro v w2 ⟨z7, hv⟩
    rcases hv with ⟨hp2, _⟩ | ⟨l2, hp2, _, rr, t, hv, h31, hpr⟩
    · rw [hp] at hp2; cases hp2
    · have e : l2 = l := Option.some.inj (hp2.symm.trans hp)
      subst e
      exact ⟨⟨⟨tab, txt, nv, sav, [], os, some l2, CLS_fr O' C rr (fun k hk q => by omega), ⟨rtab_rcg r1.1 rr (by omega), rtx_rcg r1.2.1 rr (by omega) (by omega), rvr_rcg r1.2.2.1 rr (by omega) (by omega), ⟨z7, rfl⟩, rou_rcg r1.2.2.2.2.1 rr (by omega) (by omega), ⟨h31, hpr, pk⟩⟩, O'⟩, rr.2.2⟩, agV t hx hv⟩
end
