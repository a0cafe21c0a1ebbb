/-! ===== addRule ===== -/
def tlay (tab : Nat → Int) (p a : Nat) (l : List Int) : Nat → Int := tput (tset tab p l.length) a l
theorem tlay_at (tab : Nat → Int) (p a : Nat) (l : List Int) (k : Nat) : tlay tab p a l k = if a ≤ k ∧ k < a + l.length then l.getD (k - a) 0 else if k = p then (l.length : Int) else tab k := by
  unfold tlay; rw [tput_at, tset_at]
def trule (tab : Nat → Int) (pass : Int) (la ls lb lt : List Int) : Nat → Int :=
  tset (tlay (tlay (tlay (tlay (tset tab (1558 + 15 * (tab 1557).toNat) pass) (1558 + 15 * (tab 1557).toNat + 1) (1558 + 15 * (tab 1557).toNat + 5) la) (1558 + 15 * (tab 1557).toNat + 2) (1558 + 15 * (tab 1557).toNat + 7) ls) (1558 + 15 * (tab 1557).toNat + 3) (1558 + 15 * (tab 1557).toNat + 10) lb) (1558 + 15 * (tab 1557).toNat + 4) (1558 + 15 * (tab 1557).toNat + 12) lt) 1557 (tab 1557 + 1)
theorem trule_out {tab : Nat → Int} {pass : Int} {la ls lb lt : List Int} {k : Nat} (h1 : la.length ≤ 2) (h2 : ls.length ≤ 3) (h3 : lb.length ≤ 2) (h4 : lt.length ≤ 3) (hk : k ≠ 1557) (hk2 : ¬ (1558 + 15 * (tab 1557).toNat ≤ k ∧ k < 1558 + 15 * (tab 1557).toNat + 15)) : trule tab pass la ls lb lt k = tab k := by
  unfold trule
  rw [tset_at, if_neg hk, tlay_at, if_neg (by omega), if_neg (by omega), tlay_at, if_neg (by omega), if_neg (by omega), tlay_at, if_neg (by omega), if_neg (by omega), tlay_at, if_neg (by omega), if_neg (by omega), tset_at, if_neg (by omega)]
theorem trule_in {tab : Nat → Int} {pass : Int} {la ls lb lt : List Int} {A : Nat} (hA : 1558 + 15 * (tab 1557).toNat = A) (h1 : la.length ≤ 2) (h2 : ls.length ≤ 3) (h3 : lb.length ≤ 2) (h4 : lt.length ≤ 3) :
    trule tab pass la ls lb lt 1557 = tab 1557 + 1 ∧ trule tab pass la ls lb lt A = pass ∧ trule tab pass la ls lb lt (A + 1) = la.length ∧ trule tab pass la ls lb lt (A + 2) = ls.length ∧ trule tab pass la ls lb lt (A + 3) = lb.length ∧ trule tab pass la ls lb lt (A + 4) = lt.length ∧
    tl (trule tab pass la ls lb lt) (A + 5) la.length = la ∧ tl (trule tab pass la ls lb lt) (A + 7) ls.length = ls ∧ tl (trule tab pass la ls lb lt) (A + 10) lb.length = lb ∧ tl (trule tab pass la ls lb lt) (A + 12) lt.length = lt := by
  unfold trule
  rw [hA]
  refine ⟨?_, ?_, ?_, ?_, ?_, ?_, ?_, ?_, ?_, ?_⟩
  · rw [tset_at, if_pos rfl]
  · rw [tset_at, if_neg (by omega), tlay_at, if_neg (by omega), if_neg (by omega), tlay_at, if_neg (by omega), if_neg (by omega), tlay_at, if_neg (by omega), if_neg (by omega), tlay_at, if_neg (by omega), if_neg (by omega), tset_at, if_pos rfl]
  · rw [tset_at, if_neg (by omega), tlay_at, if_neg (by omega), if_neg (by omega), tlay_at, if_neg (by omega), if_neg (by omega), tlay_at, if_neg (by omega), if_neg (by omega), tlay_at, if_neg (by omega), if_pos rfl]
  · rw [tset_at, if_neg (by omega), tlay_at, if_neg (by omega), if_neg (by omega), tlay_at, if_neg (by omega), if_neg (by omega), tlay_at, if_neg (by omega), if_pos rfl]
  · rw [tset_at, if_neg (by omega), tlay_at, if_neg (by omega), if_neg (by omega), tlay_at, if_neg (by omega), if_pos rfl]
  · rw [tset_at, if_neg (by omega), tlay_at, if_neg (by omega), if_pos rfl]
  · conv => rhs; rw [← tl_tput (tab := tab) (a := A + 5) (l := la)]
    refine tl_fr (fun j hj => ?_)
    rw [tset_at, if_neg (by omega), tlay_at, if_neg (by omega), if_neg (by omega), tlay_at, if_neg (by omega), if_neg (by omega), tlay_at, if_neg (by omega), if_neg (by omega), tlay_at, if_pos (by omega), tput_at, if_pos (by omega)]
  · conv => rhs; rw [← tl_tput (tab := tab) (a := A + 7) (l := ls)]
    refine tl_fr (fun j hj => ?_)
    rw [tset_at, if_neg (by omega), tlay_at, if_neg (by omega), if_neg (by omega), tlay_at, if_neg (by omega), if_neg (by omega), tlay_at, if_pos (by omega), tput_at, if_pos (by omega)]
  · conv => rhs; rw [← tl_tput (tab := tab) (a := A + 10) (l := lb)]
    refine tl_fr (fun j hj => ?_)
    rw [tset_at, if_neg (by omega), tlay_at, if_neg (by omega), if_neg (by omega), tlay_at, if_pos (by omega), tput_at, if_pos (by omega)]
  · conv => rhs; rw [← tl_tput (tab := tab) (a := A + 12) (l := lt)]
    refine tl_fr (fun j hj => ?_)
    rw [tset_at, if_neg (by omega), tlay_at, if_pos (by omega), tput_at, if_pos (by omega)]
def bad_r1 (a b c d : Int) : Prop := ¬ ((0 ≤ a ∧ a ≤ 5) ∧ (0 ≤ b ∧ b ≤ 5) ∧ (0 ≤ c ∧ c ≤ 5) ∧ (0 ≤ d ∧ d ≤ 5))
def bad_r2 (p : Int) : Prop := ¬ (0 ≤ p ∧ p ≤ 1)
def bad_r3 (tab : Nat → Int) (la ls lb lt : List Int) : Prop := ¬ (la.length ≤ 2 ∧ (1 ≤ ls.length ∧ ls.length ≤ 3) ∧ lb.length ≤ 2 ∧ lt.length ≤ 3 ∧ tab 1557 ≠ 8)
theorem k_addRule {w : Wd} {tab : Nat → Int} {txt : Nat → List Int} {p a b c d : Int32} (hk : tok tab) (h : trel w 1 tab) (ho : okall w) (hx : ctx w txt) :
    Wp (f_X10_addRule p a b c d w) (fun r w' => (bad_r1 a.toInt b.toInt c.toInt d.toInt ∧ r = .inl 1 ∧ w' = w) ∨ (¬ bad_r1 a.toInt b.toInt c.toInt d.toInt ∧ bad_r2 p.toInt ∧ r = .inl 2 ∧ w' = w) ∨
      (¬ bad_r1 a.toInt b.toInt c.toInt d.toInt ∧ ¬ bad_r2 p.toInt ∧ bad_r3 tab (txt a.toInt.toNat) (txt b.toInt.toNat) (txt c.toInt.toNat) (txt d.toInt.toNat) ∧ r = .inl 3 ∧ w' = w) ∨
      (¬ bad_r1 a.toInt b.toInt c.toInt d.toInt ∧ ¬ bad_r2 p.toInt ∧ ¬ bad_r3 tab (txt a.toInt.toNat) (txt b.toInt.toNat) (txt c.toInt.toNat) (txt d.toInt.toNat) ∧ (∃ x : Int32, r = .inr x ∧ x.toInt = tab 1557 + 1) ∧
        trel w' 1 (trule tab p.toInt (txt a.toInt.toNat) (txt b.toInt.toNat) (txt c.toInt.toNat) (txt d.toInt.toNat)) ∧ okall w' ∧ oc tin w w')) := by
  have L := LIT
  unfold f_X10_addRule f_X10_addRule_83 f_X10_addRule_84 f_X10_addRule_105
  have e0 : f_X10_checkArgument (0 : Int32) = fun w => some (.inl 2, w) := rfl
  simp only [e_textOf, bdx_c, e_isWithin, bd_r, e_checkArgument, c01, if_true, if_false]
  refine wp_if (fun ha => ?_) (fun ha => wp_ret (Or.inl ⟨fun q => ha q.1, rfl, rfl⟩))
  refine wp_if (fun hb => ?_) (fun hb => wp_ret (Or.inl ⟨fun q => hb q.2.1, rfl, rfl⟩))
  refine wp_if (fun hc => ?_) (fun hc => wp_ret (Or.inl ⟨fun q => hc q.2.2.1, rfl, rfl⟩))
  refine wp_if (fun hd => ?_) (fun hd => wp_ret (Or.inl ⟨fun q => hd q.2.2.2, rfl, rfl⟩))
  have nb1 : ¬ bad_r1 a.toInt b.toInt c.toInt d.toInt := fun q => q ⟨ha, hb, hc, hd⟩
  simp only [L]
  refine wp_if (fun hp => ?_) (fun hp => wp_ret (Or.inr (Or.inl ⟨nb1, hp, rfl, rfl⟩)))
  have nb2 : ¬ bad_r2 p.toInt := fun q => q hp
  have oa := ctx_ok ho (s := a.toInt.toNat) (by omega)
  have ob := ctx_ok ho (s := b.toInt.toNat) (by omega)
  have oc1 := ctx_ok ho (s := c.toInt.toNat) (by omega)
  have od := ctx_ok ho (s := d.toInt.toNat) (by omega)
  have Xa := hx a.toInt.toNat (by omega)
  have Xb := hx b.toInt.toNat (by omega)
  have Xc := hx c.toInt.toNat (by omega)
  have Xd := hx d.toInt.toNat (by omega)
  have na : 623 + 2 * a.toInt.toNat < 640 := by omega
  have nb : 623 + 2 * b.toInt.toNat < 640 := by omega
  have nc : 623 + 2 * c.toInt.toNat < 640 := by omega
  have nd : 623 + 2 * d.toInt.toNat < 640 := by omega
  have ma : 623 ≤ 623 + 2 * a.toInt.toNat := by omega
  have mb : 623 ≤ 623 + 2 * b.toInt.toNat := by omega
  have mc : 623 ≤ 623 + 2 * c.toInt.toNat := by omega
  have md : 623 ≤ 623 + 2 * d.toInt.toNat := by omega
  generalize txt a.toInt.toNat = la at *
  generalize txt b.toInt.toNat = ls at *
  generalize txt c.toInt.toNat = lb at *
  generalize txt d.toInt.toNat = lt' at *
  generalize 623 + 2 * a.toInt.toNat = ra at *
  generalize 623 + 2 * b.toInt.toNat = rb at *
  generalize 623 + 2 * c.toInt.toNat = rc at *
  generalize 623 + 2 * d.toInt.toNat = rd at *
  have F := tab_facts 1 (by decide +kernel)
  obtain ⟨c1, c2⟩ := h.2.2.2
  obtain ⟨k1, k2, k3⟩ := hk.2.2.2
  have hl8 : (Int32.ofNat (LEN (1 + 51))).toInt = 8 := by rw [F.2.2.2.1]; decide
  -- what the next rule is
  have nx : Wp (f_X9_nextRule 1 w) (fun r w' => w = w' ∧ ((tab 1557 = 8 ∧ r = none) ∨ (tab 1557 ≠ 8 ∧ r = some (53 + 9 * (tab 1557).toNat)))) := by
    unfold f_X9_nextRule
    by_cases full : tab 1557 = 8
    · exact wp_iflt (fun q => by omega) (fun q => wp_iflt (fun q2 => by omega) (fun q2 => wp_ret ⟨rfl, Or.inl ⟨full, rfl⟩⟩))
    · refine wp_iflt (fun q => by omega) (fun q => wp_iflt (fun q2 => wp_ard (by rw [F.2.2.2.1]; omega) (wp_ret ⟨rfl, Or.inr ⟨full, ?_⟩⟩)) (fun q2 => by omega))
      rw [F.2.2.2.2.2.2 _ (by omega), show 1 + 52 + 9 * (w.1 1 14).toInt.toNat = 53 + 9 * (tab 1557).toNat by omega]
  have bad : bad_r3 tab la ls lb lt' → Wp (some (Sum.inl 3, w)) (fun (r : Nat ⊕ Int32) w' => (bad_r1 a.toInt b.toInt c.toInt d.toInt ∧ r = .inl 1 ∧ w' = w) ∨ (¬ bad_r1 a.toInt b.toInt c.toInt d.toInt ∧ bad_r2 p.toInt ∧ r = .inl 2 ∧ w' = w) ∨
      (¬ bad_r1 a.toInt b.toInt c.toInt d.toInt ∧ ¬ bad_r2 p.toInt ∧ bad_r3 tab la ls lb lt' ∧ r = .inl 3 ∧ w' = w) ∨
      (¬ bad_r1 a.toInt b.toInt c.toInt d.toInt ∧ ¬ bad_r2 p.toInt ∧ ¬ bad_r3 tab la ls lb lt' ∧ (∃ x : Int32, r = .inr x ∧ x.toInt = tab 1557 + 1) ∧ trel w' 1 (trule tab p.toInt la ls lb lt') ∧ okall w' ∧ oc tin w w')) :=
    fun q => wp_ret (Or.inr (Or.inr (Or.inl ⟨nb1, nb2, q, rfl, rfl⟩)))
  have badN : bad_r3 tab la ls lb lt' → Wp (bdq (f_X9_nextRule 1 w) (fun w2 => if True then some (Sum.inl 3, w2) else some (Sum.inl 3, w2)) (fun r1 w3 => if True then some (Sum.inl 3, w3) else bd (f_X8_tell r1 p ra rb rc rd w3) fun _ w4 => bd (f_X9_countRule 1 w4) fun x6 w5 => some (Sum.inr x6, w5))) (fun (r : Nat ⊕ Int32) w' => (bad_r1 a.toInt b.toInt c.toInt d.toInt ∧ r = .inl 1 ∧ w' = w) ∨ (¬ bad_r1 a.toInt b.toInt c.toInt d.toInt ∧ bad_r2 p.toInt ∧ r = .inl 2 ∧ w' = w) ∨
      (¬ bad_r1 a.toInt b.toInt c.toInt d.toInt ∧ ¬ bad_r2 p.toInt ∧ bad_r3 tab la ls lb lt' ∧ r = .inl 3 ∧ w' = w) ∨
      (¬ bad_r1 a.toInt b.toInt c.toInt d.toInt ∧ ¬ bad_r2 p.toInt ∧ ¬ bad_r3 tab la ls lb lt' ∧ (∃ x : Int32, r = .inr x ∧ x.toInt = tab 1557 + 1) ∧ trel w' 1 (trule tab p.toInt la ls lb lt') ∧ okall w' ∧ oc tin w w')) := by
    intro q
    refine wp_bdq nx ?_ ?_
    · rintro _ ⟨rfl, _⟩
      rw [if_pos trivial]; exact bad q
    · rintro r _ ⟨rfl, _⟩
      rw [if_pos trivial]; exact bad q
  simp only [if_true] at badN
  refine wp_bd (s_size oa) ?_
  rintro x1 _ ⟨rfl, y1⟩
  rw [Xa] at y1
  refine wp_iflt (fun q1 => badN (by unfold bad_r3; omega)) (fun q1 => ?_)
  refine wp_bd (s_size oc1) ?_
  rintro x2 _ ⟨rfl, y2⟩
  rw [Xc] at y2
  refine wp_iflt (fun q2 => badN (by unfold bad_r3; omega)) (fun q2 => ?_)
  refine wp_bd (s_size ob) ?_
  rintro x3 _ ⟨rfl, y3⟩
  rw [Xb] at y3
  simp only [ite_zo, L]
  refine wp_if (fun q3 => ?_) (fun q3 => badN (by unfold bad_r3; omega))
  refine wp_bd (s_size od) ?_
  rintro x4 _ ⟨rfl, y4⟩
  rw [Xd] at y4
  refine wp_iflt (fun q4 => badN (by unfold bad_r3; omega)) (fun q4 => ?_)
  refine wp_bdq nx ?_ ?_
  · rintro _ ⟨rfl, ⟨full, _⟩ | ⟨_, e⟩⟩
    · exact bad (by unfold bad_r3; omega)
    · cases e
  · rintro r _ ⟨rfl, ⟨_, e⟩ | ⟨full, e⟩⟩
    · cases e
    · cases e
      have nb3 : ¬ bad_r3 tab la ls lb lt' := by unfold bad_r3; omega
      generalize hcc : (tab 1557).toNat = cc at *
      have hc8 : cc < 8 := by omega
      have k8 : KD (53 + 9 * cc) = 8 := by
        have := (tab_kinds 1 (by decide +kernel)).2.2 cc hc8
        rwa [show 1 + 52 + 9 * cc = 53 + 9 * cc by omega] at this
      have R := rule_facts _ k8
      generalize ho8 : 53 + 9 * cc = o at *
      have okS : okall (setI w o 0 p) := okall_setI ho (by omega)
      have fr : ∀ k, k ≠ o → (setI w o 0 p).1 k = w.1 k := fun k hk => by funext m; rw [setI_at, if_neg (fun q => hk q.1)]
      have fl : ∀ q, q ≠ o → q + 1 ≠ o → rl (setI w o 0 p) q = rl w q := fun q h1 h2 => rl_fr (fr _ h1) (fr _ h2)
      have oo : 53 ≤ o ∧ o < 53 + 72 := by omega
      unfold f_X8_tell wr
      refine wp_bd (P := fun _ w4 => ∃ u1 u2 u3, rs (setI w o 0 p) u1 (o + 1) la ∧ rs u1 u2 (o + 3) ls ∧ rs u2 u3 (o + 5) lb ∧ rs u3 w4 (o + 7) lt') ?_ ?_
      · have ka := oa.1
        have kb := ob.1
        have kc := oc1.1
        have kd := od.1
        refine wp_bd (s_takeOver (okS _ R.1) (okS _ ka) (by rw [fl ra (by omega) (by omega), Xa, R.2.1]; omega)) ?_
        rintro _ u1 h1
        rw [fl ra (by omega) (by omega), Xa] at h1
        have ok1 := okall_rs okS h1
        have e2 : rl u1 rb = ls := by rw [rs_rl h1 kb (by omega), fl rb (by omega) (by omega), Xb]
        refine wp_bd (s_takeOver (ok1 _ R.2.2.1) (ok1 _ kb) (by rw [e2, R.2.2.2.1]; omega)) ?_
        rintro _ u2 h2
        rw [e2] at h2
        have ok2 := okall_rs ok1 h2
        have e3 : rl u2 rc = lb := by rw [rs_rl h2 kc (by omega), rs_rl h1 kc (by omega), fl rc (by omega) (by omega), Xc]
        refine wp_bd (s_takeOver (ok2 _ R.2.2.2.2.1) (ok2 _ kc) (by rw [e3, R.2.2.2.2.2.1]; omega)) ?_
        rintro _ u3 h3
        rw [e3] at h3
        have ok3 := okall_rs ok2 h3
        have e4 : rl u3 rd = lt' := by rw [rs_rl h3 kd (by omega), rs_rl h2 kd (by omega), rs_rl h1 kd (by omega), fl rd (by omega) (by omega), Xd]
        refine wp_bd (s_takeOver (ok3 _ R.2.2.2.2.2.2.1) (ok3 _ kd) (by rw [e4, R.2.2.2.2.2.2.2]; omega)) ?_
        rintro _ u4 h4
        rw [e4] at h4
        exact wp_ret ⟨u1, u2, u3, h1, h2, h3, h4⟩
      · rintro _ w4 ⟨u1, u2, u3, h1, h2, h3, h4⟩
        unfold f_X9_countRule wr
        rw [bd_r]
        have hob : ∀ k, k ≠ 1 → ¬ (o ≤ k ∧ k < o + 9) → (setI w4 1 14 (w4.1 1 14 + 1)).1 k = w.1 k := by
          intro k hk1 hk2
          rw [← fr k (by omega), ← h1.1 k (by omega) (by omega), ← h2.1 k (by omega) (by omega), ← h3.1 k (by omega) (by omega), ← h4.1 k (by omega) (by omega)]
          funext m; rw [setI_at, if_neg (by omega)]
        have e1 : w4.1 1 = w.1 1 := by
          rw [h4.1 1 (by omega) (by omega), h3.1 1 (by omega) (by omega), h2.1 1 (by omega) (by omega), h1.1 1 (by omega) (by omega), fr 1 (by omega)]
        have x1 : (w4.1 1 14 + 1).toInt = tab 1557 + 1 := by rw [e1, i_add (by omega), L.2.1, c1]
        have okF : okall (setI w4 1 14 (w4.1 1 14 + 1)) := okall_setI (okall_rs (okall_rs (okall_rs (okall_rs okS h1) h2) h3) h4) (by decide +kernel)
        have TI := trule_in (tab := tab) (pass := p.toInt) (la := la) (ls := ls) (lb := lb) (lt := lt') (A := 1558 + 15 * cc) (by rw [hcc]) (by omega) (by omega) (by omega) (by omega)
        have TO : ∀ k, k ≠ 1557 → ¬ (1558 + 15 * cc ≤ k ∧ k < 1558 + 15 * cc + 15) → trule tab p.toInt la ls lb lt' k = tab k := fun k q1 q2 => trule_out (by omega) (by omega) (by omega) (by omega) q1 (by rw [hcc]; exact q2)
        have rF : ∀ q, KD q = 7 → q ≠ 1 → rl (setI w4 1 14 (w4.1 1 14 + 1)) q = rl w4 q := by
          intro q k7 hq
          refine rl_fr ?_ ?_
          · funext m; rw [setI_at, if_neg (by omega)]
          · have : q ≠ 0 := by rintro rfl; exact absurd k7 (by decide +kernel)
            funext m; rw [setI_at, if_neg (by omega)]
        refine wp_ret (Or.inr (Or.inr (Or.inr ⟨nb1, nb2, nb3, ⟨_, rfl, by rw [setI_at, if_pos ⟨rfl, rfl⟩]; exact x1⟩, ⟨?_, ?_, ?_, ?_⟩, okF, fun k hk => hob k (fun q => hk (by unfold tin; omega)) (fun q => hk (by unfold tin; omega)), ?_⟩)))
        · exact fun l1 hl1 => lrel_fr (fun j hj => by rw [hob _ (by omega) (by omega)]) (fun j hj => TO _ (by omega) (by omega)) (h.1 l1 hl1)
        · exact trU_fr hk h (fun k a b => hob k (by omega) (by omega)) (fun i hi => TO i (by omega) (by omega))
        · refine trW_fr2 hk h ?_ (fun k a => hob k (by omega) (by omega)) (fun i hi => TO i (by omega) (by omega))
          rw [setI_at, if_neg (by omega), e1]
        · rw [setI_at, if_pos ⟨rfl, rfl⟩, TI.1]
          refine ⟨x1, fun i hi => ?_⟩
          by_cases ic : i = cc
          · subst ic
            rw [show 1 + 52 + 9 * i = o by omega]
            unfold ruel
            obtain ⟨-, t0, t1, t2, t3, t4, t5, t6, t7, t8⟩ := TI
            rw [t0, t1, t2, t3, t4]
            simp only [Int.toNat_natCast]
            rw [t5, t6, t7, t8]
            refine ⟨?_, ?_, ?_, ?_, ?_⟩
            · rw [setI_at, if_neg (by omega), h4.1 o (by omega) (by omega), h3.1 o (by omega) (by omega), h2.1 o (by omega) (by omega), h1.1 o (by omega) (by omega), setI_at, if_pos ⟨rfl, rfl⟩]
            · rw [rF _ R.1 (by omega), rs_rl h4 R.1 (by omega), rs_rl h3 R.1 (by omega), rs_rl h2 R.1 (by omega), rs_l h1]
            · rw [rF _ R.2.2.1 (by omega), rs_rl h4 R.2.2.1 (by omega), rs_rl h3 R.2.2.1 (by omega), rs_l h2]
            · rw [rF _ R.2.2.2.2.1 (by omega), rs_rl h4 R.2.2.2.2.1 (by omega), rs_l h3]
            · rw [rF _ R.2.2.2.2.2.2.1 (by omega), rs_l h4]
          · exact ruel_fr (by omega) (k3 i (by omega)) (fun k a b => hob k (by omega) (by omega)) (fun j hj => TO j (by omega) (by omega)) (c2 i (by omega))
        · exact h4.2.1.trans (h3.2.1.trans (h2.2.1.trans h1.2.1))

/-! the reference's -/
