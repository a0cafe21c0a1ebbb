/-! ===== message: the reference's helpers ===== -/
theorem cpp_len {out : List Int} {x : Int} (h : out.length ≤ 200) : (cpp out x).length ≤ 200 := by
  unfold cpp
  by_cases c : out.length < 200
  · rw [if_pos c, List.length_append, List.length_singleton]; omega
  · rw [if_neg c]; exact h
theorem cps_len : ∀ (l : List Int) (out : List Int), out.length ≤ 200 → (cps out l).length ≤ 200 := by
  intro l
  induction l with
  | nil => intro out h; exact h
  | cons x l ih => intro out h; exact ih _ (cpp_len h)
def f9 (f : Nat) : Prop := f = 9
def o719 (k : Nat) : Prop := k = 719
theorem p10_pos (j : Nat) : (0 : Int) < 10 ^ j := Int.pow_pos (by decide)
theorem s_putsNumber {w : Wd} {n : Int32} {out : List Int} (h : rou w out) (hl : out.length ≤ 200) (hn : 0 ≤ n.toInt ∧ n.toInt ≤ 999999) :
    Wp (f_X11_putsNumber n w) (fun _ w' => rcg f9 o719 w w' ∧ rou w' (cps out (dgs n.toInt))) := by
  have L := LIT
  have P6 := P10.2.2.2.2.2.2
  have e48 : (48 : Int32).toInt = 48 := by decide
  have e9 : (9 : Int32).toInt = 9 := by decide
  unfold f_X11_putsNumber f_X11_putsNumber_2
  rw [FUv]
  refine wp_loop (fun σ : Int32 × Int32 × Wd => σ.1 = n ∧ σ.2.2 = w ∧ ∃ j : Nat, j < 6 ∧ σ.2.1 = dU (j + 1) ∧ (j = 0 ∨ 10 ^ j ≤ n.toInt))
    (fun σ => 10 - dM σ.2.1) ?_ 100000 _ ⟨rfl, rfl, 0, by omega, rfl, Or.inl rfl⟩ (by dsimp only; omega)
  rintro rc ⟨n', v, u⟩ ⟨rfl, rfl, j, hj, rfl, hlow⟩ ih
  dsimp only at *
  have up := dU_pos j hj
  have pj := p10_pos j
  unfold g_X11_putsNumber_2
  refine wp_dv (by omega) ?_
  have dv1 : (n' / dU (j + 1)).toInt = n'.toInt / 10 ^ j := by rw [i_div hn.1 up, dU_i j hj]
  refine wp_ifle (fun c => ?_) (fun c => ?_)
  · rw [dv1, e9] at c
    have lt : n'.toInt < 10 ^ (j + 1) := by
      have := (Int.ediv_lt_iff_lt_mul (a := n'.toInt) (b := 10) pj).mp (by omega)
      rw [Int.pow_succ, Int.mul_comm]; exact this
    have T : tpn n'.toInt = j := by
      refine (dg_step hn.1 j hj lt).2 ?_
      rcases hlow with q | q
      · exact Or.inr q
      · left
        have := (Int.le_ediv_iff_mul_le (a := 1) (b := n'.toInt) pj).mpr (by rw [Int.one_mul]; exact q)
        rw [Int.emod_eq_of_lt (by omega) (by omega)]; omega
    unfold f_X11_putsNumber_18
    rw [FUv]
    refine wp_loop (fun σ : Int32 × Int32 × Wd => σ.1 = n' ∧ ∃ j : Nat, j ≤ 6 ∧ σ.2.1 = dU j ∧ rcg f9 o719 u σ.2.2 ∧ ∃ cur, rou σ.2.2 cur ∧ cur.length ≤ 200 ∧ cps cur (dgr n'.toInt j) = cps out (dgs n'.toInt))
      (fun σ => dM σ.2.1) ?_ 100000 _ ⟨rfl, j + 1, by omega, rfl, rcg_rf, out, h, hl, by rw [dgs_dgr T]⟩ (by dsimp only; rw [dM_dU _ (by omega)]; omega)
    rintro rc2 ⟨n2, v2, u2⟩ ⟨rfl, j2, hj2, rfl, hr2, cur, hc, hcl, hcp⟩ ih2
    dsimp only at *
    unfold g_X11_putsNumber_18
    cases j2 with
    | zero => exact wp_ifle (fun _ => wp_ret ⟨hr2, by rw [← hcp]; exact hc⟩) (fun q => absurd q (by decide))
    | succ j2 =>
      have up2 := dU_pos j2 (by omega)
      refine wp_ifle (fun q => by omega) (fun _ => wp_dv (by omega) ?_)
      have dx := i_digit (n := n2) (j := j2) (by omega) hn.1
      have xr : 0 ≤ n2.toInt / 10 ^ j2 % 10 ∧ n2.toInt / 10 ^ j2 % 10 < 10 := ⟨Int.emod_nonneg _ (by decide), Int.emod_lt_of_pos _ (by decide)⟩
      generalize (n2 / dU (j2 + 1)) - (n2 / dU (j2 + 1)) / (10 : Int32) * (10 : Int32) = x at dx ⊢
      have sx : ((48 : Int32) + x).toInt = 48 + n2.toInt / 10 ^ j2 % 10 := by rw [i_add (by omega), e48, dx]
      refine wp_bd (s_puts hc hcl) ?_
      rintro _ u3 ⟨r3, o3⟩
      rw [sx] at o3
      rw [dgr, cps_c] at hcp
      refine wp_lt (fun y hy => ?_)
      rw [dU_div j2 (by omega)] at hy
      exact ih2 (n2, y, u3) ⟨rfl, j2, by omega, hy, rcg_tr hr2 r3, _, o3, cpp_len hcl, hcp⟩ (by dsimp only; rw [hy, dM_dU j2 (by omega), dM_dU (j2 + 1) (by omega)]; omega)
  · rw [dv1, e9] at c
    have ge : (10 : Int) ^ (j + 1) ≤ n'.toInt := by
      have := (Int.le_ediv_iff_mul_le (a := 10) (b := n'.toInt) pj).mp (by omega)
      rw [Int.pow_succ, Int.mul_comm]; exact this
    have j5 : j < 5 := by
      refine Nat.lt_of_not_le (fun q => ?_)
      have : j = 5 := by omega
      subst this
      rw [show 5 + 1 = 6 from rfl, P6] at ge; omega
    refine wp_lt (fun y hy => ?_)
    rw [dU_mul j j5] at hy
    exact ih (n', y, u) ⟨rfl, rfl, j + 1, by omega, hy, Or.inr ge⟩ (by dsimp only; rw [hy, dM_dU (j + 2) (by omega), dM_dU (j + 1) (by omega)]; omega)
/-- the choices that are open, as the reference keeps them -/
def RS (w : Wd) : List Fch → Prop
  | [] => True
  | f :: st => ((w.1 742 (st.length + 1)).toInt = f.1 ∧ w.1 743 (st.length + 1) = bo f.2.1 ∧ w.1 744 (st.length + 1) = bo f.2.2 ∧ 0 ≤ f.1 ∧ f.1 < 4) ∧ RS w st
theorem RS_fr {w w' : Wd} : ∀ {st : List Fch}, RS w st → (∀ j : Nat, 1 ≤ j → j ≤ st.length → w'.1 742 j = w.1 742 j ∧ w'.1 743 j = w.1 743 j ∧ w'.1 744 j = w.1 744 j) → RS w' st := by
  intro st
  induction st with
  | nil => intro _ _; exact trivial
  | cons f st ih =>
    intro h hj
    have J := hj (st.length + 1) (by omega) (by rw [List.length_cons]; omega)
    refine ⟨?_, ih h.2 (fun j h1 h2 => hj j h1 (by rw [List.length_cons]; omega))⟩
    rw [J.1, J.2.1, J.2.2]; exact h.1
theorem RS_drop {w : Wd} : ∀ {st : List Fch} (k : Nat), RS w st → RS w (st.drop k) := by
  intro st
  induction st with
  | nil => intro k h; rw [List.drop_nil]; exact h
  | cons f st ih =>
    intro k h
    cases k with
    | zero => exact h
    | succ k => exact ih k h.2
theorem L74 : LEN 742 = 7 ∧ LEN 743 = 7 ∧ LEN 744 = 7 ∧ LEN 745 = 4 := by decide +kernel
theorem s_isHeard {w : Wd} {st : List Fch} {d : Int32} (h : RS w st) (h6 : st.length ≤ 6) (hd : d.toInt = st.length) :
    Wp (f_X11_isHeard d w) (fun r w' => w = w' ∧ r = bo (hrd st)) := by
  have L := LIT
  have l4 := L74
  unfold f_X11_isHeard f_X11_isHeard_4
  rw [FUv]
  refine wp_loop (fun σ : Int32 × Int32 × Int32 × Wd => σ.1 = d ∧ σ.2.2.2 = w ∧ 1 ≤ σ.2.2.1.toInt ∧ σ.2.2.1.toInt ≤ st.length + 1 ∧ σ.2.1 = bo (hrd (st.drop (st.length + 1 - σ.2.2.1.toInt.toNat))))
    (fun σ => (10 - σ.2.2.1.toInt).toNat) ?_ 100000 _ ⟨rfl, rfl, by dsimp only; omega, by dsimp only; omega, by
      dsimp only
      rw [L.2.1, show Int.toNat 1 = 1 from rfl, Nat.add_sub_cancel, List.drop_length]; rfl⟩ (by dsimp only; omega)
  rintro rc ⟨d', v, i, u⟩ ⟨rfl, rfl, hi1, hi2, hv⟩ ih
  dsimp only at *
  subst hv
  unfold g_X11_isHeard_4
  refine wp_iflt (fun c => wp_ret ⟨rfl, by rw [show st.length + 1 - i.toInt.toNat = 0 by omega, List.drop_zero]⟩) (fun c => ?_)
  have hlen : (st.drop (st.length - i.toInt.toNat)).length = i.toInt.toNat := by rw [List.length_drop]; omega
  have hR := RS_drop (st.length - i.toInt.toNat) h
  have htl : (st.drop (st.length - i.toInt.toNat)).tail = st.drop (st.length + 1 - i.toInt.toNat) := by rw [List.tail_drop, show st.length - i.toInt.toNat + 1 = st.length + 1 - i.toInt.toNat by omega]
  cases hs2 : st.drop (st.length - i.toInt.toNat) with
  | nil => rw [hs2, List.length_nil] at hlen; omega
  | cons f s3 =>
    rw [hs2] at hlen hR htl
    rw [List.tail_cons] at htl
    rw [List.length_cons] at hlen
    rw [← htl]
    have next : ∀ b : Int32, b = bo (f.2.2 && hrd s3) → Wp (lt (i + (1 : Int32)) (fun x2 => rc (d', b, x2, u))) (fun r w' => u = w' ∧ r = bo (hrd st)) := by
      intro b hb
      refine wp_add (by omega) (fun z3 hz3 => ?_)
      refine ih (d', b, z3, u) ⟨rfl, rfl, by dsimp only; omega, by dsimp only; omega, ?_⟩ (by dsimp only; omega)
      dsimp only
      rw [show st.length + 1 - z3.toInt.toNat = st.length - i.toInt.toNat by omega, hs2, hb]; rfl
    unfold f_X11_isHeard_26
    refine wp_ifeq (fun z => next 0 ?_) (fun z => ?_)
    · rw [bo_0.mp z, Bool.and_false]; rfl
    · have h1 : hrd s3 = true := by
        cases e : hrd s3 with
        | true => rfl
        | false => exact absurd (bo_0.mpr e) z
      refine wp_ald (by rw [l4.2.2.1]; omega) ?_
      rw [show i.toInt.toNat = s3.length + 1 by omega, hR.1.2.2.1]
      refine wp_ifeq (fun q => next 0 ?_) (fun q => next 1 ?_)
      · rw [bo_0.mp q]; rfl
      · cases e : f.2.2 with
        | true => rw [h1]; rfl
        | false => exact absurd (bo_0.mpr e) q
/-- the numbers, as the reference keeps them -/
def nmr (w : Wd) (nums : List Int) : Prop := ∀ k : Nat, k < 4 → (w.1 745 k).toInt = gt nums k
def f44 (f : Nat) : Prop := f = 44
def o434 (k : Nat) : Prop := k = 743 ∨ k = 744
theorem s_case164 {w : Wd} {tp : List Int} {q : Int} {d v7 v4 : Int32} {c f ok : Bool} (ht : rta w tp) (hb : tpok tp) (hq : (w.1 713 44).toInt = q) (h0 : 0 ≤ q ∧ q ≤ 1000) (hd : 1 ≤ d.toInt ∧ d.toInt ≤ 6) (hc : w.1 743 d.toInt.toNat = bo c) (h7 : v7 = bo f) (h4 : v4 = bo ok) :
    Wp (f_X11_readsCase_164 d v4 v7 w) (fun r w' => rcg f44 o434 w w' ∧ (∀ j, j ≠ d.toInt.toNat → w'.1 743 j = w.1 743 j ∧ w'.1 744 j = w.1 744 j) ∧ (w'.1 713 44).toInt = q + 1 ∧ w'.1 743 d.toInt.toNat = bo (c || f) ∧ w'.1 744 d.toInt.toNat = bo (f && !c) ∧ r = bo (ok && decide (gt tp q = 61))) := by
  have L := LIT
  have l4 := L74
  have e61 : (61 : Int32).toInt = 61 := by decide
  have in3 : 0 ≤ d.toInt ∧ d.toInt < LEN 743 := by rw [l4.2.1]; omega
  have in4 : 0 ≤ d.toInt ∧ d.toInt < LEN 744 := by rw [l4.2.2.1]; omega
  -- the end of it
  have fin : ∀ (u : Wd) (r : Int32), rcg f44 o434 w u → (∀ j, j ≠ d.toInt.toNat → u.1 743 j = w.1 743 j ∧ u.1 744 j = w.1 744 j) → u.1 713 44 = w.1 713 44 → u.1 743 d.toInt.toNat = bo (c || f) → u.1 744 d.toInt.toNat = bo (f && !c) → r = bo (ok && decide (gt tp q = 61)) → Wp (f_X11_readsCase_233 r u) (fun r w' => rcg f44 o434 w w' ∧ (∀ j, j ≠ d.toInt.toNat → w'.1 743 j = w.1 743 j ∧ w'.1 744 j = w.1 744 j) ∧ (w'.1 713 44).toInt = q + 1 ∧ w'.1 743 d.toInt.toNat = bo (c || f) ∧ w'.1 744 d.toInt.toNat = bo (f && !c) ∧ r = bo (ok && decide (gt tp q = 61))) := by
    intro u r a1 a2 a3 a4 a5 a6
    unfold f_X11_readsCase_233
    refine wp_wr (wp_ret ⟨rcg_tr a1 (rcg_fld rfl), fun j hj => ?_, ?_, ?_, ?_, a6⟩)
    · rw [setI_at, if_neg (by omega), setI_at, if_neg (by omega)]; exact a2 j hj
    · rw [setI_at, if_pos ⟨rfl, rfl⟩, a3, i_add (by rw [hq]; omega), hq, L.2.1]
    · rw [setI_at, if_neg (by omega)]; exact a4
    · rw [setI_at, if_neg (by omega)]; exact a5
  have end2 : ∀ (u : Wd) (x : Int32), rcg f44 o434 w u → (∀ j, j ≠ d.toInt.toNat → u.1 743 j = w.1 743 j ∧ u.1 744 j = w.1 744 j) → u.1 713 44 = w.1 713 44 → x = bo (c || f) → u.1 744 d.toInt.toNat = bo (f && !c) → Wp (f_X11_readsCase_213 v4 743 d x u) (fun r w' => rcg f44 o434 w w' ∧ (∀ j, j ≠ d.toInt.toNat → w'.1 743 j = w.1 743 j ∧ w'.1 744 j = w.1 744 j) ∧ (w'.1 713 44).toInt = q + 1 ∧ w'.1 743 d.toInt.toNat = bo (c || f) ∧ w'.1 744 d.toInt.toNat = bo (f && !c) ∧ r = bo (ok && decide (gt tp q = 61))) := by
    intro u x a1 a2 a3 a4 a5
    unfold f_X11_readsCase_213
    refine wp_ast in3 ?_
    have b1 : rcg f44 o434 w (setI u 743 d.toInt.toNat x) := rcg_tr a1 (rcg_set (by decide) (Or.inl rfl))
    have b2 : ∀ j, j ≠ d.toInt.toNat → (setI u 743 d.toInt.toNat x).1 743 j = w.1 743 j ∧ (setI u 743 d.toInt.toNat x).1 744 j = w.1 744 j := fun j hj => by
      rw [setI_at, if_neg (fun z => hj z.2), setI_at, if_neg (by omega)]; exact a2 j hj
    have b3 : (setI u 743 d.toInt.toNat x).1 713 44 = w.1 713 44 := by rw [setI_at, if_neg (by omega)]; exact a3
    have b4 : (setI u 743 d.toInt.toNat x).1 743 d.toInt.toNat = bo (c || f) := by rw [setI_at, if_pos ⟨rfl, rfl⟩]; exact a4
    have b5 : (setI u 743 d.toInt.toNat x).1 744 d.toInt.toNat = bo (f && !c) := by rw [setI_at, if_neg (by omega)]; exact a5
    generalize setI u 743 d.toInt.toNat x = u2 at *
    unfold f_X11_readsCase_232
    rw [h4]
    cases ok with
    | false => exact wp_ifeq (fun _ => fin u2 0 b1 b2 b3 b4 b5 rfl) (fun z => absurd rfl z)
    | true =>
      refine wp_ifeq (fun z => absurd z (by decide)) (fun _ => ?_)
      have T2 : rta u2 tp := ⟨by rw [b1.2.1 7 (by unfold f44; decide)]; exact ht.1, (sg_ext (fun i _ => by rw [b1.1 718 (by decide) (by unfold o434; decide)])).trans ht.2⟩
      refine wp_bd (s_taping T2 hb (by rw [b3]; exact hq) h0.1) ?_
      rintro y _ ⟨rfl, hy⟩
      refine wp_ifeq (fun z => fin u2 1 b1 b2 b3 b4 b5 ?_) (fun z => fin u2 0 b1 b2 b3 b4 b5 ?_)
      · rw [decide_eq_true (show gt tp q = 61 by omega)]; rfl
      · rw [decide_eq_false (show ¬ gt tp q = 61 by omega)]; rfl
  have mid : ∀ t2 : Int32, t2 = bo (f && !c) → Wp (f_X11_readsCase_188 d v4 v7 744 d t2 w) (fun r w' => rcg f44 o434 w w' ∧ (∀ j, j ≠ d.toInt.toNat → w'.1 743 j = w.1 743 j ∧ w'.1 744 j = w.1 744 j) ∧ (w'.1 713 44).toInt = q + 1 ∧ w'.1 743 d.toInt.toNat = bo (c || f) ∧ w'.1 744 d.toInt.toNat = bo (f && !c) ∧ r = bo (ok && decide (gt tp q = 61))) := by
    intro t2 ht2
    unfold f_X11_readsCase_188
    refine wp_ast in4 (wp_ald in3 ?_)
    have b1 : rcg f44 o434 w (setI w 744 d.toInt.toNat t2) := rcg_set (by decide) (Or.inr rfl)
    have b2 : ∀ j, j ≠ d.toInt.toNat → (setI w 744 d.toInt.toNat t2).1 743 j = w.1 743 j ∧ (setI w 744 d.toInt.toNat t2).1 744 j = w.1 744 j := fun j hj => by
      rw [setI_at, if_neg (by omega), setI_at, if_neg (fun z => hj z.2)]; exact ⟨rfl, rfl⟩
    have b3 : (setI w 744 d.toInt.toNat t2).1 713 44 = w.1 713 44 := by rw [setI_at, if_neg (by omega)]
    have b4 : (setI w 744 d.toInt.toNat t2).1 743 d.toInt.toNat = bo c := by rw [setI_at, if_neg (by omega)]; exact hc
    have b5 : (setI w 744 d.toInt.toNat t2).1 744 d.toInt.toNat = bo (f && !c) := by rw [setI_at, if_pos ⟨rfl, rfl⟩]; exact ht2
    generalize setI w 744 d.toInt.toNat t2 = u2 at *
    rw [b4, h7]
    cases c with
    | true => exact wp_ifeq (fun z => absurd z (by decide)) (fun _ => end2 u2 1 b1 b2 b3 rfl b5)
    | false =>
      refine wp_ifeq (fun _ => ?_) (fun z => absurd rfl z)
      cases f with
      | true => exact wp_ifeq (fun z => absurd z (by decide)) (fun _ => end2 u2 1 b1 b2 b3 rfl b5)
      | false => exact wp_ifeq (fun _ => end2 u2 0 b1 b2 b3 rfl b5) (fun z => absurd rfl z)
  unfold f_X11_readsCase_164 f_X11_readsCase_187
  refine wp_ifeq (fun z => mid 0 ?_) (fun z => wp_ald in3 ?_)
  · rw [h7] at z; rw [bo_0.mp z]; rfl
  · rw [hc]
    have hf : f = true := by
      cases e : f with
      | true => rfl
      | false => exact absurd (by rw [h7, e]; rfl) z
    refine wp_ifeq (fun z2 => mid 1 ?_) (fun z2 => mid 0 ?_)
    · rw [bo_0.mp z2, hf]; rfl
    · have hc2 : c = true := by
        cases e : c with
        | true => rfl
        | false => exact absurd (bo_0.mpr e) z2
      rw [hc2, hf]; rfl
