/-! ===== decode: the reference ===== -/
def stF (s : Nat) (pre : List Int) (w u : Wd) : Prop := rcg (fun _ => False) (fun k => k = 716) w u ∧ (∀ j : Nat, j < pre.length → (u.1 716 (40 * s + j)).toInt = gt pre j) ∧ ∀ j : Nat, ¬ (40 * s ≤ j ∧ j < 40 * s + 40) → u.1 716 j = w.1 716 j
theorem s_decodes {w : Wd} {tp : List Int} {s b : Int32} (ht : rta w tp) (hb : tpok tp) (hs : 0 ≤ s.toInt ∧ s.toInt ≤ 5) (hB : b.toInt = 0 ∨ (b.toInt = 1 ∧ (dcl 0 tp).length ≤ 40)) :
    Wp (f_X11_decodes s b w) (fun r w' => r.toInt = (dcl 0 tp).length + 1000 * dce 0 tp ∧ ((b.toInt = 0 ∧ w' = w) ∨ (b.toInt = 1 ∧ stF s.toInt.toNat (dcl 0 tp) w w'))) := by
  have L := LIT
  have e64 : (64 : Int32).toInt = 64 := by decide
  have e63 : (63 : Int32).toInt = 63 := by decide
  have e32 : (32 : Int32).toInt = 32 := by decide
  have e14 : (14 : Int32).toInt = 14 := by decide
  have e15 : (15 : Int32).toInt = 15 := by decide
  have e1000 : (1000 : Int32).toInt = 1000 := by decide
  have l718 : LEN 718 = 160 := LENs.2.2.2.2.2.2.1
  have l716 : LEN 716 = 240 := LENs.2.2.2.2.1
  have t160 := hb.1
  have hsN := slot_lt hs
  unfold f_X11_decodes f_X11_decodes_11
  rw [FUv]
  refine wp_loop (fun σ : Int32 × Int32 × Int32 × Int32 × Int32 × Int32 × Wd => σ.1 = s ∧ σ.2.1 = b ∧ (σ.2.2.1.toInt = 0 ∨ σ.2.2.1.toInt = 1) ∧ 0 ≤ σ.2.2.2.2.2.1.toInt ∧ σ.2.2.2.2.2.1.toInt ≤ tp.length ∧ 0 ≤ σ.2.2.2.2.1.toInt ∧ σ.2.2.2.2.1.toInt ≤ σ.2.2.2.2.2.1.toInt ∧ ∃ pre : List Int, σ.2.2.2.1.toInt = pre.length ∧ pre.length ≤ σ.2.2.2.2.2.1.toInt ∧ pre ++ dcl σ.2.2.1.toInt (tp.drop σ.2.2.2.2.2.1.toInt.toNat) = dcl 0 tp ∧ σ.2.2.2.2.1.toInt + dce σ.2.2.1.toInt (tp.drop σ.2.2.2.2.2.1.toInt.toNat) = dce 0 tp ∧ ((b.toInt = 0 ∧ σ.2.2.2.2.2.2 = w) ∨ (b.toInt = 1 ∧ stF s.toInt.toNat pre w σ.2.2.2.2.2.2)))
    (fun σ => (tp.length - σ.2.2.2.2.2.1.toInt).toNat) ?_ 100000 _ ⟨rfl, rfl, Or.inl L.1, by dsimp only; omega, by dsimp only; omega, by dsimp only; omega, by dsimp only; omega, [], L.1, by dsimp only; rw [List.length_nil]; omega, by dsimp only; rw [L.1]; rfl, by dsimp only; rw [L.1]; exact Int.zero_add _, hB.imp (fun q => ⟨q, rfl⟩) (fun q => ⟨q.1, rcg_rf, fun j hj => absurd hj (Nat.not_lt_zero _), fun _ _ => rfl⟩)⟩ (by dsimp only; omega)
  rintro rc ⟨s', b', st, ct, er, i, u⟩ ⟨rfl, rfl, hst, hi0, hi1, he0, he1, pre, hct, hpl, hs1, hs2, hw⟩ ih
  dsimp only at *
  have R7 : u.1 713 7 = w.1 713 7 ∧ u.1 718 = w.1 718 := by
    rcases hw with ⟨_, rfl⟩ | ⟨_, q, _⟩
    · exact ⟨rfl, rfl⟩
    · exact ⟨q.2.1 7 (fun x => x), q.1 718 (by decide) (by decide)⟩
  unfold g_X11_decodes_11
  refine wp_ifle (fun z => ?_) (fun z => ?_)
  · rw [R7.1, ht.1] at z
    rw [List.drop_eq_nil_of_le (show tp.length ≤ i.toInt.toNat by omega)] at hs1 hs2
    rw [dcl, List.append_nil] at hs1
    rw [dce] at hs2
    rw [hs1] at hct hw
    have a1 : (er + st).toInt = dce 0 tp := by rw [i_add (by omega), hs2]
    have D := (dcl_ok tp 0 (Or.inl rfl)).2
    have a2 : ((1000 : Int32) * (er + st)).toInt = 1000 * dce 0 tp := by rw [i_mul' e1000 (by omega), a1]
    exact wp_ret ⟨by rw [i_add (by omega), a2, hct], hw⟩
  rw [R7.1, ht.1] at z
  rw [drop_gt (show i.toInt.toNat < tp.length by omega)] at hs1 hs2
  rw [dcl] at hs1
  rw [dce] at hs2
  have hx : (u.1 718 i.toInt.toNat).toInt = gt tp (i.toInt.toNat : Nat) := by
    have e : (sg w 718 0 tp.length)[i.toInt.toNat]? = some (w.1 718 (0 + i.toInt.toNat)).toInt := sg_at (by omega)
    rw [ht.2, Nat.zero_add] at e
    rw [gt_nat, List.getD_eq_getElem?_getD, e, R7.2]; rfl
  have B : 0 ≤ (u.1 718 i.toInt.toNat).toInt ∧ (u.1 718 i.toInt.toNat).toInt ≤ 255 := by
    rw [hx, gt_nat, List.getD_eq_getElem?_getD, List.getElem?_eq_getElem (show i.toInt.toNat < tp.length by omega)]
    exact hb.2 _ (List.getElem_mem _)
  rw [← hx] at hs1 hs2
  have in718 : 0 ≤ i.toInt ∧ i.toInt < LEN 718 := by omega
  have shift : ∀ (c : Int32), (c.toInt = 0 ∨ c.toInt = 1) → pre ++ dcl c.toInt (tp.drop (i.toInt.toNat + 1)) = dcl 0 tp → er.toInt + dce c.toInt (tp.drop (i.toInt.toNat + 1)) = dce 0 tp → Wp (lt (i + (1 : Int32)) (fun x2 => rc (s', b', c, ct, er, x2, u))) (fun r w' => r.toInt = (dcl 0 tp).length + 1000 * dce 0 tp ∧ ((b'.toInt = 0 ∧ w' = w) ∨ (b'.toInt = 1 ∧ stF s'.toInt.toNat (dcl 0 tp) w w'))) := by
    intro c hb2 a1 a2
    refine wp_add (by omega) (fun z3 hz3 => ?_)
    have ez : z3.toInt.toNat = i.toInt.toNat + 1 := by omega
    exact ih (s', b', c, ct, er, z3, u) ⟨rfl, rfl, hb2, by dsimp only; omega, by dsimp only; omega, he0, by dsimp only; omega, pre, hct, by dsimp only; omega, by dsimp only; rw [ez]; exact a1, by dsimp only; rw [ez]; exact a2, hw⟩ (by dsimp only; omega)
  unfold f_X11_decodes_44
  refine wp_ald in718 ?_
  refine wp_ifeq (fun c => ?_) (fun c => ?_)
  · rw [if_pos (by omega)] at hs1 hs2
    exact wp_ald in718 (wp_ifeq (fun _ => shift 1 (Or.inr L.2.1) (by rw [L.2.1]; exact hs1) (by rw [L.2.1]; exact hs2)) (fun q => absurd c q))
  rw [if_neg (by omega)] at hs1 hs2
  refine wp_ald in718 (wp_ifeq (fun c2 => ?_) (fun c2 => ?_))
  · rw [if_pos (by omega)] at hs1 hs2
    exact wp_ald in718 (wp_ifeq (fun q => absurd q c) (fun _ => shift 0 (Or.inl L.1) (by rw [L.1]; exact hs1) (by rw [L.1]; exact hs2)))
  rw [if_neg (by omega)] at hs1 hs2
  refine wp_ald in718 ?_
  have i40 := i_40 hs (k := ct) (by omega)
  -- on, with a letter
  have go : ∀ (v7 er1 : Int32), (v7 = 1 ∧ vld st.toInt (u.1 718 i.toInt.toNat).toInt ∨ v7 = 0 ∧ ¬ vld st.toInt (u.1 718 i.toInt.toNat).toInt) → er1.toInt = (if vld st.toInt (u.1 718 i.toInt.toNat).toInt then 0 else 1) → Wp (f_X11_decodes_102 rc s' b' st ct i v7 er er1 u) (fun r w' => r.toInt = (dcl 0 tp).length + 1000 * dce 0 tp ∧ ((b'.toInt = 0 ∧ w' = w) ∨ (b'.toInt = 1 ∧ stF s'.toInt.toNat (dcl 0 tp) w w'))) := by
    intro v7 er1 h7 h1
    have er0 : 0 ≤ er1.toInt ∧ er1.toInt ≤ 1 := by rw [h1]; split <;> omega
    unfold f_X11_decodes_102
    refine wp_add (by omega) (fun er2 he2 => ?_)
    have nx : ∀ (c : Int) (u2 : Wd), c = (if vld st.toInt (u.1 718 i.toInt.toNat).toInt then (u.1 718 i.toInt.toNat).toInt - 32 + 64 * st.toInt else 0) → ((b'.toInt = 0 ∧ u2 = w) ∨ (b'.toInt = 1 ∧ stF s'.toInt.toNat (pre ++ [c]) w u2)) → Wp (lt (ct + (1 : Int32)) (fun x2 => lt (i + (1 : Int32)) (fun x3 => rc (s', b', st, x2, er2, x3, u2)))) (fun r w' => r.toInt = (dcl 0 tp).length + 1000 * dce 0 tp ∧ ((b'.toInt = 0 ∧ w' = w) ∨ (b'.toInt = 1 ∧ stF s'.toInt.toNat (dcl 0 tp) w w'))) := by
      intro c u2 hc hu2
      refine wp_add (by omega) (fun z2 hz2 => wp_add (by omega) (fun z3 hz3 => ?_))
      have ez : z3.toInt.toNat = i.toInt.toNat + 1 := by omega
      refine ih (s', b', st, z2, er2, z3, u2) ⟨rfl, rfl, hst, by dsimp only; omega, by dsimp only; omega, by dsimp only; omega, by dsimp only; omega, pre ++ [c], ?_, ?_, ?_, ?_, hu2⟩ (by dsimp only; omega)
      · dsimp only; rw [List.length_append, List.length_singleton]; omega
      · dsimp only; rw [List.length_append, List.length_singleton]; omega
      · dsimp only; rw [ez, List.append_assoc, hc]; exact hs1
      · dsimp only; rw [ez, he2, h1]; omega
    refine wp_ifeq (fun c0 => ?_) (fun c0 => ?_)
    · refine nx _ u rfl ?_
      rcases hw with q | q
      · exact Or.inl q
      · exact absurd c0 (by rw [q.1, L.1]; decide)
    · have hw2 := hw.resolve_left (fun q => c0 (by rw [q.1]; exact L.1.symm))
      have hB2 := hB.resolve_left (fun q => c0 (by rw [q]; exact L.1.symm))
      have c40 : pre.length < 40 := by
        have := hB2.2
        rw [← hs1, List.length_append, List.length_cons] at this; omega
      have st2 : ∀ c : Int32, stF s'.toInt.toNat (pre ++ [c.toInt]) w (setI u 716 (((40 : Int32) * s') + ct).toInt.toNat c) := by
        intro c
        obtain ⟨q1, q2, q3⟩ := hw2.2
        refine ⟨rcg_tr q1 (rcg_set (by decide) rfl), fun j hj => ?_, fun j hj => ?_⟩
        · rw [List.length_append, List.length_singleton] at hj
          rw [setI_at, gt_snoc]
          by_cases e : j = pre.length
          · rw [if_pos ⟨rfl, by omega⟩, if_pos (by omega)]
          · rw [if_neg (by omega), if_neg (by omega)]; exact q2 j (by omega)
        · rw [setI_at, if_neg (by omega)]; exact q3 j hj
      have in716 : 0 ≤ (((40 : Int32) * s') + ct).toInt ∧ (((40 : Int32) * s') + ct).toInt < LEN 716 := by omega
      unfold f_X11_decodes_144
      rcases h7 with ⟨rfl, v⟩ | ⟨rfl, v⟩
      · refine wp_ifeq (fun q => by omega) (fun _ => wp_ald in718 (wp_ast in716 ?_))
        have m : ((64 : Int32) * st).toInt = 64 * st.toInt := i_mul' e64 (by omega)
        have a0 : ((u.1 718 i.toInt.toNat) - (32 : Int32)).toInt = (u.1 718 i.toInt.toNat).toInt - 32 := by rw [i_sub (by omega), e32]
        have vv : (((u.1 718 i.toInt.toNat) - (32 : Int32)) + ((64 : Int32) * st)).toInt = (u.1 718 i.toInt.toNat).toInt - 32 + 64 * st.toInt := by rw [i_add (by omega), a0, m]
        exact nx _ _ (by rw [if_pos v]; exact vv) (Or.inr ⟨hw2.1, st2 _⟩)
      · refine wp_ifeq (fun _ => wp_ast in716 ?_) (fun q => absurd rfl q)
        exact nx _ _ (by rw [if_neg v]; exact L.1) (Or.inr ⟨hw2.1, st2 _⟩)
  unfold f_X11_decodes_85
  refine wp_ifeq (fun c3 => ?_) (fun c3 => ?_)
  · rw [e_in, bd_r, ite_zo, e32, L.2.2.2.2.2.2.2.2.2.2.2.2.1]
    refine wp_if (fun v => ?_) (fun v => ?_)
    · have vv : vld st.toInt (u.1 718 i.toInt.toNat).toInt := ⟨v.1, by rw [if_pos (by omega)]; exact v.2⟩
      rw [zo_T v]
      exact go 1 0 (Or.inl ⟨rfl, vv⟩) (by rw [if_pos vv]; exact L.1)
    · have vv : ¬ vld st.toInt (u.1 718 i.toInt.toNat).toInt := fun q => v ⟨q.1, by have := q.2; rw [if_pos (by omega)] at this; exact this⟩
      rw [zo_F v]
      exact go 0 1 (Or.inr ⟨rfl, vv⟩) (by rw [if_neg vv]; exact L.2.1)
  · rw [e_in, bd_r, ite_zo, e32, e63]
    refine wp_if (fun v => ?_) (fun v => ?_)
    · have vv : vld st.toInt (u.1 718 i.toInt.toNat).toInt := ⟨v.1, by rw [if_neg (by omega)]; exact v.2⟩
      rw [zo_T v]
      exact go 1 0 (Or.inl ⟨rfl, vv⟩) (by rw [if_pos vv]; exact L.1)
    · have vv : ¬ vld st.toInt (u.1 718 i.toInt.toNat).toInt := fun q => v ⟨q.1, by have := q.2; rw [if_neg (by omega)] at this; exact this⟩
      rw [zo_F v]
      exact go 0 1 (Or.inr ⟨rfl, vv⟩) (by rw [if_neg vv]; exact L.2.1)
def fdc (f : Nat) : Prop := f = 0 ∨ f = 7
def rdc (k : Nat) : Prop := k = 716 ∨ k = 717
theorem r_decode {w : Wd} {txt : Nat → List Int} {tp : List Int} {s : Int32} (hx : rtx w txt) (hkx : xok txt) (ht : rta w tp) (hb : tpok tp) :
    Wp (f_X11_decode s w) (fun r w' => rcg fdc rdc w w' ∧ ((bad_slot s.toInt ∧ (w'.1 713 0).toInt = 1 ∧ rtx w' txt ∧ rta w' tp) ∨ (¬ bad_slot s.toInt ∧ 40 < (dcl 0 tp).length ∧ (w'.1 713 0).toInt = 2 ∧ rtx w' txt ∧ rta w' []) ∨
      (¬ bad_slot s.toInt ∧ ¬ 40 < (dcl 0 tp).length ∧ (w'.1 713 0).toInt = 0 ∧ r.toInt = dce 0 tp ∧ rtx w' (xset txt s.toInt.toNat (dcl 0 tp)) ∧ rta w' []))) := by
  have L := LIT
  have e1000 : (1000 : Int32).toInt = 1000 := by decide
  have e40 : (40 : Int32).toInt = 40 := by decide
  have l717 : LEN 717 = 6 := LENs.2.2.2.2.2.1
  have D := (dcl_ok tp 0 (Or.inl rfl)).2
  have t160 := hb.1
  have rta_fr : ∀ (u u' : Wd) (t : List Int), rta u t → u'.1 713 7 = u.1 713 7 → u'.1 718 = u.1 718 → rta u' t := fun u u' t h h1 h2 => ⟨by rw [h1]; exact h.1, (sg_ext (fun i _ => by rw [h2])).trans h.2⟩
  have rta_nil : ∀ u : Wd, rta (setI u 713 7 0) [] := fun u => ⟨by rw [setI_at, if_pos ⟨rfl, rfl⟩]; exact L.1, rfl⟩
  unfold f_X11_decode f_X11_decode_13 f_X11_decode_44 f_X11_decode_68
  simp only [e_isSlot, e_holds, bd_r, ite_zo, c01, if_true, if_false]
  have fr : ∀ (u : Wd) j x, rtx u txt → rtx (setI u 713 j x) txt := fun u j x hu => rtx_fr hu (by funext b; rw [setI_at, if_neg (by omega)]) (by funext b; rw [setI_at, if_neg (by omega)])
  refine wp_if (fun hs => ?_) (fun hs => wp_ret ⟨rcg_fld (Or.inl rfl), Or.inl ⟨hs, by rw [setI_at, if_pos ⟨rfl, rfl⟩]; exact L.2.1, fr _ _ _ hx, rta_fr _ _ _ ht (by rw [setI_at, if_neg (by omega)]) (by funext b; rw [setI_at, if_neg (by omega)])⟩⟩)
  have nb : ¬ bad_slot s.toInt := fun q => q hs
  have hsN := slot_lt hs
  have R0 : rcg fdc rdc w (setI w 713 0 0) := rcg_fld (Or.inl rfl)
  have Z0 : ((setI w 713 0 0).1 713 0).toInt = 0 := by rw [setI_at, if_pos ⟨rfl, rfl⟩]; exact L.1
  have T0 : rta (setI w 713 0 0) tp := rta_fr _ _ _ ht (by rw [setI_at, if_neg (by omega)]) (by funext b; rw [setI_at, if_neg (by omega)])
  have X0 := fr w 0 0 hx
  generalize setI w 713 0 0 = W at *
  refine wp_bd (s_decodes (b := (0 : Int32)) T0 hb hs (Or.inl L.1)) ?_
  rintro x w1 ⟨hx1, hw1⟩
  have hw2 := (hw1.resolve_right (fun q => absurd q.1 (by decide))).2
  subst hw2
  have md := i_rem (x := x) (y := (1000 : Int32)) (by omega) (by omega)
  rw [e1000] at md
  refine wp_ifle (fun c => ?_) (fun c => ?_)
  · have c40 : (dcl 0 tp).length ≤ 40 := by omega
    have R1 : rcg fdc rdc w (setI w1 713 0 0) := rcg_tr R0 (rcg_fld (Or.inl rfl))
    have Z1 : ((setI w1 713 0 0).1 713 0).toInt = 0 := by rw [setI_at, if_pos ⟨rfl, rfl⟩]; exact L.1
    have T1 : rta (setI w1 713 0 0) tp := rta_fr _ _ _ T0 (by rw [setI_at, if_neg (by omega)]) (by funext b; rw [setI_at, if_neg (by omega)])
    have X1 := fr w1 0 0 X0
    generalize setI w1 713 0 0 = W2 at *
    refine wp_ast (by omega) ?_
    have R2 : rcg fdc rdc w (setI W2 717 s.toInt.toNat (x - x / (1000 : Int32) * (1000 : Int32))) := rcg_tr R1 (rcg_set (by decide) (Or.inr rfl))
    have T2 : rta (setI W2 717 s.toInt.toNat (x - x / (1000 : Int32) * (1000 : Int32))) tp := rta_fr _ _ _ T1 (by rw [setI_at, if_neg (by omega)]) (by funext b; rw [setI_at, if_neg (by omega)])
    refine wp_bd (s_decodes (b := (1 : Int32)) T2 hb hs (Or.inr ⟨L.2.1, c40⟩)) ?_
    rintro x5 w3 ⟨hx5, hw3⟩
    have h3 := (hw3.resolve_left (fun q => absurd q.1 (by decide))).2
    obtain ⟨q1, q2, q3⟩ := h3
    have z3 : (w3.1 713 0).toInt = 0 := by rw [q1.2.1 0 (fun z => z), setI_at, if_neg (by omega)]; exact Z1
    refine wp_wr ?_
    have z4 : ((setI w3 713 7 0).1 713 0).toInt = 0 := by rw [setI_at, if_neg (by omega)]; exact z3
    refine wp_ifle (fun _ => ?_) (fun q => by omega)
    refine wp_ret ⟨rcg_tr R2 (rcg_tr (rcg_mono q1 (fun _ z => z.elim) (fun _ z => Or.inl z)) (rcg_fld (Or.inr rfl))), Or.inr (Or.inr ⟨nb, by omega, z4, ?_, ?_, rta_nil _⟩)⟩
    · rw [i_div (by omega) (by omega), e1000]; omega
    · intro k hk
      have e17 : ∀ j, (setI w3 713 7 0).1 717 j = (setI W2 717 s.toInt.toNat (x - x / (1000 : Int32) * (1000 : Int32))).1 717 j := fun j => by rw [setI_at, if_neg (by omega), q1.1 717 (by decide) (by decide)]
      have e16 : ∀ j, (setI w3 713 7 0).1 716 j = w3.1 716 j := fun j => by rw [setI_at, if_neg (by omega)]
      unfold xset
      by_cases e : k = s.toInt.toNat
      · rw [if_pos e]
        refine ⟨?_, gt_ext (sg_len _ _ _ _) (fun j hj => ?_)⟩
        · rw [e17, setI_at, if_pos ⟨rfl, e⟩, md]; omega
        · rw [sg_len] at hj
          rw [gt_nat, sg_getD hj, e16, e]; exact q2 j hj
      · rw [if_neg e]
        refine ⟨?_, gt_ext (sg_len _ _ _ _) (fun j hj => ?_)⟩
        · rw [e17, setI_at, if_neg (fun q => e q.2)]; exact (X1 k hk).1
        · rw [sg_len] at hj
          have k40 := (hkx k hk).1
          rw [gt_nat, sg_getD hj, e16, q3 _ (by omega), setI_at, if_neg (by omega)]; exact rtx_gt X1 hk hj
  · have c40 : 40 < (dcl 0 tp).length := by omega
    refine wp_wr ?_
    have e2 : ((setI (setI w1 713 0 2) 713 7 0).1 713 0).toInt = 2 := by rw [setI_at, if_neg (by omega), setI_at, if_pos ⟨rfl, rfl⟩]; exact L.2.2.2.1
    refine wp_ifle (fun q => by omega) (fun _ => ?_)
    exact wp_ret ⟨rcg_tr R0 (rcg_tr (rcg_fld (Or.inl rfl)) (rcg_fld (Or.inr rfl))), Or.inr (Or.inl ⟨nb, c40, e2, fr _ _ _ (fr _ _ _ X0), rta_nil _⟩)⟩
