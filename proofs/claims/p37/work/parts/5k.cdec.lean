/-! ===== decode ===== -/
abbrev vld (st x : Int) : Prop := 32 ≤ x ∧ (if st = 0 then x ≤ 95 else x ≤ 63)
/-- the letters; the errors -/
def dcl : Int → List Int → List Int
  | _, [] => []
  | st, x :: l => if x = 14 then dcl 1 l else if x = 15 then dcl 0 l else (if vld st x then x - 32 + 64 * st else 0) :: dcl st l
def dce : Int → List Int → Int
  | st, [] => st
  | st, x :: l => if x = 14 then dce 1 l else if x = 15 then dce 0 l else (if vld st x then 0 else 1) + dce st l
theorem dcl_ok : ∀ (l : List Int) (st : Int), (st = 0 ∨ st = 1) → (∀ y ∈ dcl st l, 0 ≤ y ∧ y ≤ 95) ∧ (dcl st l).length ≤ l.length ∧ 0 ≤ dce st l ∧ dce st l ≤ l.length + 1 := by
  intro l
  induction l with
  | nil => intro st h; unfold dcl dce; exact ⟨fun y hy => (List.not_mem_nil hy).elim, Nat.le_refl _, by omega, by rw [List.length_nil]; omega⟩
  | cons x l ih =>
    intro st h
    have I1 := ih 1 (Or.inr rfl)
    have I0 := ih 0 (Or.inl rfl)
    have I := ih st h
    unfold dcl dce
    rw [List.length_cons]
    by_cases a : x = 14
    · rw [if_pos a, if_pos a]; exact ⟨I1.1, by omega, I1.2.2.1, by omega⟩
    rw [if_neg a, if_neg a]
    by_cases b : x = 15
    · rw [if_pos b, if_pos b]; exact ⟨I0.1, by omega, I0.2.2.1, by omega⟩
    rw [if_neg b, if_neg b, List.length_cons]
    refine ⟨fun y hy => ?_, by omega, ?_, ?_⟩
    · rcases List.mem_cons.mp hy with rfl | q
      · by_cases c : vld st x
        · rw [if_pos c]
          have c2 := c.2
          have c1 := c.1
          rcases h with rfl | rfl
          · rw [if_pos rfl] at c2; omega
          · rw [if_neg (by omega)] at c2; omega
        · rw [if_neg c]; omega
      · exact I.1 y q
    · have := I.2.2.1; split <;> omega
    · have := I.2.2.2; split <;> omega
theorem s_decodeInto {w : Wd} {tp : List Int} (ho : okall w) (ht : cta w tp) (hb : tpok tp) :
    Wp (f_X10_decodeInto 709 w) (fun r w' => ∃ l', rs w w' 709 l' ∧ (((dcl 0 tp).length ≤ 40 ∧ r.toInt = dce 0 tp ∧ l' = dcl 0 tp) ∨ (40 < (dcl 0 tp).length ∧ r.toInt = -1))) := by
  have L := LIT
  have e64 : (64 : Int32).toInt = 64 := by decide
  have e32 : (32 : Int32).toInt = 32 := by decide
  have e14 : (14 : Int32).toInt = 14 := by decide
  have e15 : (15 : Int32).toInt = 15 := by decide
  unfold f_X10_decodeInto
  refine wp_bd (s_cut0 (ho _ row_pass.1.1)) ?_
  rintro _ w0 h0
  unfold f_X10_decodeInto_12
  rw [FUv]
  refine wp_loop (fun σ : Nat × Int32 × Int32 × Int32 × Wd => σ.1 = 709 ∧ (σ.2.2.1.toInt = 0 ∨ σ.2.2.1.toInt = 1) ∧ 0 ≤ σ.2.2.2.1.toInt ∧ σ.2.2.2.1.toInt ≤ tp.length ∧ 0 ≤ σ.2.1.toInt ∧ σ.2.1.toInt ≤ σ.2.2.2.1.toInt ∧ ∃ pre : List Int, rs w σ.2.2.2.2 709 pre ∧ pre.length ≤ 40 ∧ pre ++ dcl σ.2.2.1.toInt (tp.drop σ.2.2.2.1.toInt.toNat) = dcl 0 tp ∧ σ.2.1.toInt + dce σ.2.2.1.toInt (tp.drop σ.2.2.2.1.toInt.toNat) = dce 0 tp)
    (fun σ => (tp.length - σ.2.2.2.1.toInt).toNat) ?_ 100000 _ ⟨rfl, Or.inl L.1, by dsimp only; omega, by dsimp only; omega, by dsimp only; omega, by dsimp only; omega, [], h0, Nat.zero_le _, by dsimp only; rw [L.1]; rfl, by dsimp only; rw [L.1]; exact Int.zero_add _⟩ (by dsimp only; have := hb.1; omega)
  rintro rc ⟨o', er, st, i, u⟩ ⟨rfl, hst, hi0, hi1, he0, he1, pre, hr, hp, hs1, hs2⟩ ih
  dsimp only at *
  have t160 := hb.1
  have oku := okall_rs ho hr
  have rlu : rl u 635 = tp := by rw [rs_rl hr tape_kd.1 (by omega)]; exact ht
  unfold g_X10_decodeInto_12
  refine wp_bd (s_size (oku _ tape_kd.1)) ?_
  rintro n _ ⟨rfl, hn⟩
  rw [rlu] at hn
  refine wp_ifle (fun z => ?_) (fun z => ?_)
  · rw [List.drop_eq_nil_of_le (show tp.length ≤ i.toInt.toNat by omega)] at hs1 hs2
    rw [dcl] at hs1
    rw [dce] at hs2
    rw [List.append_nil] at hs1
    rw [← hs1, ← hs2]
    exact wp_ret ⟨pre, hr, Or.inl ⟨hp, i_add (by omega), rfl⟩⟩
  rw [drop_gt (show i.toInt.toNat < tp.length by omega)] at hs1 hs2
  rw [dcl] at hs1
  rw [dce] at hs2
  refine wp_bd (s_get (oku _ tape_kd.1)) ?_
  rintro x _ ⟨rfl, hx⟩
  rw [rlu, show i.toInt = ((i.toInt.toNat : Nat) : Int) by omega] at hx
  have B : 0 ≤ x.toInt ∧ x.toInt ≤ 255 := by
    rw [hx, gt_nat, List.getD_eq_getElem?_getD, List.getElem?_eq_getElem (show i.toInt.toNat < tp.length by omega)]
    exact hb.2 _ (List.getElem_mem _)
  rw [← hx] at hs1 hs2
  -- on with a state
  have shift : ∀ (b : Int32), (b.toInt = 0 ∨ b.toInt = 1) → pre ++ dcl b.toInt (tp.drop (i.toInt.toNat + 1)) = dcl 0 tp → er.toInt + dce b.toInt (tp.drop (i.toInt.toNat + 1)) = dce 0 tp → Wp (lt (i + (1 : Int32)) (fun x2 => rc (709, er, b, x2, u))) (fun r w' => ∃ l', rs w w' 709 l' ∧ (((dcl 0 tp).length ≤ 40 ∧ r.toInt = dce 0 tp ∧ l' = dcl 0 tp) ∨ (40 < (dcl 0 tp).length ∧ r.toInt = -1))) := by
    intro b hb2 a1 a2
    refine wp_add (by omega) (fun z3 hz3 => ?_)
    have ez : z3.toInt.toNat = i.toInt.toNat + 1 := by omega
    exact ih (709, er, b, z3, u) ⟨rfl, hb2, by dsimp only; omega, by dsimp only; omega, he0, by dsimp only; omega, pre, hr, hp, by dsimp only; rw [ez]; exact a1, by dsimp only; rw [ez]; exact a2⟩ (by dsimp only; omega)
  unfold f_X10_decodeInto_49
  refine wp_ifeq (fun c => ?_) (fun c => ?_)
  · rw [if_pos (by omega)] at hs1 hs2
    refine wp_ifeq (fun _ => shift 1 (Or.inr L.2.1) (by rw [L.2.1]; exact hs1) (by rw [L.2.1]; exact hs2)) (fun q => absurd c q)
  rw [if_neg (by omega)] at hs1 hs2
  refine wp_ifeq (fun c2 => ?_) (fun c2 => ?_)
  · rw [if_pos (by omega)] at hs1 hs2
    refine wp_ifeq (fun q => absurd q c) (fun _ => shift 0 (Or.inl L.1) (by rw [L.1]; exact hs1) (by rw [L.1]; exact hs2))
  rw [if_neg (by omega)] at hs1 hs2
  have m : (st * (64 : Int32)).toInt = st.toInt * 64 := by rcases hst with q | q <;> rw [i_mul' q (by rw [e64]; omega), e64, q]
  have a0 : (x - (32 : Int32)).toInt = x.toInt - 32 := by rw [i_sub (by omega), e32]
  refine wp_lt (fun x5 hx5 => ?_)
  have e5 : x5.toInt = x.toInt - 32 + 64 * st.toInt := by rw [hx5, i_add (by omega), a0, m]; omega
  -- a letter
  have put : ∀ (c er2 : Int32), er2.toInt = er.toInt + (if vld st.toInt x.toInt then 0 else 1) → c.toInt = (if vld st.toInt x.toInt then x.toInt - 32 + 64 * st.toInt else 0) → Wp (f_X10_decodeInto_132 rc 709 er2 st i 709 c u) (fun r w' => ∃ l', rs w w' 709 l' ∧ (((dcl 0 tp).length ≤ 40 ∧ r.toInt = dce 0 tp ∧ l' = dcl 0 tp) ∨ (40 < (dcl 0 tp).length ∧ r.toInt = -1))) := by
    intro c er2 h1 h2
    rw [← h2] at hs1
    unfold f_X10_decodeInto_132
    by_cases c40 : pre.length < 40
    · refine wp_bd (s_add (oku _ row_pass.1.1) (by rw [rs_l hr, row_pass.1.2]; exact c40)) ?_
      rintro y u2 ⟨rfl, h3⟩
      rw [rs_l hr] at h3
      refine wp_ifeq (fun q => by omega) (fun _ => wp_add (by omega) (fun z3 hz3 => ?_))
      have ez : z3.toInt.toNat = i.toInt.toNat + 1 := by omega
      have er3 : 0 ≤ er2.toInt ∧ er2.toInt ≤ i.toInt + 1 := by rw [h1]; split <;> omega
      refine ih (709, er2, st, z3, u2) ⟨rfl, hst, by dsimp only; omega, by dsimp only; omega, by dsimp only; omega, by dsimp only; omega, _, rs_tr hr h3, by rw [List.length_append, List.length_singleton]; omega, ?_, ?_⟩ (by dsimp only; omega)
      · dsimp only
        rw [ez, List.append_assoc]; exact hs1
      · dsimp only
        rw [ez, h1]; omega
    · refine wp_bd (s_add_full (oku _ row_pass.1.1) (by rw [rs_l hr, row_pass.1.2]; omega)) ?_
      rintro y _ ⟨rfl, rfl⟩
      refine wp_ifeq (fun _ => wp_ret ⟨pre, hr, Or.inr ⟨?_, L.2.2.1⟩⟩) (fun q => absurd rfl q)
      rw [← hs1, List.length_append, List.length_cons]; omega
  have good : vld st.toInt x.toInt → Wp (f_X10_decodeInto_105 rc 709 er st i x5 1 u) (fun r w' => ∃ l', rs w w' 709 l' ∧ (((dcl 0 tp).length ≤ 40 ∧ r.toInt = dce 0 tp ∧ l' = dcl 0 tp) ∨ (40 < (dcl 0 tp).length ∧ r.toInt = -1))) := by
    intro v
    unfold f_X10_decodeInto_105 f_X10_decodeInto_118
    refine wp_ifeq (fun q => by omega) (fun _ => wp_add (by omega) (fun z3 hz3 => wp_ifeq (fun q => by omega) (fun _ => put _ _ (by rw [if_pos v]; omega) (by rw [if_pos v]; exact e5))))
  have bad : ¬ vld st.toInt x.toInt → Wp (f_X10_decodeInto_104 rc 709 er st i x5 u) (fun r w' => ∃ l', rs w w' 709 l' ∧ (((dcl 0 tp).length ≤ 40 ∧ r.toInt = dce 0 tp ∧ l' = dcl 0 tp) ∨ (40 < (dcl 0 tp).length ∧ r.toInt = -1))) := by
    intro v
    unfold f_X10_decodeInto_104 f_X10_decodeInto_105 f_X10_decodeInto_118
    refine wp_ifeq (fun _ => wp_add (by omega) (fun z3 hz3 => wp_ifeq (fun _ => put _ _ (by rw [if_neg v]; omega) (by rw [if_neg v]; exact L.1)) (fun q => absurd rfl q))) (fun q => absurd rfl q)
  refine wp_iflt (fun c3 => bad (fun v => by have := v.1; omega)) (fun c3 => ?_)
  unfold f_X10_decodeInto_97
  refine wp_ifeq (fun c4 => wp_ifle (fun c5 => bad (fun v => ?_)) (fun c5 => good ⟨by omega, ?_⟩)) (fun c4 => wp_ifle (fun c5 => bad (fun v => ?_)) (fun c5 => good ⟨by omega, ?_⟩))
  · have := v.2; rw [if_pos (by omega)] at this; omega
  · rw [if_pos (by omega)]; omega
  · have := v.2; rw [if_neg (by omega)] at this; omega
  · rw [if_neg (by omega)]; omega
def odc (k : Nat) : Prop := k = 635 ∨ k = 636 ∨ k = 709 ∨ k = 710 ∨ xin k
theorem k_decode {w : Wd} {txt : Nat → List Int} {tp : List Int} {s : Int32} (ho : okall w) (hx : ctx w txt) (ht : cta w tp) (hb : tpok tp) :
    Wp (f_X10_decode s w) (fun r w' => okall w' ∧ oc odc w w' ∧ ((bad_slot s.toInt ∧ r = .inl 1 ∧ w' = w) ∨ (¬ bad_slot s.toInt ∧ 40 < (dcl 0 tp).length ∧ r = .inl 3 ∧ ctx w' txt ∧ cta w' []) ∨
      (¬ bad_slot s.toInt ∧ ¬ 40 < (dcl 0 tp).length ∧ (∃ x : Int32, r = .inr x ∧ x.toInt = dce 0 tp) ∧ ctx w' (xset txt s.toInt.toNat (dcl 0 tp)) ∧ cta w' []))) := by
  have L := LIT
  unfold f_X10_decode
  simp only [e_textOf, bdx_c]
  refine wp_if (fun hs => ?_) (fun hs => wp_ret ⟨ho, oc_rf, Or.inl ⟨hs, rfl, rfl⟩⟩)
  have nb : ¬ bad_slot s.toInt := fun q => q hs
  have hsN := slot_lt hs
  refine wp_bd (s_decodeInto ho ht hb) ?_
  rintro r w1 ⟨l', h1, hr⟩
  have ok1 := okall_rs ho h1
  have c1 : ctx w1 txt := ctx_fr hx (fun k a b => h1.1 k (by omega) (by omega))
  have o1 : oc odc w w1 := oc_rs h1 (by unfold odc; omega) (by unfold odc; omega)
  refine wp_bd (s_cut0 (ok1 _ tape_kd.1)) ?_
  rintro _ w2 h2
  have ok2 := okall_rs ok1 h2
  have c2 : ctx w2 txt := ctx_fr c1 (fun k a b => h2.1 k (by omega) (by omega))
  have o2 : oc odc w w2 := oc_tr o1 (oc_rs h2 (by unfold odc; omega) (by unfold odc; omega))
  rcases hr with ⟨hr1, hr2, rfl⟩ | ⟨hr1, hr2⟩
  · have D := (dcl_ok tp 0 (Or.inl rfl)).2.2.1
    refine wp_ifeq (fun q => by omega) (fun _ => ?_)
    have KT := slot_kd _ hsN
    have r9 : rl w2 709 = dcl 0 tp := by rw [rs_rl h2 row_pass.1.1 (by omega)]; exact rs_l h1
    refine wp_bd (s_takeOver (ok2 _ KT.1) (ok2 _ row_pass.1.1) (by rw [r9, KT.2]; exact hr1)) ?_
    rintro _ w3 h3
    rw [r9] at h3
    refine wp_ret ⟨okall_rs ok2 h3, oc_tr o2 (oc_mono (oc_xin hsN h3) (fun k q => Or.inr (Or.inr (Or.inr (Or.inr q))))), Or.inr (Or.inr ⟨nb, by omega, ⟨r, rfl, hr2⟩, ctx_rs hsN c2 h3, ?_⟩)⟩
    show rl w3 635 = []
    rw [rs_rl h3 tape_kd.1 (by omega)]; exact rs_l h2
  · exact wp_ifeq (fun _ => wp_ret ⟨ok2, o2, Or.inr (Or.inl ⟨nb, hr1, rfl, c2, rs_l h2⟩)⟩) (fun q => by omega)

