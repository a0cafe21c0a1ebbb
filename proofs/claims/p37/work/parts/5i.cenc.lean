/-! ===== encode ===== -/
abbrev nd (x : Int) : Int := if 64 ≤ x then 1 else 0
def enc : Int → List Int → List Int
  | st, [] => if st = 1 then [15] else []
  | st, x :: l => (if nd x = st then [] else [if nd x = 1 then 14 else 15]) ++ ([32 + x - 64 * nd x] ++ enc (nd x) l)
theorem enc_ok : ∀ (l : List Int) (st : Int), (∀ x ∈ l, 0 ≤ x ∧ x ≤ 95) → (enc st l).length ≤ 2 * l.length + 1 ∧ ∀ y ∈ enc st l, 0 ≤ y ∧ y ≤ 255 := by
  intro l
  induction l with
  | nil =>
    intro st _
    unfold enc
    by_cases c : st = 1
    · rw [if_pos c]; refine ⟨by rw [List.length_singleton]; omega, fun y hy => ?_⟩
      rw [List.mem_singleton.mp hy]; omega
    · rw [if_neg c]; exact ⟨Nat.zero_le _, fun y hy => (List.not_mem_nil hy).elim⟩
  | cons x l ih =>
    intro st h
    have hx := h x List.mem_cons_self
    have I := ih (nd x) (fun y hy => h y (List.mem_cons_of_mem _ hy))
    have ln : (if nd x = st then ([] : List Int) else [if nd x = 1 then 14 else 15]).length ≤ 1 := by
      split
      · exact Nat.zero_le _
      · rw [List.length_singleton]; omega
    unfold enc
    refine ⟨?_, fun y hy => ?_⟩
    · rw [List.length_append, List.length_append, List.length_singleton, List.length_cons]; omega
    · rcases List.mem_append.mp hy with q | q
      · split at q
        · exact (List.not_mem_nil q).elim
        · rw [List.mem_singleton.mp q]; split <;> omega
      · rcases List.mem_append.mp q with q | q
        · rw [List.mem_singleton.mp q]; show 0 ≤ 32 + x - 64 * (if 64 ≤ x then 1 else 0) ∧ 32 + x - 64 * (if 64 ≤ x then 1 else 0) ≤ 255
          split <;> omega
        · exact I.2 y q
theorem gt_letter {l : List Int} (h : ∀ x ∈ l, 0 ≤ x ∧ x ≤ 95) {k : Nat} (hk : k < l.length) : 0 ≤ gt l k ∧ gt l k ≤ 95 := by
  rw [gt_nat, List.getD_eq_getElem?_getD, List.getElem?_eq_getElem hk]
  exact h _ (List.getElem_mem _)
def oob (k : Nat) : Prop := k = 637 ∨ k = 638
theorem k_encode {w : Wd} {txt : Nat → List Int} {s : Int32} (ho : okall w) (hx : ctx w txt) (hkx : xok txt) :
    Wp (f_X10_encode s w) (fun r w' => okall w' ∧ oc oob w w' ∧ ((bad_slot s.toInt ∧ r = .inl 1 ∧ w' = w) ∨ (¬ bad_slot s.toInt ∧ (∃ x : Int32, r = .inr x ∧ x.toInt = (enc 0 (txt s.toInt.toNat)).length) ∧ cou w' (enc 0 (txt s.toInt.toNat))))) := by
  have L := LIT
  have e64 : (64 : Int32).toInt = 64 := by decide
  have e32 : (32 : Int32).toInt = 32 := by decide
  have e14 : (14 : Int32).toInt = 14 := by decide
  have e15 : (15 : Int32).toInt = 15 := by decide
  unfold f_X10_encode
  simp only [e_textOf, bdx_c]
  refine wp_if (fun hs => ?_) (fun hs => wp_ret ⟨ho, oc_rf, Or.inl ⟨hs, rfl, rfl⟩⟩)
  have nb : ¬ bad_slot s.toInt := fun q => q hs
  have hsN := slot_lt hs
  have Y := hkx _ hsN
  have K := (slot_kd _ hsN).1
  have hl := hx _ hsN
  generalize txt s.toInt.toNat = l at *
  generalize hq : 623 + 2 * s.toInt.toNat = q at *
  have qn : q ≠ 637 := by omega
  refine wp_bd (s_cut0 (ho _ out_kd.1)) ?_
  rintro _ w0 h0
  unfold f_X10_encode_19
  rw [FUv]
  refine wp_loop (fun σ : Nat × Int32 × Int32 × Wd => σ.1 = q ∧ 0 ≤ σ.2.2.1.toInt ∧ σ.2.2.1.toInt ≤ l.length ∧ ∃ pre : List Int, rs w σ.2.2.2 637 pre ∧ pre.length ≤ 2 * σ.2.2.1.toInt ∧ pre ++ enc σ.2.1.toInt (l.drop σ.2.2.1.toInt.toNat) = enc 0 l)
    (fun σ => (l.length - σ.2.2.1.toInt).toNat) ?_ 100000 _ ⟨rfl, by dsimp only; omega, by dsimp only; omega, [], h0, by dsimp only; rw [List.length_nil]; omega, by dsimp only; rw [L.1]; rfl⟩ (by dsimp only; omega)
  rintro rc ⟨q', st, i, u⟩ ⟨rfl, hi0, hi1, pre, hr, hp, hspec⟩ ih
  dsimp only at *
  have oku := okall_rs ho hr
  have O : ∀ u2 l2, rs w u2 637 l2 → oc oob w u2 := fun u2 l2 h2 => oc_rs h2 (Or.inl rfl) (Or.inr rfl)
  have rlu : rl u q' = l := by rw [rs_rl hr K qn, hl]
  unfold g_X10_encode_19 f_X10_encode_120
  refine wp_bd (s_size (oku _ K)) ?_
  rintro n _ ⟨rfl, hn⟩
  rw [rlu] at hn
  refine wp_ifle (fun z => ?_) (fun z => ?_)
  · rw [List.drop_eq_nil_of_le (show l.length ≤ i.toInt.toNat by omega), enc] at hspec
    refine wp_ifeq (fun c => ?_) (fun c => ?_)
    · rw [if_pos (by omega)] at hspec
      refine wp_bd (s_add (oku _ out_kd.1) (by rw [rs_l hr, out_kd.2]; omega)) ?_
      rintro y u2 ⟨rfl, h2⟩
      rw [rs_l hr, e15, hspec] at h2
      have h3 := rs_tr hr h2
      have ok3 := okall_rs ho h3
      refine wp_bd (s_size (ok3 _ out_kd.1)) ?_
      rintro x _ ⟨rfl, hx2⟩
      rw [rs_l h3] at hx2
      exact wp_ret ⟨ok3, O _ _ h3, Or.inr ⟨nb, ⟨x, rfl, hx2⟩, rs_l h3⟩⟩
    · rw [if_neg (by omega), List.append_nil] at hspec
      rw [hspec] at hr
      refine wp_bd (s_size (oku _ out_kd.1)) ?_
      rintro x _ ⟨rfl, hx2⟩
      rw [rs_l hr] at hx2
      exact wp_ret ⟨oku, O _ _ hr, Or.inr ⟨nb, ⟨x, rfl, hx2⟩, rs_l hr⟩⟩
  · rw [drop_gt (show i.toInt.toNat < l.length by omega), enc] at hspec
    refine wp_bd (s_get (oku _ K)) ?_
    rintro x _ ⟨rfl, hx2⟩
    rw [rlu, show i.toInt = ((i.toInt.toNat : Nat) : Int) by omega] at hx2
    have G := gt_letter Y.2 (show i.toInt.toNat < l.length by omega)
    rw [← hx2] at hspec G
    -- the letter itself, once the state is right
    have put : ∀ (need : Int32) (u2 : Wd) (p2 : List Int), need.toInt = nd x.toInt → rs w u2 637 p2 → p2.length ≤ 2 * i.toInt + 1 → p2 ++ ([32 + x.toInt - 64 * nd x.toInt] ++ enc (nd x.toInt) (l.drop (i.toInt.toNat + 1))) = enc 0 l → ∀ st2 : Int32, st2 = need → Wp (f_X10_encode_80 rc q' st2 i x need u2) (fun r w' => okall w' ∧ oc oob w w' ∧ ((bad_slot s.toInt ∧ r = .inl 1 ∧ w' = w) ∨ (¬ bad_slot s.toInt ∧ (∃ x : Int32, r = .inr x ∧ x.toInt = (enc 0 l).length) ∧ cou w' (enc 0 l)))) := by
      intro need u2 p2 hneed h2 hp2 hsp st2 hst
      have nr : 0 ≤ nd x.toInt ∧ nd x.toInt ≤ 1 := by show 0 ≤ (if 64 ≤ x.toInt then (1 : Int) else 0) ∧ (if 64 ≤ x.toInt then (1 : Int) else 0) ≤ 1; split <;> omega
      unfold f_X10_encode_80
      have ok2 := okall_rs ho h2
      have m : (need * (64 : Int32)).toInt = nd x.toInt * 64 := by rw [i_mul' hneed (by rw [e64]; omega), e64]
      have v : (((32 : Int32) + x) - (need * (64 : Int32))).toInt = 32 + x.toInt - 64 * nd x.toInt := by
        have a : ((32 : Int32) + x).toInt = 32 + x.toInt := by rw [i_add (by omega), e32]
        rw [i_sub (by omega), a, m]; omega
      refine wp_bd (s_add (ok2 _ out_kd.1) (by rw [rs_l h2, out_kd.2]; omega)) ?_
      rintro y u3 ⟨rfl, h3⟩
      rw [rs_l h2, v] at h3
      refine wp_add (by omega) (fun z3 hz3 => ?_)
      refine ih (q', st2, z3, u3) ⟨rfl, by dsimp only; omega, by dsimp only; omega, _, rs_tr h2 h3, by dsimp only; rw [List.length_append, List.length_singleton]; omega, ?_⟩ (by dsimp only; omega)
      dsimp only
      rw [show z3.toInt.toNat = i.toInt.toNat + 1 by omega, hst, hneed, List.append_assoc]
      exact hsp
    have go : ∀ need : Int32, need.toInt = nd x.toInt → Wp (f_X10_encode_48 rc q' st i x need u) (fun r w' => okall w' ∧ oc oob w w' ∧ ((bad_slot s.toInt ∧ r = .inl 1 ∧ w' = w) ∨ (¬ bad_slot s.toInt ∧ (∃ x : Int32, r = .inr x ∧ x.toInt = (enc 0 l).length) ∧ cou w' (enc 0 l)))) := by
      intro need hneed
      unfold f_X10_encode_48 f_X10_encode_73
      refine wp_ifeq (fun c => ?_) (fun c => ?_)
      · rw [if_pos (by omega), List.nil_append] at hspec
        exact put need u pre hneed hr (by omega) hspec st (i_eq.mpr (by omega))
      · rw [if_neg (by omega)] at hspec
        refine wp_ifeq (fun c2 => ?_) (fun c2 => ?_)
        · rw [if_pos (by omega), ← List.append_assoc] at hspec
          refine wp_bd (s_add (oku _ out_kd.1) (by rw [rs_l hr, out_kd.2]; omega)) ?_
          rintro y u2 ⟨rfl, h2⟩
          rw [rs_l hr, e14] at h2
          exact put need u2 _ hneed (rs_tr hr h2) (by rw [List.length_append, List.length_singleton]; omega) hspec need rfl
        · rw [if_neg (by omega), ← List.append_assoc] at hspec
          refine wp_bd (s_add (oku _ out_kd.1) (by rw [rs_l hr, out_kd.2]; omega)) ?_
          rintro y u2 ⟨rfl, h2⟩
          rw [rs_l hr, e15] at h2
          exact put need u2 _ hneed (rs_tr hr h2) (by rw [List.length_append, List.length_singleton]; omega) hspec need rfl
    refine wp_ifle (fun c => go 1 ?_) (fun c => go 0 ?_)
    · show (1 : Int32).toInt = if 64 ≤ x.toInt then 1 else 0
      rw [if_pos (by omega)]; exact L.2.1
    · show (0 : Int32).toInt = if 64 ≤ x.toInt then 1 else 0
      rw [if_neg (by omega)]; exact L.1

