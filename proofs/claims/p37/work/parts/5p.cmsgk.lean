/-! ===== message: the class's own ===== -/
def oms (k : Nat) : Prop := (635 ≤ k ∧ k < 639) ∨ (693 ≤ k ∧ k < 699)
theorem trel_oms {w w' : Wd} {tab : Nat → Int} (hk : tok tab) (h : trel w 1 tab) (o : oc oms w w') : trel w' 1 tab := trel_fr hk h (fun k a b => o.1 k (by unfold oms; omega))
theorem s_tellNumber {w : Wd} {a c : Int32} (ho : okall w) (h3 : (rl w 693).length < 4) (h5 : (rl w 695).length < 4) :
    Wp (f_X4_tellNumber a c w) (fun _ w' => okall w' ∧ oc oms w w' ∧ rl w' 693 = rl w 693 ++ [a.toInt] ∧ rl w' 695 = rl w 695 ++ [c.toInt] ∧ rl w' 697 = rl w 697 ∧ rl w' 635 = rl w 635 ∧ rl w' 637 = rl w 637) := by
  unfold f_X4_tellNumber
  refine wp_bd (s_add (ho _ row_msg.1.1) (by rw [row_msg.1.2]; exact h3)) ?_
  rintro _ w1 ⟨-, h1⟩
  have ok1 := okall_rs ho h1
  refine wp_bd (s_add (ok1 _ row_msg.2.1.1) (by rw [row_msg.2.1.2, rs_rl h1 row_msg.2.1.1 (by omega)]; exact h5)) ?_
  rintro _ w2 ⟨-, h2⟩
  refine wp_ret ⟨okall_rs ok1 h2, oc_tr (oc_rs h1 (by unfold oms; omega) (by unfold oms; omega)) (oc_rs h2 (by unfold oms; omega) (by unfold oms; omega)), ?_, ?_, ?_, ?_, ?_⟩
  · rw [rs_rl h2 row_msg.1.1 (by omega), rs_l h1]
  · rw [rs_l h2, rs_rl h1 row_msg.2.1.1 (by omega)]
  · rw [rs_rl h2 row_msg.2.2.1 (by omega), rs_rl h1 row_msg.2.2.1 (by omega)]
  · rw [rs_rl h2 tape_kd.1 (by omega), rs_rl h1 tape_kd.1 (by omega)]
  · rw [rs_rl h2 out_kd.1 (by omega), rs_rl h1 out_kd.1 (by omega)]
def bad_nums (a b c d : Int) : Prop := ¬ ((0 ≤ a ∧ a ≤ 999999) ∧ (0 ≤ b ∧ b ≤ 999999) ∧ (0 ≤ c ∧ c ≤ 999999) ∧ (0 ≤ d ∧ d ≤ 999999))
theorem four {P : Int → Int → Prop} {a b c d x y z v : Int} (h1 : P a x) (h2 : P b y) (h3 : P c z) (h4 : P d v) : ∀ k : Int, 0 ≤ k → k < 4 → P (gt [a, b, c, d] k) (gt [x, y, z, v] k) := by
  intro k h0 h5
  have c : k = 0 ∨ k = 1 ∨ k = 2 ∨ k = 3 := by omega
  rcases c with rfl | rfl | rfl | rfl
  · exact h1
  · exact h2
  · exact h3
  · exact h4
/-- what the message says -/
def msg (tab : Nat → Int) (n : Nat) (nums tp : List Int) : Option (List Int) := RUN tp nums (fun x => pcl tab n x) 0 [] []
theorem msg_ok {tab : Nat → Int} {n : Nat} {nums tp os : List Int} (h : msg tab n nums tp = some os) : ouok os :=
  run_ok _ _ _ _ _ ⟨Nat.zero_le _, fun x q => (List.not_mem_nil q).elim⟩ h
theorem s_readAll {w : Wd} {tp nums : List Int} {cl : Int → Int} (ho : okall w) (ht : rl w 635 = tp) (hb : tpok tp) (hN : nmc w nums cl) (h7 : rl w 697 = []) (hn : ∀ k : Int, 0 ≤ k → k < 4 → 0 ≤ gt nums k ∧ gt nums k ≤ 999999) :
    Wp (f_X4_readAll w) (fun r w' => ∃ o', rs w w' 697 o' ∧ ((r = 0 ∧ RUN tp nums cl 0 [] [] = none) ∨ (r = 1 ∧ RUN tp nums cl 0 [] [] = some o'))) := by
  have L := LIT
  have t160 := hb.1
  unfold f_X4_readAll fr_X4_readPieces
  have hw : rs w w 697 [] := by rw [← h7]; exact rs_rf (ho _ row_msg.2.2.1)
  refine wp_bd (s_frPieces ho ht hb hN hn 9 0 (by omega) (by omega) (0 : Int32) (0 : Int32) [] [] w hw L.1 rfl (by omega)) ?_
  rintro x w1 ⟨o', h1, hres⟩
  rw [L.1] at hres
  have ok1 := okall_rs ho h1
  have t1 : rl w1 635 = tp := by rw [rs_rl h1 tape_kd.1 (by omega)]; exact ht
  refine wp_bd (s_size (ok1 _ tape_kd.1)) ?_
  rintro n _ ⟨rfl, hnn⟩
  rw [t1] at hnn
  rcases hres with ⟨a1, a2⟩ | ⟨a1, a2, a3, a4⟩
  · exact wp_ifeq (fun q => by omega) (fun _ => wp_ret ⟨o', h1, Or.inl ⟨rfl, a2⟩⟩)
  · refine wp_ifeq (fun q => wp_ret ⟨o', h1, Or.inr ⟨rfl, ?_⟩⟩) (fun q => wp_ret ⟨o', h1, Or.inl ⟨rfl, ?_⟩⟩)
    · rw [a4, RUN_end (by omega), if_pos rfl]
    · rcases a3 with a3 | a3 | a3
      · have := gt_end hb (by omega) a3; omega
      · rw [a4, RUN_step t160 (by omega) (by omega), if_neg (by omega), if_pos a3, if_neg (fun z => z.1 rfl)]
      · rw [a4, RUN_step t160 (by omega) (by omega), if_neg (by omega), if_neg (by omega), if_pos a3, if_neg (fun z => z rfl)]
theorem k_message {w : Wd} {tab : Nat → Int} {tp : List Int} {n a b c d : Int32} (hk : tok tab) (h : trel w 1 tab) (ho : okall w) (ht : cta w tp) (hb : tpok tp) :
    Wp (f_X10_message n a b c d w) (fun r w' => okall w' ∧ trel w' 1 tab ∧ oc oms w w' ∧ ((bad_lang n.toInt ∧ r = .inl 1 ∧ w' = w) ∨ (¬ bad_lang n.toInt ∧ bad_nums a.toInt b.toInt c.toInt d.toInt ∧ r = .inl 2 ∧ w' = w) ∨
      (¬ bad_lang n.toInt ∧ ¬ bad_nums a.toInt b.toInt c.toInt d.toInt ∧ msg tab n.toInt.toNat [a.toInt, b.toInt, c.toInt, d.toInt] tp = none ∧ r = .inl 3 ∧ cta w' [] ∧ rl w' 637 = rl w 637) ∨
      (¬ bad_lang n.toInt ∧ ¬ bad_nums a.toInt b.toInt c.toInt d.toInt ∧ ∃ os, msg tab n.toInt.toNat [a.toInt, b.toInt, c.toInt, d.toInt] tp = some os ∧ (∃ x : Int32, r = .inr x ∧ x.toInt = os.length) ∧ cta w' [] ∧ cou w' os))) := by
  have L := LIT
  unfold f_X10_message f_X10_message_41 f_X10_message_42
  simp only [e_languageOf, e_isNumber, bd_r, ite_zo, bdx_c]
  refine wp_if (fun hn => ?_) (fun hn => wp_ret ⟨ho, h, oc_rf, Or.inl ⟨hn, rfl, rfl⟩⟩)
  have nl : ¬ bad_lang n.toInt := fun q => q hn
  have bad : bad_nums a.toInt b.toInt c.toInt d.toInt → Wp (some (.inl 2, w)) (fun (r : Nat ⊕ Int32) w' => okall w' ∧ trel w' 1 tab ∧ oc oms w w' ∧ ((bad_lang n.toInt ∧ r = .inl 1 ∧ w' = w) ∨ (¬ bad_lang n.toInt ∧ bad_nums a.toInt b.toInt c.toInt d.toInt ∧ r = .inl 2 ∧ w' = w) ∨
      (¬ bad_lang n.toInt ∧ ¬ bad_nums a.toInt b.toInt c.toInt d.toInt ∧ msg tab n.toInt.toNat [a.toInt, b.toInt, c.toInt, d.toInt] tp = none ∧ r = .inl 3 ∧ cta w' [] ∧ rl w' 637 = rl w 637) ∨
      (¬ bad_lang n.toInt ∧ ¬ bad_nums a.toInt b.toInt c.toInt d.toInt ∧ ∃ os, msg tab n.toInt.toNat [a.toInt, b.toInt, c.toInt, d.toInt] tp = some os ∧ (∃ x : Int32, r = .inr x ∧ x.toInt = os.length) ∧ cta w' [] ∧ cou w' os))) :=
    fun q => wp_ret ⟨ho, h, oc_rf, Or.inr (Or.inl ⟨nl, q, rfl, rfl⟩)⟩
  have e0 : f_X10_checkArgument (0 : Int32) = fun w => some (.inl 2, w) := rfl
  have e1 : f_X10_checkArgument (1 : Int32) = fun w => some (.inr (), w) := rfl
  simp only [e0, e1, bdx_l, bdx_r]
  refine wp_if (fun ha => ?_) (fun ha => bad (fun q => ha q.1))
  refine wp_if (fun hb2 => ?_) (fun hb2 => bad (fun q => hb2 q.2.1))
  refine wp_if (fun hc => ?_) (fun hc => bad (fun q => hc q.2.2.1))
  refine wp_if (fun hd => ?_) (fun hd => bad (fun q => hd q.2.2.2))
  have nn : ¬ bad_nums a.toInt b.toInt c.toInt d.toInt := fun q => q ⟨ha, hb2, hc, hd⟩
  have hN2 : n.toInt.toNat < 2 := by omega
  -- the reader begins
  unfold f_X4_begin
  have beg : Wp (bd (f_X7_cutTo 693 (0 : Int32) w) (fun _ w1 => bd (f_X7_cutTo 695 (0 : Int32) w1) (fun _ w2 => bd (f_X7_cutTo 697 (0 : Int32) w2) (fun _ w3 => some ((), w3))))) (fun _ w' => okall w' ∧ oc oms w w' ∧ rl w' 693 = [] ∧ rl w' 695 = [] ∧ rl w' 697 = [] ∧ rl w' 635 = tp ∧ rl w' 637 = rl w 637) := by
    refine wp_bd (s_cut0 (ho _ row_msg.1.1)) ?_
    rintro _ w1 h1
    have ok1 := okall_rs ho h1
    refine wp_bd (s_cut0 (ok1 _ row_msg.2.1.1)) ?_
    rintro _ w2 h2
    have ok2 := okall_rs ok1 h2
    refine wp_bd (s_cut0 (ok2 _ row_msg.2.2.1)) ?_
    rintro _ w3 h3
    refine wp_ret ⟨okall_rs ok2 h3, oc_tr (oc_tr (oc_rs h1 (by unfold oms; omega) (by unfold oms; omega)) (oc_rs h2 (by unfold oms; omega) (by unfold oms; omega))) (oc_rs h3 (by unfold oms; omega) (by unfold oms; omega)), ?_, ?_, rs_l h3, ?_, ?_⟩
    · rw [rs_rl h3 row_msg.1.1 (by omega), rs_rl h2 row_msg.1.1 (by omega), rs_l h1]
    · rw [rs_rl h3 row_msg.2.1.1 (by omega), rs_l h2]
    · rw [rs_rl h3 tape_kd.1 (by omega), rs_rl h2 tape_kd.1 (by omega), rs_rl h1 tape_kd.1 (by omega)]; exact ht
    · rw [rs_rl h3 out_kd.1 (by omega), rs_rl h2 out_kd.1 (by omega), rs_rl h1 out_kd.1 (by omega)]
  refine wp_bd beg ?_
  rintro _ w1 ⟨ok1, o1, a1, b1, c1, t1, u1⟩
  refine wp_bd (s_classFor (v := a) hN2 hk (trel_oms hk h o1) ha.1) ?_
  rintro x1 _ ⟨rfl, hx1⟩
  refine wp_bd (s_tellNumber ok1 (by rw [a1]; exact Nat.zero_lt_succ _) (by rw [b1]; exact Nat.zero_lt_succ _)) ?_
  rintro _ w2 ⟨ok2, o2, a2, b2, c2, t2, u2⟩
  rw [a1] at a2; rw [b1] at b2; rw [c1] at c2; rw [t1] at t2; rw [u1] at u2
  have O2 := oc_tr o1 o2
  refine wp_bd (s_classFor (v := b) hN2 hk (trel_oms hk h O2) hb2.1) ?_
  rintro x2 _ ⟨rfl, hx2⟩
  refine wp_bd (s_tellNumber ok2 (by rw [a2, List.nil_append, List.length_singleton]; omega) (by rw [b2, List.nil_append, List.length_singleton]; omega)) ?_
  rintro _ w3 ⟨ok3, o3, a3, b3, c3, t3, u3⟩
  rw [a2] at a3; rw [b2] at b3; rw [c2] at c3; rw [t2] at t3; rw [u2] at u3
  have O3 := oc_tr O2 o3
  refine wp_bd (s_classFor (v := c) hN2 hk (trel_oms hk h O3) hc.1) ?_
  rintro x3 _ ⟨rfl, hx3⟩
  refine wp_bd (s_tellNumber ok3 (by rw [a3, List.length_append, List.nil_append, List.length_singleton, List.length_singleton]; omega) (by rw [b3, List.length_append, List.nil_append, List.length_singleton, List.length_singleton]; omega)) ?_
  rintro _ w4 ⟨ok4, o4, a4, b4, c4, t4, u4⟩
  rw [a3] at a4; rw [b3] at b4; rw [c3] at c4; rw [t3] at t4; rw [u3] at u4
  have O4 := oc_tr O3 o4
  refine wp_bd (s_classFor (v := d) hN2 hk (trel_oms hk h O4) hd.1) ?_
  rintro x4 _ ⟨rfl, hx4⟩
  refine wp_bd (s_tellNumber ok4 (by rw [a4, List.length_append, List.length_append, List.nil_append, List.length_singleton, List.length_singleton, List.length_singleton]; omega) (by rw [b4, List.length_append, List.length_append, List.nil_append, List.length_singleton, List.length_singleton, List.length_singleton]; omega)) ?_
  rintro _ w5 ⟨ok5, o5, a5, b5, c5, t5, u5⟩
  rw [a4] at a5; rw [b4] at b5; rw [c4] at c5; rw [t4] at t5; rw [u4] at u5
  have O5 := oc_tr O4 o5
  have A5 : rl w5 693 = [a.toInt, b.toInt, c.toInt, d.toInt] := a5
  have B5 : rl w5 695 = [x1.toInt, x2.toInt, x3.toInt, x4.toInt] := b5
  have hN : nmc w5 [a.toInt, b.toInt, c.toInt, d.toInt] (fun x => pcl tab n.toInt.toNat x) := by
    refine ⟨A5, ?_⟩
    rw [B5]
    exact fun k h0 h4 => four (P := fun x y => y = pcl tab n.toInt.toNat x) hx1 hx2 hx3 hx4 k h0 h4
  have hr : ∀ k : Int, 0 ≤ k → k < 4 → 0 ≤ gt [a.toInt, b.toInt, c.toInt, d.toInt] k ∧ gt [a.toInt, b.toInt, c.toInt, d.toInt] k ≤ 999999 := fun k h0 h4 => four (P := fun x _ => 0 ≤ x ∧ x ≤ 999999) (x := 0) (y := 0) (z := 0) (v := 0) ha hb2 hc hd k h0 h4
  refine wp_bd (s_readAll ok5 t5 hb hN c5 hr) ?_
  rintro x w6 ⟨os, h6, hres⟩
  have ok6 := okall_rs ok5 h6
  refine wp_bd (s_cut0 (ok6 _ tape_kd.1)) ?_
  rintro _ w7 h7
  have ok7 := okall_rs ok6 h7
  have O7 := oc_tr O5 (oc_tr (oc_rs h6 (by unfold oms; omega) (by unfold oms; omega)) (oc_rs h7 (by unfold oms; omega) (by unfold oms; omega)))
  have u7 : rl w7 637 = rl w 637 := by rw [rs_rl h7 out_kd.1 (by omega), rs_rl h6 out_kd.1 (by omega), u5]
  have r7 : rl w7 697 = os := by rw [rs_rl h7 row_msg.2.2.1 (by omega)]; exact rs_l h6
  rcases hres with ⟨rfl, hm⟩ | ⟨rfl, hm⟩
  · exact wp_ifeq (fun _ => wp_ret ⟨ok7, trel_oms hk h O7, O7, Or.inr (Or.inr (Or.inl ⟨nl, nn, hm, rfl, rs_l h7, u7⟩))⟩) (fun q => absurd rfl q)
  · refine wp_ifeq (fun q => by omega) (fun _ => ?_)
    unfold f_X4_result
    rw [bd_r]
    have O200 := (msg_ok (tab := tab) (n := n.toInt.toNat) hm).1
    refine wp_bd (s_takeOver (ok7 _ out_kd.1) (ok7 _ row_msg.2.2.1) (by rw [r7, out_kd.2]; exact O200)) ?_
    rintro _ w8 h8
    rw [r7] at h8
    have ok8 := okall_rs ok7 h8
    have O8 := oc_tr O7 (oc_rs h8 (by unfold oms; omega) (by unfold oms; omega))
    refine wp_bd (s_size (ok8 _ out_kd.1)) ?_
    rintro y _ ⟨rfl, hy⟩
    rw [rs_l h8] at hy
    refine wp_ret ⟨ok8, trel_oms hk h O8, O8, Or.inr (Or.inr (Or.inr ⟨nl, nn, os, hm, ⟨y, rfl, hy⟩, ?_, rs_l h8⟩))⟩
    show rl w8 635 = []
    rw [rs_rl h8 tape_kd.1 (by omega)]; exact rs_l h7

