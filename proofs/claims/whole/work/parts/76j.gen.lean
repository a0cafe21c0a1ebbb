/-! LetterTablesModel.forms -/
set_option maxRecDepth 100000 in
set_option maxHeartbeats 4000000 in
theorem tb_X11_forms_44 {D : va_G} {B : Nat} {Y : Nat → ClassId} {p : Program} {l : Launch} {e : Env} {s : State} {m : MethodId} {args : Array Value} {below : List Frame} {meth : Method} {c : Code} {z : (Unit × Wd)} {H : Heap} {locs : List Loc} {ls : Array Slot} {w : Wd} {v2 : Int32} (C : CX D B Y p s m args meth c cX11_forms 3 RX11 none)  {rc_44 : Int32 × Wd → Option (Unit × Wd)} (hr_44 : ∀ (v2 : Int32) (w : Wd), rc_44 (v2, w) = some z → ∀ (H : Heap) (locs : List Loc) (ls : Array Slot), HS D B Y w s H locs → lv_has ls 3 [(0, .ref (B + 713)), (2, .int v2)] → W p l e (RM 3 0 0) s m args below meth c H locs 0 0 (MQ below (QG D B Y none z.2 True) args s 0 0 (AB B)) (F0 m 44 ls []))    (hH : HS D B Y w s H locs) (hl : lv_has ls 3 [(0, .ref (B + 713)), (2, .int v2)]) (hf : g_X11_forms_44 rc_44 v2 w = some z) : W p l e (RM 3 0 0) s m args below meth c H locs 0 0 (MQ below (QG D B Y none z.2 True) args s 0 0 (AB B)) (F0 m 44 ls []) := by
  have hx := C.1
  have hb := C.2.1
  unfold g_X11_forms_44 at hf
  refine lv_iload_n hx hb dX11_forms_44 rfl (lv_at hl 1 rfl) ?_
  refine lv_aload_n hx hb dX11_forms_45 rfl (lv_at hl 0 rfl) ?_
  refine fg_X11_158 C hH dX11_forms_46 ?_
  refine b_icmp_ge (tgt := 75) hx hb hf dX11_forms_49 (by decide) (fun hf => ?_) (fun hf => ?_)
  · refine lv_aload_n hx hb dX11_forms_75 rfl (lv_at hl 0 rfl) ?_
    obtain ⟨u, w1, hc, hf⟩ := bd_some hf
    refine q_callV0 (As := []) C hH (ci := 11) rfl (by omega) gk_X11_175 yd_X11_splitsAll (by omega) (by omega) kc_713 (c_X11_splitsAll hc) hl.1 rfl (Nat.le_of_ble_eq_true rfl) dX11_forms_76 ⟨by decide, by decide⟩ (fun H locs hH hP => ?_)
    cases hf
    exact q_retv C hH trivial dX11_forms_79
  · refine lv_aload_n hx hb dX11_forms_52 rfl (lv_at hl 0 rfl) ?_
    refine fg_X11_28 C hH dX11_forms_53 ?_
    refine lv_iload_n hx hb dX11_forms_56 rfl (lv_at hl 1 rfl) ?_
    refine lv_aload_n hx hb dX11_forms_57 rfl (lv_at hl 0 rfl) ?_
    refine lv_aload_n hx hb dX11_forms_58 rfl (lv_at hl 0 rfl) ?_
    refine fg_X11_28 C hH dX11_forms_59 ?_
    refine lv_iload_n hx hb dX11_forms_62 rfl (lv_at hl 1 rfl) ?_
    refine g_iald C hH kc_720 hf dX11_forms_63 (fun x2 hf => ?_)
    refine lv_iconst (v := (3 : Int32)) hx hb dX11_forms_64 (by decide) ?_
    obtain ⟨x4, w3, hc, hf⟩ := bd_some hf
    refine q_callV1 (v := .int x4) (As := [.int x2, .int (3 : Int32)]) C hH (ci := 11) rfl (by omega) gk_X11_127 yd_X11_of (by omega) (by omega) kc_713 (c_X11_of hc) hl.1 rfl (Nat.le_of_ble_eq_true rfl) dX11_forms_65 ⟨by decide, by decide⟩ (fun H locs hH hP => ?_)
    refine g_iast C hH kc_720 hf dX11_forms_68 (fun w5 H locs hf hH => ?_)
    refine b_let hf (fun x6 he hf => ?_)
    refine lv_iinc (v := x6) (lv' := [(2, .int x6), (0, .ref (B + 713))]) hx hb dX11_forms_69 hl (k := 1) rfl (by rw [← he]; rfl) (by decide) rfl (fun ls hl => ?_)
    refine lv_goto (tgt := 44) hx hb dX11_forms_72 (by decide) ?_
    exact hr_44 x6 w5 hf _ _ _ hH (lv_sub hl [1, 0] rfl)
set_option maxRecDepth 100000 in
set_option maxHeartbeats 4000000 in
theorem t_X11_forms_44 {D : va_G} {B : Nat} {Y : Nat → ClassId} {p : Program} {l : Launch} {e : Env} {s : State} {m : MethodId} {args : Array Value} {below : List Frame} {meth : Method} {c : Code} {z : (Unit × Wd)} {H : Heap} {locs : List Loc} {ls : Array Slot} {w : Wd} {v2 : Int32} (C : CX D B Y p s m args meth c cX11_forms 3 RX11 none)     (hH : HS D B Y w s H locs) (hl : lv_has ls 3 [(0, .ref (B + 713)), (2, .int v2)]) (hf : f_X11_forms_44 v2 w = some z) : W p l e (RM 3 0 0) s m args below meth c H locs 0 0 (MQ below (QG D B Y none z.2 True) args s 0 0 (AB B)) (F0 m 44 ls []) := by
  exact loopN_ind (z := z) (body := fun rc σ => g_X11_forms_44 rc  σ.1 σ.2)
    (P := fun σ => ∀ (H : Heap) (locs : List Loc) (ls : Array Slot), HS D B Y σ.2 s H locs → lv_has ls 3 [(0, .ref (B + 713)), (2, .int σ.1)] → W p l e (RM 3 0 0) s m args below meth c H locs 0 0 (MQ below (QG D B Y none z.2 True) args s 0 0 (AB B)) (F0 m 44 ls []))
    (fun rc hrec σ hf  H locs ls hH hl => tb_X11_forms_44 C (fun v2 w hr  H locs ls hH hl => hrec (v2, w) hr  H locs ls hH hl)   hH hl hf) FU (v2, w) hf  H locs ls hH hl
set_option maxRecDepth 100000 in
set_option maxHeartbeats 4000000 in
theorem t_X11_forms_30 {D : va_G} {B : Nat} {Y : Nat → ClassId} {p : Program} {l : Launch} {e : Env} {s : State} {m : MethodId} {args : Array Value} {below : List Frame} {meth : Method} {c : Code} {z : (Unit × Wd)} {H : Heap} {locs : List Loc} {ls : Array Slot} {w : Wd} {v1 : Int32} (C : CX D B Y p s m args meth c cX11_forms 3 RX11 none)     (hH : HS D B Y w s H locs) (hl : lv_has ls 3 [(0, .ref (B + 713)), (1, .int v1)]) (hf : f_X11_forms_30 v1 w = some z) : W p l e (RM 3 0 0) s m args below meth c H locs 0 0 (MQ below (QG D B Y none z.2 True) args s 0 0 (AB B)) (F0 m 30 ls []) := by
  have hx := C.1
  have hb := C.2.1
  unfold f_X11_forms_30 at hf
  refine lv_iload_n hx hb dX11_forms_30 rfl (lv_at hl 1 rfl) ?_
  refine lv_iconst (v := (3 : Int32)) hx hb dX11_forms_31 (by decide) ?_
  refine b_icmp_ne (tgt := 79) hx hb hf dX11_forms_32 (by decide) (fun hf => ?_) (fun hf => ?_)
  · cases hf
    exact q_retv C hH trivial dX11_forms_79
  · refine lv_aload_n hx hb dX11_forms_35 rfl (lv_at hl 0 rfl) ?_
    refine fg_X11_161 C hH dX11_forms_36 ?_
    refine b_if_ne (tgt := 79) hx hb hf dX11_forms_39 (by decide) (fun hf => ?_) (fun hf => ?_)
    · cases hf
      exact q_retv C hH trivial dX11_forms_79
    · refine lv_iconst (v := (0 : Int32)) hx hb dX11_forms_42 (by decide) ?_
      refine lv_istore_n (lv' := [(2, .int (0 : Int32)), (0, .ref (B + 713)), (1, .int v1)]) hx hb dX11_forms_43 rfl hl (by decide) rfl (fun ls hl => ?_)
      exact t_X11_forms_44 C hH (lv_sub hl [1, 0] rfl) hf
set_option maxRecDepth 100000 in
set_option maxHeartbeats 4000000 in
theorem t_X11_forms_0 {D : va_G} {B : Nat} {Y : Nat → ClassId} {p : Program} {l : Launch} {e : Env} {s : State} {m : MethodId} {args : Array Value} {below : List Frame} {meth : Method} {c : Code} {z : (Unit × Wd)} {H : Heap} {locs : List Loc} {ls : Array Slot} {w : Wd} {v1 : Int32} (C : CX D B Y p s m args meth c cX11_forms 3 RX11 none)     (hH : HS D B Y w s H locs) (hl : lv_has ls 3 [(0, .ref (B + 713)), (1, .int v1)]) (hf : f_X11_forms v1 w = some z) : W p l e (RM 3 0 0) s m args below meth c H locs 0 0 (MQ below (QG D B Y none z.2 True) args s 0 0 (AB B)) (F0 m 0 ls []) := by
  have hx := C.1
  have hb := C.2.1
  unfold f_X11_forms at hf
  refine lv_iload_n hx hb dX11_forms_0 rfl (lv_at hl 1 rfl) ?_
  refine lv_iconst (v := (2 : Int32)) hx hb dX11_forms_1 (by decide) ?_
  refine b_icmp_ne (tgt := 10) hx hb hf dX11_forms_2 (by decide) (fun hf => ?_) (fun hf => ?_)
  · refine lv_aload_n hx hb dX11_forms_10 rfl (lv_at hl 0 rfl) ?_
    obtain ⟨u, w1, hc, hf⟩ := bd_some hf
    refine q_callV0 (As := []) C hH (ci := 11) rfl (by omega) gk_X11_175 yd_X11_splitsAll (by omega) (by omega) kc_713 (c_X11_splitsAll hc) hl.1 rfl (Nat.le_of_ble_eq_true rfl) dX11_forms_11 ⟨by decide, by decide⟩ (fun H locs hH hP => ?_)
    refine lv_iload_n hx hb dX11_forms_14 rfl (lv_at hl 1 rfl) ?_
    refine lv_iconst (v := (1 : Int32)) hx hb dX11_forms_15 (by decide) ?_
    refine b_icmp_ne (tgt := 30) hx hb hf dX11_forms_16 (by decide) (fun hf => ?_) (fun hf => ?_)
    · exact t_X11_forms_30 C hH (lv_sub hl [0, 1] rfl) hf
    · refine lv_aload_n hx hb dX11_forms_19 rfl (lv_at hl 0 rfl) ?_
      refine fg_X11_161 C hH dX11_forms_20 ?_
      refine b_if_ne (tgt := 30) hx hb hf dX11_forms_23 (by decide) (fun hf => ?_) (fun hf => ?_)
      · exact t_X11_forms_30 C hH (lv_sub hl [0, 1] rfl) hf
      · refine lv_aload_n hx hb dX11_forms_26 rfl (lv_at hl 0 rfl) ?_
        obtain ⟨u, w2, hc, hf⟩ := bd_some hf
        refine q_callV0 (As := []) C hH (ci := 11) rfl (by omega) gk_X11_181 yd_X11_joinsAll (by omega) (by omega) kc_713 (c_X11_joinsAll hc) hl.1 rfl (Nat.le_of_ble_eq_true rfl) dX11_forms_27 ⟨by decide, by decide⟩ (fun H locs hH hP => ?_)
        exact t_X11_forms_30 C hH (lv_sub hl [0, 1] rfl) hf
  · refine lv_aload_n hx hb dX11_forms_5 rfl (lv_at hl 0 rfl) ?_
    obtain ⟨u, w3, hc, hf⟩ := bd_some hf
    refine q_callV0 (As := []) C hH (ci := 11) rfl (by omega) gk_X11_178 yd_X11_folds (by omega) (by omega) kc_713 (c_X11_folds hc) hl.1 rfl (Nat.le_of_ble_eq_true rfl) dX11_forms_6 ⟨by decide, by decide⟩ (fun H locs hH hP => ?_)
    cases hf
    exact q_retv C hH trivial dX11_forms_9
set_option maxRecDepth 100000 in
theorem c_X11_forms {l : Launch} {D : va_G} {B : Nat} {Y : Nat → ClassId} {v1 : Int32} {w : Wd} {r : Unit} {w1 : Wd}   (hf : f_X11_forms v1 w = some (r, w1)) : CM l D B Y yX11_forms cX11_forms 3 none 3 [.ref (B + 713), .int v1] w none w1 True :=
  CM_of (by decide +kernel) (Nat.le_of_ble_eq_true rfl) (fun p e s m args below meth c ls C hH hl => t_X11_forms_0 C  hH (lv_sub hl [0, 1] rfl) hf)
/-! LetterTablesModel.formed -/
set_option maxRecDepth 100000 in
set_option maxHeartbeats 4000000 in
theorem t_X11_formed_0 {D : va_G} {B : Nat} {Y : Nat → ClassId} {p : Program} {l : Launch} {e : Env} {s : State} {m : MethodId} {args : Array Value} {below : List Frame} {meth : Method} {c : Code} {z : (Int32 × Wd)} {H : Heap} {locs : List Loc} {ls : Array Slot} {w : Wd} {v1 : Int32} {v2 : Int32} (C : CX D B Y p s m args meth c cX11_formed 3 RX11 (some .boolean))     (hH : HS D B Y w s H locs) (hl : lv_has ls 3 [(0, .ref (B + 713)), (1, .int v1), (2, .int v2)]) (hf : f_X11_formed v1 v2 w = some z) : W p l e (RM 4 0 0) s m args below meth c H locs 0 0 (MQ below (QG D B Y (some (.int z.1)) z.2 (isZ z.1)) args s 0 0 (AB B)) (F0 m 0 ls []) := by
  have hx := C.1
  have hb := C.2.1
  unfold f_X11_formed at hf
  refine lv_aload_n hx hb dX11_formed_0 rfl (lv_at hl 0 rfl) ?_
  refine lv_iload_n hx hb dX11_formed_1 rfl (lv_at hl 1 rfl) ?_
  refine lv_iconst (v := (0 : Int32)) hx hb dX11_formed_2 (by decide) ?_
  refine lv_aload_n hx hb dX11_formed_3 rfl (lv_at hl 0 rfl) ?_
  refine fg_X11_19 C hH dX11_formed_4 ?_
  refine lv_iload_n hx hb dX11_formed_7 rfl (lv_at hl 1 rfl) ?_
  refine g_iald C hH kc_717 hf dX11_formed_8 (fun x1 hf => ?_)
  obtain ⟨u, w2, hc, hf⟩ := bd_some hf
  refine q_callV0 (As := [.int v1, .int (0 : Int32), .int x1]) C hH (ci := 11) rfl (by omega) gk_X11_184 yd_X11_loads (by omega) (by omega) kc_713 (c_X11_loads hc) hl.1 rfl (Nat.le_of_ble_eq_true rfl) dX11_formed_9 ⟨by decide, by decide⟩ (fun H locs hH hP => ?_)
  refine lv_aload_n hx hb dX11_formed_12 rfl (lv_at hl 0 rfl) ?_
  refine lv_iload_n hx hb dX11_formed_13 rfl (lv_at hl 2 rfl) ?_
  obtain ⟨u, w3, hc, hf⟩ := bd_some hf
  refine q_callV0 (As := [.int v2]) C hH (ci := 11) rfl (by omega) gk_X11_187 yd_X11_forms (by omega) (by omega) kc_713 (c_X11_forms hc) hl.1 rfl (Nat.le_of_ble_eq_true rfl) dX11_formed_14 ⟨by decide, by decide⟩ (fun H locs hH hP => ?_)
  refine lv_aload_n hx hb dX11_formed_17 rfl (lv_at hl 0 rfl) ?_
  refine fg_X11_161 C hH dX11_formed_18 ?_
  refine b_if_ne (tgt := 28) hx hb hf dX11_formed_21 (by decide) (fun hf => ?_) (fun hf => ?_)
  · refine lv_iconst (v := (0 : Int32)) hx hb dX11_formed_28 (by decide) ?_
    cases hf
    exact q_retz C hH isZ_0 isZ_0 dX11_formed_29
  · refine lv_iconst (v := (1 : Int32)) hx hb dX11_formed_24 (by decide) ?_
    refine lv_goto (tgt := 29) hx hb dX11_formed_25 (by decide) ?_
    cases hf
    exact q_retz C hH isZ_1 isZ_1 dX11_formed_29
set_option maxRecDepth 100000 in
theorem c_X11_formed {l : Launch} {D : va_G} {B : Nat} {Y : Nat → ClassId} {v1 : Int32} {v2 : Int32} {w : Wd} {r : Int32} {w1 : Wd}   (hf : f_X11_formed v1 v2 w = some (r, w1)) : CM l D B Y yX11_formed cX11_formed 3 (some .boolean) 4 [.ref (B + 713), .int v1, .int v2] w (some (.int r)) w1 (isZ r) :=
  CM_of (by decide +kernel) (Nat.le_of_ble_eq_true rfl) (fun p e s m args below meth c ls C hH hl => t_X11_formed_0 C  hH (lv_sub hl [0, 1, 2] rfl) hf)
/-! LetterTablesModel.form -/
set_option maxRecDepth 100000 in
set_option maxHeartbeats 4000000 in
theorem tb_X11_form_122 {D : va_G} {B : Nat} {Y : Nat → ClassId} {p : Program} {l : Launch} {e : Env} {s : State} {m : MethodId} {args : Array Value} {below : List Frame} {meth : Method} {c : Code} {z : (Int32 × Wd)} {H : Heap} {locs : List Loc} {ls : Array Slot} {w : Wd} {v3 : Int32} {v7 : Int32} (C : CX D B Y p s m args meth c cX11_form 8 RX11 (some .int))  {rc_122 : Int32 × Int32 × Wd → Option (Int32 × Wd)} (hr_122 : ∀ (v3 : Int32) (v7 : Int32) (w : Wd), rc_122 (v3, v7, w) = some z → ∀ (H : Heap) (locs : List Loc) (ls : Array Slot), HS D B Y w s H locs → lv_has ls 8 [(0, .ref (B + 713)), (3, .int v3), (7, .int v7)] → W p l e (RM 5 0 0) s m args below meth c H locs 0 0 (MQ below (QG D B Y (some (.int z.1)) z.2 True) args s 0 0 (AB B)) (F0 m 122 ls []))    (hH : HS D B Y w s H locs) (hl : lv_has ls 8 [(0, .ref (B + 713)), (3, .int v3), (7, .int v7)]) (hf : g_X11_form_122 rc_122 v3 v7 w = some z) : W p l e (RM 5 0 0) s m args below meth c H locs 0 0 (MQ below (QG D B Y (some (.int z.1)) z.2 True) args s 0 0 (AB B)) (F0 m 122 ls []) := by
  have hx := C.1
  have hb := C.2.1
  unfold g_X11_form_122 at hf
  refine lv_iload hx hb dX11_form_122 (lv_at hl 2 rfl) ?_
  refine lv_aload_n hx hb dX11_form_124 rfl (lv_at hl 0 rfl) ?_
  refine fg_X11_158 C hH dX11_form_125 ?_
  refine b_icmp_ge (tgt := 156) hx hb hf dX11_form_128 (by decide) (fun hf => ?_) (fun hf => ?_)
  · refine lv_aload_n hx hb dX11_form_156 rfl (lv_at hl 0 rfl) ?_
    refine fg_X11_158 C hH dX11_form_157 ?_
    cases hf
    exact q_reti C hH trivial dX11_form_160
  · refine lv_aload_n hx hb dX11_form_131 rfl (lv_at hl 0 rfl) ?_
    refine fg_X11_16 C hH dX11_form_132 ?_
    refine lv_bipush (v := (40 : Int32)) hx hb dX11_form_135 (by decide) ?_
    refine lv_iload_n hx hb dX11_form_137 rfl (lv_at hl 1 rfl) ?_
    refine lv_imul hx hb dX11_form_138 ?_
    refine lv_iload hx hb dX11_form_139 (lv_at hl 2 rfl) ?_
    refine lv_iadd hx hb dX11_form_141 ?_
    refine lv_aload_n hx hb dX11_form_142 rfl (lv_at hl 0 rfl) ?_
    refine fg_X11_28 C hH dX11_form_143 ?_
    refine lv_iload hx hb dX11_form_146 (lv_at hl 2 rfl) ?_
    refine g_iald C hH kc_720 hf dX11_form_148 (fun x1 hf => ?_)
    refine g_iast C hH kc_716 hf dX11_form_149 (fun w2 H locs hf hH => ?_)
    refine b_let hf (fun x3 he hf => ?_)
    refine lv_iinc (v := x3) (lv' := [(7, .int x3), (0, .ref (B + 713)), (3, .int v3)]) hx hb dX11_form_150 hl (k := 2) rfl (by rw [← he]; rfl) (by decide) rfl (fun ls hl => ?_)
    refine lv_goto (tgt := 122) hx hb dX11_form_153 (by decide) ?_
    exact hr_122 v3 x3 w2 hf _ _ _ hH (lv_sub hl [1, 2, 0] rfl)
set_option maxRecDepth 100000 in
set_option maxHeartbeats 4000000 in
theorem t_X11_form_122 {D : va_G} {B : Nat} {Y : Nat → ClassId} {p : Program} {l : Launch} {e : Env} {s : State} {m : MethodId} {args : Array Value} {below : List Frame} {meth : Method} {c : Code} {z : (Int32 × Wd)} {H : Heap} {locs : List Loc} {ls : Array Slot} {w : Wd} {v3 : Int32} {v7 : Int32} (C : CX D B Y p s m args meth c cX11_form 8 RX11 (some .int))     (hH : HS D B Y w s H locs) (hl : lv_has ls 8 [(0, .ref (B + 713)), (3, .int v3), (7, .int v7)]) (hf : f_X11_form_122 v3 v7 w = some z) : W p l e (RM 5 0 0) s m args below meth c H locs 0 0 (MQ below (QG D B Y (some (.int z.1)) z.2 True) args s 0 0 (AB B)) (F0 m 122 ls []) := by
  exact loopN_ind (z := z) (body := fun rc σ => g_X11_form_122 rc  σ.1 σ.2.1 σ.2.2)
    (P := fun σ => ∀ (H : Heap) (locs : List Loc) (ls : Array Slot), HS D B Y σ.2.2 s H locs → lv_has ls 8 [(0, .ref (B + 713)), (3, .int σ.1), (7, .int σ.2.1)] → W p l e (RM 5 0 0) s m args below meth c H locs 0 0 (MQ below (QG D B Y (some (.int z.1)) z.2 True) args s 0 0 (AB B)) (F0 m 122 ls []))
    (fun rc hrec σ hf  H locs ls hH hl => tb_X11_form_122 C (fun v3 v7 w hr  H locs ls hH hl => hrec (v3, v7, w) hr  H locs ls hH hl)   hH hl hf) FU (v3, v7, w) hf  H locs ls hH hl
set_option maxRecDepth 100000 in
set_option maxHeartbeats 4000000 in
theorem t_X11_form_101 {D : va_G} {B : Nat} {Y : Nat → ClassId} {p : Program} {l : Launch} {e : Env} {s : State} {m : MethodId} {args : Array Value} {below : List Frame} {meth : Method} {c : Code} {z : (Int32 × Wd)} {H : Heap} {locs : List Loc} {ls : Array Slot} {w : Wd} {v3 : Int32} {t1 : Int32} (C : CX D B Y p s m args meth c cX11_form 8 RX11 (some .int))     (hH : HS D B Y w s H locs) (hl : lv_has ls 8 [(0, .ref (B + 713)), (3, .int v3)]) (hf : f_X11_form_101 v3 t1 w = some z) : W p l e (RM 5 0 0) s m args below meth c H locs 0 0 (MQ below (QG D B Y (some (.int z.1)) z.2 True) args s 0 0 (AB B)) (F0 m 101 ls [.int t1, .ref (B + 713)]) := by
  have hx := C.1
  have hb := C.2.1
  unfold f_X11_form_101 at hf
  obtain ⟨x2, w1, hc, hf⟩ := bd_some hf
  refine q_callV1 (v := .int x2) (As := [.int t1]) C hH (ci := 11) rfl (by omega) gk_X11_118 yd_X11_holds (by omega) (by omega) kc_713 (c_X11_holds hc) hl.1 rfl (Nat.le_of_ble_eq_true rfl) dX11_form_101 ⟨by decide, by decide⟩ (fun H locs hH z_x2 => ?_)
  refine b_if_ne (tgt := 109) hx hb hf dX11_form_104 (by decide) (fun hf => ?_) (fun hf => ?_)
  · refine lv_aload_n hx hb dX11_form_109 rfl (lv_at hl 0 rfl) ?_
    refine fg_X11_19 C hH dX11_form_110 ?_
    refine lv_iload_n hx hb dX11_form_113 rfl (lv_at hl 1 rfl) ?_
    refine lv_aload_n hx hb dX11_form_114 rfl (lv_at hl 0 rfl) ?_
    refine fg_X11_158 C hH dX11_form_115 ?_
    refine g_iast C hH kc_717 hf dX11_form_118 (fun w3 H locs hf hH => ?_)
    refine lv_iconst (v := (0 : Int32)) hx hb dX11_form_119 (by decide) ?_
    refine lv_istore (lv' := [(7, .int (0 : Int32)), (0, .ref (B + 713)), (3, .int v3)]) hx hb dX11_form_120 hl (by decide) rfl (fun ls hl => ?_)
    exact t_X11_form_122 C hH (lv_sub hl [1, 2, 0] rfl) hf
  · refine lv_iconst (v := (0 : Int32)) hx hb dX11_form_107 (by decide) ?_
    cases hf
    exact q_reti C hH trivial dX11_form_108
set_option maxRecDepth 100000 in
set_option maxHeartbeats 4000000 in
theorem t_X11_form_70 {D : va_G} {B : Nat} {Y : Nat → ClassId} {p : Program} {l : Launch} {e : Env} {s : State} {m : MethodId} {args : Array Value} {below : List Frame} {meth : Method} {c : Code} {z : (Int32 × Wd)} {H : Heap} {locs : List Loc} {ls : Array Slot} {w : Wd} {v3 : Int32} {v4 : Int32} {v5 : Int32} {t0 : Int32} (C : CX D B Y p s m args meth c cX11_form 8 RX11 (some .int))    (z_v4 : isZ v4) (z_v5 : isZ v5) (z_t0 : isZ t0) (hH : HS D B Y w s H locs) (hl : lv_has ls 8 [(0, .ref (B + 713)), (3, .int v3), (4, .int v4), (5, .int v5)]) (hf : f_X11_form_70 v3 v4 v5 t0 w = some z) : W p l e (RM 5 0 0) s m args below meth c H locs 0 0 (MQ below (QG D B Y (some (.int z.1)) z.2 True) args s 0 0 (AB B)) (F0 m 70 ls [.int t0]) := by
  have hx := C.1
  have hb := C.2.1
  unfold f_X11_form_70 at hf
  refine lv_istore (lv' := [(6, .int t0), (0, .ref (B + 713)), (3, .int v3), (4, .int v4), (5, .int v5)]) hx hb dX11_form_70 hl (by decide) rfl (fun ls hl => ?_)
  refine lv_aload_n hx hb dX11_form_72 rfl (lv_at hl 1 rfl) ?_
  refine lv_iload hx hb dX11_form_73 (lv_at hl 3 rfl) ?_
  refine b_if_ne (tgt := 82) hx hb hf dX11_form_75 (by decide) (fun hf => ?_) (fun hf => ?_)
  · refine lv_iload hx hb dX11_form_82 (lv_at hl 4 rfl) ?_
    refine b_if_ne (tgt := 91) hx hb hf dX11_form_84 (by decide) (fun hf => ?_) (fun hf => ?_)
    · refine lv_iload hx hb dX11_form_91 (lv_at hl 0 rfl) ?_
      refine b_if_eq (tgt := 100) hx hb hf dX11_form_93 (by decide) (fun hf => ?_) (fun hf => ?_)
      · refine lv_iconst (v := (3 : Int32)) hx hb dX11_form_100 (by decide) ?_
        exact t_X11_form_101 C hH (lv_sub hl [1, 2] rfl) hf
      · refine lv_iconst (v := (0 : Int32)) hx hb dX11_form_96 (by decide) ?_
        refine lv_goto (tgt := 101) hx hb dX11_form_97 (by decide) ?_
        exact t_X11_form_101 C hH (lv_sub hl [1, 2] rfl) hf
    · refine lv_iconst (v := (2 : Int32)) hx hb dX11_form_87 (by decide) ?_
      refine lv_goto (tgt := 101) hx hb dX11_form_88 (by decide) ?_
      exact t_X11_form_101 C hH (lv_sub hl [1, 2] rfl) hf
  · refine lv_iconst (v := (1 : Int32)) hx hb dX11_form_78 (by decide) ?_
    refine lv_goto (tgt := 101) hx hb dX11_form_79 (by decide) ?_
    exact t_X11_form_101 C hH (lv_sub hl [1, 2] rfl) hf
set_option maxRecDepth 100000 in
set_option maxHeartbeats 4000000 in
theorem t_X11_form_69 {D : va_G} {B : Nat} {Y : Nat → ClassId} {p : Program} {l : Launch} {e : Env} {s : State} {m : MethodId} {args : Array Value} {below : List Frame} {meth : Method} {c : Code} {z : (Int32 × Wd)} {H : Heap} {locs : List Loc} {ls : Array Slot} {w : Wd} {v3 : Int32} {v4 : Int32} {v5 : Int32} (C : CX D B Y p s m args meth c cX11_form 8 RX11 (some .int))    (z_v4 : isZ v4) (z_v5 : isZ v5) (hH : HS D B Y w s H locs) (hl : lv_has ls 8 [(0, .ref (B + 713)), (3, .int v3), (4, .int v4), (5, .int v5)]) (hf : f_X11_form_69 v3 v4 v5 w = some z) : W p l e (RM 5 0 0) s m args below meth c H locs 0 0 (MQ below (QG D B Y (some (.int z.1)) z.2 True) args s 0 0 (AB B)) (F0 m 69 ls []) := by
  have hx := C.1
  have hb := C.2.1
  unfold f_X11_form_69 at hf
  refine lv_iconst (v := (0 : Int32)) hx hb dX11_form_69 (by decide) ?_
  exact t_X11_form_70 C z_v4 z_v5 isZ_0 hH (lv_sub hl [0, 1, 2, 3] rfl) hf
set_option maxRecDepth 100000 in
set_option maxHeartbeats 4000000 in
theorem t_X11_form_40 {D : va_G} {B : Nat} {Y : Nat → ClassId} {p : Program} {l : Launch} {e : Env} {s : State} {m : MethodId} {args : Array Value} {below : List Frame} {meth : Method} {c : Code} {z : (Int32 × Wd)} {H : Heap} {locs : List Loc} {ls : Array Slot} {w : Wd} {v1 : Int32} {v2 : Int32} {v3 : Int32} {v4 : Int32} {t0 : Int32} (C : CX D B Y p s m args meth c cX11_form 8 RX11 (some .int))    (z_v4 : isZ v4) (z_t0 : isZ t0) (hH : HS D B Y w s H locs) (hl : lv_has ls 8 [(0, .ref (B + 713)), (1, .int v1), (2, .int v2), (3, .int v3), (4, .int v4)]) (hf : f_X11_form_40 v1 v2 v3 v4 t0 w = some z) : W p l e (RM 5 0 0) s m args below meth c H locs 0 0 (MQ below (QG D B Y (some (.int z.1)) z.2 True) args s 0 0 (AB B)) (F0 m 40 ls [.int t0]) := by
  have hx := C.1
  have hb := C.2.1
  unfold f_X11_form_40 at hf
  refine lv_istore (lv' := [(5, .int t0), (0, .ref (B + 713)), (1, .int v1), (2, .int v2), (3, .int v3), (4, .int v4)]) hx hb dX11_form_40 hl (by decide) rfl (fun ls hl => ?_)
  refine lv_iload hx hb dX11_form_42 (lv_at hl 0 rfl) ?_
  refine b_if_eq (tgt := 69) hx hb hf dX11_form_44 (by decide) (fun hf => ?_) (fun hf => ?_)
  · exact t_X11_form_69 C z_v4 z_t0 hH (lv_sub hl [1, 4, 5, 0] rfl) hf
  · refine lv_aload_n hx hb dX11_form_47 rfl (lv_at hl 1 rfl) ?_
    refine lv_iload_n hx hb dX11_form_48 rfl (lv_at hl 2 rfl) ?_
    refine lv_iload_n hx hb dX11_form_49 rfl (lv_at hl 3 rfl) ?_
    obtain ⟨x2, w1, hc, hf⟩ := bd_some hf
    refine q_callV1 (v := .int x2) (As := [.int v1, .int v2]) C hH (ci := 11) rfl (by omega) gk_X11_190 yd_X11_formed (by omega) (by omega) kc_713 (c_X11_formed hc) hl.1 rfl (Nat.le_of_ble_eq_true rfl) dX11_form_50 ⟨by decide, by decide⟩ (fun H locs hH z_x2 => ?_)
    refine b_if_eq (tgt := 69) hx hb hf dX11_form_53 (by decide) (fun hf => ?_) (fun hf => ?_)
    · exact t_X11_form_69 C z_v4 z_t0 hH (lv_sub hl [1, 4, 5, 0] rfl) hf
    · refine lv_aload_n hx hb dX11_form_56 rfl (lv_at hl 1 rfl) ?_
      refine fg_X11_158 C hH dX11_form_57 ?_
      refine lv_bipush (v := (40 : Int32)) hx hb dX11_form_60 (by decide) ?_
      refine b_icmp_gt (tgt := 69) hx hb hf dX11_form_62 (by decide) (fun hf => ?_) (fun hf => ?_)
      · exact t_X11_form_69 C z_v4 z_t0 hH (lv_sub hl [1, 4, 5, 0] rfl) hf
      · refine lv_iconst (v := (1 : Int32)) hx hb dX11_form_65 (by decide) ?_
        refine lv_goto (tgt := 70) hx hb dX11_form_66 (by decide) ?_
        exact t_X11_form_70 C z_v4 z_t0 isZ_1 hH (lv_sub hl [1, 4, 5, 0] rfl) hf
set_option maxRecDepth 100000 in
set_option maxHeartbeats 4000000 in
theorem t_X11_form_39 {D : va_G} {B : Nat} {Y : Nat → ClassId} {p : Program} {l : Launch} {e : Env} {s : State} {m : MethodId} {args : Array Value} {below : List Frame} {meth : Method} {c : Code} {z : (Int32 × Wd)} {H : Heap} {locs : List Loc} {ls : Array Slot} {w : Wd} {v1 : Int32} {v2 : Int32} {v3 : Int32} {v4 : Int32} (C : CX D B Y p s m args meth c cX11_form 8 RX11 (some .int))    (z_v4 : isZ v4) (hH : HS D B Y w s H locs) (hl : lv_has ls 8 [(0, .ref (B + 713)), (1, .int v1), (2, .int v2), (3, .int v3), (4, .int v4)]) (hf : f_X11_form_39 v1 v2 v3 v4 w = some z) : W p l e (RM 5 0 0) s m args below meth c H locs 0 0 (MQ below (QG D B Y (some (.int z.1)) z.2 True) args s 0 0 (AB B)) (F0 m 39 ls []) := by
  have hx := C.1
  have hb := C.2.1
  unfold f_X11_form_39 at hf
  refine lv_iconst (v := (0 : Int32)) hx hb dX11_form_39 (by decide) ?_
  exact t_X11_form_40 C z_v4 isZ_0 hH (lv_sub hl [0, 1, 2, 3, 4] rfl) hf
set_option maxRecDepth 100000 in
set_option maxHeartbeats 4000000 in
theorem t_X11_form_19 {D : va_G} {B : Nat} {Y : Nat → ClassId} {p : Program} {l : Launch} {e : Env} {s : State} {m : MethodId} {args : Array Value} {below : List Frame} {meth : Method} {c : Code} {z : (Int32 × Wd)} {H : Heap} {locs : List Loc} {ls : Array Slot} {w : Wd} {v1 : Int32} {v2 : Int32} {v3 : Int32} {t0 : Int32} (C : CX D B Y p s m args meth c cX11_form 8 RX11 (some .int))    (z_t0 : isZ t0) (hH : HS D B Y w s H locs) (hl : lv_has ls 8 [(0, .ref (B + 713)), (1, .int v1), (2, .int v2), (3, .int v3)]) (hf : f_X11_form_19 v1 v2 v3 t0 w = some z) : W p l e (RM 5 0 0) s m args below meth c H locs 0 0 (MQ below (QG D B Y (some (.int z.1)) z.2 True) args s 0 0 (AB B)) (F0 m 19 ls [.int t0]) := by
  have hx := C.1
  have hb := C.2.1
  unfold f_X11_form_19 at hf
  refine lv_istore (lv' := [(4, .int t0), (0, .ref (B + 713)), (1, .int v1), (2, .int v2), (3, .int v3)]) hx hb dX11_form_19 hl (by decide) rfl (fun ls hl => ?_)
  refine lv_iload hx hb dX11_form_21 (lv_at hl 0 rfl) ?_
  refine b_if_eq (tgt := 39) hx hb hf dX11_form_23 (by decide) (fun hf => ?_) (fun hf => ?_)
  · exact t_X11_form_39 C z_t0 hH (lv_sub hl [1, 2, 3, 4, 0] rfl) hf
  · refine lv_iload_n hx hb dX11_form_26 rfl (lv_at hl 3 rfl) ?_
    refine lv_iconst (v := (0 : Int32)) hx hb dX11_form_27 (by decide) ?_
    refine lv_iconst (v := (3 : Int32)) hx hb dX11_form_28 (by decide) ?_
    obtain ⟨x2, w1, hc, hf⟩ := bd_some hf
    refine q_callS1 (v := .int x2) (As := [.int v2, .int (0 : Int32), .int (3 : Int32)]) C hH gk_X11_111 yd_X11_in (by omega) (by omega) (c_X11_in hc) hl.1 rfl (Nat.le_of_ble_eq_true rfl) dX11_form_29 ⟨by decide, by decide⟩ (fun H locs hH z_x2 => ?_)
    refine b_if_eq (tgt := 39) hx hb hf dX11_form_32 (by decide) (fun hf => ?_) (fun hf => ?_)
    · exact t_X11_form_39 C z_t0 hH (lv_sub hl [1, 2, 3, 4, 0] rfl) hf
    · refine lv_iconst (v := (1 : Int32)) hx hb dX11_form_35 (by decide) ?_
      refine lv_goto (tgt := 40) hx hb dX11_form_36 (by decide) ?_
      exact t_X11_form_40 C z_t0 isZ_1 hH (lv_sub hl [1, 2, 3, 4, 0] rfl) hf
set_option maxRecDepth 100000 in
set_option maxHeartbeats 4000000 in
theorem t_X11_form_18 {D : va_G} {B : Nat} {Y : Nat → ClassId} {p : Program} {l : Launch} {e : Env} {s : State} {m : MethodId} {args : Array Value} {below : List Frame} {meth : Method} {c : Code} {z : (Int32 × Wd)} {H : Heap} {locs : List Loc} {ls : Array Slot} {w : Wd} {v1 : Int32} {v2 : Int32} {v3 : Int32} (C : CX D B Y p s m args meth c cX11_form 8 RX11 (some .int))     (hH : HS D B Y w s H locs) (hl : lv_has ls 8 [(0, .ref (B + 713)), (1, .int v1), (2, .int v2), (3, .int v3)]) (hf : f_X11_form_18 v1 v2 v3 w = some z) : W p l e (RM 5 0 0) s m args below meth c H locs 0 0 (MQ below (QG D B Y (some (.int z.1)) z.2 True) args s 0 0 (AB B)) (F0 m 18 ls []) := by
  have hx := C.1
  have hb := C.2.1
  unfold f_X11_form_18 at hf
  refine lv_iconst (v := (0 : Int32)) hx hb dX11_form_18 (by decide) ?_
  exact t_X11_form_19 C isZ_0 hH (lv_sub hl [0, 1, 2, 3] rfl) hf
set_option maxRecDepth 100000 in
set_option maxHeartbeats 4000000 in
theorem t_X11_form_0 {D : va_G} {B : Nat} {Y : Nat → ClassId} {p : Program} {l : Launch} {e : Env} {s : State} {m : MethodId} {args : Array Value} {below : List Frame} {meth : Method} {c : Code} {z : (Int32 × Wd)} {H : Heap} {locs : List Loc} {ls : Array Slot} {w : Wd} {v1 : Int32} {v2 : Int32} {v3 : Int32} (C : CX D B Y p s m args meth c cX11_form 8 RX11 (some .int))     (hH : HS D B Y w s H locs) (hl : lv_has ls 8 [(0, .ref (B + 713)), (1, .int v1), (2, .int v2), (3, .int v3)]) (hf : f_X11_form v1 v2 v3 w = some z) : W p l e (RM 5 0 0) s m args below meth c H locs 0 0 (MQ below (QG D B Y (some (.int z.1)) z.2 True) args s 0 0 (AB B)) (F0 m 0 ls []) := by
  have hx := C.1
  have hb := C.2.1
  unfold f_X11_form at hf
  refine lv_iload_n hx hb dX11_form_0 rfl (lv_at hl 1 rfl) ?_
  obtain ⟨x2, w1, hc, hf⟩ := bd_some hf
  refine q_callS1 (v := .int x2) (As := [.int v1]) C hH gk_X11_145 yd_X11_isSlot (by omega) (by omega) (c_X11_isSlot hc) hl.1 rfl (Nat.le_of_ble_eq_true rfl) dX11_form_1 ⟨by decide, by decide⟩ (fun H locs hH z_x2 => ?_)
  refine b_if_eq (tgt := 18) hx hb hf dX11_form_4 (by decide) (fun hf => ?_) (fun hf => ?_)
  · exact t_X11_form_18 C hH (lv_sub hl [0, 1, 2, 3] rfl) hf
  · refine lv_iload_n hx hb dX11_form_7 rfl (lv_at hl 3 rfl) ?_
    obtain ⟨x4, w3, hc, hf⟩ := bd_some hf
    refine q_callS1 (v := .int x4) (As := [.int v3]) C hH gk_X11_145 yd_X11_isSlot (by omega) (by omega) (c_X11_isSlot hc) hl.1 rfl (Nat.le_of_ble_eq_true rfl) dX11_form_8 ⟨by decide, by decide⟩ (fun H locs hH z_x4 => ?_)
    refine b_if_eq (tgt := 18) hx hb hf dX11_form_11 (by decide) (fun hf => ?_) (fun hf => ?_)
    · exact t_X11_form_18 C hH (lv_sub hl [0, 1, 2, 3] rfl) hf
    · refine lv_iconst (v := (1 : Int32)) hx hb dX11_form_14 (by decide) ?_
      refine lv_goto (tgt := 19) hx hb dX11_form_15 (by decide) ?_
      exact t_X11_form_19 C isZ_1 hH (lv_sub hl [0, 1, 2, 3] rfl) hf
set_option maxRecDepth 100000 in
theorem c_X11_form {l : Launch} {D : va_G} {B : Nat} {Y : Nat → ClassId} {v1 : Int32} {v2 : Int32} {v3 : Int32} {w : Wd} {r : Int32} {w1 : Wd}   (hf : f_X11_form v1 v2 v3 w = some (r, w1)) : CM l D B Y yX11_form cX11_form 8 (some .int) 5 [.ref (B + 713), .int v1, .int v2, .int v3] w (some (.int r)) w1 True :=
  CM_of (by decide +kernel) (Nat.le_of_ble_eq_true rfl) (fun p e s m args below meth c ls C hH hl => t_X11_form_0 C  hH (lv_sub hl [0, 1, 2, 3] rfl) hf)
/-! LetterTablesModel.putsAside -/
set_option maxRecDepth 100000 in
set_option maxHeartbeats 4000000 in
theorem tb_X11_putsAside_10 {D : va_G} {B : Nat} {Y : Nat → ClassId} {p : Program} {l : Launch} {e : Env} {s : State} {m : MethodId} {args : Array Value} {below : List Frame} {meth : Method} {c : Code} {z : (Unit × Wd)} {H : Heap} {locs : List Loc} {ls : Array Slot} {w : Wd} {v1 : Int32} (C : CX D B Y p s m args meth c cX11_putsAside 2 RX11 none)  {rc_10 : Int32 × Wd → Option (Unit × Wd)} (hr_10 : ∀ (v1 : Int32) (w : Wd), rc_10 (v1, w) = some z → ∀ (H : Heap) (locs : List Loc) (ls : Array Slot), HS D B Y w s H locs → lv_has ls 2 [(0, .ref (B + 713)), (1, .int v1)] → W p l e (RM 0 0 0) s m args below meth c H locs 0 0 (MQ below (QG D B Y none z.2 True) args s 0 0 (AB B)) (F0 m 10 ls []))    (hH : HS D B Y w s H locs) (hl : lv_has ls 2 [(0, .ref (B + 713)), (1, .int v1)]) (hf : g_X11_putsAside_10 rc_10 v1 w = some z) : W p l e (RM 0 0 0) s m args below meth c H locs 0 0 (MQ below (QG D B Y none z.2 True) args s 0 0 (AB B)) (F0 m 10 ls []) := by
  have hx := C.1
  have hb := C.2.1
  unfold g_X11_putsAside_10 at hf
  refine lv_iload_n hx hb dX11_putsAside_10 rfl (lv_at hl 1 rfl) ?_
  refine lv_aload_n hx hb dX11_putsAside_11 rfl (lv_at hl 0 rfl) ?_
  refine fg_X11_158 C hH dX11_putsAside_12 ?_
  refine b_icmp_ge (tgt := 36) hx hb hf dX11_putsAside_15 (by decide) (fun hf => ?_) (fun hf => ?_)
  · cases hf
    exact q_retv C hH trivial dX11_putsAside_36
  · refine lv_aload_n hx hb dX11_putsAside_18 rfl (lv_at hl 0 rfl) ?_
    refine fg_X11_31 C hH dX11_putsAside_19 ?_
    refine lv_iload_n hx hb dX11_putsAside_22 rfl (lv_at hl 1 rfl) ?_
    refine lv_aload_n hx hb dX11_putsAside_23 rfl (lv_at hl 0 rfl) ?_
    refine fg_X11_28 C hH dX11_putsAside_24 ?_
    refine lv_iload_n hx hb dX11_putsAside_27 rfl (lv_at hl 1 rfl) ?_
    refine g_iald C hH kc_720 hf dX11_putsAside_28 (fun x1 hf => ?_)
    refine g_iast C hH kc_721 hf dX11_putsAside_29 (fun w2 H locs hf hH => ?_)
    refine b_let hf (fun x3 he hf => ?_)
    refine lv_iinc (v := x3) (lv' := [(1, .int x3), (0, .ref (B + 713))]) hx hb dX11_putsAside_30 hl (k := 1) rfl (by rw [← he]; rfl) (by decide) rfl (fun ls hl => ?_)
    refine lv_goto (tgt := 10) hx hb dX11_putsAside_33 (by decide) ?_
    exact hr_10 x3 w2 hf _ _ _ hH (lv_sub hl [1, 0] rfl)
set_option maxRecDepth 100000 in
set_option maxHeartbeats 4000000 in
theorem t_X11_putsAside_10 {D : va_G} {B : Nat} {Y : Nat → ClassId} {p : Program} {l : Launch} {e : Env} {s : State} {m : MethodId} {args : Array Value} {below : List Frame} {meth : Method} {c : Code} {z : (Unit × Wd)} {H : Heap} {locs : List Loc} {ls : Array Slot} {w : Wd} {v1 : Int32} (C : CX D B Y p s m args meth c cX11_putsAside 2 RX11 none)     (hH : HS D B Y w s H locs) (hl : lv_has ls 2 [(0, .ref (B + 713)), (1, .int v1)]) (hf : f_X11_putsAside_10 v1 w = some z) : W p l e (RM 0 0 0) s m args below meth c H locs 0 0 (MQ below (QG D B Y none z.2 True) args s 0 0 (AB B)) (F0 m 10 ls []) := by
  exact loopN_ind (z := z) (body := fun rc σ => g_X11_putsAside_10 rc  σ.1 σ.2)
    (P := fun σ => ∀ (H : Heap) (locs : List Loc) (ls : Array Slot), HS D B Y σ.2 s H locs → lv_has ls 2 [(0, .ref (B + 713)), (1, .int σ.1)] → W p l e (RM 0 0 0) s m args below meth c H locs 0 0 (MQ below (QG D B Y none z.2 True) args s 0 0 (AB B)) (F0 m 10 ls []))
    (fun rc hrec σ hf  H locs ls hH hl => tb_X11_putsAside_10 C (fun v1 w hr  H locs ls hH hl => hrec (v1, w) hr  H locs ls hH hl)   hH hl hf) FU (v1, w) hf  H locs ls hH hl
set_option maxRecDepth 100000 in
set_option maxHeartbeats 4000000 in
theorem t_X11_putsAside_0 {D : va_G} {B : Nat} {Y : Nat → ClassId} {p : Program} {l : Launch} {e : Env} {s : State} {m : MethodId} {args : Array Value} {below : List Frame} {meth : Method} {c : Code} {z : (Unit × Wd)} {H : Heap} {locs : List Loc} {ls : Array Slot} {w : Wd}  (C : CX D B Y p s m args meth c cX11_putsAside 2 RX11 none)     (hH : HS D B Y w s H locs) (hl : lv_has ls 2 [(0, .ref (B + 713))]) (hf : f_X11_putsAside w = some z) : W p l e (RM 0 0 0) s m args below meth c H locs 0 0 (MQ below (QG D B Y none z.2 True) args s 0 0 (AB B)) (F0 m 0 ls []) := by
  have hx := C.1
  have hb := C.2.1
  unfold f_X11_putsAside at hf
  refine lv_aload_n hx hb dX11_putsAside_0 rfl (lv_at hl 0 rfl) ?_
  refine lv_aload_n hx hb dX11_putsAside_1 rfl (lv_at hl 0 rfl) ?_
  refine fg_X11_158 C hH dX11_putsAside_2 ?_
  refine fp_X11_194 C hH dX11_putsAside_5 (fun H locs hH => ?_)
  refine b_w hf hH (fun w1 hf hH => ?_)
  refine lv_iconst (v := (0 : Int32)) hx hb dX11_putsAside_8 (by decide) ?_
  refine lv_istore_n (lv' := [(1, .int (0 : Int32)), (0, .ref (B + 713))]) hx hb dX11_putsAside_9 rfl hl (by decide) rfl (fun ls hl => ?_)
  exact t_X11_putsAside_10 C hH (lv_sub hl [1, 0] rfl) hf
set_option maxRecDepth 100000 in
theorem c_X11_putsAside {l : Launch} {D : va_G} {B : Nat} {Y : Nat → ClassId}  {w : Wd} {r : Unit} {w1 : Wd}   (hf : f_X11_putsAside w = some (r, w1)) : CM l D B Y yX11_putsAside cX11_putsAside 2 none 0 [.ref (B + 713)] w none w1 True :=
  CM_of (by decide +kernel) (Nat.le_of_ble_eq_true rfl) (fun p e s m args below meth c ls C hH hl => t_X11_putsAside_0 C  hH (lv_sub hl [0] rfl) hf)
/-! LetterTablesModel.isAside -/
set_option maxRecDepth 100000 in
set_option maxHeartbeats 4000000 in
theorem tb_X11_isAside_19 {D : va_G} {B : Nat} {Y : Nat → ClassId} {p : Program} {l : Launch} {e : Env} {s : State} {m : MethodId} {args : Array Value} {below : List Frame} {meth : Method} {c : Code} {z : (Int32 × Wd)} {H : Heap} {locs : List Loc} {ls : Array Slot} {w : Wd} {v1 : Int32} {v2 : Int32} (C : CX D B Y p s m args meth c cX11_isAside 3 RX11 (some .boolean))  {rc_19 : Int32 × Int32 × Wd → Option (Int32 × Wd)} (hr_19 : ∀ (v1 : Int32) (v2 : Int32) (w : Wd), rc_19 (v1, v2, w) = some z → isZ v1 → ∀ (H : Heap) (locs : List Loc) (ls : Array Slot), HS D B Y w s H locs → lv_has ls 3 [(0, .ref (B + 713)), (1, .int v1), (2, .int v2)] → W p l e (RM 0 0 0) s m args below meth c H locs 0 0 (MQ below (QG D B Y (some (.int z.1)) z.2 (isZ z.1)) args s 0 0 (AB B)) (F0 m 19 ls []))   (z_v1 : isZ v1) (hH : HS D B Y w s H locs) (hl : lv_has ls 3 [(0, .ref (B + 713)), (1, .int v1), (2, .int v2)]) (hf : g_X11_isAside_19 rc_19 v1 v2 w = some z) : W p l e (RM 0 0 0) s m args below meth c H locs 0 0 (MQ below (QG D B Y (some (.int z.1)) z.2 (isZ z.1)) args s 0 0 (AB B)) (F0 m 19 ls []) := by
  have hx := C.1
  have hb := C.2.1
  unfold g_X11_isAside_19 at hf
  refine lv_iload_n hx hb dX11_isAside_19 rfl (lv_at hl 2 rfl) ?_
  refine lv_aload_n hx hb dX11_isAside_20 rfl (lv_at hl 0 rfl) ?_
  refine fg_X11_158 C hH dX11_isAside_21 ?_
  refine b_icmp_ge (tgt := 58) hx hb hf dX11_isAside_24 (by decide) (fun hf => ?_) (fun hf => ?_)
  · refine lv_iload_n hx hb dX11_isAside_58 rfl (lv_at hl 1 rfl) ?_
    cases hf
    exact q_retz C hH z_v1 z_v1 dX11_isAside_59
  · refine lv_iload_n hx hb dX11_isAside_27 rfl (lv_at hl 1 rfl) ?_
    refine b_if_eq (tgt := 58) hx hb hf dX11_isAside_28 (by decide) (fun hf => ?_) (fun hf => ?_)
    · refine lv_iload_n hx hb dX11_isAside_58 rfl (lv_at hl 1 rfl) ?_
      cases hf
      exact q_retz C hH z_v1 z_v1 dX11_isAside_59
    · refine lv_aload_n hx hb dX11_isAside_31 rfl (lv_at hl 0 rfl) ?_
      refine fg_X11_28 C hH dX11_isAside_32 ?_
      refine lv_iload_n hx hb dX11_isAside_35 rfl (lv_at hl 2 rfl) ?_
      refine g_iald C hH kc_720 hf dX11_isAside_36 (fun x1 hf => ?_)
      refine lv_aload_n hx hb dX11_isAside_37 rfl (lv_at hl 0 rfl) ?_
      refine fg_X11_31 C hH dX11_isAside_38 ?_
      refine lv_iload_n hx hb dX11_isAside_41 rfl (lv_at hl 2 rfl) ?_
      refine g_iald C hH kc_721 hf dX11_isAside_42 (fun x2 hf => ?_)
      refine b_icmp_ne (tgt := 50) hx hb hf dX11_isAside_43 (by decide) (fun hf => ?_) (fun hf => ?_)
      · refine lv_iconst (v := (0 : Int32)) hx hb dX11_isAside_50 (by decide) ?_
        refine lv_istore_n (lv' := [(1, .int (0 : Int32)), (0, .ref (B + 713)), (2, .int v2)]) hx hb dX11_isAside_51 rfl hl (by decide) rfl (fun ls hl => ?_)
        refine b_let hf (fun x3 he hf => ?_)
        refine lv_iinc (v := x3) (lv' := [(2, .int x3), (1, .int (0 : Int32)), (0, .ref (B + 713))]) hx hb dX11_isAside_52 hl (k := 2) rfl (by rw [← he]; rfl) (by decide) rfl (fun ls hl => ?_)
        refine lv_goto (tgt := 19) hx hb dX11_isAside_55 (by decide) ?_
        exact hr_19 (0 : Int32) x3 w hf isZ_0 _ _ _ hH (lv_sub hl [2, 1, 0] rfl)
      · refine lv_iconst (v := (1 : Int32)) hx hb dX11_isAside_46 (by decide) ?_
        refine lv_goto (tgt := 51) hx hb dX11_isAside_47 (by decide) ?_
        refine lv_istore_n (lv' := [(1, .int (1 : Int32)), (0, .ref (B + 713)), (2, .int v2)]) hx hb dX11_isAside_51 rfl hl (by decide) rfl (fun ls hl => ?_)
        refine b_let hf (fun x4 he hf => ?_)
        refine lv_iinc (v := x4) (lv' := [(2, .int x4), (1, .int (1 : Int32)), (0, .ref (B + 713))]) hx hb dX11_isAside_52 hl (k := 2) rfl (by rw [← he]; rfl) (by decide) rfl (fun ls hl => ?_)
        refine lv_goto (tgt := 19) hx hb dX11_isAside_55 (by decide) ?_
        exact hr_19 (1 : Int32) x4 w hf isZ_1 _ _ _ hH (lv_sub hl [2, 1, 0] rfl)
set_option maxRecDepth 100000 in
set_option maxHeartbeats 4000000 in
theorem t_X11_isAside_19 {D : va_G} {B : Nat} {Y : Nat → ClassId} {p : Program} {l : Launch} {e : Env} {s : State} {m : MethodId} {args : Array Value} {below : List Frame} {meth : Method} {c : Code} {z : (Int32 × Wd)} {H : Heap} {locs : List Loc} {ls : Array Slot} {w : Wd} {v1 : Int32} {v2 : Int32} (C : CX D B Y p s m args meth c cX11_isAside 3 RX11 (some .boolean))    (z_v1 : isZ v1) (hH : HS D B Y w s H locs) (hl : lv_has ls 3 [(0, .ref (B + 713)), (1, .int v1), (2, .int v2)]) (hf : f_X11_isAside_19 v1 v2 w = some z) : W p l e (RM 0 0 0) s m args below meth c H locs 0 0 (MQ below (QG D B Y (some (.int z.1)) z.2 (isZ z.1)) args s 0 0 (AB B)) (F0 m 19 ls []) := by
  exact loopN_ind (z := z) (body := fun rc σ => g_X11_isAside_19 rc  σ.1 σ.2.1 σ.2.2)
    (P := fun σ => isZ σ.1 → ∀ (H : Heap) (locs : List Loc) (ls : Array Slot), HS D B Y σ.2.2 s H locs → lv_has ls 3 [(0, .ref (B + 713)), (1, .int σ.1), (2, .int σ.2.1)] → W p l e (RM 0 0 0) s m args below meth c H locs 0 0 (MQ below (QG D B Y (some (.int z.1)) z.2 (isZ z.1)) args s 0 0 (AB B)) (F0 m 19 ls []))
    (fun rc hrec σ hf z_v1 H locs ls hH hl => tb_X11_isAside_19 C (fun v1 v2 w hr z_v1 H locs ls hH hl => hrec (v1, v2, w) hr z_v1 H locs ls hH hl)  z_v1 hH hl hf) FU (v1, v2, w) hf z_v1 H locs ls hH hl
set_option maxRecDepth 100000 in
set_option maxHeartbeats 4000000 in
theorem t_X11_isAside_16 {D : va_G} {B : Nat} {Y : Nat → ClassId} {p : Program} {l : Launch} {e : Env} {s : State} {m : MethodId} {args : Array Value} {below : List Frame} {meth : Method} {c : Code} {z : (Int32 × Wd)} {H : Heap} {locs : List Loc} {ls : Array Slot} {w : Wd} {t0 : Int32} (C : CX D B Y p s m args meth c cX11_isAside 3 RX11 (some .boolean))    (z_t0 : isZ t0) (hH : HS D B Y w s H locs) (hl : lv_has ls 3 [(0, .ref (B + 713))]) (hf : f_X11_isAside_16 t0 w = some z) : W p l e (RM 0 0 0) s m args below meth c H locs 0 0 (MQ below (QG D B Y (some (.int z.1)) z.2 (isZ z.1)) args s 0 0 (AB B)) (F0 m 16 ls [.int t0]) := by
  have hx := C.1
  have hb := C.2.1
  unfold f_X11_isAside_16 at hf
  refine lv_istore_n (lv' := [(1, .int t0), (0, .ref (B + 713))]) hx hb dX11_isAside_16 rfl hl (by decide) rfl (fun ls hl => ?_)
  refine lv_iconst (v := (0 : Int32)) hx hb dX11_isAside_17 (by decide) ?_
  refine lv_istore_n (lv' := [(2, .int (0 : Int32)), (1, .int t0), (0, .ref (B + 713))]) hx hb dX11_isAside_18 rfl hl (by decide) rfl (fun ls hl => ?_)
  exact t_X11_isAside_19 C z_t0 hH (lv_sub hl [2, 1, 0] rfl) hf
set_option maxRecDepth 100000 in
set_option maxHeartbeats 4000000 in
theorem t_X11_isAside_0 {D : va_G} {B : Nat} {Y : Nat → ClassId} {p : Program} {l : Launch} {e : Env} {s : State} {m : MethodId} {args : Array Value} {below : List Frame} {meth : Method} {c : Code} {z : (Int32 × Wd)} {H : Heap} {locs : List Loc} {ls : Array Slot} {w : Wd}  (C : CX D B Y p s m args meth c cX11_isAside 3 RX11 (some .boolean))     (hH : HS D B Y w s H locs) (hl : lv_has ls 3 [(0, .ref (B + 713))]) (hf : f_X11_isAside w = some z) : W p l e (RM 0 0 0) s m args below meth c H locs 0 0 (MQ below (QG D B Y (some (.int z.1)) z.2 (isZ z.1)) args s 0 0 (AB B)) (F0 m 0 ls []) := by
  have hx := C.1
  have hb := C.2.1
  unfold f_X11_isAside at hf
  refine lv_aload_n hx hb dX11_isAside_0 rfl (lv_at hl 0 rfl) ?_
  refine fg_X11_194 C hH dX11_isAside_1 ?_
  refine lv_aload_n hx hb dX11_isAside_4 rfl (lv_at hl 0 rfl) ?_
  refine fg_X11_158 C hH dX11_isAside_5 ?_
  refine b_icmp_ne (tgt := 15) hx hb hf dX11_isAside_8 (by decide) (fun hf => ?_) (fun hf => ?_)
  · refine lv_iconst (v := (0 : Int32)) hx hb dX11_isAside_15 (by decide) ?_
    exact t_X11_isAside_16 C isZ_0 hH (lv_sub hl [0] rfl) hf
  · refine lv_iconst (v := (1 : Int32)) hx hb dX11_isAside_11 (by decide) ?_
    refine lv_goto (tgt := 16) hx hb dX11_isAside_12 (by decide) ?_
    exact t_X11_isAside_16 C isZ_1 hH (lv_sub hl [0] rfl) hf
set_option maxRecDepth 100000 in
theorem c_X11_isAside {l : Launch} {D : va_G} {B : Nat} {Y : Nat → ClassId}  {w : Wd} {r : Int32} {w1 : Wd}   (hf : f_X11_isAside w = some (r, w1)) : CM l D B Y yX11_isAside cX11_isAside 3 (some .boolean) 0 [.ref (B + 713)] w (some (.int r)) w1 (isZ r) :=
  CM_of (by decide +kernel) (Nat.le_of_ble_eq_true rfl) (fun p e s m args below meth c ls C hH hl => t_X11_isAside_0 C  hH (lv_sub hl [0] rfl) hf)
/-! LetterTablesModel.looksLike -/
set_option maxRecDepth 100000 in
set_option maxHeartbeats 4000000 in
theorem t_X11_looksLike_76 {D : va_G} {B : Nat} {Y : Nat → ClassId} {p : Program} {l : Launch} {e : Env} {s : State} {m : MethodId} {args : Array Value} {below : List Frame} {meth : Method} {c : Code} {z : (Int32 × Wd)} {H : Heap} {locs : List Loc} {ls : Array Slot} {w : Wd} {t1 : Int32} (C : CX D B Y p s m args meth c cX11_looksLike 5 RX11 (some .boolean))     (hH : HS D B Y w s H locs) (hl : lv_has ls 5 [(0, .ref (B + 713))]) (hf : f_X11_looksLike_76 t1 w = some z) : W p l e (RM 5 0 0) s m args below meth c H locs 0 0 (MQ below (QG D B Y (some (.int z.1)) z.2 (isZ z.1)) args s 0 0 (AB B)) (F0 m 76 ls [.int t1, .ref (B + 713)]) := by
  have hx := C.1
  have hb := C.2.1
  unfold f_X11_looksLike_76 at hf
  obtain ⟨x2, w1, hc, hf⟩ := bd_some hf
  refine q_callV1 (v := .int x2) (As := [.int t1]) C hH (ci := 11) rfl (by omega) gk_X11_118 yd_X11_holds (by omega) (by omega) kc_713 (c_X11_holds hc) hl.1 rfl (Nat.le_of_ble_eq_true rfl) dX11_looksLike_76 ⟨by decide, by decide⟩ (fun H locs hH z_x2 => ?_)
  refine b_if_eq (tgt := 93) hx hb hf dX11_looksLike_79 (by decide) (fun hf => ?_) (fun hf => ?_)
  · refine lv_iconst (v := (0 : Int32)) hx hb dX11_looksLike_93 (by decide) ?_
    cases hf
    exact q_retz C hH isZ_0 isZ_0 dX11_looksLike_94
  · refine lv_aload_n hx hb dX11_looksLike_82 rfl (lv_at hl 0 rfl) ?_
    obtain ⟨x4, w3, hc, hf⟩ := bd_some hf
    refine q_callV1 (v := .int x4) (As := []) C hH (ci := 11) rfl (by omega) gk_X11_200 yd_X11_isAside (by omega) (by omega) kc_713 (c_X11_isAside hc) hl.1 rfl (Nat.le_of_ble_eq_true rfl) dX11_looksLike_83 ⟨by decide, by decide⟩ (fun H locs hH z_x4 => ?_)
    refine b_if_eq (tgt := 93) hx hb hf dX11_looksLike_86 (by decide) (fun hf => ?_) (fun hf => ?_)
    · refine lv_iconst (v := (0 : Int32)) hx hb dX11_looksLike_93 (by decide) ?_
      cases hf
      exact q_retz C hH isZ_0 isZ_0 dX11_looksLike_94
    · refine lv_iconst (v := (1 : Int32)) hx hb dX11_looksLike_89 (by decide) ?_
      refine lv_goto (tgt := 94) hx hb dX11_looksLike_90 (by decide) ?_
      cases hf
      exact q_retz C hH isZ_1 isZ_1 dX11_looksLike_94
set_option maxRecDepth 100000 in
set_option maxHeartbeats 4000000 in
theorem t_X11_looksLike_57 {D : va_G} {B : Nat} {Y : Nat → ClassId} {p : Program} {l : Launch} {e : Env} {s : State} {m : MethodId} {args : Array Value} {below : List Frame} {meth : Method} {c : Code} {z : (Int32 × Wd)} {H : Heap} {locs : List Loc} {ls : Array Slot} {w : Wd} {v3 : Int32} {v4 : Int32} (C : CX D B Y p s m args meth c cX11_looksLike 5 RX11 (some .boolean))    (z_v3 : isZ v3) (z_v4 : isZ v4) (hH : HS D B Y w s H locs) (hl : lv_has ls 5 [(0, .ref (B + 713)), (3, .int v3), (4, .int v4)]) (hf : f_X11_looksLike_57 v3 v4 w = some z) : W p l e (RM 5 0 0) s m args below meth c H locs 0 0 (MQ below (QG D B Y (some (.int z.1)) z.2 (isZ z.1)) args s 0 0 (AB B)) (F0 m 57 ls []) := by
  have hx := C.1
  have hb := C.2.1
  unfold f_X11_looksLike_57 at hf
  refine lv_aload_n hx hb dX11_looksLike_57 rfl (lv_at hl 0 rfl) ?_
  refine lv_iload_n hx hb dX11_looksLike_58 rfl (lv_at hl 1 rfl) ?_
  refine b_if_ne (tgt := 66) hx hb hf dX11_looksLike_59 (by decide) (fun hf => ?_) (fun hf => ?_)
  · refine lv_iload hx hb dX11_looksLike_66 (lv_at hl 2 rfl) ?_
    refine b_if_eq (tgt := 75) hx hb hf dX11_looksLike_68 (by decide) (fun hf => ?_) (fun hf => ?_)
    · refine lv_iconst (v := (2 : Int32)) hx hb dX11_looksLike_75 (by decide) ?_
      exact t_X11_looksLike_76 C hH (lv_sub hl [0] rfl) hf
    · refine lv_iconst (v := (0 : Int32)) hx hb dX11_looksLike_71 (by decide) ?_
      refine lv_goto (tgt := 76) hx hb dX11_looksLike_72 (by decide) ?_
      exact t_X11_looksLike_76 C hH (lv_sub hl [0] rfl) hf
  · refine lv_iconst (v := (1 : Int32)) hx hb dX11_looksLike_62 (by decide) ?_
    refine lv_goto (tgt := 76) hx hb dX11_looksLike_63 (by decide) ?_
    exact t_X11_looksLike_76 C hH (lv_sub hl [0] rfl) hf
set_option maxRecDepth 100000 in
set_option maxHeartbeats 4000000 in
theorem t_X11_looksLike_38 {D : va_G} {B : Nat} {Y : Nat → ClassId} {p : Program} {l : Launch} {e : Env} {s : State} {m : MethodId} {args : Array Value} {below : List Frame} {meth : Method} {c : Code} {z : (Int32 × Wd)} {H : Heap} {locs : List Loc} {ls : Array Slot} {w : Wd} {v2 : Int32} {v3 : Int32} {t0 : Int32} (C : CX D B Y p s m args meth c cX11_looksLike 5 RX11 (some .boolean))    (z_v3 : isZ v3) (z_t0 : isZ t0) (hH : HS D B Y w s H locs) (hl : lv_has ls 5 [(0, .ref (B + 713)), (2, .int v2), (3, .int v3)]) (hf : f_X11_looksLike_38 v2 v3 t0 w = some z) : W p l e (RM 5 0 0) s m args below meth c H locs 0 0 (MQ below (QG D B Y (some (.int z.1)) z.2 (isZ z.1)) args s 0 0 (AB B)) (F0 m 38 ls [.int t0]) := by
  have hx := C.1
  have hb := C.2.1
  unfold f_X11_looksLike_38 at hf
  refine lv_istore (lv' := [(4, .int t0), (0, .ref (B + 713)), (2, .int v2), (3, .int v3)]) hx hb dX11_looksLike_38 hl (by decide) rfl (fun ls hl => ?_)
  refine lv_iload hx hb dX11_looksLike_40 (lv_at hl 0 rfl) ?_
  refine b_if_eq (tgt := 57) hx hb hf dX11_looksLike_42 (by decide) (fun hf => ?_) (fun hf => ?_)
  · exact t_X11_looksLike_57 C z_v3 z_t0 hH (lv_sub hl [1, 3, 0] rfl) hf
  · refine lv_aload_n hx hb dX11_looksLike_45 rfl (lv_at hl 1 rfl) ?_
    obtain ⟨u, w1, hc, hf⟩ := bd_some hf
    refine q_callV0 (As := []) C hH (ci := 11) rfl (by omega) gk_X11_197 yd_X11_putsAside (by omega) (by omega) kc_713 (c_X11_putsAside hc) hl.1 rfl (Nat.le_of_ble_eq_true rfl) dX11_looksLike_46 ⟨by decide, by decide⟩ (fun H locs hH hP => ?_)
    refine lv_aload_n hx hb dX11_looksLike_49 rfl (lv_at hl 1 rfl) ?_
    refine lv_iload_n hx hb dX11_looksLike_50 rfl (lv_at hl 2 rfl) ?_
    refine lv_iconst (v := (3 : Int32)) hx hb dX11_looksLike_51 (by decide) ?_
    obtain ⟨x3, w2, hc, hf⟩ := bd_some hf
    refine q_callV1 (v := .int x3) (As := [.int v2, .int (3 : Int32)]) C hH (ci := 11) rfl (by omega) gk_X11_190 yd_X11_formed (by omega) (by omega) kc_713 (c_X11_formed hc) hl.1 rfl (Nat.le_of_ble_eq_true rfl) dX11_looksLike_52 ⟨by decide, by decide⟩ (fun H locs hH z_x3 => ?_)
    refine lv_istore (lv' := [(4, .int x3), (0, .ref (B + 713)), (2, .int v2), (3, .int v3)]) hx hb dX11_looksLike_55 hl (by decide) rfl (fun ls hl => ?_)
    exact t_X11_looksLike_57 C z_v3 z_x3 hH (lv_sub hl [1, 3, 0] rfl) hf
set_option maxRecDepth 100000 in
set_option maxHeartbeats 4000000 in
theorem t_X11_looksLike_37 {D : va_G} {B : Nat} {Y : Nat → ClassId} {p : Program} {l : Launch} {e : Env} {s : State} {m : MethodId} {args : Array Value} {below : List Frame} {meth : Method} {c : Code} {z : (Int32 × Wd)} {H : Heap} {locs : List Loc} {ls : Array Slot} {w : Wd} {v2 : Int32} {v3 : Int32} (C : CX D B Y p s m args meth c cX11_looksLike 5 RX11 (some .boolean))    (z_v3 : isZ v3) (hH : HS D B Y w s H locs) (hl : lv_has ls 5 [(0, .ref (B + 713)), (2, .int v2), (3, .int v3)]) (hf : f_X11_looksLike_37 v2 v3 w = some z) : W p l e (RM 5 0 0) s m args below meth c H locs 0 0 (MQ below (QG D B Y (some (.int z.1)) z.2 (isZ z.1)) args s 0 0 (AB B)) (F0 m 37 ls []) := by
  have hx := C.1
  have hb := C.2.1
  unfold f_X11_looksLike_37 at hf
  refine lv_iconst (v := (0 : Int32)) hx hb dX11_looksLike_37 (by decide) ?_
  exact t_X11_looksLike_38 C z_v3 isZ_0 hH (lv_sub hl [0, 1, 2] rfl) hf
set_option maxRecDepth 100000 in
set_option maxHeartbeats 4000000 in
theorem t_X11_looksLike_19 {D : va_G} {B : Nat} {Y : Nat → ClassId} {p : Program} {l : Launch} {e : Env} {s : State} {m : MethodId} {args : Array Value} {below : List Frame} {meth : Method} {c : Code} {z : (Int32 × Wd)} {H : Heap} {locs : List Loc} {ls : Array Slot} {w : Wd} {v1 : Int32} {v2 : Int32} {t0 : Int32} (C : CX D B Y p s m args meth c cX11_looksLike 5 RX11 (some .boolean))    (z_t0 : isZ t0) (hH : HS D B Y w s H locs) (hl : lv_has ls 5 [(0, .ref (B + 713)), (1, .int v1), (2, .int v2)]) (hf : f_X11_looksLike_19 v1 v2 t0 w = some z) : W p l e (RM 5 0 0) s m args below meth c H locs 0 0 (MQ below (QG D B Y (some (.int z.1)) z.2 (isZ z.1)) args s 0 0 (AB B)) (F0 m 19 ls [.int t0]) := by
  have hx := C.1
  have hb := C.2.1
  unfold f_X11_looksLike_19 at hf
  refine lv_istore_n (lv' := [(3, .int t0), (0, .ref (B + 713)), (1, .int v1), (2, .int v2)]) hx hb dX11_looksLike_19 rfl hl (by decide) rfl (fun ls hl => ?_)
  refine lv_iload_n hx hb dX11_looksLike_20 rfl (lv_at hl 0 rfl) ?_
  refine b_if_eq (tgt := 37) hx hb hf dX11_looksLike_21 (by decide) (fun hf => ?_) (fun hf => ?_)
  · exact t_X11_looksLike_37 C z_t0 hH (lv_sub hl [1, 3, 0] rfl) hf
  · refine lv_aload_n hx hb dX11_looksLike_24 rfl (lv_at hl 1 rfl) ?_
    refine lv_iload_n hx hb dX11_looksLike_25 rfl (lv_at hl 2 rfl) ?_
    refine lv_iconst (v := (3 : Int32)) hx hb dX11_looksLike_26 (by decide) ?_
    obtain ⟨x2, w1, hc, hf⟩ := bd_some hf
    refine q_callV1 (v := .int x2) (As := [.int v1, .int (3 : Int32)]) C hH (ci := 11) rfl (by omega) gk_X11_190 yd_X11_formed (by omega) (by omega) kc_713 (c_X11_formed hc) hl.1 rfl (Nat.le_of_ble_eq_true rfl) dX11_looksLike_27 ⟨by decide, by decide⟩ (fun H locs hH z_x2 => ?_)
    refine b_if_eq (tgt := 37) hx hb hf dX11_looksLike_30 (by decide) (fun hf => ?_) (fun hf => ?_)
    · exact t_X11_looksLike_37 C z_t0 hH (lv_sub hl [1, 3, 0] rfl) hf
    · refine lv_iconst (v := (1 : Int32)) hx hb dX11_looksLike_33 (by decide) ?_
      refine lv_goto (tgt := 38) hx hb dX11_looksLike_34 (by decide) ?_
      exact t_X11_looksLike_38 C z_t0 isZ_1 hH (lv_sub hl [1, 3, 0] rfl) hf
set_option maxRecDepth 100000 in
set_option maxHeartbeats 4000000 in
theorem t_X11_looksLike_18 {D : va_G} {B : Nat} {Y : Nat → ClassId} {p : Program} {l : Launch} {e : Env} {s : State} {m : MethodId} {args : Array Value} {below : List Frame} {meth : Method} {c : Code} {z : (Int32 × Wd)} {H : Heap} {locs : List Loc} {ls : Array Slot} {w : Wd} {v1 : Int32} {v2 : Int32} (C : CX D B Y p s m args meth c cX11_looksLike 5 RX11 (some .boolean))     (hH : HS D B Y w s H locs) (hl : lv_has ls 5 [(0, .ref (B + 713)), (1, .int v1), (2, .int v2)]) (hf : f_X11_looksLike_18 v1 v2 w = some z) : W p l e (RM 5 0 0) s m args below meth c H locs 0 0 (MQ below (QG D B Y (some (.int z.1)) z.2 (isZ z.1)) args s 0 0 (AB B)) (F0 m 18 ls []) := by
  have hx := C.1
  have hb := C.2.1
  unfold f_X11_looksLike_18 at hf
  refine lv_iconst (v := (0 : Int32)) hx hb dX11_looksLike_18 (by decide) ?_
  exact t_X11_looksLike_19 C isZ_0 hH (lv_sub hl [0, 1, 2] rfl) hf
set_option maxRecDepth 100000 in
set_option maxHeartbeats 4000000 in
theorem t_X11_looksLike_0 {D : va_G} {B : Nat} {Y : Nat → ClassId} {p : Program} {l : Launch} {e : Env} {s : State} {m : MethodId} {args : Array Value} {below : List Frame} {meth : Method} {c : Code} {z : (Int32 × Wd)} {H : Heap} {locs : List Loc} {ls : Array Slot} {w : Wd} {v1 : Int32} {v2 : Int32} (C : CX D B Y p s m args meth c cX11_looksLike 5 RX11 (some .boolean))     (hH : HS D B Y w s H locs) (hl : lv_has ls 5 [(0, .ref (B + 713)), (1, .int v1), (2, .int v2)]) (hf : f_X11_looksLike v1 v2 w = some z) : W p l e (RM 5 0 0) s m args below meth c H locs 0 0 (MQ below (QG D B Y (some (.int z.1)) z.2 (isZ z.1)) args s 0 0 (AB B)) (F0 m 0 ls []) := by
  have hx := C.1
  have hb := C.2.1
  unfold f_X11_looksLike at hf
  refine lv_iload_n hx hb dX11_looksLike_0 rfl (lv_at hl 1 rfl) ?_
  obtain ⟨x2, w1, hc, hf⟩ := bd_some hf
  refine q_callS1 (v := .int x2) (As := [.int v1]) C hH gk_X11_145 yd_X11_isSlot (by omega) (by omega) (c_X11_isSlot hc) hl.1 rfl (Nat.le_of_ble_eq_true rfl) dX11_looksLike_1 ⟨by decide, by decide⟩ (fun H locs hH z_x2 => ?_)
  refine b_if_eq (tgt := 18) hx hb hf dX11_looksLike_4 (by decide) (fun hf => ?_) (fun hf => ?_)
  · exact t_X11_looksLike_18 C hH (lv_sub hl [0, 1, 2] rfl) hf
  · refine lv_iload_n hx hb dX11_looksLike_7 rfl (lv_at hl 2 rfl) ?_
    obtain ⟨x4, w3, hc, hf⟩ := bd_some hf
    refine q_callS1 (v := .int x4) (As := [.int v2]) C hH gk_X11_145 yd_X11_isSlot (by omega) (by omega) (c_X11_isSlot hc) hl.1 rfl (Nat.le_of_ble_eq_true rfl) dX11_looksLike_8 ⟨by decide, by decide⟩ (fun H locs hH z_x4 => ?_)
    refine b_if_eq (tgt := 18) hx hb hf dX11_looksLike_11 (by decide) (fun hf => ?_) (fun hf => ?_)
    · exact t_X11_looksLike_18 C hH (lv_sub hl [0, 1, 2] rfl) hf
    · refine lv_iconst (v := (1 : Int32)) hx hb dX11_looksLike_14 (by decide) ?_
      refine lv_goto (tgt := 19) hx hb dX11_looksLike_15 (by decide) ?_
      exact t_X11_looksLike_19 C isZ_1 hH (lv_sub hl [0, 1, 2] rfl) hf
set_option maxRecDepth 100000 in
theorem c_X11_looksLike {l : Launch} {D : va_G} {B : Nat} {Y : Nat → ClassId} {v1 : Int32} {v2 : Int32} {w : Wd} {r : Int32} {w1 : Wd}   (hf : f_X11_looksLike v1 v2 w = some (r, w1)) : CM l D B Y yX11_looksLike cX11_looksLike 5 (some .boolean) 5 [.ref (B + 713), .int v1, .int v2] w (some (.int r)) w1 (isZ r) :=
  CM_of (by decide +kernel) (Nat.le_of_ble_eq_true rfl) (fun p e s m args below meth c ls C hH hl => t_X11_looksLike_0 C  hH (lv_sub hl [0, 1, 2] rfl) hf)
/-! LetterTablesModel.directionAt -/
set_option maxRecDepth 100000 in
set_option maxHeartbeats 4000000 in
theorem t_X11_directionAt_0 {D : va_G} {B : Nat} {Y : Nat → ClassId} {p : Program} {l : Launch} {e : Env} {s : State} {m : MethodId} {args : Array Value} {below : List Frame} {meth : Method} {c : Code} {z : (Int32 × Wd)} {H : Heap} {locs : List Loc} {ls : Array Slot} {w : Wd} {v1 : Int32} {v2 : Int32} (C : CX D B Y p s m args meth c cX11_directionAt 3 RX11 (some .int))     (hH : HS D B Y w s H locs) (hl : lv_has ls 3 [(0, .ref (B + 713)), (1, .int v1), (2, .int v2)]) (hf : f_X11_directionAt v1 v2 w = some z) : W p l e (RM 1 0 0) s m args below meth c H locs 0 0 (MQ below (QG D B Y (some (.int z.1)) z.2 True) args s 0 0 (AB B)) (F0 m 0 ls []) := by
  have hx := C.1
  have hb := C.2.1
  unfold f_X11_directionAt at hf
  refine lv_aload_n hx hb dX11_directionAt_0 rfl (lv_at hl 0 rfl) ?_
  refine lv_aload_n hx hb dX11_directionAt_1 rfl (lv_at hl 0 rfl) ?_
  refine lv_iload_n hx hb dX11_directionAt_2 rfl (lv_at hl 1 rfl) ?_
  refine lv_iload_n hx hb dX11_directionAt_3 rfl (lv_at hl 2 rfl) ?_
  obtain ⟨x2, w1, hc, hf⟩ := bd_some hf
  refine q_callV1 (v := .int x2) (As := [.int v1, .int v2]) C hH (ci := 11) rfl (by omega) gk_X11_148 yd_X11_letterAt (by omega) (by omega) kc_713 (c_X11_letterAt hc) hl.1 rfl (Nat.le_of_ble_eq_true rfl) dX11_directionAt_4 ⟨by decide, by decide⟩ (fun H locs hH hP => ?_)
  refine lv_iconst (v := (1 : Int32)) hx hb dX11_directionAt_7 (by decide) ?_
  obtain ⟨x4, w3, hc, hf⟩ := bd_some hf
  refine q_callV1 (v := .int x4) (As := [.int x2, .int (1 : Int32)]) C hH (ci := 11) rfl (by omega) gk_X11_127 yd_X11_of (by omega) (by omega) kc_713 (c_X11_of hc) hl.1 rfl (Nat.le_of_ble_eq_true rfl) dX11_directionAt_8 ⟨by decide, by decide⟩ (fun H locs hH hP => ?_)
  cases hf
  exact q_reti C hH trivial dX11_directionAt_11
set_option maxRecDepth 100000 in
theorem c_X11_directionAt {l : Launch} {D : va_G} {B : Nat} {Y : Nat → ClassId} {v1 : Int32} {v2 : Int32} {w : Wd} {r : Int32} {w1 : Wd}   (hf : f_X11_directionAt v1 v2 w = some (r, w1)) : CM l D B Y yX11_directionAt cX11_directionAt 3 (some .int) 1 [.ref (B + 713), .int v1, .int v2] w (some (.int r)) w1 True :=
  CM_of (by decide +kernel) (Nat.le_of_ble_eq_true rfl) (fun p e s m args below meth c ls C hH hl => t_X11_directionAt_0 C  hH (lv_sub hl [0, 1, 2] rfl) hf)
/-! LetterTablesModel.closesIsolates -/
set_option maxRecDepth 100000 in
set_option maxHeartbeats 4000000 in
theorem tb_X11_closesIsolates_4 {D : va_G} {B : Nat} {Y : Nat → ClassId} {p : Program} {l : Launch} {e : Env} {s : State} {m : MethodId} {args : Array Value} {below : List Frame} {meth : Method} {c : Code} {z : (Unit × Wd)} {H : Heap} {locs : List Loc} {ls : Array Slot} {w : Wd} {v1 : Int32} {v2 : Int32} {v3 : Int32} (C : CX D B Y p s m args meth c cX11_closesIsolates 5 RX11 none)  {rc_4 : Int32 × Int32 × Int32 × Wd → Option (Unit × Wd)} (hr_4 : ∀ (v1 : Int32) (v2 : Int32) (v3 : Int32) (w : Wd), rc_4 (v1, v2, v3, w) = some z → ∀ (H : Heap) (locs : List Loc) (ls : Array Slot), HS D B Y w s H locs → lv_has ls 5 [(0, .ref (B + 713)), (1, .int v1), (2, .int v2), (3, .int v3)] → W p l e (RM 2 0 0) s m args below meth c H locs 0 0 (MQ below (QG D B Y none z.2 True) args s 0 0 (AB B)) (F0 m 4 ls []))    (hH : HS D B Y w s H locs) (hl : lv_has ls 5 [(0, .ref (B + 713)), (1, .int v1), (2, .int v2), (3, .int v3)]) (hf : g_X11_closesIsolates_4 rc_4 v1 v2 v3 w = some z) : W p l e (RM 2 0 0) s m args below meth c H locs 0 0 (MQ below (QG D B Y none z.2 True) args s 0 0 (AB B)) (F0 m 4 ls []) := by
  have hx := C.1
  have hb := C.2.1
  unfold g_X11_closesIsolates_4 at hf
  refine lv_iload_n hx hb dX11_closesIsolates_4 rfl (lv_at hl 3 rfl) ?_
  refine lv_aload_n hx hb dX11_closesIsolates_5 rfl (lv_at hl 0 rfl) ?_
  refine fg_X11_19 C hH dX11_closesIsolates_6 ?_
  refine lv_iload_n hx hb dX11_closesIsolates_9 rfl (lv_at hl 1 rfl) ?_
  refine g_iald C hH kc_717 hf dX11_closesIsolates_10 (fun x1 hf => ?_)
  refine b_icmp_ge (tgt := 110) hx hb hf dX11_closesIsolates_11 (by decide) (fun hf => ?_) (fun hf => ?_)
  · cases hf
    exact q_retv C hH trivial dX11_closesIsolates_110
  · refine lv_aload_n hx hb dX11_closesIsolates_14 rfl (lv_at hl 0 rfl) ?_
    refine lv_iload_n hx hb dX11_closesIsolates_15 rfl (lv_at hl 1 rfl) ?_
    refine lv_iload_n hx hb dX11_closesIsolates_16 rfl (lv_at hl 3 rfl) ?_
    obtain ⟨x3, w2, hc, hf⟩ := bd_some hf
    refine q_callV1 (v := .int x3) (As := [.int v1, .int v3]) C hH (ci := 11) rfl (by omega) gk_X11_204 yd_X11_directionAt (by omega) (by omega) kc_713 (c_X11_directionAt hc) hl.1 rfl (Nat.le_of_ble_eq_true rfl) dX11_closesIsolates_17 ⟨by decide, by decide⟩ (fun H locs hH hP => ?_)
    refine lv_istore (lv' := [(4, .int x3), (0, .ref (B + 713)), (1, .int v1), (2, .int v2), (3, .int v3)]) hx hb dX11_closesIsolates_20 hl (by decide) rfl (fun ls hl => ?_)
    refine lv_aload_n hx hb dX11_closesIsolates_22 rfl (lv_at hl 1 rfl) ?_
    refine fg_X11_43 C hH dX11_closesIsolates_23 ?_
    refine lv_iload_n hx hb dX11_closesIsolates_26 rfl (lv_at hl 4 rfl) ?_
    refine lv_aload_n hx hb dX11_closesIsolates_27 rfl (lv_at hl 1 rfl) ?_
    refine fg_X11_19 C hH dX11_closesIsolates_28 ?_
    refine lv_iload_n hx hb dX11_closesIsolates_31 rfl (lv_at hl 2 rfl) ?_
    refine g_iald C hH kc_717 hf dX11_closesIsolates_32 (fun x4 hf => ?_)
    refine g_iast C hH kc_725 hf dX11_closesIsolates_33 (fun w5 H locs hf hH => ?_)
    refine lv_aload_n hx hb dX11_closesIsolates_34 rfl (lv_at hl 1 rfl) ?_
    refine fg_X11_46 C hH dX11_closesIsolates_35 ?_
    refine lv_iload_n hx hb dX11_closesIsolates_38 rfl (lv_at hl 4 rfl) ?_
    refine lv_iconst (v := (-1 : Int32)) hx hb dX11_closesIsolates_39 (by decide) ?_
    refine g_iast C hH kc_726 hf dX11_closesIsolates_40 (fun w6 H locs hf hH => ?_)
    refine lv_iload hx hb dX11_closesIsolates_41 (lv_at hl 0 rfl) ?_
    refine lv_bipush (v := (7 : Int32)) hx hb dX11_closesIsolates_43 (by decide) ?_
    refine lv_bipush (v := (9 : Int32)) hx hb dX11_closesIsolates_45 (by decide) ?_
    obtain ⟨x8, w7, hc, hf⟩ := bd_some hf
    refine q_callS1 (v := .int x8) (As := [.int x3, .int (7 : Int32), .int (9 : Int32)]) C hH gk_X11_111 yd_X11_in (by omega) (by omega) (c_X11_in hc) hl.1 rfl (Nat.le_of_ble_eq_true rfl) dX11_closesIsolates_47 ⟨by decide, by decide⟩ (fun H locs hH z_x8 => ?_)
    refine b_if_eq (tgt := 66) hx hb hf dX11_closesIsolates_50 (by decide) (fun hf => ?_) (fun hf => ?_)
    · refine lv_iload hx hb dX11_closesIsolates_66 (lv_at hl 0 rfl) ?_
      refine lv_bipush (v := (10 : Int32)) hx hb dX11_closesIsolates_68 (by decide) ?_
      refine b_icmp_ne (tgt := 104) hx hb hf dX11_closesIsolates_70 (by decide) (fun hf => ?_) (fun hf => ?_)
      · refine b_let hf (fun x9 he hf => ?_)
        refine lv_iinc (v := x9) (lv' := [(3, .int x9), (4, .int x3), (0, .ref (B + 713)), (1, .int v1), (2, .int v2)]) hx hb dX11_closesIsolates_104 hl (k := 4) rfl (by rw [← he]; rfl) (by decide) rfl (fun ls hl => ?_)
        refine lv_goto (tgt := 4) hx hb dX11_closesIsolates_107 (by decide) ?_
        exact hr_4 v1 v2 x9 w7 hf _ _ _ hH (lv_sub hl [2, 3, 4, 0] rfl)
      · refine lv_iload_n hx hb dX11_closesIsolates_73 rfl (lv_at hl 3 rfl) ?_
        refine b_if_le (tgt := 104) hx hb hf dX11_closesIsolates_74 (by decide) (fun hf => ?_) (fun hf => ?_)
        · refine b_let hf (fun x10 he hf => ?_)
          refine lv_iinc (v := x10) (lv' := [(3, .int x10), (4, .int x3), (0, .ref (B + 713)), (1, .int v1), (2, .int v2)]) hx hb dX11_closesIsolates_104 hl (k := 4) rfl (by rw [← he]; rfl) (by decide) rfl (fun ls hl => ?_)
          refine lv_goto (tgt := 4) hx hb dX11_closesIsolates_107 (by decide) ?_
          exact hr_4 v1 v2 x10 w7 hf _ _ _ hH (lv_sub hl [2, 3, 4, 0] rfl)
        · refine b_let hf (fun x11 he hf => ?_)
          refine lv_iinc (v := x11) (lv' := [(2, .int x11), (4, .int x3), (0, .ref (B + 713)), (1, .int v1), (3, .int v3)]) hx hb dX11_closesIsolates_77 hl (k := 3) rfl (by rw [← he]; rfl) (by decide) rfl (fun ls hl => ?_)
          refine lv_aload_n hx hb dX11_closesIsolates_80 rfl (lv_at hl 2 rfl) ?_
          refine fg_X11_46 C hH dX11_closesIsolates_81 ?_
          refine lv_iload_n hx hb dX11_closesIsolates_84 rfl (lv_at hl 4 rfl) ?_
          refine lv_aload_n hx hb dX11_closesIsolates_85 rfl (lv_at hl 2 rfl) ?_
          refine fg_X11_49 C hH dX11_closesIsolates_86 ?_
          refine lv_iload_n hx hb dX11_closesIsolates_89 rfl (lv_at hl 0 rfl) ?_
          refine g_iald C hH kc_727 hf dX11_closesIsolates_90 (fun x12 hf => ?_)
          refine g_iast C hH kc_726 hf dX11_closesIsolates_91 (fun w13 H locs hf hH => ?_)
          refine lv_aload_n hx hb dX11_closesIsolates_92 rfl (lv_at hl 2 rfl) ?_
          refine fg_X11_43 C hH dX11_closesIsolates_93 ?_
          refine lv_aload_n hx hb dX11_closesIsolates_96 rfl (lv_at hl 2 rfl) ?_
          refine fg_X11_49 C hH dX11_closesIsolates_97 ?_
          refine lv_iload_n hx hb dX11_closesIsolates_100 rfl (lv_at hl 0 rfl) ?_
          refine g_iald C hH kc_727 hf dX11_closesIsolates_101 (fun x14 hf => ?_)
          refine lv_iload_n hx hb dX11_closesIsolates_102 rfl (lv_at hl 4 rfl) ?_
          refine g_iast C hH kc_725 hf dX11_closesIsolates_103 (fun w15 H locs hf hH => ?_)
          refine b_let hf (fun x16 he hf => ?_)
          refine lv_iinc (v := x16) (lv' := [(3, .int x16), (2, .int x11), (4, .int x3), (0, .ref (B + 713)), (1, .int v1)]) hx hb dX11_closesIsolates_104 hl (k := 4) rfl (by rw [← he]; rfl) (by decide) rfl (fun ls hl => ?_)
          refine lv_goto (tgt := 4) hx hb dX11_closesIsolates_107 (by decide) ?_
          exact hr_4 v1 x11 x16 w15 hf _ _ _ hH (lv_sub hl [3, 4, 1, 0] rfl)
    · refine lv_aload_n hx hb dX11_closesIsolates_53 rfl (lv_at hl 1 rfl) ?_
      refine fg_X11_49 C hH dX11_closesIsolates_54 ?_
      refine lv_iload_n hx hb dX11_closesIsolates_57 rfl (lv_at hl 3 rfl) ?_
      refine lv_iload_n hx hb dX11_closesIsolates_58 rfl (lv_at hl 4 rfl) ?_
      refine g_iast C hH kc_727 hf dX11_closesIsolates_59 (fun w17 H locs hf hH => ?_)
      refine b_let hf (fun x18 he hf => ?_)
      refine lv_iinc (v := x18) (lv' := [(2, .int x18), (4, .int x3), (0, .ref (B + 713)), (1, .int v1), (3, .int v3)]) hx hb dX11_closesIsolates_60 hl (k := 3) rfl (by rw [← he]; rfl) (by decide) rfl (fun ls hl => ?_)
      refine lv_goto (tgt := 104) hx hb dX11_closesIsolates_63 (by decide) ?_
      refine b_let hf (fun x19 he hf => ?_)
      refine lv_iinc (v := x19) (lv' := [(3, .int x19), (2, .int x18), (4, .int x3), (0, .ref (B + 713)), (1, .int v1)]) hx hb dX11_closesIsolates_104 hl (k := 4) rfl (by rw [← he]; rfl) (by decide) rfl (fun ls hl => ?_)
      refine lv_goto (tgt := 4) hx hb dX11_closesIsolates_107 (by decide) ?_
      exact hr_4 v1 x18 x19 w17 hf _ _ _ hH (lv_sub hl [3, 4, 1, 0] rfl)
set_option maxRecDepth 100000 in
set_option maxHeartbeats 4000000 in
theorem t_X11_closesIsolates_4 {D : va_G} {B : Nat} {Y : Nat → ClassId} {p : Program} {l : Launch} {e : Env} {s : State} {m : MethodId} {args : Array Value} {below : List Frame} {meth : Method} {c : Code} {z : (Unit × Wd)} {H : Heap} {locs : List Loc} {ls : Array Slot} {w : Wd} {v1 : Int32} {v2 : Int32} {v3 : Int32} (C : CX D B Y p s m args meth c cX11_closesIsolates 5 RX11 none)     (hH : HS D B Y w s H locs) (hl : lv_has ls 5 [(0, .ref (B + 713)), (1, .int v1), (2, .int v2), (3, .int v3)]) (hf : f_X11_closesIsolates_4 v1 v2 v3 w = some z) : W p l e (RM 2 0 0) s m args below meth c H locs 0 0 (MQ below (QG D B Y none z.2 True) args s 0 0 (AB B)) (F0 m 4 ls []) := by
  exact loopN_ind (z := z) (body := fun rc σ => g_X11_closesIsolates_4 rc  σ.1 σ.2.1 σ.2.2.1 σ.2.2.2)
    (P := fun σ => ∀ (H : Heap) (locs : List Loc) (ls : Array Slot), HS D B Y σ.2.2.2 s H locs → lv_has ls 5 [(0, .ref (B + 713)), (1, .int σ.1), (2, .int σ.2.1), (3, .int σ.2.2.1)] → W p l e (RM 2 0 0) s m args below meth c H locs 0 0 (MQ below (QG D B Y none z.2 True) args s 0 0 (AB B)) (F0 m 4 ls []))
    (fun rc hrec σ hf  H locs ls hH hl => tb_X11_closesIsolates_4 C (fun v1 v2 v3 w hr  H locs ls hH hl => hrec (v1, v2, v3, w) hr  H locs ls hH hl)   hH hl hf) FU (v1, v2, v3, w) hf  H locs ls hH hl
set_option maxRecDepth 100000 in
set_option maxHeartbeats 4000000 in
theorem t_X11_closesIsolates_0 {D : va_G} {B : Nat} {Y : Nat → ClassId} {p : Program} {l : Launch} {e : Env} {s : State} {m : MethodId} {args : Array Value} {below : List Frame} {meth : Method} {c : Code} {z : (Unit × Wd)} {H : Heap} {locs : List Loc} {ls : Array Slot} {w : Wd} {v1 : Int32} (C : CX D B Y p s m args meth c cX11_closesIsolates 5 RX11 none)     (hH : HS D B Y w s H locs) (hl : lv_has ls 5 [(0, .ref (B + 713)), (1, .int v1)]) (hf : f_X11_closesIsolates v1 w = some z) : W p l e (RM 2 0 0) s m args below meth c H locs 0 0 (MQ below (QG D B Y none z.2 True) args s 0 0 (AB B)) (F0 m 0 ls []) := by
  have hx := C.1
  have hb := C.2.1
  unfold f_X11_closesIsolates at hf
  refine lv_iconst (v := (0 : Int32)) hx hb dX11_closesIsolates_0 (by decide) ?_
  refine lv_istore_n (lv' := [(2, .int (0 : Int32)), (0, .ref (B + 713)), (1, .int v1)]) hx hb dX11_closesIsolates_1 rfl hl (by decide) rfl (fun ls hl => ?_)
  refine lv_iconst (v := (0 : Int32)) hx hb dX11_closesIsolates_2 (by decide) ?_
  refine lv_istore_n (lv' := [(3, .int (0 : Int32)), (2, .int (0 : Int32)), (0, .ref (B + 713)), (1, .int v1)]) hx hb dX11_closesIsolates_3 rfl hl (by decide) rfl (fun ls hl => ?_)
  exact t_X11_closesIsolates_4 C hH (lv_sub hl [2, 3, 1, 0] rfl) hf
set_option maxRecDepth 100000 in
theorem c_X11_closesIsolates {l : Launch} {D : va_G} {B : Nat} {Y : Nat → ClassId} {v1 : Int32} {w : Wd} {r : Unit} {w1 : Wd}   (hf : f_X11_closesIsolates v1 w = some (r, w1)) : CM l D B Y yX11_closesIsolates cX11_closesIsolates 5 none 2 [.ref (B + 713), .int v1] w none w1 True :=
  CM_of (by decide +kernel) (Nat.le_of_ble_eq_true rfl) (fun p e s m args below meth c ls C hH hl => t_X11_closesIsolates_0 C  hH (lv_sub hl [0, 1] rfl) hf)
/-! LetterTablesModel.baseOf -/
set_option maxRecDepth 100000 in
set_option maxHeartbeats 4000000 in
theorem t_X11_baseOf_29 {D : va_G} {B : Nat} {Y : Nat → ClassId} {p : Program} {l : Launch} {e : Env} {s : State} {m : MethodId} {args : Array Value} {below : List Frame} {meth : Method} {c : Code} {z : (Int32 × Wd)} {H : Heap} {locs : List Loc} {ls : Array Slot} {w : Wd} {v5 : Int32} (C : CX D B Y p s m args meth c cX11_baseOf 6 RX11 (some .int))     (hH : HS D B Y w s H locs) (hl : lv_has ls 6 [(5, .int v5)]) (hf : f_X11_baseOf_29 v5 w = some z) : W p l e (RM 2 0 0) s m args below meth c H locs 0 0 (MQ below (QG D B Y (some (.int z.1)) z.2 True) args s 0 0 (AB B)) (F0 m 29 ls []) := by
  have hx := C.1
  have hb := C.2.1
  unfold f_X11_baseOf_29 at hf
  refine lv_iload hx hb dX11_baseOf_29 (lv_at hl 0 rfl) ?_
  refine lv_iconst (v := (1 : Int32)) hx hb dX11_baseOf_31 (by decide) ?_
  refine b_icmp_ne (tgt := 39) hx hb hf dX11_baseOf_32 (by decide) (fun hf => ?_) (fun hf => ?_)
  · refine lv_iconst (v := (0 : Int32)) hx hb dX11_baseOf_39 (by decide) ?_
    cases hf
    exact q_reti C hH trivial dX11_baseOf_40
  · refine lv_iconst (v := (1 : Int32)) hx hb dX11_baseOf_35 (by decide) ?_
    refine lv_goto (tgt := 40) hx hb dX11_baseOf_36 (by decide) ?_
    cases hf
    exact q_reti C hH trivial dX11_baseOf_40
set_option maxRecDepth 100000 in
set_option maxHeartbeats 4000000 in
theorem tb_X11_baseOf_3 {D : va_G} {B : Nat} {Y : Nat → ClassId} {p : Program} {l : Launch} {e : Env} {s : State} {m : MethodId} {args : Array Value} {below : List Frame} {meth : Method} {c : Code} {z : (Int32 × Wd)} {H : Heap} {locs : List Loc} {ls : Array Slot} {w : Wd} {v1 : Int32} {v3 : Int32} {v4 : Int32} (C : CX D B Y p s m args meth c cX11_baseOf 6 RX11 (some .int))  {rc_3 : Int32 × Int32 × Int32 × Wd → Option (Int32 × Wd)} (hr_3 : ∀ (v1 : Int32) (v3 : Int32) (v4 : Int32) (w : Wd), rc_3 (v1, v3, v4, w) = some z → ∀ (H : Heap) (locs : List Loc) (ls : Array Slot), HS D B Y w s H locs → lv_has ls 6 [(0, .ref (B + 713)), (1, .int v1), (3, .int v3), (4, .int v4)] → W p l e (RM 2 0 0) s m args below meth c H locs 0 0 (MQ below (QG D B Y (some (.int z.1)) z.2 True) args s 0 0 (AB B)) (F0 m 3 ls []))    (hH : HS D B Y w s H locs) (hl : lv_has ls 6 [(0, .ref (B + 713)), (1, .int v1), (3, .int v3), (4, .int v4)]) (hf : g_X11_baseOf_3 rc_3 v1 v3 v4 w = some z) : W p l e (RM 2 0 0) s m args below meth c H locs 0 0 (MQ below (QG D B Y (some (.int z.1)) z.2 True) args s 0 0 (AB B)) (F0 m 3 ls []) := by
  have hx := C.1
  have hb := C.2.1
  unfold g_X11_baseOf_3 at hf
  refine lv_iload hx hb dX11_baseOf_3 (lv_at hl 3 rfl) ?_
  refine lv_iload_n hx hb dX11_baseOf_5 rfl (lv_at hl 2 rfl) ?_
  refine b_icmp_ge (tgt := 74) hx hb hf dX11_baseOf_6 (by decide) (fun hf => ?_) (fun hf => ?_)
  · refine lv_iconst (v := (0 : Int32)) hx hb dX11_baseOf_74 (by decide) ?_
    cases hf
    exact q_reti C hH trivial dX11_baseOf_75
  · refine lv_aload_n hx hb dX11_baseOf_9 rfl (lv_at hl 0 rfl) ?_
    refine lv_iload_n hx hb dX11_baseOf_10 rfl (lv_at hl 1 rfl) ?_
    refine lv_iload hx hb dX11_baseOf_11 (lv_at hl 3 rfl) ?_
    obtain ⟨x2, w1, hc, hf⟩ := bd_some hf
    refine q_callV1 (v := .int x2) (As := [.int v1, .int v4]) C hH (ci := 11) rfl (by omega) gk_X11_204 yd_X11_directionAt (by omega) (by omega) kc_713 (c_X11_directionAt hc) hl.1 rfl (Nat.le_of_ble_eq_true rfl) dX11_baseOf_13 ⟨by decide, by decide⟩ (fun H locs hH hP => ?_)
    refine lv_istore (lv' := [(5, .int x2), (0, .ref (B + 713)), (1, .int v1), (3, .int v3), (4, .int v4)]) hx hb dX11_baseOf_16 hl (by decide) rfl (fun ls hl => ?_)
    refine lv_iload hx hb dX11_baseOf_18 (lv_at hl 0 rfl) ?_
    refine b_if_eq (tgt := 29) hx hb hf dX11_baseOf_20 (by decide) (fun hf => ?_) (fun hf => ?_)
    · exact t_X11_baseOf_29 C hH (lv_sub hl [0] rfl) hf
    · refine lv_iload hx hb dX11_baseOf_23 (lv_at hl 0 rfl) ?_
      refine lv_iconst (v := (1 : Int32)) hx hb dX11_baseOf_25 (by decide) ?_
      refine b_icmp_ne (tgt := 41) hx hb hf dX11_baseOf_26 (by decide) (fun hf => ?_) (fun hf => ?_)
      · refine lv_iload hx hb dX11_baseOf_41 (lv_at hl 0 rfl) ?_
        refine lv_bipush (v := (7 : Int32)) hx hb dX11_baseOf_43 (by decide) ?_
        refine lv_bipush (v := (9 : Int32)) hx hb dX11_baseOf_45 (by decide) ?_
        obtain ⟨x4, w3, hc, hf⟩ := bd_some hf
        refine q_callS1 (v := .int x4) (As := [.int x2, .int (7 : Int32), .int (9 : Int32)]) C hH gk_X11_111 yd_X11_in (by omega) (by omega) (c_X11_in hc) hl.1 rfl (Nat.le_of_ble_eq_true rfl) dX11_baseOf_47 ⟨by decide, by decide⟩ (fun H locs hH z_x4 => ?_)
        refine b_if_eq (tgt := 65) hx hb hf dX11_baseOf_50 (by decide) (fun hf => ?_) (fun hf => ?_)
        · refine lv_iload hx hb dX11_baseOf_65 (lv_at hl 4 rfl) ?_
          refine lv_iconst (v := (1 : Int32)) hx hb dX11_baseOf_67 (by decide) ?_
          refine lv_iadd hx hb dX11_baseOf_68 ?_
          refine b_leti hf (fun x5 hf => ?_)
          refine lv_istore (lv' := [(4, .int x5), (5, .int x2), (0, .ref (B + 713)), (1, .int v1), (3, .int v3)]) hx hb dX11_baseOf_69 hl (by decide) rfl (fun ls hl => ?_)
          refine lv_goto (tgt := 3) hx hb dX11_baseOf_71 (by decide) ?_
          exact hr_3 v1 v3 x5 w3 hf _ _ _ hH (lv_sub hl [2, 3, 4, 0] rfl)
        · refine lv_aload_n hx hb dX11_baseOf_53 rfl (lv_at hl 1 rfl) ?_
          refine fg_X11_43 C hH dX11_baseOf_54 ?_
          refine lv_iload hx hb dX11_baseOf_57 (lv_at hl 4 rfl) ?_
          refine g_iald C hH kc_725 hf dX11_baseOf_59 (fun x6 hf => ?_)
          refine lv_iconst (v := (1 : Int32)) hx hb dX11_baseOf_60 (by decide) ?_
          refine lv_iadd hx hb dX11_baseOf_61 ?_
          refine lv_goto (tgt := 69) hx hb dX11_baseOf_62 (by decide) ?_
          refine b_leti hf (fun x7 hf => ?_)
          refine lv_istore (lv' := [(4, .int x7), (5, .int x2), (0, .ref (B + 713)), (1, .int v1), (3, .int v3)]) hx hb dX11_baseOf_69 hl (by decide) rfl (fun ls hl => ?_)
          refine lv_goto (tgt := 3) hx hb dX11_baseOf_71 (by decide) ?_
          exact hr_3 v1 v3 x7 w3 hf _ _ _ hH (lv_sub hl [2, 3, 4, 0] rfl)
      · exact t_X11_baseOf_29 C hH (lv_sub hl [0] rfl) hf
set_option maxRecDepth 100000 in
set_option maxHeartbeats 4000000 in
theorem t_X11_baseOf_3 {D : va_G} {B : Nat} {Y : Nat → ClassId} {p : Program} {l : Launch} {e : Env} {s : State} {m : MethodId} {args : Array Value} {below : List Frame} {meth : Method} {c : Code} {z : (Int32 × Wd)} {H : Heap} {locs : List Loc} {ls : Array Slot} {w : Wd} {v1 : Int32} {v3 : Int32} {v4 : Int32} (C : CX D B Y p s m args meth c cX11_baseOf 6 RX11 (some .int))     (hH : HS D B Y w s H locs) (hl : lv_has ls 6 [(0, .ref (B + 713)), (1, .int v1), (3, .int v3), (4, .int v4)]) (hf : f_X11_baseOf_3 v1 v3 v4 w = some z) : W p l e (RM 2 0 0) s m args below meth c H locs 0 0 (MQ below (QG D B Y (some (.int z.1)) z.2 True) args s 0 0 (AB B)) (F0 m 3 ls []) := by
  exact loopN_ind (z := z) (body := fun rc σ => g_X11_baseOf_3 rc  σ.1 σ.2.1 σ.2.2.1 σ.2.2.2)
    (P := fun σ => ∀ (H : Heap) (locs : List Loc) (ls : Array Slot), HS D B Y σ.2.2.2 s H locs → lv_has ls 6 [(0, .ref (B + 713)), (1, .int σ.1), (3, .int σ.2.1), (4, .int σ.2.2.1)] → W p l e (RM 2 0 0) s m args below meth c H locs 0 0 (MQ below (QG D B Y (some (.int z.1)) z.2 True) args s 0 0 (AB B)) (F0 m 3 ls []))
    (fun rc hrec σ hf  H locs ls hH hl => tb_X11_baseOf_3 C (fun v1 v3 v4 w hr  H locs ls hH hl => hrec (v1, v3, v4, w) hr  H locs ls hH hl)   hH hl hf) FU (v1, v3, v4, w) hf  H locs ls hH hl
set_option maxRecDepth 100000 in
set_option maxHeartbeats 4000000 in
theorem t_X11_baseOf_0 {D : va_G} {B : Nat} {Y : Nat → ClassId} {p : Program} {l : Launch} {e : Env} {s : State} {m : MethodId} {args : Array Value} {below : List Frame} {meth : Method} {c : Code} {z : (Int32 × Wd)} {H : Heap} {locs : List Loc} {ls : Array Slot} {w : Wd} {v1 : Int32} {v2 : Int32} {v3 : Int32} (C : CX D B Y p s m args meth c cX11_baseOf 6 RX11 (some .int))     (hH : HS D B Y w s H locs) (hl : lv_has ls 6 [(0, .ref (B + 713)), (1, .int v1), (2, .int v2), (3, .int v3)]) (hf : f_X11_baseOf v1 v2 v3 w = some z) : W p l e (RM 2 0 0) s m args below meth c H locs 0 0 (MQ below (QG D B Y (some (.int z.1)) z.2 True) args s 0 0 (AB B)) (F0 m 0 ls []) := by
  have hx := C.1
  have hb := C.2.1
  unfold f_X11_baseOf at hf
  refine lv_iload_n hx hb dX11_baseOf_0 rfl (lv_at hl 2 rfl) ?_
  refine lv_istore (lv' := [(4, .int v2), (0, .ref (B + 713)), (1, .int v1), (2, .int v2), (3, .int v3)]) hx hb dX11_baseOf_1 hl (by decide) rfl (fun ls hl => ?_)
  exact t_X11_baseOf_3 C hH (lv_sub hl [1, 2, 4, 0] rfl) hf
set_option maxRecDepth 100000 in
theorem c_X11_baseOf {l : Launch} {D : va_G} {B : Nat} {Y : Nat → ClassId} {v1 : Int32} {v2 : Int32} {v3 : Int32} {w : Wd} {r : Int32} {w1 : Wd}   (hf : f_X11_baseOf v1 v2 v3 w = some (r, w1)) : CM l D B Y yX11_baseOf cX11_baseOf 6 (some .int) 2 [.ref (B + 713), .int v1, .int v2, .int v3] w (some (.int r)) w1 True :=
  CM_of (by decide +kernel) (Nat.le_of_ble_eq_true rfl) (fun p e s m args below meth c ls C hH hl => t_X11_baseOf_0 C  hH (lv_sub hl [0, 1, 2, 3] rfl) hf)
/-! LetterTablesModel.begins -/
set_option maxRecDepth 100000 in
set_option maxHeartbeats 4000000 in
theorem t_X11_begins_59 {D : va_G} {B : Nat} {Y : Nat → ClassId} {p : Program} {l : Launch} {e : Env} {s : State} {m : MethodId} {args : Array Value} {below : List Frame} {meth : Method} {c : Code} {z : (Int32 × Wd)} {H : Heap} {locs : List Loc} {ls : Array Slot} {w : Wd} {v1 : Int32} {v2 : Int32} {t0 : Nat} {t1 : Int32} {t2 : Int32} (C : CX D B Y p s m args meth c cX11_begins 6 RX11 (some .int))   (k_t0 : KD t0 = 20)  (hH : HS D B Y w s H locs) (hl : lv_has ls 6 [(0, .ref (B + 713)), (1, .int v1), (2, .int v2)]) (hf : f_X11_begins_59 v1 v2 t0 t1 t2 w = some z) : W p l e (RM 0 0 0) s m args below meth c H locs 0 0 (MQ below (QG D B Y (some (.int z.1)) z.2 True) args s 0 0 (AB B)) (F0 m 59 ls [.int t2, .int t1, .ref (B + t0)]) := by
  have hx := C.1
  have hb := C.2.1
  unfold f_X11_begins_59 at hf
  refine g_iast C hH k_t0 hf dX11_begins_59 (fun w1 H locs hf hH => ?_)
  refine lv_aload_n hx hb dX11_begins_60 rfl (lv_at hl 0 rfl) ?_
  refine fg_X11_55 C hH dX11_begins_61 ?_
  refine lv_aload_n hx hb dX11_begins_64 rfl (lv_at hl 0 rfl) ?_
  refine fg_X11_207 C hH dX11_begins_65 ?_
  refine lv_iload_n hx hb dX11_begins_68 rfl (lv_at hl 2 rfl) ?_
  refine g_iast C hH kc_729 hf dX11_begins_69 (fun w2 H locs hf hH => ?_)
  refine lv_aload_n hx hb dX11_begins_70 rfl (lv_at hl 0 rfl) ?_
  refine fg_X11_58 C hH dX11_begins_71 ?_
  refine lv_aload_n hx hb dX11_begins_74 rfl (lv_at hl 0 rfl) ?_
  refine fg_X11_207 C hH dX11_begins_75 ?_
  refine lv_iload_n hx hb dX11_begins_78 rfl (lv_at hl 1 rfl) ?_
  refine g_iast C hH kc_730 hf dX11_begins_79 (fun w3 H locs hf hH => ?_)
  refine lv_aload_n hx hb dX11_begins_80 rfl (lv_at hl 0 rfl) ?_
  refine lv_dup hx hb dX11_begins_81 rfl ?_
  refine fg_X11_207 C hH dX11_begins_82 ?_
  refine lv_iconst (v := (1 : Int32)) hx hb dX11_begins_85 (by decide) ?_
  refine lv_iadd hx hb dX11_begins_86 ?_
  refine fp_X11_207 C hH dX11_begins_87 (fun H locs hH => ?_)
  refine b_w hf hH (fun w4 hf hH => ?_)
  refine lv_aload_n hx hb dX11_begins_90 rfl (lv_at hl 0 rfl) ?_
  refine fg_X11_207 C hH dX11_begins_91 ?_
  refine lv_iconst (v := (1 : Int32)) hx hb dX11_begins_94 (by decide) ?_
  refine lv_isub hx hb dX11_begins_95 ?_
  cases hf
  exact q_reti C hH trivial dX11_begins_96
set_option maxRecDepth 100000 in
set_option maxHeartbeats 4000000 in
theorem t_X11_begins_35 {D : va_G} {B : Nat} {Y : Nat → ClassId} {p : Program} {l : Launch} {e : Env} {s : State} {m : MethodId} {args : Array Value} {below : List Frame} {meth : Method} {c : Code} {z : (Int32 × Wd)} {H : Heap} {locs : List Loc} {ls : Array Slot} {w : Wd} {v1 : Int32} {v2 : Int32} {v4 : Int32} {t0 : Int32} (C : CX D B Y p s m args meth c cX11_begins 6 RX11 (some .int))     (hH : HS D B Y w s H locs) (hl : lv_has ls 6 [(0, .ref (B + 713)), (1, .int v1), (2, .int v2), (4, .int v4)]) (hf : f_X11_begins_35 v1 v2 v4 t0 w = some z) : W p l e (RM 0 0 0) s m args below meth c H locs 0 0 (MQ below (QG D B Y (some (.int z.1)) z.2 True) args s 0 0 (AB B)) (F0 m 35 ls [.int t0]) := by
  have hx := C.1
  have hb := C.2.1
  unfold f_X11_begins_35 at hf
  refine lv_istore (lv' := [(5, .int t0), (0, .ref (B + 713)), (1, .int v1), (2, .int v2), (4, .int v4)]) hx hb dX11_begins_35 hl (by decide) rfl (fun ls hl => ?_)
  refine lv_aload_n hx hb dX11_begins_37 rfl (lv_at hl 1 rfl) ?_
  refine fg_X11_52 C hH dX11_begins_38 ?_
  refine lv_aload_n hx hb dX11_begins_41 rfl (lv_at hl 1 rfl) ?_
  refine fg_X11_207 C hH dX11_begins_42 ?_
  refine lv_iload hx hb dX11_begins_45 (lv_at hl 0 rfl) ?_
  refine lv_bipush (v := (9 : Int32)) hx hb dX11_begins_47 (by decide) ?_
  refine b_icmp_le (tgt := 57) hx hb hf dX11_begins_49 (by decide) (fun hf => ?_) (fun hf => ?_)
  · refine lv_iload hx hb dX11_begins_57 (lv_at hl 0 rfl) ?_
    exact t_X11_begins_59 C kc_728 hH (lv_sub hl [1, 2, 3] rfl) hf
  · refine lv_iload hx hb dX11_begins_52 (lv_at hl 4 rfl) ?_
    refine lv_goto (tgt := 59) hx hb dX11_begins_54 (by decide) ?_
    exact t_X11_begins_59 C kc_728 hH (lv_sub hl [1, 2, 3] rfl) hf
set_option maxRecDepth 100000 in
set_option maxHeartbeats 4000000 in
theorem t_X11_begins_21 {D : va_G} {B : Nat} {Y : Nat → ClassId} {p : Program} {l : Launch} {e : Env} {s : State} {m : MethodId} {args : Array Value} {below : List Frame} {meth : Method} {c : Code} {z : (Int32 × Wd)} {H : Heap} {locs : List Loc} {ls : Array Slot} {w : Wd} {v1 : Int32} {v2 : Int32} {v4 : Int32} {t0 : Int32} {t1 : Int32} (C : CX D B Y p s m args meth c cX11_begins 6 RX11 (some .int))    (z_t1 : isZ t1) (hH : HS D B Y w s H locs) (hl : lv_has ls 6 [(0, .ref (B + 713)), (1, .int v1), (2, .int v2), (4, .int v4)]) (hf : f_X11_begins_21 v1 v2 v4 t0 t1 w = some z) : W p l e (RM 0 0 0) s m args below meth c H locs 0 0 (MQ below (QG D B Y (some (.int z.1)) z.2 True) args s 0 0 (AB B)) (F0 m 21 ls [.int t1, .int t0]) := by
  have hx := C.1
  have hb := C.2.1
  unfold f_X11_begins_21 at hf
  refine b_icmp_ne (tgt := 31) hx hb hf dX11_begins_21 (by decide) (fun hf => ?_) (fun hf => ?_)
  · refine lv_iload hx hb dX11_begins_31 (lv_at hl 3 rfl) ?_
    refine lv_iconst (v := (1 : Int32)) hx hb dX11_begins_33 (by decide) ?_
    refine lv_iadd hx hb dX11_begins_34 ?_
    exact t_X11_begins_35 C hH (lv_sub hl [0, 1, 2, 3] rfl) hf
  · refine lv_iload hx hb dX11_begins_24 (lv_at hl 3 rfl) ?_
    refine lv_iconst (v := (2 : Int32)) hx hb dX11_begins_26 (by decide) ?_
    refine lv_iadd hx hb dX11_begins_27 ?_
    refine lv_goto (tgt := 35) hx hb dX11_begins_28 (by decide) ?_
    exact t_X11_begins_35 C hH (lv_sub hl [0, 1, 2, 3] rfl) hf
set_option maxRecDepth 100000 in
set_option maxHeartbeats 4000000 in
theorem t_X11_begins_0 {D : va_G} {B : Nat} {Y : Nat → ClassId} {p : Program} {l : Launch} {e : Env} {s : State} {m : MethodId} {args : Array Value} {below : List Frame} {meth : Method} {c : Code} {z : (Int32 × Wd)} {H : Heap} {locs : List Loc} {ls : Array Slot} {w : Wd} {v1 : Int32} {v2 : Int32} {v3 : Int32} (C : CX D B Y p s m args meth c cX11_begins 6 RX11 (some .int))    (z_v3 : isZ v3) (hH : HS D B Y w s H locs) (hl : lv_has ls 6 [(0, .ref (B + 713)), (1, .int v1), (2, .int v2), (3, .int v3)]) (hf : f_X11_begins v1 v2 v3 w = some z) : W p l e (RM 0 0 0) s m args below meth c H locs 0 0 (MQ below (QG D B Y (some (.int z.1)) z.2 True) args s 0 0 (AB B)) (F0 m 0 ls []) := by
  have hx := C.1
  have hb := C.2.1
  unfold f_X11_begins at hf
  refine lv_aload_n hx hb dX11_begins_0 rfl (lv_at hl 0 rfl) ?_
  refine fg_X11_52 C hH dX11_begins_1 ?_
  refine lv_iload_n hx hb dX11_begins_4 rfl (lv_at hl 1 rfl) ?_
  refine g_iald C hH kc_728 hf dX11_begins_5 (fun x1 hf => ?_)
  refine lv_istore (lv' := [(4, .int x1), (0, .ref (B + 713)), (1, .int v1), (2, .int v2), (3, .int v3)]) hx hb dX11_begins_6 hl (by decide) rfl (fun ls hl => ?_)
  refine lv_iload hx hb dX11_begins_8 (lv_at hl 0 rfl) ?_
  refine lv_iconst (v := (2 : Int32)) hx hb dX11_begins_10 (by decide) ?_
  refine lv_irem hx hb dX11_begins_11 (by decide) ?_
  refine lv_iload_n hx hb dX11_begins_12 rfl (lv_at hl 4 rfl) ?_
  refine b_if_eq (tgt := 20) hx hb hf dX11_begins_13 (by decide) (fun hf => ?_) (fun hf => ?_)
  · refine lv_iconst (v := (0 : Int32)) hx hb dX11_begins_20 (by decide) ?_
    exact t_X11_begins_21 C isZ_0 hH (lv_sub hl [1, 2, 3, 0] rfl) hf
  · refine lv_iconst (v := (1 : Int32)) hx hb dX11_begins_16 (by decide) ?_
    refine lv_goto (tgt := 21) hx hb dX11_begins_17 (by decide) ?_
    exact t_X11_begins_21 C isZ_1 hH (lv_sub hl [1, 2, 3, 0] rfl) hf
set_option maxRecDepth 100000 in
theorem c_X11_begins {l : Launch} {D : va_G} {B : Nat} {Y : Nat → ClassId} {v1 : Int32} {v2 : Int32} {v3 : Int32} {w : Wd} {r : Int32} {w1 : Wd}  (z_v3 : isZ v3) (hf : f_X11_begins v1 v2 v3 w = some (r, w1)) : CM l D B Y yX11_begins cX11_begins 6 (some .int) 0 [.ref (B + 713), .int v1, .int v2, .int v3] w (some (.int r)) w1 True :=
  CM_of (by decide +kernel) (Nat.le_of_ble_eq_true rfl) (fun p e s m args below meth c ls C hH hl => t_X11_begins_0 C z_v3 hH (lv_sub hl [0, 1, 2, 3] rfl) hf)
/-! LetterTablesModel.laysFrames -/
set_option maxRecDepth 100000 in
set_option maxHeartbeats 4000000 in
theorem t_X11_laysFrames_123 {D : va_G} {B : Nat} {Y : Nat → ClassId} {p : Program} {l : Launch} {e : Env} {s : State} {m : MethodId} {args : Array Value} {below : List Frame} {meth : Method} {c : Code} {z : (Unit × Wd)} {H : Heap} {locs : List Loc} {ls : Array Slot} {w : Wd} {v1 : Int32} {v4 : Int32} {t1 : Int32} {t2 : Int32} {t3 : Int32} (C : CX D B Y p s m args meth c cX11_laysFrames 7 RX11 none)  {rc_31 : Int32 × Int32 × Int32 × Wd → Option (Unit × Wd)} (hr_31 : ∀ (v1 : Int32) (v3 : Int32) (v4 : Int32) (w : Wd), rc_31 (v1, v3, v4, w) = some z → ∀ (H : Heap) (locs : List Loc) (ls : Array Slot), HS D B Y w s H locs → lv_has ls 7 [(0, .ref (B + 713)), (1, .int v1), (3, .int v3), (4, .int v4)] → W p l e (RM 3 0 0) s m args below meth c H locs 0 0 (MQ below (QG D B Y none z.2 True) args s 0 0 (AB B)) (F0 m 31 ls []))   (z_t2 : isZ t2) (z_t3 : isZ t3) (hH : HS D B Y w s H locs) (hl : lv_has ls 7 [(0, .ref (B + 713)), (1, .int v1), (4, .int v4)]) (hf : f_X11_laysFrames_123 rc_31 v1 v4 t1 t2 t3 w = some z) : W p l e (RM 3 0 0) s m args below meth c H locs 0 0 (MQ below (QG D B Y none z.2 True) args s 0 0 (AB B)) (F0 m 123 ls [.int t3, .int t2, .int t1, .ref (B + 713)]) := by
  have hx := C.1
  have hb := C.2.1
  unfold f_X11_laysFrames_123 at hf
  obtain ⟨x2, w1, hc, hf⟩ := bd_some hf
  refine q_callV1 (v := .int x2) (As := [.int t1, .int t2, .int t3]) C hH (ci := 11) rfl (by omega) gk_X11_210 yd_X11_begins (by omega) (by omega) kc_713 (c_X11_begins z_t3 hc) hl.1 rfl (Nat.le_of_ble_eq_true rfl) dX11_laysFrames_123 ⟨by decide, by decide⟩ (fun H locs hH hP => ?_)
  refine lv_istore_n (lv' := [(3, .int x2), (0, .ref (B + 713)), (1, .int v1), (4, .int v4)]) hx hb dX11_laysFrames_126 rfl hl (by decide) rfl (fun ls hl => ?_)
  refine lv_goto (tgt := 227) hx hb dX11_laysFrames_127 (by decide) ?_
  refine b_let hf (fun x3 he hf => ?_)
  refine lv_iinc (v := x3) (lv' := [(4, .int x3), (3, .int x2), (0, .ref (B + 713)), (1, .int v1)]) hx hb dX11_laysFrames_227 hl (k := 3) rfl (by rw [← he]; rfl) (by decide) rfl (fun ls hl => ?_)
  refine lv_goto (tgt := 31) hx hb dX11_laysFrames_230 (by decide) ?_
  exact hr_31 v1 x2 x3 w1 hf _ _ _ hH (lv_sub hl [2, 3, 1, 0] rfl)
set_option maxRecDepth 100000 in
set_option maxHeartbeats 4000000 in
theorem t_X11_laysFrames_109 {D : va_G} {B : Nat} {Y : Nat → ClassId} {p : Program} {l : Launch} {e : Env} {s : State} {m : MethodId} {args : Array Value} {below : List Frame} {meth : Method} {c : Code} {z : (Unit × Wd)} {H : Heap} {locs : List Loc} {ls : Array Slot} {w : Wd} {v1 : Int32} {v3 : Int32} {v4 : Int32} {v5 : Int32} (C : CX D B Y p s m args meth c cX11_laysFrames 7 RX11 none)  {rc_31 : Int32 × Int32 × Int32 × Wd → Option (Unit × Wd)} (hr_31 : ∀ (v1 : Int32) (v3 : Int32) (v4 : Int32) (w : Wd), rc_31 (v1, v3, v4, w) = some z → ∀ (H : Heap) (locs : List Loc) (ls : Array Slot), HS D B Y w s H locs → lv_has ls 7 [(0, .ref (B + 713)), (1, .int v1), (3, .int v3), (4, .int v4)] → W p l e (RM 3 0 0) s m args below meth c H locs 0 0 (MQ below (QG D B Y none z.2 True) args s 0 0 (AB B)) (F0 m 31 ls []))    (hH : HS D B Y w s H locs) (hl : lv_has ls 7 [(0, .ref (B + 713)), (1, .int v1), (3, .int v3), (4, .int v4), (5, .int v5)]) (hf : f_X11_laysFrames_109 rc_31 v1 v3 v4 v5 w = some z) : W p l e (RM 3 0 0) s m args below meth c H locs 0 0 (MQ below (QG D B Y none z.2 True) args s 0 0 (AB B)) (F0 m 109 ls []) := by
  have hx := C.1
  have hb := C.2.1
  unfold f_X11_laysFrames_109 at hf
  refine lv_aload_n hx hb dX11_laysFrames_109 rfl (lv_at hl 0 rfl) ?_
  refine lv_iload_n hx hb dX11_laysFrames_110 rfl (lv_at hl 2 rfl) ?_
  refine lv_iconst (v := (1 : Int32)) hx hb dX11_laysFrames_111 (by decide) ?_
  refine lv_iload hx hb dX11_laysFrames_112 (lv_at hl 4 rfl) ?_
  refine lv_iconst (v := (5 : Int32)) hx hb dX11_laysFrames_114 (by decide) ?_
  refine b_icmp_ne (tgt := 122) hx hb hf dX11_laysFrames_115 (by decide) (fun hf => ?_) (fun hf => ?_)
  · refine lv_iconst (v := (0 : Int32)) hx hb dX11_laysFrames_122 (by decide) ?_
    exact t_X11_laysFrames_123 C hr_31 isZ_1 isZ_0 hH (lv_sub hl [0, 1, 3] rfl) hf
  · refine lv_iconst (v := (1 : Int32)) hx hb dX11_laysFrames_118 (by decide) ?_
    refine lv_goto (tgt := 123) hx hb dX11_laysFrames_119 (by decide) ?_
    exact t_X11_laysFrames_123 C hr_31 isZ_1 isZ_1 hH (lv_sub hl [0, 1, 3] rfl) hf
set_option maxRecDepth 100000 in
set_option maxHeartbeats 4000000 in
theorem t_X11_laysFrames_189 {D : va_G} {B : Nat} {Y : Nat → ClassId} {p : Program} {l : Launch} {e : Env} {s : State} {m : MethodId} {args : Array Value} {below : List Frame} {meth : Method} {c : Code} {z : (Unit × Wd)} {H : Heap} {locs : List Loc} {ls : Array Slot} {w : Wd} {v1 : Int32} {v3 : Int32} {v4 : Int32} {t0 : Int32} (C : CX D B Y p s m args meth c cX11_laysFrames 7 RX11 none)  {rc_31 : Int32 × Int32 × Int32 × Wd → Option (Unit × Wd)} (hr_31 : ∀ (v1 : Int32) (v3 : Int32) (v4 : Int32) (w : Wd), rc_31 (v1, v3, v4, w) = some z → ∀ (H : Heap) (locs : List Loc) (ls : Array Slot), HS D B Y w s H locs → lv_has ls 7 [(0, .ref (B + 713)), (1, .int v1), (3, .int v3), (4, .int v4)] → W p l e (RM 3 0 0) s m args below meth c H locs 0 0 (MQ below (QG D B Y none z.2 True) args s 0 0 (AB B)) (F0 m 31 ls []))   (z_t0 : isZ t0) (hH : HS D B Y w s H locs) (hl : lv_has ls 7 [(0, .ref (B + 713)), (1, .int v1), (3, .int v3), (4, .int v4)]) (hf : f_X11_laysFrames_189 rc_31 v1 v3 v4 t0 w = some z) : W p l e (RM 3 0 0) s m args below meth c H locs 0 0 (MQ below (QG D B Y none z.2 True) args s 0 0 (AB B)) (F0 m 189 ls [.int t0]) := by
  have hx := C.1
  have hb := C.2.1
  unfold f_X11_laysFrames_189 at hf
  refine lv_istore (lv' := [(6, .int t0), (0, .ref (B + 713)), (1, .int v1), (3, .int v3), (4, .int v4)]) hx hb dX11_laysFrames_189 hl (by decide) rfl (fun ls hl => ?_)
  refine lv_aload_n hx hb dX11_laysFrames_191 rfl (lv_at hl 1 rfl) ?_
  refine lv_iload_n hx hb dX11_laysFrames_192 rfl (lv_at hl 3 rfl) ?_
  refine lv_iconst (v := (2 : Int32)) hx hb dX11_laysFrames_193 (by decide) ?_
  refine lv_iload hx hb dX11_laysFrames_194 (lv_at hl 0 rfl) ?_
  obtain ⟨x2, w1, hc, hf⟩ := bd_some hf
  refine q_callV1 (v := .int x2) (As := [.int v3, .int (2 : Int32), .int t0]) C hH (ci := 11) rfl (by omega) gk_X11_210 yd_X11_begins (by omega) (by omega) kc_713 (c_X11_begins z_t0 hc) hl.1 rfl (Nat.le_of_ble_eq_true rfl) dX11_laysFrames_196 ⟨by decide, by decide⟩ (fun H locs hH hP => ?_)
  refine lv_istore_n (lv' := [(3, .int x2), (6, .int t0), (0, .ref (B + 713)), (1, .int v1), (4, .int v4)]) hx hb dX11_laysFrames_199 rfl hl (by decide) rfl (fun ls hl => ?_)
  refine lv_goto (tgt := 227) hx hb dX11_laysFrames_200 (by decide) ?_
  refine b_let hf (fun x3 he hf => ?_)
  refine lv_iinc (v := x3) (lv' := [(4, .int x3), (3, .int x2), (6, .int t0), (0, .ref (B + 713)), (1, .int v1)]) hx hb dX11_laysFrames_227 hl (k := 4) rfl (by rw [← he]; rfl) (by decide) rfl (fun ls hl => ?_)
  refine lv_goto (tgt := 31) hx hb dX11_laysFrames_230 (by decide) ?_
  exact hr_31 v1 x2 x3 w1 hf _ _ _ hH (lv_sub hl [3, 4, 1, 0] rfl)
set_option maxRecDepth 100000 in
set_option maxHeartbeats 4000000 in
theorem t_X11_laysFrames_89 {D : va_G} {B : Nat} {Y : Nat → ClassId} {p : Program} {l : Launch} {e : Env} {s : State} {m : MethodId} {args : Array Value} {below : List Frame} {meth : Method} {c : Code} {z : (Unit × Wd)} {H : Heap} {locs : List Loc} {ls : Array Slot} {w : Wd} {v1 : Int32} {v3 : Int32} {v4 : Int32} {v5 : Int32} (C : CX D B Y p s m args meth c cX11_laysFrames 7 RX11 none)  {rc_31 : Int32 × Int32 × Int32 × Wd → Option (Unit × Wd)} (hr_31 : ∀ (v1 : Int32) (v3 : Int32) (v4 : Int32) (w : Wd), rc_31 (v1, v3, v4, w) = some z → ∀ (H : Heap) (locs : List Loc) (ls : Array Slot), HS D B Y w s H locs → lv_has ls 7 [(0, .ref (B + 713)), (1, .int v1), (3, .int v3), (4, .int v4)] → W p l e (RM 3 0 0) s m args below meth c H locs 0 0 (MQ below (QG D B Y none z.2 True) args s 0 0 (AB B)) (F0 m 31 ls []))    (hH : HS D B Y w s H locs) (hl : lv_has ls 7 [(0, .ref (B + 713)), (1, .int v1), (3, .int v3), (4, .int v4), (5, .int v5)]) (hf : f_X11_laysFrames_89 rc_31 v1 v3 v4 v5 w = some z) : W p l e (RM 3 0 0) s m args below meth c H locs 0 0 (MQ below (QG D B Y none z.2 True) args s 0 0 (AB B)) (F0 m 89 ls []) := by
  have hx := C.1
  have hb := C.2.1
  unfold f_X11_laysFrames_89 at hf
  refine lv_aload_n hx hb dX11_laysFrames_89 rfl (lv_at hl 0 rfl) ?_
  refine fg_X11_37 C hH dX11_laysFrames_90 ?_
  refine lv_iload hx hb dX11_laysFrames_93 (lv_at hl 3 rfl) ?_
  refine lv_iload_n hx hb dX11_laysFrames_95 rfl (lv_at hl 2 rfl) ?_
  refine g_iast C hH kc_723 hf dX11_laysFrames_96 (fun w1 H locs hf hH => ?_)
  refine lv_iload hx hb dX11_laysFrames_97 (lv_at hl 4 rfl) ?_
  refine lv_iconst (v := (4 : Int32)) hx hb dX11_laysFrames_99 (by decide) ?_
  refine b_icmp_eq (tgt := 109) hx hb hf dX11_laysFrames_100 (by decide) (fun hf => ?_) (fun hf => ?_)
  · exact t_X11_laysFrames_109 C hr_31 hH (lv_sub hl [0, 1, 2, 3, 4] rfl) hf
  · refine lv_iload hx hb dX11_laysFrames_103 (lv_at hl 4 rfl) ?_
    refine lv_iconst (v := (5 : Int32)) hx hb dX11_laysFrames_105 (by decide) ?_
    refine b_icmp_ne (tgt := 130) hx hb hf dX11_laysFrames_106 (by decide) (fun hf => ?_) (fun hf => ?_)
    · refine lv_iload hx hb dX11_laysFrames_130 (lv_at hl 4 rfl) ?_
      refine lv_bipush (v := (7 : Int32)) hx hb dX11_laysFrames_132 (by decide) ?_
      refine lv_bipush (v := (9 : Int32)) hx hb dX11_laysFrames_134 (by decide) ?_
      obtain ⟨x3, w2, hc, hf⟩ := bd_some hf
      refine q_callS1 (v := .int x3) (As := [.int v5, .int (7 : Int32), .int (9 : Int32)]) C hH gk_X11_111 yd_X11_in (by omega) (by omega) (c_X11_in hc) hl.1 rfl (Nat.le_of_ble_eq_true rfl) dX11_laysFrames_136 ⟨by decide, by decide⟩ (fun H locs hH z_x3 => ?_)
      refine b_if_eq (tgt := 203) hx hb hf dX11_laysFrames_139 (by decide) (fun hf => ?_) (fun hf => ?_)
      · refine lv_iload hx hb dX11_laysFrames_203 (lv_at hl 4 rfl) ?_
        refine lv_bipush (v := (6 : Int32)) hx hb dX11_laysFrames_205 (by decide) ?_
        refine b_icmp_ne (tgt := 227) hx hb hf dX11_laysFrames_207 (by decide) (fun hf => ?_) (fun hf => ?_)
        · refine b_let hf (fun x4 he hf => ?_)
          refine lv_iinc (v := x4) (lv' := [(4, .int x4), (0, .ref (B + 713)), (1, .int v1), (3, .int v3), (5, .int v5)]) hx hb dX11_laysFrames_227 hl (k := 3) rfl (by rw [← he]; rfl) (by decide) rfl (fun ls hl => ?_)
          refine lv_goto (tgt := 31) hx hb dX11_laysFrames_230 (by decide) ?_
          exact hr_31 v1 v3 x4 w2 hf _ _ _ hH (lv_sub hl [1, 2, 3, 0] rfl)
        · refine lv_aload_n hx hb dX11_laysFrames_210 rfl (lv_at hl 0 rfl) ?_
          refine fg_X11_55 C hH dX11_laysFrames_211 ?_
          refine lv_iload_n hx hb dX11_laysFrames_214 rfl (lv_at hl 2 rfl) ?_
          refine g_iald C hH kc_729 hf dX11_laysFrames_215 (fun x5 hf => ?_)
          refine lv_iconst (v := (1 : Int32)) hx hb dX11_laysFrames_216 (by decide) ?_
          refine b_icmp_ne (tgt := 227) hx hb hf dX11_laysFrames_217 (by decide) (fun hf => ?_) (fun hf => ?_)
          · refine b_let hf (fun x6 he hf => ?_)
            refine lv_iinc (v := x6) (lv' := [(4, .int x6), (0, .ref (B + 713)), (1, .int v1), (3, .int v3), (5, .int v5)]) hx hb dX11_laysFrames_227 hl (k := 3) rfl (by rw [← he]; rfl) (by decide) rfl (fun ls hl => ?_)
            refine lv_goto (tgt := 31) hx hb dX11_laysFrames_230 (by decide) ?_
            exact hr_31 v1 v3 x6 w2 hf _ _ _ hH (lv_sub hl [1, 2, 3, 0] rfl)
          · refine lv_aload_n hx hb dX11_laysFrames_220 rfl (lv_at hl 0 rfl) ?_
            refine fg_X11_58 C hH dX11_laysFrames_221 ?_
            refine lv_iload_n hx hb dX11_laysFrames_224 rfl (lv_at hl 2 rfl) ?_
            refine g_iald C hH kc_730 hf dX11_laysFrames_225 (fun x7 hf => ?_)
            refine lv_istore_n (lv' := [(3, .int x7), (0, .ref (B + 713)), (1, .int v1), (4, .int v4), (5, .int v5)]) hx hb dX11_laysFrames_226 rfl hl (by decide) rfl (fun ls hl => ?_)
            refine b_let hf (fun x8 he hf => ?_)
            refine lv_iinc (v := x8) (lv' := [(4, .int x8), (3, .int x7), (0, .ref (B + 713)), (1, .int v1), (5, .int v5)]) hx hb dX11_laysFrames_227 hl (k := 3) rfl (by rw [← he]; rfl) (by decide) rfl (fun ls hl => ?_)
            refine lv_goto (tgt := 31) hx hb dX11_laysFrames_230 (by decide) ?_
            exact hr_31 v1 x7 x8 w2 hf _ _ _ hH (lv_sub hl [2, 3, 1, 0] rfl)
      · refine lv_iload hx hb dX11_laysFrames_142 (lv_at hl 4 rfl) ?_
        refine lv_bipush (v := (9 : Int32)) hx hb dX11_laysFrames_144 (by decide) ?_
        refine b_icmp_ne (tgt := 177) hx hb hf dX11_laysFrames_146 (by decide) (fun hf => ?_) (fun hf => ?_)
        · refine lv_iload hx hb dX11_laysFrames_177 (lv_at hl 4 rfl) ?_
          refine lv_bipush (v := (8 : Int32)) hx hb dX11_laysFrames_179 (by decide) ?_
          refine b_icmp_ne (tgt := 188) hx hb hf dX11_laysFrames_181 (by decide) (fun hf => ?_) (fun hf => ?_)
          · refine lv_iconst (v := (0 : Int32)) hx hb dX11_laysFrames_188 (by decide) ?_
            exact t_X11_laysFrames_189 C hr_31 isZ_0 hH (lv_sub hl [0, 1, 2, 3] rfl) hf
          · refine lv_iconst (v := (1 : Int32)) hx hb dX11_laysFrames_184 (by decide) ?_
            refine lv_goto (tgt := 189) hx hb dX11_laysFrames_185 (by decide) ?_
            exact t_X11_laysFrames_189 C hr_31 isZ_1 hH (lv_sub hl [0, 1, 2, 3] rfl) hf
        · refine lv_aload_n hx hb dX11_laysFrames_149 rfl (lv_at hl 0 rfl) ?_
          refine lv_iload_n hx hb dX11_laysFrames_150 rfl (lv_at hl 1 rfl) ?_
          refine lv_iload hx hb dX11_laysFrames_151 (lv_at hl 3 rfl) ?_
          refine lv_iconst (v := (1 : Int32)) hx hb dX11_laysFrames_153 (by decide) ?_
          refine lv_iadd hx hb dX11_laysFrames_154 ?_
          refine lv_aload_n hx hb dX11_laysFrames_155 rfl (lv_at hl 0 rfl) ?_
          refine fg_X11_43 C hH dX11_laysFrames_156 ?_
          refine lv_iload hx hb dX11_laysFrames_159 (lv_at hl 3 rfl) ?_
          refine g_iald C hH kc_725 hf dX11_laysFrames_161 (fun x9 hf => ?_)
          obtain ⟨x11, w10, hc, hf⟩ := bd_some hf
          refine q_callV1 (v := .int x11) (As := [.int v1, .int (v4 + (1 : Int32)), .int x9]) C hH (ci := 11) rfl (by omega) gk_X11_214 yd_X11_baseOf (by omega) (by omega) kc_713 (c_X11_baseOf hc) hl.1 rfl (Nat.le_of_ble_eq_true rfl) dX11_laysFrames_162 ⟨by decide, by decide⟩ (fun H locs hH hP => ?_)
          refine lv_iconst (v := (1 : Int32)) hx hb dX11_laysFrames_165 (by decide) ?_
          refine b_icmp_ne (tgt := 173) hx hb hf dX11_laysFrames_166 (by decide) (fun hf => ?_) (fun hf => ?_)
          · refine lv_iconst (v := (0 : Int32)) hx hb dX11_laysFrames_173 (by decide) ?_
            refine lv_goto (tgt := 189) hx hb dX11_laysFrames_174 (by decide) ?_
            exact t_X11_laysFrames_189 C hr_31 isZ_0 hH (lv_sub hl [0, 1, 2, 3] rfl) hf
          · refine lv_iconst (v := (1 : Int32)) hx hb dX11_laysFrames_169 (by decide) ?_
            refine lv_goto (tgt := 189) hx hb dX11_laysFrames_170 (by decide) ?_
            exact t_X11_laysFrames_189 C hr_31 isZ_1 hH (lv_sub hl [0, 1, 2, 3] rfl) hf
    · exact t_X11_laysFrames_109 C hr_31 hH (lv_sub hl [0, 1, 2, 3, 4] rfl) hf
set_option maxRecDepth 100000 in
set_option maxHeartbeats 4000000 in
theorem tb_X11_laysFrames_62 {D : va_G} {B : Nat} {Y : Nat → ClassId} {p : Program} {l : Launch} {e : Env} {s : State} {m : MethodId} {args : Array Value} {below : List Frame} {meth : Method} {c : Code} {z : (Unit × Wd)} {H : Heap} {locs : List Loc} {ls : Array Slot} {w : Wd} {v1 : Int32} {v3 : Int32} {v4 : Int32} {v5 : Int32} (C : CX D B Y p s m args meth c cX11_laysFrames 7 RX11 none)  {rc_62 : Int32 × Int32 × Int32 × Int32 × Wd → Option (Unit × Wd)} (hr_62 : ∀ (v1 : Int32) (v3 : Int32) (v4 : Int32) (v5 : Int32) (w : Wd), rc_62 (v1, v3, v4, v5, w) = some z → ∀ (H : Heap) (locs : List Loc) (ls : Array Slot), HS D B Y w s H locs → lv_has ls 7 [(0, .ref (B + 713)), (1, .int v1), (3, .int v3), (4, .int v4), (5, .int v5)] → W p l e (RM 3 0 0) s m args below meth c H locs 0 0 (MQ below (QG D B Y none z.2 True) args s 0 0 (AB B)) (F0 m 62 ls [])) {rc_31 : Int32 × Int32 × Int32 × Wd → Option (Unit × Wd)} (hr_31 : ∀ (v1 : Int32) (v3 : Int32) (v4 : Int32) (w : Wd), rc_31 (v1, v3, v4, w) = some z → ∀ (H : Heap) (locs : List Loc) (ls : Array Slot), HS D B Y w s H locs → lv_has ls 7 [(0, .ref (B + 713)), (1, .int v1), (3, .int v3), (4, .int v4)] → W p l e (RM 3 0 0) s m args below meth c H locs 0 0 (MQ below (QG D B Y none z.2 True) args s 0 0 (AB B)) (F0 m 31 ls []))    (hH : HS D B Y w s H locs) (hl : lv_has ls 7 [(0, .ref (B + 713)), (1, .int v1), (3, .int v3), (4, .int v4), (5, .int v5)]) (hf : g_X11_laysFrames_62 rc_62 rc_31 v1 v3 v4 v5 w = some z) : W p l e (RM 3 0 0) s m args below meth c H locs 0 0 (MQ below (QG D B Y none z.2 True) args s 0 0 (AB B)) (F0 m 62 ls []) := by
  have hx := C.1
  have hb := C.2.1
  unfold g_X11_laysFrames_62 at hf
  refine lv_aload_n hx hb dX11_laysFrames_62 rfl (lv_at hl 0 rfl) ?_
  refine fg_X11_55 C hH dX11_laysFrames_63 ?_
  refine lv_iload_n hx hb dX11_laysFrames_66 rfl (lv_at hl 2 rfl) ?_
  refine g_iald C hH kc_729 hf dX11_laysFrames_67 (fun x1 hf => ?_)
  refine lv_iconst (v := (2 : Int32)) hx hb dX11_laysFrames_68 (by decide) ?_
  refine b_icmp_eq (tgt := 82) hx hb hf dX11_laysFrames_69 (by decide) (fun hf => ?_) (fun hf => ?_)
  · refine lv_aload_n hx hb dX11_laysFrames_82 rfl (lv_at hl 0 rfl) ?_
    refine fg_X11_58 C hH dX11_laysFrames_83 ?_
    refine lv_iload_n hx hb dX11_laysFrames_86 rfl (lv_at hl 2 rfl) ?_
    refine g_iald C hH kc_730 hf dX11_laysFrames_87 (fun x2 hf => ?_)
    refine lv_istore_n (lv' := [(3, .int x2), (0, .ref (B + 713)), (1, .int v1), (4, .int v4), (5, .int v5)]) hx hb dX11_laysFrames_88 rfl hl (by decide) rfl (fun ls hl => ?_)
    exact t_X11_laysFrames_89 C hr_31 hH (lv_sub hl [1, 2, 0, 3, 4] rfl) hf
  · refine lv_aload_n hx hb dX11_laysFrames_72 rfl (lv_at hl 0 rfl) ?_
    refine fg_X11_58 C hH dX11_laysFrames_73 ?_
    refine lv_iload_n hx hb dX11_laysFrames_76 rfl (lv_at hl 2 rfl) ?_
    refine g_iald C hH kc_730 hf dX11_laysFrames_77 (fun x3 hf => ?_)
    refine lv_istore_n (lv' := [(3, .int x3), (0, .ref (B + 713)), (1, .int v1), (4, .int v4), (5, .int v5)]) hx hb dX11_laysFrames_78 rfl hl (by decide) rfl (fun ls hl => ?_)
    refine lv_goto (tgt := 62) hx hb dX11_laysFrames_79 (by decide) ?_
    exact hr_62 v1 x3 v4 v5 w hf _ _ _ hH (lv_sub hl [1, 2, 0, 3, 4] rfl)
set_option maxRecDepth 100000 in
set_option maxHeartbeats 4000000 in
theorem t_X11_laysFrames_62 {D : va_G} {B : Nat} {Y : Nat → ClassId} {p : Program} {l : Launch} {e : Env} {s : State} {m : MethodId} {args : Array Value} {below : List Frame} {meth : Method} {c : Code} {z : (Unit × Wd)} {H : Heap} {locs : List Loc} {ls : Array Slot} {w : Wd} {v1 : Int32} {v3 : Int32} {v4 : Int32} {v5 : Int32} (C : CX D B Y p s m args meth c cX11_laysFrames 7 RX11 none)  {rc_31 : Int32 × Int32 × Int32 × Wd → Option (Unit × Wd)} (hr_31 : ∀ (v1 : Int32) (v3 : Int32) (v4 : Int32) (w : Wd), rc_31 (v1, v3, v4, w) = some z → ∀ (H : Heap) (locs : List Loc) (ls : Array Slot), HS D B Y w s H locs → lv_has ls 7 [(0, .ref (B + 713)), (1, .int v1), (3, .int v3), (4, .int v4)] → W p l e (RM 3 0 0) s m args below meth c H locs 0 0 (MQ below (QG D B Y none z.2 True) args s 0 0 (AB B)) (F0 m 31 ls []))    (hH : HS D B Y w s H locs) (hl : lv_has ls 7 [(0, .ref (B + 713)), (1, .int v1), (3, .int v3), (4, .int v4), (5, .int v5)]) (hf : f_X11_laysFrames_62 rc_31 v1 v3 v4 v5 w = some z) : W p l e (RM 3 0 0) s m args below meth c H locs 0 0 (MQ below (QG D B Y none z.2 True) args s 0 0 (AB B)) (F0 m 62 ls []) := by
  exact loopN_ind (z := z) (body := fun rc σ => g_X11_laysFrames_62 rc rc_31 σ.1 σ.2.1 σ.2.2.1 σ.2.2.2.1 σ.2.2.2.2)
    (P := fun σ => ∀ (H : Heap) (locs : List Loc) (ls : Array Slot), HS D B Y σ.2.2.2.2 s H locs → lv_has ls 7 [(0, .ref (B + 713)), (1, .int σ.1), (3, .int σ.2.1), (4, .int σ.2.2.1), (5, .int σ.2.2.2.1)] → W p l e (RM 3 0 0) s m args below meth c H locs 0 0 (MQ below (QG D B Y none z.2 True) args s 0 0 (AB B)) (F0 m 62 ls []))
    (fun rc hrec σ hf  H locs ls hH hl => tb_X11_laysFrames_62 C (fun v1 v3 v4 v5 w hr  H locs ls hH hl => hrec (v1, v3, v4, v5, w) hr  H locs ls hH hl) hr_31  hH hl hf) FU (v1, v3, v4, v5, w) hf  H locs ls hH hl
set_option maxRecDepth 100000 in
set_option maxHeartbeats 4000000 in
theorem tb_X11_laysFrames_31 {D : va_G} {B : Nat} {Y : Nat → ClassId} {p : Program} {l : Launch} {e : Env} {s : State} {m : MethodId} {args : Array Value} {below : List Frame} {meth : Method} {c : Code} {z : (Unit × Wd)} {H : Heap} {locs : List Loc} {ls : Array Slot} {w : Wd} {v1 : Int32} {v3 : Int32} {v4 : Int32} (C : CX D B Y p s m args meth c cX11_laysFrames 7 RX11 none)  {rc_31 : Int32 × Int32 × Int32 × Wd → Option (Unit × Wd)} (hr_31 : ∀ (v1 : Int32) (v3 : Int32) (v4 : Int32) (w : Wd), rc_31 (v1, v3, v4, w) = some z → ∀ (H : Heap) (locs : List Loc) (ls : Array Slot), HS D B Y w s H locs → lv_has ls 7 [(0, .ref (B + 713)), (1, .int v1), (3, .int v3), (4, .int v4)] → W p l e (RM 3 0 0) s m args below meth c H locs 0 0 (MQ below (QG D B Y none z.2 True) args s 0 0 (AB B)) (F0 m 31 ls []))    (hH : HS D B Y w s H locs) (hl : lv_has ls 7 [(0, .ref (B + 713)), (1, .int v1), (3, .int v3), (4, .int v4)]) (hf : g_X11_laysFrames_31 rc_31 v1 v3 v4 w = some z) : W p l e (RM 3 0 0) s m args below meth c H locs 0 0 (MQ below (QG D B Y none z.2 True) args s 0 0 (AB B)) (F0 m 31 ls []) := by
  have hx := C.1
  have hb := C.2.1
  unfold g_X11_laysFrames_31 at hf
  refine lv_iload hx hb dX11_laysFrames_31 (lv_at hl 3 rfl) ?_
  refine lv_aload_n hx hb dX11_laysFrames_33 rfl (lv_at hl 0 rfl) ?_
  refine fg_X11_19 C hH dX11_laysFrames_34 ?_
  refine lv_iload_n hx hb dX11_laysFrames_37 rfl (lv_at hl 1 rfl) ?_
  refine g_iald C hH kc_717 hf dX11_laysFrames_38 (fun x1 hf => ?_)
  refine b_icmp_ge (tgt := 233) hx hb hf dX11_laysFrames_39 (by decide) (fun hf => ?_) (fun hf => ?_)
  · cases hf
    exact q_retv C hH trivial dX11_laysFrames_233
  · refine lv_aload_n hx hb dX11_laysFrames_42 rfl (lv_at hl 0 rfl) ?_
    refine lv_iload_n hx hb dX11_laysFrames_43 rfl (lv_at hl 1 rfl) ?_
    refine lv_iload hx hb dX11_laysFrames_44 (lv_at hl 3 rfl) ?_
    obtain ⟨x3, w2, hc, hf⟩ := bd_some hf
    refine q_callV1 (v := .int x3) (As := [.int v1, .int v4]) C hH (ci := 11) rfl (by omega) gk_X11_204 yd_X11_directionAt (by omega) (by omega) kc_713 (c_X11_directionAt hc) hl.1 rfl (Nat.le_of_ble_eq_true rfl) dX11_laysFrames_46 ⟨by decide, by decide⟩ (fun H locs hH hP => ?_)
    refine lv_istore (lv' := [(5, .int x3), (0, .ref (B + 713)), (1, .int v1), (3, .int v3), (4, .int v4)]) hx hb dX11_laysFrames_49 hl (by decide) rfl (fun ls hl => ?_)
    refine lv_aload_n hx hb dX11_laysFrames_51 rfl (lv_at hl 1 rfl) ?_
    refine fg_X11_46 C hH dX11_laysFrames_52 ?_
    refine lv_iload hx hb dX11_laysFrames_55 (lv_at hl 4 rfl) ?_
    refine g_iald C hH kc_726 hf dX11_laysFrames_57 (fun x4 hf => ?_)
    refine lv_iconst (v := (-1 : Int32)) hx hb dX11_laysFrames_58 (by decide) ?_
    refine b_icmp_eq (tgt := 89) hx hb hf dX11_laysFrames_59 (by decide) (fun hf => ?_) (fun hf => ?_)
    · exact t_X11_laysFrames_89 C hr_31 hH (lv_sub hl [1, 2, 3, 4, 0] rfl) hf
    · exact t_X11_laysFrames_62 C hr_31 hH (lv_sub hl [1, 2, 3, 4, 0] rfl) hf
set_option maxRecDepth 100000 in
set_option maxHeartbeats 4000000 in
theorem t_X11_laysFrames_31 {D : va_G} {B : Nat} {Y : Nat → ClassId} {p : Program} {l : Launch} {e : Env} {s : State} {m : MethodId} {args : Array Value} {below : List Frame} {meth : Method} {c : Code} {z : (Unit × Wd)} {H : Heap} {locs : List Loc} {ls : Array Slot} {w : Wd} {v1 : Int32} {v3 : Int32} {v4 : Int32} (C : CX D B Y p s m args meth c cX11_laysFrames 7 RX11 none)     (hH : HS D B Y w s H locs) (hl : lv_has ls 7 [(0, .ref (B + 713)), (1, .int v1), (3, .int v3), (4, .int v4)]) (hf : f_X11_laysFrames_31 v1 v3 v4 w = some z) : W p l e (RM 3 0 0) s m args below meth c H locs 0 0 (MQ below (QG D B Y none z.2 True) args s 0 0 (AB B)) (F0 m 31 ls []) := by
  exact loopN_ind (z := z) (body := fun rc σ => g_X11_laysFrames_31 rc  σ.1 σ.2.1 σ.2.2.1 σ.2.2.2)
    (P := fun σ => ∀ (H : Heap) (locs : List Loc) (ls : Array Slot), HS D B Y σ.2.2.2 s H locs → lv_has ls 7 [(0, .ref (B + 713)), (1, .int σ.1), (3, .int σ.2.1), (4, .int σ.2.2.1)] → W p l e (RM 3 0 0) s m args below meth c H locs 0 0 (MQ below (QG D B Y none z.2 True) args s 0 0 (AB B)) (F0 m 31 ls []))
    (fun rc hrec σ hf  H locs ls hH hl => tb_X11_laysFrames_31 C (fun v1 v3 v4 w hr  H locs ls hH hl => hrec (v1, v3, v4, w) hr  H locs ls hH hl)   hH hl hf) FU (v1, v3, v4, w) hf  H locs ls hH hl
set_option maxRecDepth 100000 in
set_option maxHeartbeats 4000000 in
theorem t_X11_laysFrames_0 {D : va_G} {B : Nat} {Y : Nat → ClassId} {p : Program} {l : Launch} {e : Env} {s : State} {m : MethodId} {args : Array Value} {below : List Frame} {meth : Method} {c : Code} {z : (Unit × Wd)} {H : Heap} {locs : List Loc} {ls : Array Slot} {w : Wd} {v1 : Int32} {v2 : Int32} (C : CX D B Y p s m args meth c cX11_laysFrames 7 RX11 none)     (hH : HS D B Y w s H locs) (hl : lv_has ls 7 [(0, .ref (B + 713)), (1, .int v1), (2, .int v2)]) (hf : f_X11_laysFrames v1 v2 w = some z) : W p l e (RM 3 0 0) s m args below meth c H locs 0 0 (MQ below (QG D B Y none z.2 True) args s 0 0 (AB B)) (F0 m 0 ls []) := by
  have hx := C.1
  have hb := C.2.1
  unfold f_X11_laysFrames at hf
  refine lv_aload_n hx hb dX11_laysFrames_0 rfl (lv_at hl 0 rfl) ?_
  refine lv_iconst (v := (1 : Int32)) hx hb dX11_laysFrames_1 (by decide) ?_
  refine fp_X11_207 C hH dX11_laysFrames_2 (fun H locs hH => ?_)
  refine b_w hf hH (fun w1 hf hH => ?_)
  refine lv_aload_n hx hb dX11_laysFrames_5 rfl (lv_at hl 0 rfl) ?_
  refine fg_X11_52 C hH dX11_laysFrames_6 ?_
  refine lv_iconst (v := (0 : Int32)) hx hb dX11_laysFrames_9 (by decide) ?_
  refine lv_iload_n hx hb dX11_laysFrames_10 rfl (lv_at hl 2 rfl) ?_
  refine g_iast C hH kc_728 hf dX11_laysFrames_11 (fun w2 H locs hf hH => ?_)
  refine lv_aload_n hx hb dX11_laysFrames_12 rfl (lv_at hl 0 rfl) ?_
  refine fg_X11_55 C hH dX11_laysFrames_13 ?_
  refine lv_iconst (v := (0 : Int32)) hx hb dX11_laysFrames_16 (by decide) ?_
  refine lv_iconst (v := (0 : Int32)) hx hb dX11_laysFrames_17 (by decide) ?_
  refine g_iast C hH kc_729 hf dX11_laysFrames_18 (fun w3 H locs hf hH => ?_)
  refine lv_aload_n hx hb dX11_laysFrames_19 rfl (lv_at hl 0 rfl) ?_
  refine fg_X11_58 C hH dX11_laysFrames_20 ?_
  refine lv_iconst (v := (0 : Int32)) hx hb dX11_laysFrames_23 (by decide) ?_
  refine lv_iconst (v := (-1 : Int32)) hx hb dX11_laysFrames_24 (by decide) ?_
  refine g_iast C hH kc_730 hf dX11_laysFrames_25 (fun w4 H locs hf hH => ?_)
  refine lv_iconst (v := (0 : Int32)) hx hb dX11_laysFrames_26 (by decide) ?_
  refine lv_istore_n (lv' := [(3, .int (0 : Int32)), (0, .ref (B + 713)), (1, .int v1), (2, .int v2)]) hx hb dX11_laysFrames_27 rfl hl (by decide) rfl (fun ls hl => ?_)
  refine lv_iconst (v := (0 : Int32)) hx hb dX11_laysFrames_28 (by decide) ?_
  refine lv_istore (lv' := [(4, .int (0 : Int32)), (3, .int (0 : Int32)), (0, .ref (B + 713)), (1, .int v1), (2, .int v2)]) hx hb dX11_laysFrames_29 hl (by decide) rfl (fun ls hl => ?_)
  exact t_X11_laysFrames_31 C hH (lv_sub hl [2, 3, 1, 0] rfl) hf
set_option maxRecDepth 100000 in
theorem c_X11_laysFrames {l : Launch} {D : va_G} {B : Nat} {Y : Nat → ClassId} {v1 : Int32} {v2 : Int32} {w : Wd} {r : Unit} {w1 : Wd}   (hf : f_X11_laysFrames v1 v2 w = some (r, w1)) : CM l D B Y yX11_laysFrames cX11_laysFrames 7 none 3 [.ref (B + 713), .int v1, .int v2] w none w1 True :=
  CM_of (by decide +kernel) (Nat.le_of_ble_eq_true rfl) (fun p e s m args below meth c ls C hH hl => t_X11_laysFrames_0 C  hH (lv_sub hl [0, 1, 2] rfl) hf)
/-! LetterTablesModel.goes -/
set_option maxRecDepth 100000 in
set_option maxHeartbeats 4000000 in
theorem t_X11_goes_0 {D : va_G} {B : Nat} {Y : Nat → ClassId} {p : Program} {l : Launch} {e : Env} {s : State} {m : MethodId} {args : Array Value} {below : List Frame} {meth : Method} {c : Code} {z : (Int32 × Wd)} {H : Heap} {locs : List Loc} {ls : Array Slot} {w : Wd} {v1 : Int32} (C : CX D B Y p s m args meth c cX11_goes 2 RX11 (some .int))     (hH : HS D B Y w s H locs) (hl : lv_has ls 2 [(0, .ref (B + 713)), (1, .int v1)]) (hf : f_X11_goes v1 w = some z) : W p l e (RM 0 0 0) s m args below meth c H locs 0 0 (MQ below (QG D B Y (some (.int z.1)) z.2 True) args s 0 0 (AB B)) (F0 m 0 ls []) := by
  have hx := C.1
  have hb := C.2.1
  unfold f_X11_goes at hf
  refine lv_aload_n hx hb dX11_goes_0 rfl (lv_at hl 0 rfl) ?_
  refine fg_X11_40 C hH dX11_goes_1 ?_
  refine lv_iload_n hx hb dX11_goes_4 rfl (lv_at hl 1 rfl) ?_
  refine g_iald C hH kc_724 hf dX11_goes_5 (fun x1 hf => ?_)
  refine lv_iconst (v := (2 : Int32)) hx hb dX11_goes_6 (by decide) ?_
  refine b_icmp_ne (tgt := 14) hx hb hf dX11_goes_7 (by decide) (fun hf => ?_) (fun hf => ?_)
  · refine lv_aload_n hx hb dX11_goes_14 rfl (lv_at hl 0 rfl) ?_
    refine fg_X11_40 C hH dX11_goes_15 ?_
    refine lv_iload_n hx hb dX11_goes_18 rfl (lv_at hl 1 rfl) ?_
    refine g_iald C hH kc_724 hf dX11_goes_19 (fun x2 hf => ?_)
    cases hf
    exact q_reti C hH trivial dX11_goes_20
  · refine lv_iconst (v := (1 : Int32)) hx hb dX11_goes_10 (by decide) ?_
    refine lv_goto (tgt := 20) hx hb dX11_goes_11 (by decide) ?_
    cases hf
    exact q_reti C hH trivial dX11_goes_20
set_option maxRecDepth 100000 in
theorem c_X11_goes {l : Launch} {D : va_G} {B : Nat} {Y : Nat → ClassId} {v1 : Int32} {w : Wd} {r : Int32} {w1 : Wd}   (hf : f_X11_goes v1 w = some (r, w1)) : CM l D B Y yX11_goes cX11_goes 2 (some .int) 0 [.ref (B + 713), .int v1] w (some (.int r)) w1 True :=
  CM_of (by decide +kernel) (Nat.le_of_ble_eq_true rfl) (fun p e s m args below meth c ls C hH hl => t_X11_goes_0 C  hH (lv_sub hl [0, 1] rfl) hf)
/-! LetterTablesModel.laysNumbers -/
set_option maxRecDepth 100000 in
set_option maxHeartbeats 4000000 in
theorem t_X11_laysNumbers_72 {D : va_G} {B : Nat} {Y : Nat → ClassId} {p : Program} {l : Launch} {e : Env} {s : State} {m : MethodId} {args : Array Value} {below : List Frame} {meth : Method} {c : Code} {z : (Unit × Wd)} {H : Heap} {locs : List Loc} {ls : Array Slot} {w : Wd} {v1 : Int32} {v2 : Int32} {v3 : Int32} {v4 : Int32} {v5 : Int32} {v6 : Int32} {v7 : Int32} {t0 : Int32} (C : CX D B Y p s m args meth c cX11_laysNumbers 9 RX11 none)  {rc_6 : Int32 × Int32 × Int32 × Int32 × Int32 × Wd → Option (Unit × Wd)} (hr_6 : ∀ (v1 : Int32) (v2 : Int32) (v3 : Int32) (v4 : Int32) (v5 : Int32) (w : Wd), rc_6 (v1, v2, v3, v4, v5, w) = some z → ∀ (H : Heap) (locs : List Loc) (ls : Array Slot), HS D B Y w s H locs → lv_has ls 9 [(0, .ref (B + 713)), (1, .int v1), (2, .int v2), (3, .int v3), (4, .int v4), (5, .int v5)] → W p l e (RM 2 0 0) s m args below meth c H locs 0 0 (MQ below (QG D B Y none z.2 True) args s 0 0 (AB B)) (F0 m 6 ls []))   (z_t0 : isZ t0) (hH : HS D B Y w s H locs) (hl : lv_has ls 9 [(0, .ref (B + 713)), (1, .int v1), (2, .int v2), (3, .int v3), (4, .int v4), (5, .int v5), (6, .int v6), (7, .int v7)]) (hf : f_X11_laysNumbers_72 rc_6 v1 v2 v3 v4 v5 v6 v7 t0 w = some z) : W p l e (RM 2 0 0) s m args below meth c H locs 0 0 (MQ below (QG D B Y none z.2 True) args s 0 0 (AB B)) (F0 m 72 ls [.int t0]) := by
  have hx := C.1
  have hb := C.2.1
  unfold f_X11_laysNumbers_72 at hf
  refine lv_istore (lv' := [(8, .int t0), (0, .ref (B + 713)), (1, .int v1), (2, .int v2), (3, .int v3), (4, .int v4), (5, .int v5), (6, .int v6), (7, .int v7)]) hx hb dX11_laysNumbers_72 hl (by decide) rfl (fun ls hl => ?_)
  refine lv_aload_n hx hb dX11_laysNumbers_74 rfl (lv_at hl 1 rfl) ?_
  refine fg_X11_40 C hH dX11_laysNumbers_75 ?_
  refine lv_iload hx hb dX11_laysNumbers_78 (lv_at hl 7 rfl) ?_
  refine lv_iload hx hb dX11_laysNumbers_80 (lv_at hl 8 rfl) ?_
  refine b_if_ne (tgt := 89) hx hb hf dX11_laysNumbers_82 (by decide) (fun hf => ?_) (fun hf => ?_)
  · refine lv_iload hx hb dX11_laysNumbers_89 (lv_at hl 8 rfl) ?_
    refine lv_iconst (v := (1 : Int32)) hx hb dX11_laysNumbers_91 (by decide) ?_
    refine b_icmp_ne (tgt := 99) hx hb hf dX11_laysNumbers_92 (by decide) (fun hf => ?_) (fun hf => ?_)
    · refine lv_iload hx hb dX11_laysNumbers_99 (lv_at hl 8 rfl) ?_
      refine lv_iconst (v := (2 : Int32)) hx hb dX11_laysNumbers_101 (by decide) ?_
      refine b_icmp_ne (tgt := 118) hx hb hf dX11_laysNumbers_102 (by decide) (fun hf => ?_) (fun hf => ?_)
      · refine lv_iconst (v := (3 : Int32)) hx hb dX11_laysNumbers_118 (by decide) ?_
        refine g_iast C hH kc_724 hf dX11_laysNumbers_119 (fun w1 H locs hf hH => ?_)
        refine b_let hf (fun x2 he hf => ?_)
        refine lv_iinc (v := x2) (lv' := [(5, .int x2), (8, .int t0), (0, .ref (B + 713)), (1, .int v1), (2, .int v2), (3, .int v3), (4, .int v4), (6, .int v6), (7, .int v7)]) hx hb dX11_laysNumbers_120 hl (k := 6) rfl (by rw [← he]; rfl) (by decide) rfl (fun ls hl => ?_)
        refine lv_goto (tgt := 6) hx hb dX11_laysNumbers_123 (by decide) ?_
        exact hr_6 v1 v2 v3 v4 x2 w1 hf _ _ _ hH (lv_sub hl [2, 3, 4, 5, 6, 0] rfl)
      · refine lv_iload hx hb dX11_laysNumbers_105 (lv_at hl 0 rfl) ?_
        refine b_if_eq (tgt := 114) hx hb hf dX11_laysNumbers_107 (by decide) (fun hf => ?_) (fun hf => ?_)
        · refine lv_iconst (v := (2 : Int32)) hx hb dX11_laysNumbers_114 (by decide) ?_
          refine lv_goto (tgt := 119) hx hb dX11_laysNumbers_115 (by decide) ?_
          refine g_iast C hH kc_724 hf dX11_laysNumbers_119 (fun w3 H locs hf hH => ?_)
          refine b_let hf (fun x4 he hf => ?_)
          refine lv_iinc (v := x4) (lv' := [(5, .int x4), (8, .int t0), (0, .ref (B + 713)), (1, .int v1), (2, .int v2), (3, .int v3), (4, .int v4), (6, .int v6), (7, .int v7)]) hx hb dX11_laysNumbers_120 hl (k := 6) rfl (by rw [← he]; rfl) (by decide) rfl (fun ls hl => ?_)
          refine lv_goto (tgt := 6) hx hb dX11_laysNumbers_123 (by decide) ?_
          exact hr_6 v1 v2 v3 v4 x4 w3 hf _ _ _ hH (lv_sub hl [2, 3, 4, 5, 6, 0] rfl)
        · refine lv_iconst (v := (0 : Int32)) hx hb dX11_laysNumbers_110 (by decide) ?_
          refine lv_goto (tgt := 119) hx hb dX11_laysNumbers_111 (by decide) ?_
          refine g_iast C hH kc_724 hf dX11_laysNumbers_119 (fun w5 H locs hf hH => ?_)
          refine b_let hf (fun x6 he hf => ?_)
          refine lv_iinc (v := x6) (lv' := [(5, .int x6), (8, .int t0), (0, .ref (B + 713)), (1, .int v1), (2, .int v2), (3, .int v3), (4, .int v4), (6, .int v6), (7, .int v7)]) hx hb dX11_laysNumbers_120 hl (k := 6) rfl (by rw [← he]; rfl) (by decide) rfl (fun ls hl => ?_)
          refine lv_goto (tgt := 6) hx hb dX11_laysNumbers_123 (by decide) ?_
          exact hr_6 v1 v2 v3 v4 x6 w5 hf _ _ _ hH (lv_sub hl [2, 3, 4, 5, 6, 0] rfl)
    · refine lv_iconst (v := (1 : Int32)) hx hb dX11_laysNumbers_95 (by decide) ?_
      refine lv_goto (tgt := 119) hx hb dX11_laysNumbers_96 (by decide) ?_
      refine g_iast C hH kc_724 hf dX11_laysNumbers_119 (fun w7 H locs hf hH => ?_)
      refine b_let hf (fun x8 he hf => ?_)
      refine lv_iinc (v := x8) (lv' := [(5, .int x8), (8, .int t0), (0, .ref (B + 713)), (1, .int v1), (2, .int v2), (3, .int v3), (4, .int v4), (6, .int v6), (7, .int v7)]) hx hb dX11_laysNumbers_120 hl (k := 6) rfl (by rw [← he]; rfl) (by decide) rfl (fun ls hl => ?_)
      refine lv_goto (tgt := 6) hx hb dX11_laysNumbers_123 (by decide) ?_
      exact hr_6 v1 v2 v3 v4 x8 w7 hf _ _ _ hH (lv_sub hl [2, 3, 4, 5, 6, 0] rfl)
  · refine lv_iconst (v := (0 : Int32)) hx hb dX11_laysNumbers_85 (by decide) ?_
    refine lv_goto (tgt := 119) hx hb dX11_laysNumbers_86 (by decide) ?_
    refine g_iast C hH kc_724 hf dX11_laysNumbers_119 (fun w9 H locs hf hH => ?_)
    refine b_let hf (fun x10 he hf => ?_)
    refine lv_iinc (v := x10) (lv' := [(5, .int x10), (8, .int t0), (0, .ref (B + 713)), (1, .int v1), (2, .int v2), (3, .int v3), (4, .int v4), (6, .int v6), (7, .int v7)]) hx hb dX11_laysNumbers_120 hl (k := 6) rfl (by rw [← he]; rfl) (by decide) rfl (fun ls hl => ?_)
    refine lv_goto (tgt := 6) hx hb dX11_laysNumbers_123 (by decide) ?_
    exact hr_6 v1 v2 v3 v4 x10 w9 hf _ _ _ hH (lv_sub hl [2, 3, 4, 5, 6, 0] rfl)
set_option maxRecDepth 100000 in
set_option maxHeartbeats 4000000 in
theorem t_X11_laysNumbers_71 {D : va_G} {B : Nat} {Y : Nat → ClassId} {p : Program} {l : Launch} {e : Env} {s : State} {m : MethodId} {args : Array Value} {below : List Frame} {meth : Method} {c : Code} {z : (Unit × Wd)} {H : Heap} {locs : List Loc} {ls : Array Slot} {w : Wd} {v1 : Int32} {v2 : Int32} {v3 : Int32} {v4 : Int32} {v5 : Int32} {v6 : Int32} {v7 : Int32} (C : CX D B Y p s m args meth c cX11_laysNumbers 9 RX11 none)  {rc_6 : Int32 × Int32 × Int32 × Int32 × Int32 × Wd → Option (Unit × Wd)} (hr_6 : ∀ (v1 : Int32) (v2 : Int32) (v3 : Int32) (v4 : Int32) (v5 : Int32) (w : Wd), rc_6 (v1, v2, v3, v4, v5, w) = some z → ∀ (H : Heap) (locs : List Loc) (ls : Array Slot), HS D B Y w s H locs → lv_has ls 9 [(0, .ref (B + 713)), (1, .int v1), (2, .int v2), (3, .int v3), (4, .int v4), (5, .int v5)] → W p l e (RM 2 0 0) s m args below meth c H locs 0 0 (MQ below (QG D B Y none z.2 True) args s 0 0 (AB B)) (F0 m 6 ls []))    (hH : HS D B Y w s H locs) (hl : lv_has ls 9 [(0, .ref (B + 713)), (1, .int v1), (2, .int v2), (3, .int v3), (4, .int v4), (5, .int v5), (6, .int v6), (7, .int v7)]) (hf : f_X11_laysNumbers_71 rc_6 v1 v2 v3 v4 v5 v6 v7 w = some z) : W p l e (RM 2 0 0) s m args below meth c H locs 0 0 (MQ below (QG D B Y none z.2 True) args s 0 0 (AB B)) (F0 m 71 ls []) := by
  have hx := C.1
  have hb := C.2.1
  unfold f_X11_laysNumbers_71 at hf
  refine lv_iconst (v := (0 : Int32)) hx hb dX11_laysNumbers_71 (by decide) ?_
  exact t_X11_laysNumbers_72 C hr_6 isZ_0 hH (lv_sub hl [0, 1, 2, 3, 4, 5, 6, 7] rfl) hf
set_option maxRecDepth 100000 in
set_option maxHeartbeats 4000000 in
theorem t_X11_laysNumbers_48 {D : va_G} {B : Nat} {Y : Nat → ClassId} {p : Program} {l : Launch} {e : Env} {s : State} {m : MethodId} {args : Array Value} {below : List Frame} {meth : Method} {c : Code} {z : (Unit × Wd)} {H : Heap} {locs : List Loc} {ls : Array Slot} {w : Wd} {v1 : Int32} {v2 : Int32} {v3 : Int32} {v5 : Int32} {v6 : Int32} {v7 : Int32} {t0 : Int32} (C : CX D B Y p s m args meth c cX11_laysNumbers 9 RX11 none)  {rc_6 : Int32 × Int32 × Int32 × Int32 × Int32 × Wd → Option (Unit × Wd)} (hr_6 : ∀ (v1 : Int32) (v2 : Int32) (v3 : Int32) (v4 : Int32) (v5 : Int32) (w : Wd), rc_6 (v1, v2, v3, v4, v5, w) = some z → ∀ (H : Heap) (locs : List Loc) (ls : Array Slot), HS D B Y w s H locs → lv_has ls 9 [(0, .ref (B + 713)), (1, .int v1), (2, .int v2), (3, .int v3), (4, .int v4), (5, .int v5)] → W p l e (RM 2 0 0) s m args below meth c H locs 0 0 (MQ below (QG D B Y none z.2 True) args s 0 0 (AB B)) (F0 m 6 ls []))    (hH : HS D B Y w s H locs) (hl : lv_has ls 9 [(0, .ref (B + 713)), (1, .int v1), (2, .int v2), (3, .int v3), (5, .int v5), (6, .int v6), (7, .int v7)]) (hf : f_X11_laysNumbers_48 rc_6 v1 v2 v3 v5 v6 v7 t0 w = some z) : W p l e (RM 2 0 0) s m args below meth c H locs 0 0 (MQ below (QG D B Y none z.2 True) args s 0 0 (AB B)) (F0 m 48 ls [.int t0]) := by
  have hx := C.1
  have hb := C.2.1
  unfold f_X11_laysNumbers_48 at hf
  refine lv_istore (lv' := [(4, .int t0), (0, .ref (B + 713)), (1, .int v1), (2, .int v2), (3, .int v3), (5, .int v5), (6, .int v6), (7, .int v7)]) hx hb dX11_laysNumbers_48 hl (by decide) rfl (fun ls hl => ?_)
  refine lv_iload hx hb dX11_laysNumbers_50 (lv_at hl 0 rfl) ?_
  refine b_if_eq (tgt := 67) hx hb hf dX11_laysNumbers_52 (by decide) (fun hf => ?_) (fun hf => ?_)
  · refine lv_iconst (v := (1 : Int32)) hx hb dX11_laysNumbers_67 (by decide) ?_
    refine lv_goto (tgt := 72) hx hb dX11_laysNumbers_68 (by decide) ?_
    exact t_X11_laysNumbers_72 C hr_6 isZ_1 hH (lv_sub hl [1, 2, 3, 4, 0, 5, 6, 7] rfl) hf
  · refine lv_iload hx hb dX11_laysNumbers_55 (lv_at hl 0 rfl) ?_
    refine lv_iconst (v := (-1 : Int32)) hx hb dX11_laysNumbers_57 (by decide) ?_
    refine b_icmp_ne (tgt := 71) hx hb hf dX11_laysNumbers_58 (by decide) (fun hf => ?_) (fun hf => ?_)
    · exact t_X11_laysNumbers_71 C hr_6 hH (lv_sub hl [1, 2, 3, 4, 0, 5, 6, 7] rfl) hf
    · refine lv_iload_n hx hb dX11_laysNumbers_61 rfl (lv_at hl 4 rfl) ?_
      refine lv_iconst (v := (2 : Int32)) hx hb dX11_laysNumbers_62 (by decide) ?_
      refine lv_irem hx hb dX11_laysNumbers_63 (by decide) ?_
      refine b_if_ne (tgt := 71) hx hb hf dX11_laysNumbers_64 (by decide) (fun hf => ?_) (fun hf => ?_)
      · exact t_X11_laysNumbers_71 C hr_6 hH (lv_sub hl [1, 2, 3, 4, 0, 5, 6, 7] rfl) hf
      · refine lv_iconst (v := (1 : Int32)) hx hb dX11_laysNumbers_67 (by decide) ?_
        refine lv_goto (tgt := 72) hx hb dX11_laysNumbers_68 (by decide) ?_
        exact t_X11_laysNumbers_72 C hr_6 isZ_1 hH (lv_sub hl [1, 2, 3, 4, 0, 5, 6, 7] rfl) hf
set_option maxRecDepth 100000 in
set_option maxHeartbeats 4000000 in
theorem tb_X11_laysNumbers_6 {D : va_G} {B : Nat} {Y : Nat → ClassId} {p : Program} {l : Launch} {e : Env} {s : State} {m : MethodId} {args : Array Value} {below : List Frame} {meth : Method} {c : Code} {z : (Unit × Wd)} {H : Heap} {locs : List Loc} {ls : Array Slot} {w : Wd} {v1 : Int32} {v2 : Int32} {v3 : Int32} {v4 : Int32} {v5 : Int32} (C : CX D B Y p s m args meth c cX11_laysNumbers 9 RX11 none)  {rc_6 : Int32 × Int32 × Int32 × Int32 × Int32 × Wd → Option (Unit × Wd)} (hr_6 : ∀ (v1 : Int32) (v2 : Int32) (v3 : Int32) (v4 : Int32) (v5 : Int32) (w : Wd), rc_6 (v1, v2, v3, v4, v5, w) = some z → ∀ (H : Heap) (locs : List Loc) (ls : Array Slot), HS D B Y w s H locs → lv_has ls 9 [(0, .ref (B + 713)), (1, .int v1), (2, .int v2), (3, .int v3), (4, .int v4), (5, .int v5)] → W p l e (RM 2 0 0) s m args below meth c H locs 0 0 (MQ below (QG D B Y none z.2 True) args s 0 0 (AB B)) (F0 m 6 ls []))    (hH : HS D B Y w s H locs) (hl : lv_has ls 9 [(0, .ref (B + 713)), (1, .int v1), (2, .int v2), (3, .int v3), (4, .int v4), (5, .int v5)]) (hf : g_X11_laysNumbers_6 rc_6 v1 v2 v3 v4 v5 w = some z) : W p l e (RM 2 0 0) s m args below meth c H locs 0 0 (MQ below (QG D B Y none z.2 True) args s 0 0 (AB B)) (F0 m 6 ls []) := by
  have hx := C.1
  have hb := C.2.1
  unfold g_X11_laysNumbers_6 at hf
  refine lv_iload hx hb dX11_laysNumbers_6 (lv_at hl 5 rfl) ?_
  refine lv_iload_n hx hb dX11_laysNumbers_8 rfl (lv_at hl 2 rfl) ?_
  refine b_icmp_ge (tgt := 126) hx hb hf dX11_laysNumbers_9 (by decide) (fun hf => ?_) (fun hf => ?_)
  · cases hf
    exact q_retv C hH trivial dX11_laysNumbers_126
  · refine lv_aload_n hx hb dX11_laysNumbers_12 rfl (lv_at hl 0 rfl) ?_
    refine fg_X11_61 C hH dX11_laysNumbers_13 ?_
    refine lv_iload hx hb dX11_laysNumbers_16 (lv_at hl 5 rfl) ?_
    refine g_iald C hH kc_731 hf dX11_laysNumbers_18 (fun x1 hf => ?_)
    refine lv_istore (lv' := [(6, .int x1), (0, .ref (B + 713)), (1, .int v1), (2, .int v2), (3, .int v3), (4, .int v4), (5, .int v5)]) hx hb dX11_laysNumbers_19 hl (by decide) rfl (fun ls hl => ?_)
    refine lv_aload_n hx hb dX11_laysNumbers_21 rfl (lv_at hl 1 rfl) ?_
    refine lv_iload_n hx hb dX11_laysNumbers_22 rfl (lv_at hl 2 rfl) ?_
    refine lv_iload hx hb dX11_laysNumbers_23 (lv_at hl 0 rfl) ?_
    obtain ⟨x3, w2, hc, hf⟩ := bd_some hf
    refine q_callV1 (v := .int x3) (As := [.int v1, .int x1]) C hH (ci := 11) rfl (by omega) gk_X11_204 yd_X11_directionAt (by omega) (by omega) kc_713 (c_X11_directionAt hc) hl.1 rfl (Nat.le_of_ble_eq_true rfl) dX11_laysNumbers_25 ⟨by decide, by decide⟩ (fun H locs hH hP => ?_)
    refine lv_istore (lv' := [(7, .int x3), (6, .int x1), (0, .ref (B + 713)), (1, .int v1), (2, .int v2), (3, .int v3), (4, .int v4), (5, .int v5)]) hx hb dX11_laysNumbers_28 hl (by decide) rfl (fun ls hl => ?_)
    refine lv_iload hx hb dX11_laysNumbers_30 (lv_at hl 0 rfl) ?_
    refine b_if_eq (tgt := 41) hx hb hf dX11_laysNumbers_32 (by decide) (fun hf => ?_) (fun hf => ?_)
    · refine lv_iload hx hb dX11_laysNumbers_41 (lv_at hl 0 rfl) ?_
      refine lv_goto (tgt := 48) hx hb dX11_laysNumbers_43 (by decide) ?_
      exact t_X11_laysNumbers_48 C hr_6 hH (lv_sub hl [2, 3, 4, 5, 7, 1, 0] rfl) hf
    · refine lv_iload hx hb dX11_laysNumbers_35 (lv_at hl 0 rfl) ?_
      refine lv_iconst (v := (1 : Int32)) hx hb dX11_laysNumbers_37 (by decide) ?_
      refine b_icmp_ne (tgt := 46) hx hb hf dX11_laysNumbers_38 (by decide) (fun hf => ?_) (fun hf => ?_)
      · refine lv_iload hx hb dX11_laysNumbers_46 (lv_at hl 6 rfl) ?_
        exact t_X11_laysNumbers_48 C hr_6 hH (lv_sub hl [2, 3, 4, 5, 7, 1, 0] rfl) hf
      · refine lv_iload hx hb dX11_laysNumbers_41 (lv_at hl 0 rfl) ?_
        refine lv_goto (tgt := 48) hx hb dX11_laysNumbers_43 (by decide) ?_
        exact t_X11_laysNumbers_48 C hr_6 hH (lv_sub hl [2, 3, 4, 5, 7, 1, 0] rfl) hf
set_option maxRecDepth 100000 in
set_option maxHeartbeats 4000000 in
theorem t_X11_laysNumbers_6 {D : va_G} {B : Nat} {Y : Nat → ClassId} {p : Program} {l : Launch} {e : Env} {s : State} {m : MethodId} {args : Array Value} {below : List Frame} {meth : Method} {c : Code} {z : (Unit × Wd)} {H : Heap} {locs : List Loc} {ls : Array Slot} {w : Wd} {v1 : Int32} {v2 : Int32} {v3 : Int32} {v4 : Int32} {v5 : Int32} (C : CX D B Y p s m args meth c cX11_laysNumbers 9 RX11 none)     (hH : HS D B Y w s H locs) (hl : lv_has ls 9 [(0, .ref (B + 713)), (1, .int v1), (2, .int v2), (3, .int v3), (4, .int v4), (5, .int v5)]) (hf : f_X11_laysNumbers_6 v1 v2 v3 v4 v5 w = some z) : W p l e (RM 2 0 0) s m args below meth c H locs 0 0 (MQ below (QG D B Y none z.2 True) args s 0 0 (AB B)) (F0 m 6 ls []) := by
  exact loopN_ind (z := z) (body := fun rc σ => g_X11_laysNumbers_6 rc  σ.1 σ.2.1 σ.2.2.1 σ.2.2.2.1 σ.2.2.2.2.1 σ.2.2.2.2.2)
    (P := fun σ => ∀ (H : Heap) (locs : List Loc) (ls : Array Slot), HS D B Y σ.2.2.2.2.2 s H locs → lv_has ls 9 [(0, .ref (B + 713)), (1, .int σ.1), (2, .int σ.2.1), (3, .int σ.2.2.1), (4, .int σ.2.2.2.1), (5, .int σ.2.2.2.2.1)] → W p l e (RM 2 0 0) s m args below meth c H locs 0 0 (MQ below (QG D B Y none z.2 True) args s 0 0 (AB B)) (F0 m 6 ls []))
    (fun rc hrec σ hf  H locs ls hH hl => tb_X11_laysNumbers_6 C (fun v1 v2 v3 v4 v5 w hr  H locs ls hH hl => hrec (v1, v2, v3, v4, v5, w) hr  H locs ls hH hl)   hH hl hf) FU (v1, v2, v3, v4, v5, w) hf  H locs ls hH hl
set_option maxRecDepth 100000 in
set_option maxHeartbeats 4000000 in
theorem t_X11_laysNumbers_0 {D : va_G} {B : Nat} {Y : Nat → ClassId} {p : Program} {l : Launch} {e : Env} {s : State} {m : MethodId} {args : Array Value} {below : List Frame} {meth : Method} {c : Code} {z : (Unit × Wd)} {H : Heap} {locs : List Loc} {ls : Array Slot} {w : Wd} {v1 : Int32} {v2 : Int32} {v3 : Int32} (C : CX D B Y p s m args meth c cX11_laysNumbers 9 RX11 none)     (hH : HS D B Y w s H locs) (hl : lv_has ls 9 [(0, .ref (B + 713)), (1, .int v1), (2, .int v2), (3, .int v3)]) (hf : f_X11_laysNumbers v1 v2 v3 w = some z) : W p l e (RM 2 0 0) s m args below meth c H locs 0 0 (MQ below (QG D B Y none z.2 True) args s 0 0 (AB B)) (F0 m 0 ls []) := by
  have hx := C.1
  have hb := C.2.1
  unfold f_X11_laysNumbers at hf
  refine lv_iconst (v := (-1 : Int32)) hx hb dX11_laysNumbers_0 (by decide) ?_
  refine lv_istore (lv' := [(4, .int (-1 : Int32)), (0, .ref (B + 713)), (1, .int v1), (2, .int v2), (3, .int v3)]) hx hb dX11_laysNumbers_1 hl (by decide) rfl (fun ls hl => ?_)
  refine lv_iconst (v := (0 : Int32)) hx hb dX11_laysNumbers_3 (by decide) ?_
  refine lv_istore (lv' := [(5, .int (0 : Int32)), (4, .int (-1 : Int32)), (0, .ref (B + 713)), (1, .int v1), (2, .int v2), (3, .int v3)]) hx hb dX11_laysNumbers_4 hl (by decide) rfl (fun ls hl => ?_)
  exact t_X11_laysNumbers_6 C hH (lv_sub hl [2, 3, 4, 5, 1, 0] rfl) hf
set_option maxRecDepth 100000 in
theorem c_X11_laysNumbers {l : Launch} {D : va_G} {B : Nat} {Y : Nat → ClassId} {v1 : Int32} {v2 : Int32} {v3 : Int32} {w : Wd} {r : Unit} {w1 : Wd}   (hf : f_X11_laysNumbers v1 v2 v3 w = some (r, w1)) : CM l D B Y yX11_laysNumbers cX11_laysNumbers 9 none 2 [.ref (B + 713), .int v1, .int v2, .int v3] w none w1 True :=
  CM_of (by decide +kernel) (Nat.le_of_ble_eq_true rfl) (fun p e s m args below meth c ls C hH hl => t_X11_laysNumbers_0 C  hH (lv_sub hl [0, 1, 2, 3] rfl) hf)
/-! LetterTablesModel.laysPartners -/
set_option maxRecDepth 100000 in
set_option maxHeartbeats 4000000 in
theorem t_X11_laysPartners_123 {D : va_G} {B : Nat} {Y : Nat → ClassId} {p : Program} {l : Launch} {e : Env} {s : State} {m : MethodId} {args : Array Value} {below : List Frame} {meth : Method} {c : Code} {z : (Unit × Wd)} {H : Heap} {locs : List Loc} {ls : Array Slot} {w : Wd} {v1 : Int32} {v2 : Int32} {v3 : Int32} {v4 : Int32} {v7 : Int32} (C : CX D B Y p s m args meth c cX11_laysPartners 8 RX11 none)  {rc_5 : Int32 × Int32 × Int32 × Int32 × Wd → Option (Unit × Wd)} (hr_5 : ∀ (v1 : Int32) (v2 : Int32) (v3 : Int32) (v4 : Int32) (w : Wd), rc_5 (v1, v2, v3, v4, w) = some z → ∀ (H : Heap) (locs : List Loc) (ls : Array Slot), HS D B Y w s H locs → lv_has ls 8 [(0, .ref (B + 713)), (1, .int v1), (2, .int v2), (3, .int v3), (4, .int v4)] → W p l e (RM 1 0 0) s m args below meth c H locs 0 0 (MQ below (QG D B Y none z.2 True) args s 0 0 (AB B)) (F0 m 5 ls []))    (hH : HS D B Y w s H locs) (hl : lv_has ls 8 [(0, .ref (B + 713)), (1, .int v1), (2, .int v2), (3, .int v3), (4, .int v4), (7, .int v7)]) (hf : f_X11_laysPartners_123 rc_5 v1 v2 v3 v4 v7 w = some z) : W p l e (RM 1 0 0) s m args below meth c H locs 0 0 (MQ below (QG D B Y none z.2 True) args s 0 0 (AB B)) (F0 m 123 ls []) := by
  have hx := C.1
  have hb := C.2.1
  unfold f_X11_laysPartners_123 at hf
  refine lv_iload hx hb dX11_laysPartners_123 (lv_at hl 5 rfl) ?_
  refine b_if_lt (tgt := 145) hx hb hf dX11_laysPartners_125 (by decide) (fun hf => ?_) (fun hf => ?_)
  · refine b_let hf (fun x1 he hf => ?_)
    refine lv_iinc (v := x1) (lv' := [(4, .int x1), (0, .ref (B + 713)), (1, .int v1), (2, .int v2), (3, .int v3), (7, .int v7)]) hx hb dX11_laysPartners_145 hl (k := 4) rfl (by rw [← he]; rfl) (by decide) rfl (fun ls hl => ?_)
    refine lv_goto (tgt := 5) hx hb dX11_laysPartners_148 (by decide) ?_
    exact hr_5 v1 v2 v3 x1 w hf _ _ _ hH (lv_sub hl [1, 2, 3, 4, 0] rfl)
  · refine lv_aload_n hx hb dX11_laysPartners_128 rfl (lv_at hl 0 rfl) ?_
    refine fg_X11_64 C hH dX11_laysPartners_129 ?_
    refine lv_aload_n hx hb dX11_laysPartners_132 rfl (lv_at hl 0 rfl) ?_
    refine fg_X11_49 C hH dX11_laysPartners_133 ?_
    refine lv_iload hx hb dX11_laysPartners_136 (lv_at hl 5 rfl) ?_
    refine g_iald C hH kc_727 hf dX11_laysPartners_138 (fun x2 hf => ?_)
    refine lv_iload hx hb dX11_laysPartners_139 (lv_at hl 4 rfl) ?_
    refine g_iast C hH kc_732 hf dX11_laysPartners_141 (fun w3 H locs hf hH => ?_)
    refine lv_iload hx hb dX11_laysPartners_142 (lv_at hl 5 rfl) ?_
    refine lv_istore_n (lv' := [(3, .int v7), (0, .ref (B + 713)), (1, .int v1), (2, .int v2), (4, .int v4), (7, .int v7)]) hx hb dX11_laysPartners_144 rfl hl (by decide) rfl (fun ls hl => ?_)
    refine b_let hf (fun x4 he hf => ?_)
    refine lv_iinc (v := x4) (lv' := [(4, .int x4), (3, .int v7), (0, .ref (B + 713)), (1, .int v1), (2, .int v2), (7, .int v7)]) hx hb dX11_laysPartners_145 hl (k := 4) rfl (by rw [← he]; rfl) (by decide) rfl (fun ls hl => ?_)
    refine lv_goto (tgt := 5) hx hb dX11_laysPartners_148 (by decide) ?_
    exact hr_5 v1 v2 v7 x4 w3 hf _ _ _ hH (lv_sub hl [2, 3, 4, 1, 0] rfl)
set_option maxRecDepth 100000 in
set_option maxHeartbeats 4000000 in
theorem tb_X11_laysPartners_87 {D : va_G} {B : Nat} {Y : Nat → ClassId} {p : Program} {l : Launch} {e : Env} {s : State} {m : MethodId} {args : Array Value} {below : List Frame} {meth : Method} {c : Code} {z : (Unit × Wd)} {H : Heap} {locs : List Loc} {ls : Array Slot} {w : Wd} {v1 : Int32} {v2 : Int32} {v3 : Int32} {v4 : Int32} {v6 : Int32} {v7 : Int32} (C : CX D B Y p s m args meth c cX11_laysPartners 8 RX11 none)  {rc_87 : Int32 × Int32 × Int32 × Int32 × Int32 × Int32 × Wd → Option (Unit × Wd)} (hr_87 : ∀ (v1 : Int32) (v2 : Int32) (v3 : Int32) (v4 : Int32) (v6 : Int32) (v7 : Int32) (w : Wd), rc_87 (v1, v2, v3, v4, v6, v7, w) = some z → ∀ (H : Heap) (locs : List Loc) (ls : Array Slot), HS D B Y w s H locs → lv_has ls 8 [(0, .ref (B + 713)), (1, .int v1), (2, .int v2), (3, .int v3), (4, .int v4), (6, .int v6), (7, .int v7)] → W p l e (RM 1 0 0) s m args below meth c H locs 0 0 (MQ below (QG D B Y none z.2 True) args s 0 0 (AB B)) (F0 m 87 ls [])) {rc_5 : Int32 × Int32 × Int32 × Int32 × Wd → Option (Unit × Wd)} (hr_5 : ∀ (v1 : Int32) (v2 : Int32) (v3 : Int32) (v4 : Int32) (w : Wd), rc_5 (v1, v2, v3, v4, w) = some z → ∀ (H : Heap) (locs : List Loc) (ls : Array Slot), HS D B Y w s H locs → lv_has ls 8 [(0, .ref (B + 713)), (1, .int v1), (2, .int v2), (3, .int v3), (4, .int v4)] → W p l e (RM 1 0 0) s m args below meth c H locs 0 0 (MQ below (QG D B Y none z.2 True) args s 0 0 (AB B)) (F0 m 5 ls []))    (hH : HS D B Y w s H locs) (hl : lv_has ls 8 [(0, .ref (B + 713)), (1, .int v1), (2, .int v2), (3, .int v3), (4, .int v4), (6, .int v6), (7, .int v7)]) (hf : g_X11_laysPartners_87 rc_87 rc_5 v1 v2 v3 v4 v6 v7 w = some z) : W p l e (RM 1 0 0) s m args below meth c H locs 0 0 (MQ below (QG D B Y none z.2 True) args s 0 0 (AB B)) (F0 m 87 ls []) := by
  have hx := C.1
  have hb := C.2.1
  unfold g_X11_laysPartners_87 at hf
  refine lv_iload hx hb dX11_laysPartners_87 (lv_at hl 6 rfl) ?_
  refine b_if_lt (tgt := 123) hx hb hf dX11_laysPartners_89 (by decide) (fun hf => ?_) (fun hf => ?_)
  · exact t_X11_laysPartners_123 C hr_5 hH (lv_sub hl [0, 1, 2, 3, 4, 6] rfl) hf
  · refine lv_aload_n hx hb dX11_laysPartners_92 rfl (lv_at hl 0 rfl) ?_
    refine lv_iload_n hx hb dX11_laysPartners_93 rfl (lv_at hl 1 rfl) ?_
    refine lv_aload_n hx hb dX11_laysPartners_94 rfl (lv_at hl 0 rfl) ?_
    refine fg_X11_61 C hH dX11_laysPartners_95 ?_
    refine lv_aload_n hx hb dX11_laysPartners_98 rfl (lv_at hl 0 rfl) ?_
    refine fg_X11_49 C hH dX11_laysPartners_99 ?_
    refine lv_iload hx hb dX11_laysPartners_102 (lv_at hl 6 rfl) ?_
    refine g_iald C hH kc_727 hf dX11_laysPartners_104 (fun x1 hf => ?_)
    refine g_iald C hH kc_731 hf dX11_laysPartners_105 (fun x2 hf => ?_)
    obtain ⟨x4, w3, hc, hf⟩ := bd_some hf
    refine q_callV1 (v := .int x4) (As := [.int v1, .int x2]) C hH (ci := 11) rfl (by omega) gk_X11_148 yd_X11_letterAt (by omega) (by omega) kc_713 (c_X11_letterAt hc) hl.1 rfl (Nat.le_of_ble_eq_true rfl) dX11_laysPartners_106 ⟨by decide, by decide⟩ (fun H locs hH hP => ?_)
    refine lv_iload hx hb dX11_laysPartners_109 (lv_at hl 5 rfl) ?_
    refine lv_ineg hx hb dX11_laysPartners_111 ?_
    refine lv_iconst (v := (1 : Int32)) hx hb dX11_laysPartners_112 (by decide) ?_
    refine lv_isub hx hb dX11_laysPartners_113 ?_
    refine b_icmp_eq (tgt := 123) hx hb hf dX11_laysPartners_114 (by decide) (fun hf => ?_) (fun hf => ?_)
    · exact t_X11_laysPartners_123 C hr_5 hH (lv_sub hl [0, 1, 2, 3, 4, 6] rfl) hf
    · refine b_let hf (fun x5 he hf => ?_)
      refine lv_iinc (v := x5) (lv' := [(7, .int x5), (0, .ref (B + 713)), (1, .int v1), (2, .int v2), (3, .int v3), (4, .int v4), (6, .int v6)]) hx hb dX11_laysPartners_117 hl (k := 6) rfl (by rw [← he]; rfl) (by decide) rfl (fun ls hl => ?_)
      refine lv_goto (tgt := 87) hx hb dX11_laysPartners_120 (by decide) ?_
      exact hr_87 v1 v2 v3 v4 v6 x5 w3 hf _ _ _ hH (lv_sub hl [1, 2, 3, 4, 5, 6, 0] rfl)
set_option maxRecDepth 100000 in
set_option maxHeartbeats 4000000 in
theorem t_X11_laysPartners_87 {D : va_G} {B : Nat} {Y : Nat → ClassId} {p : Program} {l : Launch} {e : Env} {s : State} {m : MethodId} {args : Array Value} {below : List Frame} {meth : Method} {c : Code} {z : (Unit × Wd)} {H : Heap} {locs : List Loc} {ls : Array Slot} {w : Wd} {v1 : Int32} {v2 : Int32} {v3 : Int32} {v4 : Int32} {v6 : Int32} {v7 : Int32} (C : CX D B Y p s m args meth c cX11_laysPartners 8 RX11 none)  {rc_5 : Int32 × Int32 × Int32 × Int32 × Wd → Option (Unit × Wd)} (hr_5 : ∀ (v1 : Int32) (v2 : Int32) (v3 : Int32) (v4 : Int32) (w : Wd), rc_5 (v1, v2, v3, v4, w) = some z → ∀ (H : Heap) (locs : List Loc) (ls : Array Slot), HS D B Y w s H locs → lv_has ls 8 [(0, .ref (B + 713)), (1, .int v1), (2, .int v2), (3, .int v3), (4, .int v4)] → W p l e (RM 1 0 0) s m args below meth c H locs 0 0 (MQ below (QG D B Y none z.2 True) args s 0 0 (AB B)) (F0 m 5 ls []))    (hH : HS D B Y w s H locs) (hl : lv_has ls 8 [(0, .ref (B + 713)), (1, .int v1), (2, .int v2), (3, .int v3), (4, .int v4), (6, .int v6), (7, .int v7)]) (hf : f_X11_laysPartners_87 rc_5 v1 v2 v3 v4 v6 v7 w = some z) : W p l e (RM 1 0 0) s m args below meth c H locs 0 0 (MQ below (QG D B Y none z.2 True) args s 0 0 (AB B)) (F0 m 87 ls []) := by
  exact loopN_ind (z := z) (body := fun rc σ => g_X11_laysPartners_87 rc rc_5 σ.1 σ.2.1 σ.2.2.1 σ.2.2.2.1 σ.2.2.2.2.1 σ.2.2.2.2.2.1 σ.2.2.2.2.2.2)
    (P := fun σ => ∀ (H : Heap) (locs : List Loc) (ls : Array Slot), HS D B Y σ.2.2.2.2.2.2 s H locs → lv_has ls 8 [(0, .ref (B + 713)), (1, .int σ.1), (2, .int σ.2.1), (3, .int σ.2.2.1), (4, .int σ.2.2.2.1), (6, .int σ.2.2.2.2.1), (7, .int σ.2.2.2.2.2.1)] → W p l e (RM 1 0 0) s m args below meth c H locs 0 0 (MQ below (QG D B Y none z.2 True) args s 0 0 (AB B)) (F0 m 87 ls []))
    (fun rc hrec σ hf  H locs ls hH hl => tb_X11_laysPartners_87 C (fun v1 v2 v3 v4 v6 v7 w hr  H locs ls hH hl => hrec (v1, v2, v3, v4, v6, v7, w) hr  H locs ls hH hl) hr_5  hH hl hf) FU (v1, v2, v3, v4, v6, v7, w) hf  H locs ls hH hl
set_option maxRecDepth 100000 in
set_option maxHeartbeats 4000000 in
theorem t_X11_laysPartners_48 {D : va_G} {B : Nat} {Y : Nat → ClassId} {p : Program} {l : Launch} {e : Env} {s : State} {m : MethodId} {args : Array Value} {below : List Frame} {meth : Method} {c : Code} {z : (Unit × Wd)} {H : Heap} {locs : List Loc} {ls : Array Slot} {w : Wd} {v1 : Int32} {v2 : Int32} {v3 : Int32} {v4 : Int32} {t0 : Int32} (C : CX D B Y p s m args meth c cX11_laysPartners 8 RX11 none)  {rc_5 : Int32 × Int32 × Int32 × Int32 × Wd → Option (Unit × Wd)} (hr_5 : ∀ (v1 : Int32) (v2 : Int32) (v3 : Int32) (v4 : Int32) (w : Wd), rc_5 (v1, v2, v3, v4, w) = some z → ∀ (H : Heap) (locs : List Loc) (ls : Array Slot), HS D B Y w s H locs → lv_has ls 8 [(0, .ref (B + 713)), (1, .int v1), (2, .int v2), (3, .int v3), (4, .int v4)] → W p l e (RM 1 0 0) s m args below meth c H locs 0 0 (MQ below (QG D B Y none z.2 True) args s 0 0 (AB B)) (F0 m 5 ls []))    (hH : HS D B Y w s H locs) (hl : lv_has ls 8 [(0, .ref (B + 713)), (1, .int v1), (2, .int v2), (3, .int v3), (4, .int v4)]) (hf : f_X11_laysPartners_48 rc_5 v1 v2 v3 v4 t0 w = some z) : W p l e (RM 1 0 0) s m args below meth c H locs 0 0 (MQ below (QG D B Y none z.2 True) args s 0 0 (AB B)) (F0 m 48 ls [.int t0]) := by
  have hx := C.1
  have hb := C.2.1
  unfold f_X11_laysPartners_48 at hf
  refine lv_istore (lv' := [(6, .int t0), (0, .ref (B + 713)), (1, .int v1), (2, .int v2), (3, .int v3), (4, .int v4)]) hx hb dX11_laysPartners_48 hl (by decide) rfl (fun ls hl => ?_)
  refine lv_aload_n hx hb dX11_laysPartners_50 rfl (lv_at hl 1 rfl) ?_
  refine fg_X11_64 C hH dX11_laysPartners_51 ?_
  refine lv_iload hx hb dX11_laysPartners_54 (lv_at hl 5 rfl) ?_
  refine lv_iconst (v := (-1 : Int32)) hx hb dX11_laysPartners_56 (by decide) ?_
  refine g_iast C hH kc_732 hf dX11_laysPartners_57 (fun w1 H locs hf hH => ?_)
  refine lv_iload hx hb dX11_laysPartners_58 (lv_at hl 0 rfl) ?_
  refine b_if_le (tgt := 77) hx hb hf dX11_laysPartners_60 (by decide) (fun hf => ?_) (fun hf => ?_)
  · refine lv_iload hx hb dX11_laysPartners_77 (lv_at hl 0 rfl) ?_
    refine b_if_ge (tgt := 145) hx hb hf dX11_laysPartners_79 (by decide) (fun hf => ?_) (fun hf => ?_)
    · refine b_let hf (fun x2 he hf => ?_)
      refine lv_iinc (v := x2) (lv' := [(4, .int x2), (6, .int t0), (0, .ref (B + 713)), (1, .int v1), (2, .int v2), (3, .int v3)]) hx hb dX11_laysPartners_145 hl (k := 5) rfl (by rw [← he]; rfl) (by decide) rfl (fun ls hl => ?_)
      refine lv_goto (tgt := 5) hx hb dX11_laysPartners_148 (by decide) ?_
      exact hr_5 v1 v2 v3 x2 w1 hf _ _ _ hH (lv_sub hl [2, 3, 4, 5, 0] rfl)
    · refine lv_iload_n hx hb dX11_laysPartners_82 rfl (lv_at hl 4 rfl) ?_
      refine lv_iconst (v := (1 : Int32)) hx hb dX11_laysPartners_83 (by decide) ?_
      refine lv_isub hx hb dX11_laysPartners_84 ?_
      refine b_leti hf (fun x3 hf => ?_)
      refine lv_istore (lv' := [(7, .int x3), (6, .int t0), (0, .ref (B + 713)), (1, .int v1), (2, .int v2), (3, .int v3), (4, .int v4)]) hx hb dX11_laysPartners_85 hl (by decide) rfl (fun ls hl => ?_)
      exact t_X11_laysPartners_87 C hr_5 hH (lv_sub hl [2, 3, 4, 5, 6, 1, 0] rfl) hf
  · refine lv_aload_n hx hb dX11_laysPartners_63 rfl (lv_at hl 1 rfl) ?_
    refine fg_X11_49 C hH dX11_laysPartners_64 ?_
    refine lv_iload_n hx hb dX11_laysPartners_67 rfl (lv_at hl 4 rfl) ?_
    refine lv_iload hx hb dX11_laysPartners_68 (lv_at hl 5 rfl) ?_
    refine g_iast C hH kc_727 hf dX11_laysPartners_70 (fun w4 H locs hf hH => ?_)
    refine b_let hf (fun x5 he hf => ?_)
    refine lv_iinc (v := x5) (lv' := [(3, .int x5), (6, .int t0), (0, .ref (B + 713)), (1, .int v1), (2, .int v2), (4, .int v4)]) hx hb dX11_laysPartners_71 hl (k := 4) rfl (by rw [← he]; rfl) (by decide) rfl (fun ls hl => ?_)
    refine lv_goto (tgt := 145) hx hb dX11_laysPartners_74 (by decide) ?_
    refine b_let hf (fun x6 he hf => ?_)
    refine lv_iinc (v := x6) (lv' := [(4, .int x6), (3, .int x5), (6, .int t0), (0, .ref (B + 713)), (1, .int v1), (2, .int v2)]) hx hb dX11_laysPartners_145 hl (k := 5) rfl (by rw [← he]; rfl) (by decide) rfl (fun ls hl => ?_)
    refine lv_goto (tgt := 5) hx hb dX11_laysPartners_148 (by decide) ?_
    exact hr_5 v1 v2 x5 x6 w4 hf _ _ _ hH (lv_sub hl [3, 4, 5, 1, 0] rfl)
set_option maxRecDepth 100000 in
set_option maxHeartbeats 4000000 in
theorem tb_X11_laysPartners_5 {D : va_G} {B : Nat} {Y : Nat → ClassId} {p : Program} {l : Launch} {e : Env} {s : State} {m : MethodId} {args : Array Value} {below : List Frame} {meth : Method} {c : Code} {z : (Unit × Wd)} {H : Heap} {locs : List Loc} {ls : Array Slot} {w : Wd} {v1 : Int32} {v2 : Int32} {v3 : Int32} {v4 : Int32} (C : CX D B Y p s m args meth c cX11_laysPartners 8 RX11 none)  {rc_5 : Int32 × Int32 × Int32 × Int32 × Wd → Option (Unit × Wd)} (hr_5 : ∀ (v1 : Int32) (v2 : Int32) (v3 : Int32) (v4 : Int32) (w : Wd), rc_5 (v1, v2, v3, v4, w) = some z → ∀ (H : Heap) (locs : List Loc) (ls : Array Slot), HS D B Y w s H locs → lv_has ls 8 [(0, .ref (B + 713)), (1, .int v1), (2, .int v2), (3, .int v3), (4, .int v4)] → W p l e (RM 1 0 0) s m args below meth c H locs 0 0 (MQ below (QG D B Y none z.2 True) args s 0 0 (AB B)) (F0 m 5 ls []))    (hH : HS D B Y w s H locs) (hl : lv_has ls 8 [(0, .ref (B + 713)), (1, .int v1), (2, .int v2), (3, .int v3), (4, .int v4)]) (hf : g_X11_laysPartners_5 rc_5 v1 v2 v3 v4 w = some z) : W p l e (RM 1 0 0) s m args below meth c H locs 0 0 (MQ below (QG D B Y none z.2 True) args s 0 0 (AB B)) (F0 m 5 ls []) := by
  have hx := C.1
  have hb := C.2.1
  unfold g_X11_laysPartners_5 at hf
  refine lv_iload hx hb dX11_laysPartners_5 (lv_at hl 4 rfl) ?_
  refine lv_iload_n hx hb dX11_laysPartners_7 rfl (lv_at hl 2 rfl) ?_
  refine b_icmp_ge (tgt := 151) hx hb hf dX11_laysPartners_8 (by decide) (fun hf => ?_) (fun hf => ?_)
  · cases hf
    exact q_retv C hH trivial dX11_laysPartners_151
  · refine lv_aload_n hx hb dX11_laysPartners_11 rfl (lv_at hl 0 rfl) ?_
    refine lv_iload_n hx hb dX11_laysPartners_12 rfl (lv_at hl 1 rfl) ?_
    refine lv_aload_n hx hb dX11_laysPartners_13 rfl (lv_at hl 0 rfl) ?_
    refine fg_X11_61 C hH dX11_laysPartners_14 ?_
    refine lv_iload hx hb dX11_laysPartners_17 (lv_at hl 4 rfl) ?_
    refine g_iald C hH kc_731 hf dX11_laysPartners_19 (fun x1 hf => ?_)
    obtain ⟨x3, w2, hc, hf⟩ := bd_some hf
    refine q_callV1 (v := .int x3) (As := [.int v1, .int x1]) C hH (ci := 11) rfl (by omega) gk_X11_148 yd_X11_letterAt (by omega) (by omega) kc_713 (c_X11_letterAt hc) hl.1 rfl (Nat.le_of_ble_eq_true rfl) dX11_laysPartners_20 ⟨by decide, by decide⟩ (fun H locs hH hP => ?_)
    refine lv_istore (lv' := [(5, .int x3), (0, .ref (B + 713)), (1, .int v1), (2, .int v2), (3, .int v3), (4, .int v4)]) hx hb dX11_laysPartners_23 hl (by decide) rfl (fun ls hl => ?_)
    refine lv_aload_n hx hb dX11_laysPartners_25 rfl (lv_at hl 1 rfl) ?_
    refine lv_iload hx hb dX11_laysPartners_26 (lv_at hl 0 rfl) ?_
    refine lv_iconst (v := (1 : Int32)) hx hb dX11_laysPartners_28 (by decide) ?_
    obtain ⟨x5, w4, hc, hf⟩ := bd_some hf
    refine q_callV1 (v := .int x5) (As := [.int x3, .int (1 : Int32)]) C hH (ci := 11) rfl (by omega) gk_X11_127 yd_X11_of (by omega) (by omega) kc_713 (c_X11_of hc) hl.1 rfl (Nat.le_of_ble_eq_true rfl) dX11_laysPartners_29 ⟨by decide, by decide⟩ (fun H locs hH hP => ?_)
    refine lv_iconst (v := (3 : Int32)) hx hb dX11_laysPartners_32 (by decide) ?_
    refine b_icmp_ne (tgt := 47) hx hb hf dX11_laysPartners_33 (by decide) (fun hf => ?_) (fun hf => ?_)
    · refine lv_iconst (v := (0 : Int32)) hx hb dX11_laysPartners_47 (by decide) ?_
      exact t_X11_laysPartners_48 C hr_5 hH (lv_sub hl [1, 2, 3, 4, 5] rfl) hf
    · refine lv_aload_n hx hb dX11_laysPartners_36 rfl (lv_at hl 1 rfl) ?_
      refine lv_iload hx hb dX11_laysPartners_37 (lv_at hl 0 rfl) ?_
      refine lv_bipush (v := (8 : Int32)) hx hb dX11_laysPartners_39 (by decide) ?_
      obtain ⟨x7, w6, hc, hf⟩ := bd_some hf
      refine q_callV1 (v := .int x7) (As := [.int x3, .int (8 : Int32)]) C hH (ci := 11) rfl (by omega) gk_X11_127 yd_X11_of (by omega) (by omega) kc_713 (c_X11_of hc) hl.1 rfl (Nat.le_of_ble_eq_true rfl) dX11_laysPartners_41 ⟨by decide, by decide⟩ (fun H locs hH hP => ?_)
      refine lv_goto (tgt := 48) hx hb dX11_laysPartners_44 (by decide) ?_
      exact t_X11_laysPartners_48 C hr_5 hH (lv_sub hl [1, 2, 3, 4, 5] rfl) hf
set_option maxRecDepth 100000 in
set_option maxHeartbeats 4000000 in
theorem t_X11_laysPartners_5 {D : va_G} {B : Nat} {Y : Nat → ClassId} {p : Program} {l : Launch} {e : Env} {s : State} {m : MethodId} {args : Array Value} {below : List Frame} {meth : Method} {c : Code} {z : (Unit × Wd)} {H : Heap} {locs : List Loc} {ls : Array Slot} {w : Wd} {v1 : Int32} {v2 : Int32} {v3 : Int32} {v4 : Int32} (C : CX D B Y p s m args meth c cX11_laysPartners 8 RX11 none)     (hH : HS D B Y w s H locs) (hl : lv_has ls 8 [(0, .ref (B + 713)), (1, .int v1), (2, .int v2), (3, .int v3), (4, .int v4)]) (hf : f_X11_laysPartners_5 v1 v2 v3 v4 w = some z) : W p l e (RM 1 0 0) s m args below meth c H locs 0 0 (MQ below (QG D B Y none z.2 True) args s 0 0 (AB B)) (F0 m 5 ls []) := by
  exact loopN_ind (z := z) (body := fun rc σ => g_X11_laysPartners_5 rc  σ.1 σ.2.1 σ.2.2.1 σ.2.2.2.1 σ.2.2.2.2)
    (P := fun σ => ∀ (H : Heap) (locs : List Loc) (ls : Array Slot), HS D B Y σ.2.2.2.2 s H locs → lv_has ls 8 [(0, .ref (B + 713)), (1, .int σ.1), (2, .int σ.2.1), (3, .int σ.2.2.1), (4, .int σ.2.2.2.1)] → W p l e (RM 1 0 0) s m args below meth c H locs 0 0 (MQ below (QG D B Y none z.2 True) args s 0 0 (AB B)) (F0 m 5 ls []))
    (fun rc hrec σ hf  H locs ls hH hl => tb_X11_laysPartners_5 C (fun v1 v2 v3 v4 w hr  H locs ls hH hl => hrec (v1, v2, v3, v4, w) hr  H locs ls hH hl)   hH hl hf) FU (v1, v2, v3, v4, w) hf  H locs ls hH hl
set_option maxRecDepth 100000 in
set_option maxHeartbeats 4000000 in
theorem t_X11_laysPartners_0 {D : va_G} {B : Nat} {Y : Nat → ClassId} {p : Program} {l : Launch} {e : Env} {s : State} {m : MethodId} {args : Array Value} {below : List Frame} {meth : Method} {c : Code} {z : (Unit × Wd)} {H : Heap} {locs : List Loc} {ls : Array Slot} {w : Wd} {v1 : Int32} {v2 : Int32} (C : CX D B Y p s m args meth c cX11_laysPartners 8 RX11 none)     (hH : HS D B Y w s H locs) (hl : lv_has ls 8 [(0, .ref (B + 713)), (1, .int v1), (2, .int v2)]) (hf : f_X11_laysPartners v1 v2 w = some z) : W p l e (RM 1 0 0) s m args below meth c H locs 0 0 (MQ below (QG D B Y none z.2 True) args s 0 0 (AB B)) (F0 m 0 ls []) := by
  have hx := C.1
  have hb := C.2.1
  unfold f_X11_laysPartners at hf
  refine lv_iconst (v := (0 : Int32)) hx hb dX11_laysPartners_0 (by decide) ?_
  refine lv_istore_n (lv' := [(3, .int (0 : Int32)), (0, .ref (B + 713)), (1, .int v1), (2, .int v2)]) hx hb dX11_laysPartners_1 rfl hl (by decide) rfl (fun ls hl => ?_)
  refine lv_iconst (v := (0 : Int32)) hx hb dX11_laysPartners_2 (by decide) ?_
  refine lv_istore (lv' := [(4, .int (0 : Int32)), (3, .int (0 : Int32)), (0, .ref (B + 713)), (1, .int v1), (2, .int v2)]) hx hb dX11_laysPartners_3 hl (by decide) rfl (fun ls hl => ?_)
  exact t_X11_laysPartners_5 C hH (lv_sub hl [2, 3, 4, 1, 0] rfl) hf
set_option maxRecDepth 100000 in
theorem c_X11_laysPartners {l : Launch} {D : va_G} {B : Nat} {Y : Nat → ClassId} {v1 : Int32} {v2 : Int32} {w : Wd} {r : Unit} {w1 : Wd}   (hf : f_X11_laysPartners v1 v2 w = some (r, w1)) : CM l D B Y yX11_laysPartners cX11_laysPartners 8 none 1 [.ref (B + 713), .int v1, .int v2] w none w1 True :=
  CM_of (by decide +kernel) (Nat.le_of_ble_eq_true rfl) (fun p e s m args below meth c ls C hH hl => t_X11_laysPartners_0 C  hH (lv_sub hl [0, 1, 2] rfl) hf)
