/-! LetterTablesModel.lays -/
set_option maxRecDepth 100000 in
set_option maxHeartbeats 4000000 in
theorem tb_X11_lays_15 {D : va_G} {B : Nat} {Y : Nat → ClassId} {p : Program} {l : Launch} {e : Env} {s : State} {m : MethodId} {args : Array Value} {below : List Frame} {meth : Method} {c : Code} {z : (Unit × Wd)} {H : Heap} {locs : List Loc} {ls : Array Slot} {w : Wd} {v1 : Int32} {v3 : Int32} {v4 : Int32} (C : CX D B Y p s m args meth c cX11_lays 5 RX11 none)  {rc_15 : Int32 × Int32 × Int32 × Wd → Option (Unit × Wd)} (hr_15 : ∀ (v1 : Int32) (v3 : Int32) (v4 : Int32) (w : Wd), rc_15 (v1, v3, v4, w) = some z → ∀ (H : Heap) (locs : List Loc) (ls : Array Slot), HS D B Y w s H locs → lv_has ls 5 [(0, .ref (B + 713)), (1, .int v1), (3, .int v3), (4, .int v4)] → W p l e (RM 1 0 0) s m args below meth c H locs 0 0 (MQ below (QG D B Y none z.2 True) args s 0 0 (AB B)) (F0 m 15 ls []))    (hH : HS D B Y w s H locs) (hl : lv_has ls 5 [(0, .ref (B + 713)), (1, .int v1), (3, .int v3), (4, .int v4)]) (hf : g_X11_lays_15 rc_15 v1 v3 v4 w = some z) : W p l e (RM 1 0 0) s m args below meth c H locs 0 0 (MQ below (QG D B Y none z.2 True) args s 0 0 (AB B)) (F0 m 15 ls []) := by
  have hx := C.1
  have hb := C.2.1
  unfold g_X11_lays_15 at hf
  refine lv_iload hx hb dX11_lays_15 (lv_at hl 3 rfl) ?_
  refine lv_aload_n hx hb dX11_lays_17 rfl (lv_at hl 0 rfl) ?_
  refine fg_X11_19 C hH dX11_lays_18 ?_
  refine lv_iload_n hx hb dX11_lays_21 rfl (lv_at hl 1 rfl) ?_
  refine g_iald C hH kc_717 hf dX11_lays_22 (fun x1 hf => ?_)
  refine b_icmp_ge (tgt := 48) hx hb hf dX11_lays_23 (by decide) (fun hf => ?_) (fun hf => ?_)
  · cases hf
    exact q_retv C hH trivial dX11_lays_48
  · refine lv_aload_n hx hb dX11_lays_26 rfl (lv_at hl 0 rfl) ?_
    refine fg_X11_7 C hH dX11_lays_27 ?_
    refine lv_iload_n hx hb dX11_lays_30 rfl (lv_at hl 2 rfl) ?_
    refine lv_iload hx hb dX11_lays_31 (lv_at hl 3 rfl) ?_
    refine lv_iadd hx hb dX11_lays_33 ?_
    refine lv_aload_n hx hb dX11_lays_34 rfl (lv_at hl 0 rfl) ?_
    refine lv_iload_n hx hb dX11_lays_35 rfl (lv_at hl 1 rfl) ?_
    refine lv_iload hx hb dX11_lays_36 (lv_at hl 3 rfl) ?_
    obtain ⟨x3, w2, hc, hf⟩ := bd_some hf
    refine q_callV1 (v := .int x3) (As := [.int v1, .int v4]) C hH (ci := 11) rfl (by omega) gk_X11_148 yd_X11_letterAt (by omega) (by omega) kc_713 (c_X11_letterAt hc) hl.1 rfl (Nat.le_of_ble_eq_true rfl) dX11_lays_38 ⟨by decide, by decide⟩ (fun H locs hH hP => ?_)
    refine g_iast C hH kc_714 hf dX11_lays_41 (fun w4 H locs hf hH => ?_)
    refine b_let hf (fun x5 he hf => ?_)
    refine lv_iinc (v := x5) (lv' := [(4, .int x5), (0, .ref (B + 713)), (1, .int v1), (3, .int v3)]) hx hb dX11_lays_42 hl (k := 3) rfl (by rw [← he]; rfl) (by decide) rfl (fun ls hl => ?_)
    refine lv_goto (tgt := 15) hx hb dX11_lays_45 (by decide) ?_
    exact hr_15 v1 v3 x5 w4 hf _ _ _ hH (lv_sub hl [1, 2, 3, 0] rfl)
set_option maxRecDepth 100000 in
set_option maxHeartbeats 4000000 in
theorem t_X11_lays_15 {D : va_G} {B : Nat} {Y : Nat → ClassId} {p : Program} {l : Launch} {e : Env} {s : State} {m : MethodId} {args : Array Value} {below : List Frame} {meth : Method} {c : Code} {z : (Unit × Wd)} {H : Heap} {locs : List Loc} {ls : Array Slot} {w : Wd} {v1 : Int32} {v3 : Int32} {v4 : Int32} (C : CX D B Y p s m args meth c cX11_lays 5 RX11 none)     (hH : HS D B Y w s H locs) (hl : lv_has ls 5 [(0, .ref (B + 713)), (1, .int v1), (3, .int v3), (4, .int v4)]) (hf : f_X11_lays_15 v1 v3 v4 w = some z) : W p l e (RM 1 0 0) s m args below meth c H locs 0 0 (MQ below (QG D B Y none z.2 True) args s 0 0 (AB B)) (F0 m 15 ls []) := by
  exact loopN_ind (z := z) (body := fun rc σ => g_X11_lays_15 rc  σ.1 σ.2.1 σ.2.2.1 σ.2.2.2)
    (P := fun σ => ∀ (H : Heap) (locs : List Loc) (ls : Array Slot), HS D B Y σ.2.2.2 s H locs → lv_has ls 5 [(0, .ref (B + 713)), (1, .int σ.1), (3, .int σ.2.1), (4, .int σ.2.2.1)] → W p l e (RM 1 0 0) s m args below meth c H locs 0 0 (MQ below (QG D B Y none z.2 True) args s 0 0 (AB B)) (F0 m 15 ls []))
    (fun rc hrec σ hf  H locs ls hH hl => tb_X11_lays_15 C (fun v1 v3 v4 w hr  H locs ls hH hl => hrec (v1, v3, v4, w) hr  H locs ls hH hl)   hH hl hf) FU (v1, v3, v4, w) hf  H locs ls hH hl
set_option maxRecDepth 100000 in
set_option maxHeartbeats 4000000 in
theorem t_X11_lays_0 {D : va_G} {B : Nat} {Y : Nat → ClassId} {p : Program} {l : Launch} {e : Env} {s : State} {m : MethodId} {args : Array Value} {below : List Frame} {meth : Method} {c : Code} {z : (Unit × Wd)} {H : Heap} {locs : List Loc} {ls : Array Slot} {w : Wd} {v1 : Int32} {v2 : Int32} {v3 : Int32} (C : CX D B Y p s m args meth c cX11_lays 5 RX11 none)     (hH : HS D B Y w s H locs) (hl : lv_has ls 5 [(0, .ref (B + 713)), (1, .int v1), (2, .int v2), (3, .int v3)]) (hf : f_X11_lays v1 v2 v3 w = some z) : W p l e (RM 1 0 0) s m args below meth c H locs 0 0 (MQ below (QG D B Y none z.2 True) args s 0 0 (AB B)) (F0 m 0 ls []) := by
  have hx := C.1
  have hb := C.2.1
  unfold f_X11_lays at hf
  refine lv_aload_n hx hb dX11_lays_0 rfl (lv_at hl 0 rfl) ?_
  refine fg_X11_7 C hH dX11_lays_1 ?_
  refine lv_iload_n hx hb dX11_lays_4 rfl (lv_at hl 2 rfl) ?_
  refine lv_aload_n hx hb dX11_lays_5 rfl (lv_at hl 0 rfl) ?_
  refine fg_X11_19 C hH dX11_lays_6 ?_
  refine lv_iload_n hx hb dX11_lays_9 rfl (lv_at hl 1 rfl) ?_
  refine g_iald C hH kc_717 hf dX11_lays_10 (fun x1 hf => ?_)
  refine g_iast C hH kc_714 hf dX11_lays_11 (fun w2 H locs hf hH => ?_)
  refine lv_iconst (v := (0 : Int32)) hx hb dX11_lays_12 (by decide) ?_
  refine lv_istore (lv' := [(4, .int (0 : Int32)), (0, .ref (B + 713)), (1, .int v1), (2, .int v2), (3, .int v3)]) hx hb dX11_lays_13 hl (by decide) rfl (fun ls hl => ?_)
  exact t_X11_lays_15 C hH (lv_sub hl [1, 2, 4, 0] rfl) hf
set_option maxRecDepth 100000 in
theorem c_X11_lays {l : Launch} {D : va_G} {B : Nat} {Y : Nat → ClassId} {v1 : Int32} {v2 : Int32} {v3 : Int32} {w : Wd} {r : Unit} {w1 : Wd}   (hf : f_X11_lays v1 v2 v3 w = some (r, w1)) : CM l D B Y yX11_lays cX11_lays 5 none 1 [.ref (B + 713), .int v1, .int v2, .int v3] w none w1 True :=
  CM_of (by decide +kernel) (Nat.le_of_ble_eq_true rfl) (fun p e s m args below meth c ls C hH hl => t_X11_lays_0 C  hH (lv_sub hl [0, 1, 2, 3] rfl) hf)
/-! LetterTablesModel.addRule -/
set_option maxRecDepth 100000 in
set_option maxHeartbeats 4000000 in
theorem t_X11_addRule_141 {D : va_G} {B : Nat} {Y : Nat → ClassId} {p : Program} {l : Launch} {e : Env} {s : State} {m : MethodId} {args : Array Value} {below : List Frame} {meth : Method} {c : Code} {z : (Int32 × Wd)} {H : Heap} {locs : List Loc} {ls : Array Slot} {w : Wd} {v1 : Int32} {v2 : Int32} {v3 : Int32} {v4 : Int32} {v5 : Int32} {t1 : Int32} (C : CX D B Y p s m args meth c cX11_addRule 9 RX11 (some .int))     (hH : HS D B Y w s H locs) (hl : lv_has ls 9 [(0, .ref (B + 713)), (1, .int v1), (2, .int v2), (3, .int v3), (4, .int v4), (5, .int v5)]) (hf : f_X11_addRule_141 v1 v2 v3 v4 v5 t1 w = some z) : W p l e (RM 2 0 0) s m args below meth c H locs 0 0 (MQ below (QG D B Y (some (.int z.1)) z.2 True) args s 0 0 (AB B)) (F0 m 141 ls [.int t1, .ref (B + 713)]) := by
  have hx := C.1
  have hb := C.2.1
  unfold f_X11_addRule_141 at hf
  obtain ⟨x2, w1, hc, hf⟩ := bd_some hf
  refine q_callV1 (v := .int x2) (As := [.int t1]) C hH (ci := 11) rfl (by omega) gk_X11_118 yd_X11_holds (by omega) (by omega) kc_713 (c_X11_holds hc) hl.1 rfl (Nat.le_of_ble_eq_true rfl) dX11_addRule_141 ⟨by decide, by decide⟩ (fun H locs hH z_x2 => ?_)
  refine b_if_ne (tgt := 149) hx hb hf dX11_addRule_144 (by decide) (fun hf => ?_) (fun hf => ?_)
  · refine lv_sipush (v := (1558 : Int32)) hx hb dX11_addRule_149 (by decide) ?_
    refine lv_bipush (v := (15 : Int32)) hx hb dX11_addRule_152 (by decide) ?_
    refine lv_aload_n hx hb dX11_addRule_154 rfl (lv_at hl 0 rfl) ?_
    refine fg_X11_7 C hH dX11_addRule_155 ?_
    refine lv_sipush (v := (1557 : Int32)) hx hb dX11_addRule_158 (by decide) ?_
    refine g_iald C hH kc_714 hf dX11_addRule_161 (fun x3 hf => ?_)
    refine lv_imul hx hb dX11_addRule_162 ?_
    refine lv_iadd hx hb dX11_addRule_163 ?_
    refine b_leti hf (fun x4 hf => ?_)
    refine lv_istore (lv' := [(8, .int x4), (0, .ref (B + 713)), (1, .int v1), (2, .int v2), (3, .int v3), (4, .int v4), (5, .int v5)]) hx hb dX11_addRule_164 hl (by decide) rfl (fun ls hl => ?_)
    refine lv_aload_n hx hb dX11_addRule_166 rfl (lv_at hl 1 rfl) ?_
    refine fg_X11_7 C hH dX11_addRule_167 ?_
    refine lv_iload hx hb dX11_addRule_170 (lv_at hl 0 rfl) ?_
    refine lv_iload_n hx hb dX11_addRule_172 rfl (lv_at hl 2 rfl) ?_
    refine g_iast C hH kc_714 hf dX11_addRule_173 (fun w5 H locs hf hH => ?_)
    refine lv_aload_n hx hb dX11_addRule_174 rfl (lv_at hl 1 rfl) ?_
    refine lv_iload_n hx hb dX11_addRule_175 rfl (lv_at hl 3 rfl) ?_
    refine lv_iload hx hb dX11_addRule_176 (lv_at hl 0 rfl) ?_
    refine lv_iconst (v := (1 : Int32)) hx hb dX11_addRule_178 (by decide) ?_
    refine lv_iadd hx hb dX11_addRule_179 ?_
    refine lv_iload hx hb dX11_addRule_180 (lv_at hl 0 rfl) ?_
    refine lv_iconst (v := (5 : Int32)) hx hb dX11_addRule_182 (by decide) ?_
    refine lv_iadd hx hb dX11_addRule_183 ?_
    obtain ⟨u, w6, hc, hf⟩ := bd_some hf
    refine q_callV0 (As := [.int v2, .int (x4 + (1 : Int32)), .int (x4 + (5 : Int32))]) C hH (ci := 11) rfl (by omega) gk_X11_151 yd_X11_lays (by omega) (by omega) kc_713 (c_X11_lays hc) hl.1 rfl (Nat.le_of_ble_eq_true rfl) dX11_addRule_184 ⟨by decide, by decide⟩ (fun H locs hH hP => ?_)
    refine lv_aload_n hx hb dX11_addRule_187 rfl (lv_at hl 1 rfl) ?_
    refine lv_iload_n hx hb dX11_addRule_188 rfl (lv_at hl 4 rfl) ?_
    refine lv_iload hx hb dX11_addRule_189 (lv_at hl 0 rfl) ?_
    refine lv_iconst (v := (2 : Int32)) hx hb dX11_addRule_191 (by decide) ?_
    refine lv_iadd hx hb dX11_addRule_192 ?_
    refine lv_iload hx hb dX11_addRule_193 (lv_at hl 0 rfl) ?_
    refine lv_bipush (v := (7 : Int32)) hx hb dX11_addRule_195 (by decide) ?_
    refine lv_iadd hx hb dX11_addRule_197 ?_
    obtain ⟨u, w7, hc, hf⟩ := bd_some hf
    refine q_callV0 (As := [.int v3, .int (x4 + (2 : Int32)), .int (x4 + (7 : Int32))]) C hH (ci := 11) rfl (by omega) gk_X11_151 yd_X11_lays (by omega) (by omega) kc_713 (c_X11_lays hc) hl.1 rfl (Nat.le_of_ble_eq_true rfl) dX11_addRule_198 ⟨by decide, by decide⟩ (fun H locs hH hP => ?_)
    refine lv_aload_n hx hb dX11_addRule_201 rfl (lv_at hl 1 rfl) ?_
    refine lv_iload hx hb dX11_addRule_202 (lv_at hl 5 rfl) ?_
    refine lv_iload hx hb dX11_addRule_204 (lv_at hl 0 rfl) ?_
    refine lv_iconst (v := (3 : Int32)) hx hb dX11_addRule_206 (by decide) ?_
    refine lv_iadd hx hb dX11_addRule_207 ?_
    refine lv_iload hx hb dX11_addRule_208 (lv_at hl 0 rfl) ?_
    refine lv_bipush (v := (10 : Int32)) hx hb dX11_addRule_210 (by decide) ?_
    refine lv_iadd hx hb dX11_addRule_212 ?_
    obtain ⟨u, w8, hc, hf⟩ := bd_some hf
    refine q_callV0 (As := [.int v4, .int (x4 + (3 : Int32)), .int (x4 + (10 : Int32))]) C hH (ci := 11) rfl (by omega) gk_X11_151 yd_X11_lays (by omega) (by omega) kc_713 (c_X11_lays hc) hl.1 rfl (Nat.le_of_ble_eq_true rfl) dX11_addRule_213 ⟨by decide, by decide⟩ (fun H locs hH hP => ?_)
    refine lv_aload_n hx hb dX11_addRule_216 rfl (lv_at hl 1 rfl) ?_
    refine lv_iload hx hb dX11_addRule_217 (lv_at hl 6 rfl) ?_
    refine lv_iload hx hb dX11_addRule_219 (lv_at hl 0 rfl) ?_
    refine lv_iconst (v := (4 : Int32)) hx hb dX11_addRule_221 (by decide) ?_
    refine lv_iadd hx hb dX11_addRule_222 ?_
    refine lv_iload hx hb dX11_addRule_223 (lv_at hl 0 rfl) ?_
    refine lv_bipush (v := (12 : Int32)) hx hb dX11_addRule_225 (by decide) ?_
    refine lv_iadd hx hb dX11_addRule_227 ?_
    obtain ⟨u, w9, hc, hf⟩ := bd_some hf
    refine q_callV0 (As := [.int v5, .int (x4 + (4 : Int32)), .int (x4 + (12 : Int32))]) C hH (ci := 11) rfl (by omega) gk_X11_151 yd_X11_lays (by omega) (by omega) kc_713 (c_X11_lays hc) hl.1 rfl (Nat.le_of_ble_eq_true rfl) dX11_addRule_228 ⟨by decide, by decide⟩ (fun H locs hH hP => ?_)
    refine lv_aload_n hx hb dX11_addRule_231 rfl (lv_at hl 1 rfl) ?_
    refine fg_X11_7 C hH dX11_addRule_232 ?_
    refine lv_sipush (v := (1557 : Int32)) hx hb dX11_addRule_235 (by decide) ?_
    refine lv_dup2_11 hx hb dX11_addRule_238 rfl rfl ?_
    refine g_iald C hH kc_714 hf dX11_addRule_239 (fun x10 hf => ?_)
    refine lv_iconst (v := (1 : Int32)) hx hb dX11_addRule_240 (by decide) ?_
    refine lv_iadd hx hb dX11_addRule_241 ?_
    refine g_iast C hH kc_714 hf dX11_addRule_242 (fun w11 H locs hf hH => ?_)
    refine lv_aload_n hx hb dX11_addRule_243 rfl (lv_at hl 1 rfl) ?_
    refine fg_X11_7 C hH dX11_addRule_244 ?_
    refine lv_sipush (v := (1557 : Int32)) hx hb dX11_addRule_247 (by decide) ?_
    refine g_iald C hH kc_714 hf dX11_addRule_250 (fun x12 hf => ?_)
    cases hf
    exact q_reti C hH trivial dX11_addRule_251
  · refine lv_iconst (v := (0 : Int32)) hx hb dX11_addRule_147 (by decide) ?_
    cases hf
    exact q_reti C hH trivial dX11_addRule_148
set_option maxRecDepth 100000 in
set_option maxHeartbeats 4000000 in
theorem t_X11_addRule_106 {D : va_G} {B : Nat} {Y : Nat → ClassId} {p : Program} {l : Launch} {e : Env} {s : State} {m : MethodId} {args : Array Value} {below : List Frame} {meth : Method} {c : Code} {z : (Int32 × Wd)} {H : Heap} {locs : List Loc} {ls : Array Slot} {w : Wd} {v1 : Int32} {v2 : Int32} {v3 : Int32} {v4 : Int32} {v5 : Int32} {v6 : Int32} {t0 : Int32} (C : CX D B Y p s m args meth c cX11_addRule 9 RX11 (some .int))    (z_v6 : isZ v6) (z_t0 : isZ t0) (hH : HS D B Y w s H locs) (hl : lv_has ls 9 [(0, .ref (B + 713)), (1, .int v1), (2, .int v2), (3, .int v3), (4, .int v4), (5, .int v5), (6, .int v6)]) (hf : f_X11_addRule_106 v1 v2 v3 v4 v5 v6 t0 w = some z) : W p l e (RM 2 0 0) s m args below meth c H locs 0 0 (MQ below (QG D B Y (some (.int z.1)) z.2 True) args s 0 0 (AB B)) (F0 m 106 ls [.int t0]) := by
  have hx := C.1
  have hb := C.2.1
  unfold f_X11_addRule_106 at hf
  refine lv_istore (lv' := [(7, .int t0), (0, .ref (B + 713)), (1, .int v1), (2, .int v2), (3, .int v3), (4, .int v4), (5, .int v5), (6, .int v6)]) hx hb dX11_addRule_106 hl (by decide) rfl (fun ls hl => ?_)
  refine lv_aload_n hx hb dX11_addRule_108 rfl (lv_at hl 1 rfl) ?_
  refine lv_iload hx hb dX11_addRule_109 (lv_at hl 7 rfl) ?_
  refine b_if_ne (tgt := 118) hx hb hf dX11_addRule_111 (by decide) (fun hf => ?_) (fun hf => ?_)
  · refine lv_iload_n hx hb dX11_addRule_118 rfl (lv_at hl 2 rfl) ?_
    refine lv_iconst (v := (0 : Int32)) hx hb dX11_addRule_119 (by decide) ?_
    refine lv_iconst (v := (1 : Int32)) hx hb dX11_addRule_120 (by decide) ?_
    obtain ⟨x2, w1, hc, hf⟩ := bd_some hf
    refine q_callS1 (v := .int x2) (As := [.int v1, .int (0 : Int32), .int (1 : Int32)]) C hH gk_X11_111 yd_X11_in (by omega) (by omega) (c_X11_in hc) hl.1 rfl (Nat.le_of_ble_eq_true rfl) dX11_addRule_121 ⟨by decide, by decide⟩ (fun H locs hH z_x2 => ?_)
    refine b_if_ne (tgt := 131) hx hb hf dX11_addRule_124 (by decide) (fun hf => ?_) (fun hf => ?_)
    · refine lv_iload hx hb dX11_addRule_131 (lv_at hl 0 rfl) ?_
      refine b_if_eq (tgt := 140) hx hb hf dX11_addRule_133 (by decide) (fun hf => ?_) (fun hf => ?_)
      · refine lv_iconst (v := (3 : Int32)) hx hb dX11_addRule_140 (by decide) ?_
        exact t_X11_addRule_141 C hH (lv_sub hl [1, 2, 3, 4, 5, 6] rfl) hf
      · refine lv_iconst (v := (0 : Int32)) hx hb dX11_addRule_136 (by decide) ?_
        refine lv_goto (tgt := 141) hx hb dX11_addRule_137 (by decide) ?_
        exact t_X11_addRule_141 C hH (lv_sub hl [1, 2, 3, 4, 5, 6] rfl) hf
    · refine lv_iconst (v := (2 : Int32)) hx hb dX11_addRule_127 (by decide) ?_
      refine lv_goto (tgt := 141) hx hb dX11_addRule_128 (by decide) ?_
      exact t_X11_addRule_141 C hH (lv_sub hl [1, 2, 3, 4, 5, 6] rfl) hf
  · refine lv_iconst (v := (1 : Int32)) hx hb dX11_addRule_114 (by decide) ?_
    refine lv_goto (tgt := 141) hx hb dX11_addRule_115 (by decide) ?_
    exact t_X11_addRule_141 C hH (lv_sub hl [1, 2, 3, 4, 5, 6] rfl) hf
set_option maxRecDepth 100000 in
set_option maxHeartbeats 4000000 in
theorem t_X11_addRule_105 {D : va_G} {B : Nat} {Y : Nat → ClassId} {p : Program} {l : Launch} {e : Env} {s : State} {m : MethodId} {args : Array Value} {below : List Frame} {meth : Method} {c : Code} {z : (Int32 × Wd)} {H : Heap} {locs : List Loc} {ls : Array Slot} {w : Wd} {v1 : Int32} {v2 : Int32} {v3 : Int32} {v4 : Int32} {v5 : Int32} {v6 : Int32} (C : CX D B Y p s m args meth c cX11_addRule 9 RX11 (some .int))    (z_v6 : isZ v6) (hH : HS D B Y w s H locs) (hl : lv_has ls 9 [(0, .ref (B + 713)), (1, .int v1), (2, .int v2), (3, .int v3), (4, .int v4), (5, .int v5), (6, .int v6)]) (hf : f_X11_addRule_105 v1 v2 v3 v4 v5 v6 w = some z) : W p l e (RM 2 0 0) s m args below meth c H locs 0 0 (MQ below (QG D B Y (some (.int z.1)) z.2 True) args s 0 0 (AB B)) (F0 m 105 ls []) := by
  have hx := C.1
  have hb := C.2.1
  unfold f_X11_addRule_105 at hf
  refine lv_iconst (v := (0 : Int32)) hx hb dX11_addRule_105 (by decide) ?_
  exact t_X11_addRule_106 C z_v6 isZ_0 hH (lv_sub hl [0, 1, 2, 3, 4, 5, 6] rfl) hf
set_option maxRecDepth 100000 in
set_option maxHeartbeats 4000000 in
theorem t_X11_addRule_35 {D : va_G} {B : Nat} {Y : Nat → ClassId} {p : Program} {l : Launch} {e : Env} {s : State} {m : MethodId} {args : Array Value} {below : List Frame} {meth : Method} {c : Code} {z : (Int32 × Wd)} {H : Heap} {locs : List Loc} {ls : Array Slot} {w : Wd} {v1 : Int32} {v2 : Int32} {v3 : Int32} {v4 : Int32} {v5 : Int32} {t0 : Int32} (C : CX D B Y p s m args meth c cX11_addRule 9 RX11 (some .int))    (z_t0 : isZ t0) (hH : HS D B Y w s H locs) (hl : lv_has ls 9 [(0, .ref (B + 713)), (1, .int v1), (2, .int v2), (3, .int v3), (4, .int v4), (5, .int v5)]) (hf : f_X11_addRule_35 v1 v2 v3 v4 v5 t0 w = some z) : W p l e (RM 2 0 0) s m args below meth c H locs 0 0 (MQ below (QG D B Y (some (.int z.1)) z.2 True) args s 0 0 (AB B)) (F0 m 35 ls [.int t0]) := by
  have hx := C.1
  have hb := C.2.1
  unfold f_X11_addRule_35 at hf
  refine lv_istore (lv' := [(6, .int t0), (0, .ref (B + 713)), (1, .int v1), (2, .int v2), (3, .int v3), (4, .int v4), (5, .int v5)]) hx hb dX11_addRule_35 hl (by decide) rfl (fun ls hl => ?_)
  refine lv_iload hx hb dX11_addRule_37 (lv_at hl 0 rfl) ?_
  refine b_if_eq (tgt := 105) hx hb hf dX11_addRule_39 (by decide) (fun hf => ?_) (fun hf => ?_)
  · exact t_X11_addRule_105 C z_t0 hH (lv_sub hl [1, 2, 3, 4, 5, 6, 0] rfl) hf
  · refine lv_aload_n hx hb dX11_addRule_42 rfl (lv_at hl 1 rfl) ?_
    refine fg_X11_19 C hH dX11_addRule_43 ?_
    refine lv_iload_n hx hb dX11_addRule_46 rfl (lv_at hl 3 rfl) ?_
    refine g_iald C hH kc_717 hf dX11_addRule_47 (fun x1 hf => ?_)
    refine lv_iconst (v := (3 : Int32)) hx hb dX11_addRule_48 (by decide) ?_
    refine b_icmp_ge (tgt := 105) hx hb hf dX11_addRule_49 (by decide) (fun hf => ?_) (fun hf => ?_)
    · exact t_X11_addRule_105 C z_t0 hH (lv_sub hl [1, 2, 3, 4, 5, 6, 0] rfl) hf
    · refine lv_aload_n hx hb dX11_addRule_52 rfl (lv_at hl 1 rfl) ?_
      refine fg_X11_19 C hH dX11_addRule_53 ?_
      refine lv_iload_n hx hb dX11_addRule_56 rfl (lv_at hl 4 rfl) ?_
      refine g_iald C hH kc_717 hf dX11_addRule_57 (fun x2 hf => ?_)
      refine lv_iconst (v := (1 : Int32)) hx hb dX11_addRule_58 (by decide) ?_
      refine lv_iconst (v := (3 : Int32)) hx hb dX11_addRule_59 (by decide) ?_
      obtain ⟨x4, w3, hc, hf⟩ := bd_some hf
      refine q_callS1 (v := .int x4) (As := [.int x2, .int (1 : Int32), .int (3 : Int32)]) C hH gk_X11_111 yd_X11_in (by omega) (by omega) (c_X11_in hc) hl.1 rfl (Nat.le_of_ble_eq_true rfl) dX11_addRule_60 ⟨by decide, by decide⟩ (fun H locs hH z_x4 => ?_)
      refine b_if_eq (tgt := 105) hx hb hf dX11_addRule_63 (by decide) (fun hf => ?_) (fun hf => ?_)
      · exact t_X11_addRule_105 C z_t0 hH (lv_sub hl [1, 2, 3, 4, 5, 6, 0] rfl) hf
      · refine lv_aload_n hx hb dX11_addRule_66 rfl (lv_at hl 1 rfl) ?_
        refine fg_X11_19 C hH dX11_addRule_67 ?_
        refine lv_iload hx hb dX11_addRule_70 (lv_at hl 5 rfl) ?_
        refine g_iald C hH kc_717 hf dX11_addRule_72 (fun x5 hf => ?_)
        refine lv_iconst (v := (3 : Int32)) hx hb dX11_addRule_73 (by decide) ?_
        refine b_icmp_ge (tgt := 105) hx hb hf dX11_addRule_74 (by decide) (fun hf => ?_) (fun hf => ?_)
        · exact t_X11_addRule_105 C z_t0 hH (lv_sub hl [1, 2, 3, 4, 5, 6, 0] rfl) hf
        · refine lv_aload_n hx hb dX11_addRule_77 rfl (lv_at hl 1 rfl) ?_
          refine fg_X11_19 C hH dX11_addRule_78 ?_
          refine lv_iload hx hb dX11_addRule_81 (lv_at hl 6 rfl) ?_
          refine g_iald C hH kc_717 hf dX11_addRule_83 (fun x6 hf => ?_)
          refine lv_iconst (v := (4 : Int32)) hx hb dX11_addRule_84 (by decide) ?_
          refine b_icmp_ge (tgt := 105) hx hb hf dX11_addRule_85 (by decide) (fun hf => ?_) (fun hf => ?_)
          · exact t_X11_addRule_105 C z_t0 hH (lv_sub hl [1, 2, 3, 4, 5, 6, 0] rfl) hf
          · refine lv_aload_n hx hb dX11_addRule_88 rfl (lv_at hl 1 rfl) ?_
            refine fg_X11_7 C hH dX11_addRule_89 ?_
            refine lv_sipush (v := (1557 : Int32)) hx hb dX11_addRule_92 (by decide) ?_
            refine g_iald C hH kc_714 hf dX11_addRule_95 (fun x7 hf => ?_)
            refine lv_bipush (v := (8 : Int32)) hx hb dX11_addRule_96 (by decide) ?_
            refine b_icmp_ge (tgt := 105) hx hb hf dX11_addRule_98 (by decide) (fun hf => ?_) (fun hf => ?_)
            · exact t_X11_addRule_105 C z_t0 hH (lv_sub hl [1, 2, 3, 4, 5, 6, 0] rfl) hf
            · refine lv_iconst (v := (1 : Int32)) hx hb dX11_addRule_101 (by decide) ?_
              refine lv_goto (tgt := 106) hx hb dX11_addRule_102 (by decide) ?_
              exact t_X11_addRule_106 C z_t0 isZ_1 hH (lv_sub hl [1, 2, 3, 4, 5, 6, 0] rfl) hf
set_option maxRecDepth 100000 in
set_option maxHeartbeats 4000000 in
theorem t_X11_addRule_34 {D : va_G} {B : Nat} {Y : Nat → ClassId} {p : Program} {l : Launch} {e : Env} {s : State} {m : MethodId} {args : Array Value} {below : List Frame} {meth : Method} {c : Code} {z : (Int32 × Wd)} {H : Heap} {locs : List Loc} {ls : Array Slot} {w : Wd} {v1 : Int32} {v2 : Int32} {v3 : Int32} {v4 : Int32} {v5 : Int32} (C : CX D B Y p s m args meth c cX11_addRule 9 RX11 (some .int))     (hH : HS D B Y w s H locs) (hl : lv_has ls 9 [(0, .ref (B + 713)), (1, .int v1), (2, .int v2), (3, .int v3), (4, .int v4), (5, .int v5)]) (hf : f_X11_addRule_34 v1 v2 v3 v4 v5 w = some z) : W p l e (RM 2 0 0) s m args below meth c H locs 0 0 (MQ below (QG D B Y (some (.int z.1)) z.2 True) args s 0 0 (AB B)) (F0 m 34 ls []) := by
  have hx := C.1
  have hb := C.2.1
  unfold f_X11_addRule_34 at hf
  refine lv_iconst (v := (0 : Int32)) hx hb dX11_addRule_34 (by decide) ?_
  exact t_X11_addRule_35 C isZ_0 hH (lv_sub hl [0, 1, 2, 3, 4, 5] rfl) hf
set_option maxRecDepth 100000 in
set_option maxHeartbeats 4000000 in
theorem t_X11_addRule_0 {D : va_G} {B : Nat} {Y : Nat → ClassId} {p : Program} {l : Launch} {e : Env} {s : State} {m : MethodId} {args : Array Value} {below : List Frame} {meth : Method} {c : Code} {z : (Int32 × Wd)} {H : Heap} {locs : List Loc} {ls : Array Slot} {w : Wd} {v1 : Int32} {v2 : Int32} {v3 : Int32} {v4 : Int32} {v5 : Int32} (C : CX D B Y p s m args meth c cX11_addRule 9 RX11 (some .int))     (hH : HS D B Y w s H locs) (hl : lv_has ls 9 [(0, .ref (B + 713)), (1, .int v1), (2, .int v2), (3, .int v3), (4, .int v4), (5, .int v5)]) (hf : f_X11_addRule v1 v2 v3 v4 v5 w = some z) : W p l e (RM 2 0 0) s m args below meth c H locs 0 0 (MQ below (QG D B Y (some (.int z.1)) z.2 True) args s 0 0 (AB B)) (F0 m 0 ls []) := by
  have hx := C.1
  have hb := C.2.1
  unfold f_X11_addRule at hf
  refine lv_iload_n hx hb dX11_addRule_0 rfl (lv_at hl 2 rfl) ?_
  obtain ⟨x2, w1, hc, hf⟩ := bd_some hf
  refine q_callS1 (v := .int x2) (As := [.int v2]) C hH gk_X11_145 yd_X11_isSlot (by omega) (by omega) (c_X11_isSlot hc) hl.1 rfl (Nat.le_of_ble_eq_true rfl) dX11_addRule_1 ⟨by decide, by decide⟩ (fun H locs hH z_x2 => ?_)
  refine b_if_eq (tgt := 34) hx hb hf dX11_addRule_4 (by decide) (fun hf => ?_) (fun hf => ?_)
  · exact t_X11_addRule_34 C hH (lv_sub hl [0, 1, 2, 3, 4, 5] rfl) hf
  · refine lv_iload_n hx hb dX11_addRule_7 rfl (lv_at hl 3 rfl) ?_
    obtain ⟨x4, w3, hc, hf⟩ := bd_some hf
    refine q_callS1 (v := .int x4) (As := [.int v3]) C hH gk_X11_145 yd_X11_isSlot (by omega) (by omega) (c_X11_isSlot hc) hl.1 rfl (Nat.le_of_ble_eq_true rfl) dX11_addRule_8 ⟨by decide, by decide⟩ (fun H locs hH z_x4 => ?_)
    refine b_if_eq (tgt := 34) hx hb hf dX11_addRule_11 (by decide) (fun hf => ?_) (fun hf => ?_)
    · exact t_X11_addRule_34 C hH (lv_sub hl [0, 1, 2, 3, 4, 5] rfl) hf
    · refine lv_iload hx hb dX11_addRule_14 (lv_at hl 4 rfl) ?_
      obtain ⟨x6, w5, hc, hf⟩ := bd_some hf
      refine q_callS1 (v := .int x6) (As := [.int v4]) C hH gk_X11_145 yd_X11_isSlot (by omega) (by omega) (c_X11_isSlot hc) hl.1 rfl (Nat.le_of_ble_eq_true rfl) dX11_addRule_16 ⟨by decide, by decide⟩ (fun H locs hH z_x6 => ?_)
      refine b_if_eq (tgt := 34) hx hb hf dX11_addRule_19 (by decide) (fun hf => ?_) (fun hf => ?_)
      · exact t_X11_addRule_34 C hH (lv_sub hl [0, 1, 2, 3, 4, 5] rfl) hf
      · refine lv_iload hx hb dX11_addRule_22 (lv_at hl 5 rfl) ?_
        obtain ⟨x8, w7, hc, hf⟩ := bd_some hf
        refine q_callS1 (v := .int x8) (As := [.int v5]) C hH gk_X11_145 yd_X11_isSlot (by omega) (by omega) (c_X11_isSlot hc) hl.1 rfl (Nat.le_of_ble_eq_true rfl) dX11_addRule_24 ⟨by decide, by decide⟩ (fun H locs hH z_x8 => ?_)
        refine b_if_eq (tgt := 34) hx hb hf dX11_addRule_27 (by decide) (fun hf => ?_) (fun hf => ?_)
        · exact t_X11_addRule_34 C hH (lv_sub hl [0, 1, 2, 3, 4, 5] rfl) hf
        · refine lv_iconst (v := (1 : Int32)) hx hb dX11_addRule_30 (by decide) ?_
          refine lv_goto (tgt := 35) hx hb dX11_addRule_31 (by decide) ?_
          exact t_X11_addRule_35 C isZ_1 hH (lv_sub hl [0, 1, 2, 3, 4, 5] rfl) hf
set_option maxRecDepth 100000 in
theorem c_X11_addRule {l : Launch} {D : va_G} {B : Nat} {Y : Nat → ClassId} {v1 : Int32} {v2 : Int32} {v3 : Int32} {v4 : Int32} {v5 : Int32} {w : Wd} {r : Int32} {w1 : Wd}   (hf : f_X11_addRule v1 v2 v3 v4 v5 w = some (r, w1)) : CM l D B Y yX11_addRule cX11_addRule 9 (some .int) 2 [.ref (B + 713), .int v1, .int v2, .int v3, .int v4, .int v5] w (some (.int r)) w1 True :=
  CM_of (by decide +kernel) (Nat.le_of_ble_eq_true rfl) (fun p e s m args below meth c ls C hH hl => t_X11_addRule_0 C  hH (lv_sub hl [0, 1, 2, 3, 4, 5] rfl) hf)
/-! LetterTablesModel.save -/
set_option maxRecDepth 100000 in
set_option maxHeartbeats 4000000 in
theorem tb_X11_save_24 {D : va_G} {B : Nat} {Y : Nat → ClassId} {p : Program} {l : Launch} {e : Env} {s : State} {m : MethodId} {args : Array Value} {below : List Frame} {meth : Method} {c : Code} {z : (Int32 × Wd)} {H : Heap} {locs : List Loc} {ls : Array Slot} {w : Wd} {v1 : Int32} (C : CX D B Y p s m args meth c cX11_save 2 RX11 (some .int))  {rc_24 : Int32 × Wd → Option (Int32 × Wd)} (hr_24 : ∀ (v1 : Int32) (w : Wd), rc_24 (v1, w) = some z → ∀ (H : Heap) (locs : List Loc) (ls : Array Slot), HS D B Y w s H locs → lv_has ls 2 [(0, .ref (B + 713)), (1, .int v1)] → W p l e (RM 1 0 0) s m args below meth c H locs 0 0 (MQ below (QG D B Y (some (.int z.1)) z.2 True) args s 0 0 (AB B)) (F0 m 24 ls []))    (hH : HS D B Y w s H locs) (hl : lv_has ls 2 [(0, .ref (B + 713)), (1, .int v1)]) (hf : g_X11_save_24 rc_24 v1 w = some z) : W p l e (RM 1 0 0) s m args below meth c H locs 0 0 (MQ below (QG D B Y (some (.int z.1)) z.2 True) args s 0 0 (AB B)) (F0 m 24 ls []) := by
  have hx := C.1
  have hb := C.2.1
  unfold g_X11_save_24 at hf
  refine lv_iload_n hx hb dX11_save_24 rfl (lv_at hl 1 rfl) ?_
  refine lv_sipush (v := (1740 : Int32)) hx hb dX11_save_25 (by decide) ?_
  refine b_icmp_ge (tgt := 58) hx hb hf dX11_save_28 (by decide) (fun hf => ?_) (fun hf => ?_)
  · refine lv_aload_n hx hb dX11_save_58 rfl (lv_at hl 0 rfl) ?_
    refine lv_dup hx hb dX11_save_59 rfl ?_
    refine fg_X11_155 C hH dX11_save_60 ?_
    refine lv_iconst (v := (1 : Int32)) hx hb dX11_save_63 (by decide) ?_
    refine lv_iadd hx hb dX11_save_64 ?_
    refine fp_X11_155 C hH dX11_save_65 (fun H locs hH => ?_)
    refine b_w hf hH (fun w1 hf hH => ?_)
    refine lv_aload_n hx hb dX11_save_68 rfl (lv_at hl 0 rfl) ?_
    refine fg_X11_155 C hH dX11_save_69 ?_
    refine lv_iconst (v := (1 : Int32)) hx hb dX11_save_72 (by decide) ?_
    refine lv_isub hx hb dX11_save_73 ?_
    cases hf
    exact q_reti C hH trivial dX11_save_74
  · refine lv_aload_n hx hb dX11_save_31 rfl (lv_at hl 0 rfl) ?_
    refine fg_X11_13 C hH dX11_save_32 ?_
    refine lv_sipush (v := (1740 : Int32)) hx hb dX11_save_35 (by decide) ?_
    refine lv_aload_n hx hb dX11_save_38 rfl (lv_at hl 0 rfl) ?_
    refine fg_X11_155 C hH dX11_save_39 ?_
    refine lv_imul hx hb dX11_save_42 ?_
    refine lv_iload_n hx hb dX11_save_43 rfl (lv_at hl 1 rfl) ?_
    refine lv_iadd hx hb dX11_save_44 ?_
    refine lv_aload_n hx hb dX11_save_45 rfl (lv_at hl 0 rfl) ?_
    refine fg_X11_7 C hH dX11_save_46 ?_
    refine lv_iload_n hx hb dX11_save_49 rfl (lv_at hl 1 rfl) ?_
    refine g_iald C hH kc_714 hf dX11_save_50 (fun x2 hf => ?_)
    refine g_iast C hH kc_715 hf dX11_save_51 (fun w3 H locs hf hH => ?_)
    refine b_let hf (fun x4 he hf => ?_)
    refine lv_iinc (v := x4) (lv' := [(1, .int x4), (0, .ref (B + 713))]) hx hb dX11_save_52 hl (k := 1) rfl (by rw [← he]; rfl) (by decide) rfl (fun ls hl => ?_)
    refine lv_goto (tgt := 24) hx hb dX11_save_55 (by decide) ?_
    exact hr_24 x4 w3 hf _ _ _ hH (lv_sub hl [1, 0] rfl)
set_option maxRecDepth 100000 in
set_option maxHeartbeats 4000000 in
theorem t_X11_save_24 {D : va_G} {B : Nat} {Y : Nat → ClassId} {p : Program} {l : Launch} {e : Env} {s : State} {m : MethodId} {args : Array Value} {below : List Frame} {meth : Method} {c : Code} {z : (Int32 × Wd)} {H : Heap} {locs : List Loc} {ls : Array Slot} {w : Wd} {v1 : Int32} (C : CX D B Y p s m args meth c cX11_save 2 RX11 (some .int))     (hH : HS D B Y w s H locs) (hl : lv_has ls 2 [(0, .ref (B + 713)), (1, .int v1)]) (hf : f_X11_save_24 v1 w = some z) : W p l e (RM 1 0 0) s m args below meth c H locs 0 0 (MQ below (QG D B Y (some (.int z.1)) z.2 True) args s 0 0 (AB B)) (F0 m 24 ls []) := by
  exact loopN_ind (z := z) (body := fun rc σ => g_X11_save_24 rc  σ.1 σ.2)
    (P := fun σ => ∀ (H : Heap) (locs : List Loc) (ls : Array Slot), HS D B Y σ.2 s H locs → lv_has ls 2 [(0, .ref (B + 713)), (1, .int σ.1)] → W p l e (RM 1 0 0) s m args below meth c H locs 0 0 (MQ below (QG D B Y (some (.int z.1)) z.2 True) args s 0 0 (AB B)) (F0 m 24 ls []))
    (fun rc hrec σ hf  H locs ls hH hl => tb_X11_save_24 C (fun v1 w hr  H locs ls hH hl => hrec (v1, w) hr  H locs ls hH hl)   hH hl hf) FU (v1, w) hf  H locs ls hH hl
set_option maxRecDepth 100000 in
set_option maxHeartbeats 4000000 in
theorem t_X11_save_14 {D : va_G} {B : Nat} {Y : Nat → ClassId} {p : Program} {l : Launch} {e : Env} {s : State} {m : MethodId} {args : Array Value} {below : List Frame} {meth : Method} {c : Code} {z : (Int32 × Wd)} {H : Heap} {locs : List Loc} {ls : Array Slot} {w : Wd} {t1 : Int32} (C : CX D B Y p s m args meth c cX11_save 2 RX11 (some .int))    (z_t1 : isZ t1) (hH : HS D B Y w s H locs) (hl : lv_has ls 2 [(0, .ref (B + 713))]) (hf : f_X11_save_14 t1 w = some z) : W p l e (RM 1 0 0) s m args below meth c H locs 0 0 (MQ below (QG D B Y (some (.int z.1)) z.2 True) args s 0 0 (AB B)) (F0 m 14 ls [.int t1, .ref (B + 713)]) := by
  have hx := C.1
  have hb := C.2.1
  unfold f_X11_save_14 at hf
  obtain ⟨x2, w1, hc, hf⟩ := bd_some hf
  refine q_callV1 (v := .int x2) (As := [.int t1]) C hH (ci := 11) rfl (by omega) gk_X11_118 yd_X11_holds (by omega) (by omega) kc_713 (c_X11_holds hc) hl.1 rfl (Nat.le_of_ble_eq_true rfl) dX11_save_14 ⟨by decide, by decide⟩ (fun H locs hH z_x2 => ?_)
  refine b_if_ne (tgt := 22) hx hb hf dX11_save_17 (by decide) (fun hf => ?_) (fun hf => ?_)
  · refine lv_iconst (v := (0 : Int32)) hx hb dX11_save_22 (by decide) ?_
    refine lv_istore_n (lv' := [(1, .int (0 : Int32)), (0, .ref (B + 713))]) hx hb dX11_save_23 rfl hl (by decide) rfl (fun ls hl => ?_)
    exact t_X11_save_24 C hH (lv_sub hl [1, 0] rfl) hf
  · refine lv_iconst (v := (0 : Int32)) hx hb dX11_save_20 (by decide) ?_
    cases hf
    exact q_reti C hH trivial dX11_save_21
set_option maxRecDepth 100000 in
set_option maxHeartbeats 4000000 in
theorem t_X11_save_0 {D : va_G} {B : Nat} {Y : Nat → ClassId} {p : Program} {l : Launch} {e : Env} {s : State} {m : MethodId} {args : Array Value} {below : List Frame} {meth : Method} {c : Code} {z : (Int32 × Wd)} {H : Heap} {locs : List Loc} {ls : Array Slot} {w : Wd}  (C : CX D B Y p s m args meth c cX11_save 2 RX11 (some .int))     (hH : HS D B Y w s H locs) (hl : lv_has ls 2 [(0, .ref (B + 713))]) (hf : f_X11_save w = some z) : W p l e (RM 1 0 0) s m args below meth c H locs 0 0 (MQ below (QG D B Y (some (.int z.1)) z.2 True) args s 0 0 (AB B)) (F0 m 0 ls []) := by
  have hx := C.1
  have hb := C.2.1
  unfold f_X11_save at hf
  refine lv_aload_n hx hb dX11_save_0 rfl (lv_at hl 0 rfl) ?_
  refine lv_aload_n hx hb dX11_save_1 rfl (lv_at hl 0 rfl) ?_
  refine fg_X11_155 C hH dX11_save_2 ?_
  refine lv_iconst (v := (4 : Int32)) hx hb dX11_save_5 (by decide) ?_
  refine b_icmp_ne (tgt := 13) hx hb hf dX11_save_6 (by decide) (fun hf => ?_) (fun hf => ?_)
  · refine lv_iconst (v := (0 : Int32)) hx hb dX11_save_13 (by decide) ?_
    exact t_X11_save_14 C isZ_0 hH (lv_sub hl [0] rfl) hf
  · refine lv_iconst (v := (1 : Int32)) hx hb dX11_save_9 (by decide) ?_
    refine lv_goto (tgt := 14) hx hb dX11_save_10 (by decide) ?_
    exact t_X11_save_14 C isZ_1 hH (lv_sub hl [0] rfl) hf
set_option maxRecDepth 100000 in
theorem c_X11_save {l : Launch} {D : va_G} {B : Nat} {Y : Nat → ClassId}  {w : Wd} {r : Int32} {w1 : Wd}   (hf : f_X11_save w = some (r, w1)) : CM l D B Y yX11_save cX11_save 2 (some .int) 1 [.ref (B + 713)] w (some (.int r)) w1 True :=
  CM_of (by decide +kernel) (Nat.le_of_ble_eq_true rfl) (fun p e s m args below meth c ls C hH hl => t_X11_save_0 C  hH (lv_sub hl [0] rfl) hf)
/-! LetterTablesModel.use -/
set_option maxRecDepth 100000 in
set_option maxHeartbeats 4000000 in
theorem tb_X11_use_28 {D : va_G} {B : Nat} {Y : Nat → ClassId} {p : Program} {l : Launch} {e : Env} {s : State} {m : MethodId} {args : Array Value} {below : List Frame} {meth : Method} {c : Code} {z : (Unit × Wd)} {H : Heap} {locs : List Loc} {ls : Array Slot} {w : Wd} {v1 : Int32} {v2 : Int32} (C : CX D B Y p s m args meth c cX11_use 3 RX11 none)  {rc_28 : Int32 × Int32 × Wd → Option (Unit × Wd)} (hr_28 : ∀ (v1 : Int32) (v2 : Int32) (w : Wd), rc_28 (v1, v2, w) = some z → ∀ (H : Heap) (locs : List Loc) (ls : Array Slot), HS D B Y w s H locs → lv_has ls 3 [(0, .ref (B + 713)), (1, .int v1), (2, .int v2)] → W p l e (RM 1 0 0) s m args below meth c H locs 0 0 (MQ below (QG D B Y none z.2 True) args s 0 0 (AB B)) (F0 m 28 ls []))    (hH : HS D B Y w s H locs) (hl : lv_has ls 3 [(0, .ref (B + 713)), (1, .int v1), (2, .int v2)]) (hf : g_X11_use_28 rc_28 v1 v2 w = some z) : W p l e (RM 1 0 0) s m args below meth c H locs 0 0 (MQ below (QG D B Y none z.2 True) args s 0 0 (AB B)) (F0 m 28 ls []) := by
  have hx := C.1
  have hb := C.2.1
  unfold g_X11_use_28 at hf
  refine lv_iload_n hx hb dX11_use_28 rfl (lv_at hl 2 rfl) ?_
  refine lv_sipush (v := (1740 : Int32)) hx hb dX11_use_29 (by decide) ?_
  refine b_icmp_ge (tgt := 59) hx hb hf dX11_use_32 (by decide) (fun hf => ?_) (fun hf => ?_)
  · cases hf
    exact q_retv C hH trivial dX11_use_59
  · refine lv_aload_n hx hb dX11_use_35 rfl (lv_at hl 0 rfl) ?_
    refine fg_X11_7 C hH dX11_use_36 ?_
    refine lv_iload_n hx hb dX11_use_39 rfl (lv_at hl 2 rfl) ?_
    refine lv_aload_n hx hb dX11_use_40 rfl (lv_at hl 0 rfl) ?_
    refine fg_X11_13 C hH dX11_use_41 ?_
    refine lv_sipush (v := (1740 : Int32)) hx hb dX11_use_44 (by decide) ?_
    refine lv_iload_n hx hb dX11_use_47 rfl (lv_at hl 1 rfl) ?_
    refine lv_imul hx hb dX11_use_48 ?_
    refine lv_iload_n hx hb dX11_use_49 rfl (lv_at hl 2 rfl) ?_
    refine lv_iadd hx hb dX11_use_50 ?_
    refine g_iald C hH kc_715 hf dX11_use_51 (fun x1 hf => ?_)
    refine g_iast C hH kc_714 hf dX11_use_52 (fun w2 H locs hf hH => ?_)
    refine b_let hf (fun x3 he hf => ?_)
    refine lv_iinc (v := x3) (lv' := [(2, .int x3), (0, .ref (B + 713)), (1, .int v1)]) hx hb dX11_use_53 hl (k := 2) rfl (by rw [← he]; rfl) (by decide) rfl (fun ls hl => ?_)
    refine lv_goto (tgt := 28) hx hb dX11_use_56 (by decide) ?_
    exact hr_28 v1 x3 w2 hf _ _ _ hH (lv_sub hl [1, 2, 0] rfl)
set_option maxRecDepth 100000 in
set_option maxHeartbeats 4000000 in
theorem t_X11_use_28 {D : va_G} {B : Nat} {Y : Nat → ClassId} {p : Program} {l : Launch} {e : Env} {s : State} {m : MethodId} {args : Array Value} {below : List Frame} {meth : Method} {c : Code} {z : (Unit × Wd)} {H : Heap} {locs : List Loc} {ls : Array Slot} {w : Wd} {v1 : Int32} {v2 : Int32} (C : CX D B Y p s m args meth c cX11_use 3 RX11 none)     (hH : HS D B Y w s H locs) (hl : lv_has ls 3 [(0, .ref (B + 713)), (1, .int v1), (2, .int v2)]) (hf : f_X11_use_28 v1 v2 w = some z) : W p l e (RM 1 0 0) s m args below meth c H locs 0 0 (MQ below (QG D B Y none z.2 True) args s 0 0 (AB B)) (F0 m 28 ls []) := by
  exact loopN_ind (z := z) (body := fun rc σ => g_X11_use_28 rc  σ.1 σ.2.1 σ.2.2)
    (P := fun σ => ∀ (H : Heap) (locs : List Loc) (ls : Array Slot), HS D B Y σ.2.2 s H locs → lv_has ls 3 [(0, .ref (B + 713)), (1, .int σ.1), (2, .int σ.2.1)] → W p l e (RM 1 0 0) s m args below meth c H locs 0 0 (MQ below (QG D B Y none z.2 True) args s 0 0 (AB B)) (F0 m 28 ls []))
    (fun rc hrec σ hf  H locs ls hH hl => tb_X11_use_28 C (fun v1 v2 w hr  H locs ls hH hl => hrec (v1, v2, w) hr  H locs ls hH hl)   hH hl hf) FU (v1, v2, w) hf  H locs ls hH hl
set_option maxRecDepth 100000 in
set_option maxHeartbeats 4000000 in
theorem t_X11_use_20 {D : va_G} {B : Nat} {Y : Nat → ClassId} {p : Program} {l : Launch} {e : Env} {s : State} {m : MethodId} {args : Array Value} {below : List Frame} {meth : Method} {c : Code} {z : (Unit × Wd)} {H : Heap} {locs : List Loc} {ls : Array Slot} {w : Wd} {v1 : Int32} {t1 : Int32} (C : CX D B Y p s m args meth c cX11_use 3 RX11 none)    (z_t1 : isZ t1) (hH : HS D B Y w s H locs) (hl : lv_has ls 3 [(0, .ref (B + 713)), (1, .int v1)]) (hf : f_X11_use_20 v1 t1 w = some z) : W p l e (RM 1 0 0) s m args below meth c H locs 0 0 (MQ below (QG D B Y none z.2 True) args s 0 0 (AB B)) (F0 m 20 ls [.int t1, .ref (B + 713)]) := by
  have hx := C.1
  have hb := C.2.1
  unfold f_X11_use_20 at hf
  obtain ⟨x2, w1, hc, hf⟩ := bd_some hf
  refine q_callV1 (v := .int x2) (As := [.int t1]) C hH (ci := 11) rfl (by omega) gk_X11_118 yd_X11_holds (by omega) (by omega) kc_713 (c_X11_holds hc) hl.1 rfl (Nat.le_of_ble_eq_true rfl) dX11_use_20 ⟨by decide, by decide⟩ (fun H locs hH z_x2 => ?_)
  refine b_if_eq (tgt := 59) hx hb hf dX11_use_23 (by decide) (fun hf => ?_) (fun hf => ?_)
  · cases hf
    exact q_retv C hH trivial dX11_use_59
  · refine lv_iconst (v := (0 : Int32)) hx hb dX11_use_26 (by decide) ?_
    refine lv_istore_n (lv' := [(2, .int (0 : Int32)), (0, .ref (B + 713)), (1, .int v1)]) hx hb dX11_use_27 rfl hl (by decide) rfl (fun ls hl => ?_)
    exact t_X11_use_28 C hH (lv_sub hl [1, 2, 0] rfl) hf
set_option maxRecDepth 100000 in
set_option maxHeartbeats 4000000 in
theorem t_X11_use_0 {D : va_G} {B : Nat} {Y : Nat → ClassId} {p : Program} {l : Launch} {e : Env} {s : State} {m : MethodId} {args : Array Value} {below : List Frame} {meth : Method} {c : Code} {z : (Unit × Wd)} {H : Heap} {locs : List Loc} {ls : Array Slot} {w : Wd} {v1 : Int32} (C : CX D B Y p s m args meth c cX11_use 3 RX11 none)     (hH : HS D B Y w s H locs) (hl : lv_has ls 3 [(0, .ref (B + 713)), (1, .int v1)]) (hf : f_X11_use v1 w = some z) : W p l e (RM 1 0 0) s m args below meth c H locs 0 0 (MQ below (QG D B Y none z.2 True) args s 0 0 (AB B)) (F0 m 0 ls []) := by
  have hx := C.1
  have hb := C.2.1
  unfold f_X11_use at hf
  refine lv_aload_n hx hb dX11_use_0 rfl (lv_at hl 0 rfl) ?_
  refine lv_iload_n hx hb dX11_use_1 rfl (lv_at hl 1 rfl) ?_
  refine lv_iconst (v := (0 : Int32)) hx hb dX11_use_2 (by decide) ?_
  refine lv_aload_n hx hb dX11_use_3 rfl (lv_at hl 0 rfl) ?_
  refine fg_X11_155 C hH dX11_use_4 ?_
  refine lv_iconst (v := (1 : Int32)) hx hb dX11_use_7 (by decide) ?_
  refine lv_isub hx hb dX11_use_8 ?_
  obtain ⟨x2, w1, hc, hf⟩ := bd_some hf
  refine q_callS1 (v := .int x2) (As := [.int v1, .int (0 : Int32), .int ((w.1 713 3) - (1 : Int32))]) C hH gk_X11_111 yd_X11_in (by omega) (by omega) (c_X11_in hc) hl.1 rfl (Nat.le_of_ble_eq_true rfl) dX11_use_9 ⟨by decide, by decide⟩ (fun H locs hH z_x2 => ?_)
  refine b_if_eq (tgt := 19) hx hb hf dX11_use_12 (by decide) (fun hf => ?_) (fun hf => ?_)
  · refine lv_iconst (v := (1 : Int32)) hx hb dX11_use_19 (by decide) ?_
    exact t_X11_use_20 C isZ_1 hH (lv_sub hl [0, 1] rfl) hf
  · refine lv_iconst (v := (0 : Int32)) hx hb dX11_use_15 (by decide) ?_
    refine lv_goto (tgt := 20) hx hb dX11_use_16 (by decide) ?_
    exact t_X11_use_20 C isZ_0 hH (lv_sub hl [0, 1] rfl) hf
set_option maxRecDepth 100000 in
theorem c_X11_use {l : Launch} {D : va_G} {B : Nat} {Y : Nat → ClassId} {v1 : Int32} {w : Wd} {r : Unit} {w1 : Wd}   (hf : f_X11_use v1 w = some (r, w1)) : CM l D B Y yX11_use cX11_use 3 none 1 [.ref (B + 713), .int v1] w none w1 True :=
  CM_of (by decide +kernel) (Nat.le_of_ble_eq_true rfl) (fun p e s m args below meth c ls C hH hl => t_X11_use_0 C  hH (lv_sub hl [0, 1] rfl) hf)
/-! LetterTablesModel.put -/
set_option maxRecDepth 100000 in
set_option maxHeartbeats 4000000 in
theorem t_X11_put_45 {D : va_G} {B : Nat} {Y : Nat → ClassId} {p : Program} {l : Launch} {e : Env} {s : State} {m : MethodId} {args : Array Value} {below : List Frame} {meth : Method} {c : Code} {z : (Int32 × Wd)} {H : Heap} {locs : List Loc} {ls : Array Slot} {w : Wd} {v1 : Int32} {v2 : Int32} {t1 : Int32} (C : CX D B Y p s m args meth c cX11_put 4 RX11 (some .int))     (hH : HS D B Y w s H locs) (hl : lv_has ls 4 [(0, .ref (B + 713)), (1, .int v1), (2, .int v2)]) (hf : f_X11_put_45 v1 v2 t1 w = some z) : W p l e (RM 2 0 0) s m args below meth c H locs 0 0 (MQ below (QG D B Y (some (.int z.1)) z.2 True) args s 0 0 (AB B)) (F0 m 45 ls [.int t1, .ref (B + 713)]) := by
  have hx := C.1
  have hb := C.2.1
  unfold f_X11_put_45 at hf
  obtain ⟨x2, w1, hc, hf⟩ := bd_some hf
  refine q_callV1 (v := .int x2) (As := [.int t1]) C hH (ci := 11) rfl (by omega) gk_X11_118 yd_X11_holds (by omega) (by omega) kc_713 (c_X11_holds hc) hl.1 rfl (Nat.le_of_ble_eq_true rfl) dX11_put_45 ⟨by decide, by decide⟩ (fun H locs hH z_x2 => ?_)
  refine b_if_ne (tgt := 53) hx hb hf dX11_put_48 (by decide) (fun hf => ?_) (fun hf => ?_)
  · refine lv_aload_n hx hb dX11_put_53 rfl (lv_at hl 0 rfl) ?_
    refine fg_X11_16 C hH dX11_put_54 ?_
    refine lv_bipush (v := (40 : Int32)) hx hb dX11_put_57 (by decide) ?_
    refine lv_iload_n hx hb dX11_put_59 rfl (lv_at hl 1 rfl) ?_
    refine lv_imul hx hb dX11_put_60 ?_
    refine lv_aload_n hx hb dX11_put_61 rfl (lv_at hl 0 rfl) ?_
    refine fg_X11_19 C hH dX11_put_62 ?_
    refine lv_iload_n hx hb dX11_put_65 rfl (lv_at hl 1 rfl) ?_
    refine g_iald C hH kc_717 hf dX11_put_66 (fun x3 hf => ?_)
    refine lv_iadd hx hb dX11_put_67 ?_
    refine lv_iload_n hx hb dX11_put_68 rfl (lv_at hl 2 rfl) ?_
    refine g_iast C hH kc_716 hf dX11_put_69 (fun w4 H locs hf hH => ?_)
    refine lv_aload_n hx hb dX11_put_70 rfl (lv_at hl 0 rfl) ?_
    refine fg_X11_19 C hH dX11_put_71 ?_
    refine lv_iload_n hx hb dX11_put_74 rfl (lv_at hl 1 rfl) ?_
    refine lv_dup2_11 hx hb dX11_put_75 rfl rfl ?_
    refine g_iald C hH kc_717 hf dX11_put_76 (fun x5 hf => ?_)
    refine lv_iconst (v := (1 : Int32)) hx hb dX11_put_77 (by decide) ?_
    refine lv_iadd hx hb dX11_put_78 ?_
    refine g_iast C hH kc_717 hf dX11_put_79 (fun w6 H locs hf hH => ?_)
    refine lv_aload_n hx hb dX11_put_80 rfl (lv_at hl 0 rfl) ?_
    refine fg_X11_19 C hH dX11_put_81 ?_
    refine lv_iload_n hx hb dX11_put_84 rfl (lv_at hl 1 rfl) ?_
    refine g_iald C hH kc_717 hf dX11_put_85 (fun x7 hf => ?_)
    cases hf
    exact q_reti C hH trivial dX11_put_86
  · refine lv_iconst (v := (0 : Int32)) hx hb dX11_put_51 (by decide) ?_
    cases hf
    exact q_reti C hH trivial dX11_put_52
set_option maxRecDepth 100000 in
set_option maxHeartbeats 4000000 in
theorem t_X11_put_19 {D : va_G} {B : Nat} {Y : Nat → ClassId} {p : Program} {l : Launch} {e : Env} {s : State} {m : MethodId} {args : Array Value} {below : List Frame} {meth : Method} {c : Code} {z : (Int32 × Wd)} {H : Heap} {locs : List Loc} {ls : Array Slot} {w : Wd} {v1 : Int32} {v2 : Int32} {t0 : Int32} (C : CX D B Y p s m args meth c cX11_put 4 RX11 (some .int))    (z_t0 : isZ t0) (hH : HS D B Y w s H locs) (hl : lv_has ls 4 [(0, .ref (B + 713)), (1, .int v1), (2, .int v2)]) (hf : f_X11_put_19 v1 v2 t0 w = some z) : W p l e (RM 2 0 0) s m args below meth c H locs 0 0 (MQ below (QG D B Y (some (.int z.1)) z.2 True) args s 0 0 (AB B)) (F0 m 19 ls [.int t0]) := by
  have hx := C.1
  have hb := C.2.1
  unfold f_X11_put_19 at hf
  refine lv_istore_n (lv' := [(3, .int t0), (0, .ref (B + 713)), (1, .int v1), (2, .int v2)]) hx hb dX11_put_19 rfl hl (by decide) rfl (fun ls hl => ?_)
  refine lv_aload_n hx hb dX11_put_20 rfl (lv_at hl 1 rfl) ?_
  refine lv_iload_n hx hb dX11_put_21 rfl (lv_at hl 0 rfl) ?_
  refine b_if_ne (tgt := 29) hx hb hf dX11_put_22 (by decide) (fun hf => ?_) (fun hf => ?_)
  · refine lv_aload_n hx hb dX11_put_29 rfl (lv_at hl 1 rfl) ?_
    refine fg_X11_19 C hH dX11_put_30 ?_
    refine lv_iload_n hx hb dX11_put_33 rfl (lv_at hl 2 rfl) ?_
    refine g_iald C hH kc_717 hf dX11_put_34 (fun x1 hf => ?_)
    refine lv_bipush (v := (40 : Int32)) hx hb dX11_put_35 (by decide) ?_
    refine b_icmp_ne (tgt := 44) hx hb hf dX11_put_37 (by decide) (fun hf => ?_) (fun hf => ?_)
    · refine lv_iconst (v := (0 : Int32)) hx hb dX11_put_44 (by decide) ?_
      exact t_X11_put_45 C hH (lv_sub hl [1, 2, 3] rfl) hf
    · refine lv_iconst (v := (2 : Int32)) hx hb dX11_put_40 (by decide) ?_
      refine lv_goto (tgt := 45) hx hb dX11_put_41 (by decide) ?_
      exact t_X11_put_45 C hH (lv_sub hl [1, 2, 3] rfl) hf
  · refine lv_iconst (v := (1 : Int32)) hx hb dX11_put_25 (by decide) ?_
    refine lv_goto (tgt := 45) hx hb dX11_put_26 (by decide) ?_
    exact t_X11_put_45 C hH (lv_sub hl [1, 2, 3] rfl) hf
set_option maxRecDepth 100000 in
set_option maxHeartbeats 4000000 in
theorem t_X11_put_18 {D : va_G} {B : Nat} {Y : Nat → ClassId} {p : Program} {l : Launch} {e : Env} {s : State} {m : MethodId} {args : Array Value} {below : List Frame} {meth : Method} {c : Code} {z : (Int32 × Wd)} {H : Heap} {locs : List Loc} {ls : Array Slot} {w : Wd} {v1 : Int32} {v2 : Int32} (C : CX D B Y p s m args meth c cX11_put 4 RX11 (some .int))     (hH : HS D B Y w s H locs) (hl : lv_has ls 4 [(0, .ref (B + 713)), (1, .int v1), (2, .int v2)]) (hf : f_X11_put_18 v1 v2 w = some z) : W p l e (RM 2 0 0) s m args below meth c H locs 0 0 (MQ below (QG D B Y (some (.int z.1)) z.2 True) args s 0 0 (AB B)) (F0 m 18 ls []) := by
  have hx := C.1
  have hb := C.2.1
  unfold f_X11_put_18 at hf
  refine lv_iconst (v := (0 : Int32)) hx hb dX11_put_18 (by decide) ?_
  exact t_X11_put_19 C isZ_0 hH (lv_sub hl [0, 1, 2] rfl) hf
set_option maxRecDepth 100000 in
set_option maxHeartbeats 4000000 in
theorem t_X11_put_0 {D : va_G} {B : Nat} {Y : Nat → ClassId} {p : Program} {l : Launch} {e : Env} {s : State} {m : MethodId} {args : Array Value} {below : List Frame} {meth : Method} {c : Code} {z : (Int32 × Wd)} {H : Heap} {locs : List Loc} {ls : Array Slot} {w : Wd} {v1 : Int32} {v2 : Int32} (C : CX D B Y p s m args meth c cX11_put 4 RX11 (some .int))     (hH : HS D B Y w s H locs) (hl : lv_has ls 4 [(0, .ref (B + 713)), (1, .int v1), (2, .int v2)]) (hf : f_X11_put v1 v2 w = some z) : W p l e (RM 2 0 0) s m args below meth c H locs 0 0 (MQ below (QG D B Y (some (.int z.1)) z.2 True) args s 0 0 (AB B)) (F0 m 0 ls []) := by
  have hx := C.1
  have hb := C.2.1
  unfold f_X11_put at hf
  refine lv_iload_n hx hb dX11_put_0 rfl (lv_at hl 1 rfl) ?_
  obtain ⟨x2, w1, hc, hf⟩ := bd_some hf
  refine q_callS1 (v := .int x2) (As := [.int v1]) C hH gk_X11_145 yd_X11_isSlot (by omega) (by omega) (c_X11_isSlot hc) hl.1 rfl (Nat.le_of_ble_eq_true rfl) dX11_put_1 ⟨by decide, by decide⟩ (fun H locs hH z_x2 => ?_)
  refine b_if_eq (tgt := 18) hx hb hf dX11_put_4 (by decide) (fun hf => ?_) (fun hf => ?_)
  · exact t_X11_put_18 C hH (lv_sub hl [0, 1, 2] rfl) hf
  · refine lv_iload_n hx hb dX11_put_7 rfl (lv_at hl 2 rfl) ?_
    obtain ⟨x4, w3, hc, hf⟩ := bd_some hf
    refine q_callS1 (v := .int x4) (As := [.int v2]) C hH gk_X11_124 yd_X11_isLetter (by omega) (by omega) (c_X11_isLetter hc) hl.1 rfl (Nat.le_of_ble_eq_true rfl) dX11_put_8 ⟨by decide, by decide⟩ (fun H locs hH z_x4 => ?_)
    refine b_if_eq (tgt := 18) hx hb hf dX11_put_11 (by decide) (fun hf => ?_) (fun hf => ?_)
    · exact t_X11_put_18 C hH (lv_sub hl [0, 1, 2] rfl) hf
    · refine lv_iconst (v := (1 : Int32)) hx hb dX11_put_14 (by decide) ?_
      refine lv_goto (tgt := 19) hx hb dX11_put_15 (by decide) ?_
      exact t_X11_put_19 C isZ_1 hH (lv_sub hl [0, 1, 2] rfl) hf
set_option maxRecDepth 100000 in
theorem c_X11_put {l : Launch} {D : va_G} {B : Nat} {Y : Nat → ClassId} {v1 : Int32} {v2 : Int32} {w : Wd} {r : Int32} {w1 : Wd}   (hf : f_X11_put v1 v2 w = some (r, w1)) : CM l D B Y yX11_put cX11_put 4 (some .int) 2 [.ref (B + 713), .int v1, .int v2] w (some (.int r)) w1 True :=
  CM_of (by decide +kernel) (Nat.le_of_ble_eq_true rfl) (fun p e s m args below meth c ls C hH hl => t_X11_put_0 C  hH (lv_sub hl [0, 1, 2] rfl) hf)
/-! LetterTablesModel.clear -/
set_option maxRecDepth 100000 in
set_option maxHeartbeats 4000000 in
theorem t_X11_clear_13 {D : va_G} {B : Nat} {Y : Nat → ClassId} {p : Program} {l : Launch} {e : Env} {s : State} {m : MethodId} {args : Array Value} {below : List Frame} {meth : Method} {c : Code} {z : (Int32 × Wd)} {H : Heap} {locs : List Loc} {ls : Array Slot} {w : Wd} {v1 : Int32} {t1 : Int32} (C : CX D B Y p s m args meth c cX11_clear 3 RX11 (some .int))    (z_t1 : isZ t1) (hH : HS D B Y w s H locs) (hl : lv_has ls 3 [(0, .ref (B + 713)), (1, .int v1)]) (hf : f_X11_clear_13 v1 t1 w = some z) : W p l e (RM 2 0 0) s m args below meth c H locs 0 0 (MQ below (QG D B Y (some (.int z.1)) z.2 True) args s 0 0 (AB B)) (F0 m 13 ls [.int t1, .ref (B + 713)]) := by
  have hx := C.1
  have hb := C.2.1
  unfold f_X11_clear_13 at hf
  obtain ⟨x2, w1, hc, hf⟩ := bd_some hf
  refine q_callV1 (v := .int x2) (As := [.int t1]) C hH (ci := 11) rfl (by omega) gk_X11_118 yd_X11_holds (by omega) (by omega) kc_713 (c_X11_holds hc) hl.1 rfl (Nat.le_of_ble_eq_true rfl) dX11_clear_13 ⟨by decide, by decide⟩ (fun H locs hH z_x2 => ?_)
  refine b_if_ne (tgt := 21) hx hb hf dX11_clear_16 (by decide) (fun hf => ?_) (fun hf => ?_)
  · refine lv_aload_n hx hb dX11_clear_21 rfl (lv_at hl 0 rfl) ?_
    refine fg_X11_19 C hH dX11_clear_22 ?_
    refine lv_iload_n hx hb dX11_clear_25 rfl (lv_at hl 1 rfl) ?_
    refine g_iald C hH kc_717 hf dX11_clear_26 (fun x3 hf => ?_)
    refine lv_istore_n (lv' := [(2, .int x3), (0, .ref (B + 713)), (1, .int v1)]) hx hb dX11_clear_27 rfl hl (by decide) rfl (fun ls hl => ?_)
    refine lv_aload_n hx hb dX11_clear_28 rfl (lv_at hl 1 rfl) ?_
    refine fg_X11_19 C hH dX11_clear_29 ?_
    refine lv_iload_n hx hb dX11_clear_32 rfl (lv_at hl 2 rfl) ?_
    refine lv_iconst (v := (0 : Int32)) hx hb dX11_clear_33 (by decide) ?_
    refine g_iast C hH kc_717 hf dX11_clear_34 (fun w4 H locs hf hH => ?_)
    refine lv_iload_n hx hb dX11_clear_35 rfl (lv_at hl 0 rfl) ?_
    cases hf
    exact q_reti C hH trivial dX11_clear_36
  · refine lv_iconst (v := (0 : Int32)) hx hb dX11_clear_19 (by decide) ?_
    cases hf
    exact q_reti C hH trivial dX11_clear_20
set_option maxRecDepth 100000 in
set_option maxHeartbeats 4000000 in
theorem t_X11_clear_0 {D : va_G} {B : Nat} {Y : Nat → ClassId} {p : Program} {l : Launch} {e : Env} {s : State} {m : MethodId} {args : Array Value} {below : List Frame} {meth : Method} {c : Code} {z : (Int32 × Wd)} {H : Heap} {locs : List Loc} {ls : Array Slot} {w : Wd} {v1 : Int32} (C : CX D B Y p s m args meth c cX11_clear 3 RX11 (some .int))     (hH : HS D B Y w s H locs) (hl : lv_has ls 3 [(0, .ref (B + 713)), (1, .int v1)]) (hf : f_X11_clear v1 w = some z) : W p l e (RM 2 0 0) s m args below meth c H locs 0 0 (MQ below (QG D B Y (some (.int z.1)) z.2 True) args s 0 0 (AB B)) (F0 m 0 ls []) := by
  have hx := C.1
  have hb := C.2.1
  unfold f_X11_clear at hf
  refine lv_aload_n hx hb dX11_clear_0 rfl (lv_at hl 0 rfl) ?_
  refine lv_iload_n hx hb dX11_clear_1 rfl (lv_at hl 1 rfl) ?_
  obtain ⟨x2, w1, hc, hf⟩ := bd_some hf
  refine q_callS1 (v := .int x2) (As := [.int v1]) C hH gk_X11_145 yd_X11_isSlot (by omega) (by omega) (c_X11_isSlot hc) hl.1 rfl (Nat.le_of_ble_eq_true rfl) dX11_clear_2 ⟨by decide, by decide⟩ (fun H locs hH z_x2 => ?_)
  refine b_if_eq (tgt := 12) hx hb hf dX11_clear_5 (by decide) (fun hf => ?_) (fun hf => ?_)
  · refine lv_iconst (v := (1 : Int32)) hx hb dX11_clear_12 (by decide) ?_
    exact t_X11_clear_13 C isZ_1 hH (lv_sub hl [0, 1] rfl) hf
  · refine lv_iconst (v := (0 : Int32)) hx hb dX11_clear_8 (by decide) ?_
    refine lv_goto (tgt := 13) hx hb dX11_clear_9 (by decide) ?_
    exact t_X11_clear_13 C isZ_0 hH (lv_sub hl [0, 1] rfl) hf
set_option maxRecDepth 100000 in
theorem c_X11_clear {l : Launch} {D : va_G} {B : Nat} {Y : Nat → ClassId} {v1 : Int32} {w : Wd} {r : Int32} {w1 : Wd}   (hf : f_X11_clear v1 w = some (r, w1)) : CM l D B Y yX11_clear cX11_clear 3 (some .int) 2 [.ref (B + 713), .int v1] w (some (.int r)) w1 True :=
  CM_of (by decide +kernel) (Nat.le_of_ble_eq_true rfl) (fun p e s m args below meth c ls C hH hl => t_X11_clear_0 C  hH (lv_sub hl [0, 1] rfl) hf)
/-! LetterTablesModel.at -/
set_option maxRecDepth 100000 in
set_option maxHeartbeats 4000000 in
theorem t_X11_at_39 {D : va_G} {B : Nat} {Y : Nat → ClassId} {p : Program} {l : Launch} {e : Env} {s : State} {m : MethodId} {args : Array Value} {below : List Frame} {meth : Method} {c : Code} {z : (Int32 × Wd)} {H : Heap} {locs : List Loc} {ls : Array Slot} {w : Wd} {v1 : Int32} {v2 : Int32} {t1 : Int32} (C : CX D B Y p s m args meth c cX11_at 4 RX11 (some .int))    (z_t1 : isZ t1) (hH : HS D B Y w s H locs) (hl : lv_has ls 4 [(0, .ref (B + 713)), (1, .int v1), (2, .int v2)]) (hf : f_X11_at_39 v1 v2 t1 w = some z) : W p l e (RM 2 0 0) s m args below meth c H locs 0 0 (MQ below (QG D B Y (some (.int z.1)) z.2 True) args s 0 0 (AB B)) (F0 m 39 ls [.int t1, .ref (B + 713)]) := by
  have hx := C.1
  have hb := C.2.1
  unfold f_X11_at_39 at hf
  obtain ⟨x2, w1, hc, hf⟩ := bd_some hf
  refine q_callV1 (v := .int x2) (As := [.int t1]) C hH (ci := 11) rfl (by omega) gk_X11_118 yd_X11_holds (by omega) (by omega) kc_713 (c_X11_holds hc) hl.1 rfl (Nat.le_of_ble_eq_true rfl) dX11_at_39 ⟨by decide, by decide⟩ (fun H locs hH z_x2 => ?_)
  refine b_if_eq (tgt := 68) hx hb hf dX11_at_42 (by decide) (fun hf => ?_) (fun hf => ?_)
  · refine lv_iconst (v := (0 : Int32)) hx hb dX11_at_68 (by decide) ?_
    cases hf
    exact q_reti C hH trivial dX11_at_69
  · refine lv_iload_n hx hb dX11_at_45 rfl (lv_at hl 2 rfl) ?_
    refine lv_iconst (v := (-1 : Int32)) hx hb dX11_at_46 (by decide) ?_
    refine b_icmp_ne (tgt := 59) hx hb hf dX11_at_47 (by decide) (fun hf => ?_) (fun hf => ?_)
    · refine lv_aload_n hx hb dX11_at_59 rfl (lv_at hl 0 rfl) ?_
      refine lv_iload_n hx hb dX11_at_60 rfl (lv_at hl 1 rfl) ?_
      refine lv_iload_n hx hb dX11_at_61 rfl (lv_at hl 2 rfl) ?_
      obtain ⟨x4, w3, hc, hf⟩ := bd_some hf
      refine q_callV1 (v := .int x4) (As := [.int v1, .int v2]) C hH (ci := 11) rfl (by omega) gk_X11_148 yd_X11_letterAt (by omega) (by omega) kc_713 (c_X11_letterAt hc) hl.1 rfl (Nat.le_of_ble_eq_true rfl) dX11_at_62 ⟨by decide, by decide⟩ (fun H locs hH hP => ?_)
      refine lv_goto (tgt := 69) hx hb dX11_at_65 (by decide) ?_
      cases hf
      exact q_reti C hH trivial dX11_at_69
    · refine lv_aload_n hx hb dX11_at_50 rfl (lv_at hl 0 rfl) ?_
      refine fg_X11_19 C hH dX11_at_51 ?_
      refine lv_iload_n hx hb dX11_at_54 rfl (lv_at hl 1 rfl) ?_
      refine g_iald C hH kc_717 hf dX11_at_55 (fun x5 hf => ?_)
      refine lv_goto (tgt := 69) hx hb dX11_at_56 (by decide) ?_
      cases hf
      exact q_reti C hH trivial dX11_at_69
set_option maxRecDepth 100000 in
set_option maxHeartbeats 4000000 in
theorem t_X11_at_28 {D : va_G} {B : Nat} {Y : Nat → ClassId} {p : Program} {l : Launch} {e : Env} {s : State} {m : MethodId} {args : Array Value} {below : List Frame} {meth : Method} {c : Code} {z : (Int32 × Wd)} {H : Heap} {locs : List Loc} {ls : Array Slot} {w : Wd} {v1 : Int32} {v2 : Int32} {t0 : Int32} (C : CX D B Y p s m args meth c cX11_at 4 RX11 (some .int))    (z_t0 : isZ t0) (hH : HS D B Y w s H locs) (hl : lv_has ls 4 [(0, .ref (B + 713)), (1, .int v1), (2, .int v2)]) (hf : f_X11_at_28 v1 v2 t0 w = some z) : W p l e (RM 2 0 0) s m args below meth c H locs 0 0 (MQ below (QG D B Y (some (.int z.1)) z.2 True) args s 0 0 (AB B)) (F0 m 28 ls [.int t0]) := by
  have hx := C.1
  have hb := C.2.1
  unfold f_X11_at_28 at hf
  refine lv_istore_n (lv' := [(3, .int t0), (0, .ref (B + 713)), (1, .int v1), (2, .int v2)]) hx hb dX11_at_28 rfl hl (by decide) rfl (fun ls hl => ?_)
  refine lv_aload_n hx hb dX11_at_29 rfl (lv_at hl 1 rfl) ?_
  refine lv_iload_n hx hb dX11_at_30 rfl (lv_at hl 0 rfl) ?_
  refine b_if_eq (tgt := 38) hx hb hf dX11_at_31 (by decide) (fun hf => ?_) (fun hf => ?_)
  · refine lv_iconst (v := (1 : Int32)) hx hb dX11_at_38 (by decide) ?_
    exact t_X11_at_39 C isZ_1 hH (lv_sub hl [1, 2, 3] rfl) hf
  · refine lv_iconst (v := (0 : Int32)) hx hb dX11_at_34 (by decide) ?_
    refine lv_goto (tgt := 39) hx hb dX11_at_35 (by decide) ?_
    exact t_X11_at_39 C isZ_0 hH (lv_sub hl [1, 2, 3] rfl) hf
set_option maxRecDepth 100000 in
set_option maxHeartbeats 4000000 in
theorem t_X11_at_27 {D : va_G} {B : Nat} {Y : Nat → ClassId} {p : Program} {l : Launch} {e : Env} {s : State} {m : MethodId} {args : Array Value} {below : List Frame} {meth : Method} {c : Code} {z : (Int32 × Wd)} {H : Heap} {locs : List Loc} {ls : Array Slot} {w : Wd} {v1 : Int32} {v2 : Int32} (C : CX D B Y p s m args meth c cX11_at 4 RX11 (some .int))     (hH : HS D B Y w s H locs) (hl : lv_has ls 4 [(0, .ref (B + 713)), (1, .int v1), (2, .int v2)]) (hf : f_X11_at_27 v1 v2 w = some z) : W p l e (RM 2 0 0) s m args below meth c H locs 0 0 (MQ below (QG D B Y (some (.int z.1)) z.2 True) args s 0 0 (AB B)) (F0 m 27 ls []) := by
  have hx := C.1
  have hb := C.2.1
  unfold f_X11_at_27 at hf
  refine lv_iconst (v := (0 : Int32)) hx hb dX11_at_27 (by decide) ?_
  exact t_X11_at_28 C isZ_0 hH (lv_sub hl [0, 1, 2] rfl) hf
set_option maxRecDepth 100000 in
set_option maxHeartbeats 4000000 in
theorem t_X11_at_0 {D : va_G} {B : Nat} {Y : Nat → ClassId} {p : Program} {l : Launch} {e : Env} {s : State} {m : MethodId} {args : Array Value} {below : List Frame} {meth : Method} {c : Code} {z : (Int32 × Wd)} {H : Heap} {locs : List Loc} {ls : Array Slot} {w : Wd} {v1 : Int32} {v2 : Int32} (C : CX D B Y p s m args meth c cX11_at 4 RX11 (some .int))     (hH : HS D B Y w s H locs) (hl : lv_has ls 4 [(0, .ref (B + 713)), (1, .int v1), (2, .int v2)]) (hf : f_X11_at v1 v2 w = some z) : W p l e (RM 2 0 0) s m args below meth c H locs 0 0 (MQ below (QG D B Y (some (.int z.1)) z.2 True) args s 0 0 (AB B)) (F0 m 0 ls []) := by
  have hx := C.1
  have hb := C.2.1
  unfold f_X11_at at hf
  refine lv_iload_n hx hb dX11_at_0 rfl (lv_at hl 1 rfl) ?_
  obtain ⟨x2, w1, hc, hf⟩ := bd_some hf
  refine q_callS1 (v := .int x2) (As := [.int v1]) C hH gk_X11_145 yd_X11_isSlot (by omega) (by omega) (c_X11_isSlot hc) hl.1 rfl (Nat.le_of_ble_eq_true rfl) dX11_at_1 ⟨by decide, by decide⟩ (fun H locs hH z_x2 => ?_)
  refine b_if_eq (tgt := 27) hx hb hf dX11_at_4 (by decide) (fun hf => ?_) (fun hf => ?_)
  · exact t_X11_at_27 C hH (lv_sub hl [0, 1, 2] rfl) hf
  · refine lv_iload_n hx hb dX11_at_7 rfl (lv_at hl 2 rfl) ?_
    refine lv_iconst (v := (-1 : Int32)) hx hb dX11_at_8 (by decide) ?_
    refine lv_aload_n hx hb dX11_at_9 rfl (lv_at hl 0 rfl) ?_
    refine fg_X11_19 C hH dX11_at_10 ?_
    refine lv_iload_n hx hb dX11_at_13 rfl (lv_at hl 1 rfl) ?_
    refine g_iald C hH kc_717 hf dX11_at_14 (fun x3 hf => ?_)
    refine lv_iconst (v := (1 : Int32)) hx hb dX11_at_15 (by decide) ?_
    refine lv_isub hx hb dX11_at_16 ?_
    obtain ⟨x5, w4, hc, hf⟩ := bd_some hf
    refine q_callS1 (v := .int x5) (As := [.int v2, .int (-1 : Int32), .int (x3 - (1 : Int32))]) C hH gk_X11_111 yd_X11_in (by omega) (by omega) (c_X11_in hc) hl.1 rfl (Nat.le_of_ble_eq_true rfl) dX11_at_17 ⟨by decide, by decide⟩ (fun H locs hH z_x5 => ?_)
    refine b_if_eq (tgt := 27) hx hb hf dX11_at_20 (by decide) (fun hf => ?_) (fun hf => ?_)
    · exact t_X11_at_27 C hH (lv_sub hl [0, 1, 2] rfl) hf
    · refine lv_iconst (v := (1 : Int32)) hx hb dX11_at_23 (by decide) ?_
      refine lv_goto (tgt := 28) hx hb dX11_at_24 (by decide) ?_
      exact t_X11_at_28 C isZ_1 hH (lv_sub hl [0, 1, 2] rfl) hf
set_option maxRecDepth 100000 in
theorem c_X11_at {l : Launch} {D : va_G} {B : Nat} {Y : Nat → ClassId} {v1 : Int32} {v2 : Int32} {w : Wd} {r : Int32} {w1 : Wd}   (hf : f_X11_at v1 v2 w = some (r, w1)) : CM l D B Y yX11_at cX11_at 4 (some .int) 2 [.ref (B + 713), .int v1, .int v2] w (some (.int r)) w1 True :=
  CM_of (by decide +kernel) (Nat.le_of_ble_eq_true rfl) (fun p e s m args below meth c ls C hH hl => t_X11_at_0 C  hH (lv_sub hl [0, 1, 2] rfl) hf)
/-! LetterTablesModel.loads -/
set_option maxRecDepth 100000 in
set_option maxHeartbeats 4000000 in
theorem tb_X11_loads_15 {D : va_G} {B : Nat} {Y : Nat → ClassId} {p : Program} {l : Launch} {e : Env} {s : State} {m : MethodId} {args : Array Value} {below : List Frame} {meth : Method} {c : Code} {z : (Unit × Wd)} {H : Heap} {locs : List Loc} {ls : Array Slot} {w : Wd} {v1 : Int32} {v2 : Int32} {v3 : Int32} {v4 : Int32} (C : CX D B Y p s m args meth c cX11_loads 5 RX11 none)  {rc_15 : Int32 × Int32 × Int32 × Int32 × Wd → Option (Unit × Wd)} (hr_15 : ∀ (v1 : Int32) (v2 : Int32) (v3 : Int32) (v4 : Int32) (w : Wd), rc_15 (v1, v2, v3, v4, w) = some z → ∀ (H : Heap) (locs : List Loc) (ls : Array Slot), HS D B Y w s H locs → lv_has ls 5 [(0, .ref (B + 713)), (1, .int v1), (2, .int v2), (3, .int v3), (4, .int v4)] → W p l e (RM 1 0 0) s m args below meth c H locs 0 0 (MQ below (QG D B Y none z.2 True) args s 0 0 (AB B)) (F0 m 15 ls []))    (hH : HS D B Y w s H locs) (hl : lv_has ls 5 [(0, .ref (B + 713)), (1, .int v1), (2, .int v2), (3, .int v3), (4, .int v4)]) (hf : g_X11_loads_15 rc_15 v1 v2 v3 v4 w = some z) : W p l e (RM 1 0 0) s m args below meth c H locs 0 0 (MQ below (QG D B Y none z.2 True) args s 0 0 (AB B)) (F0 m 15 ls []) := by
  have hx := C.1
  have hb := C.2.1
  unfold g_X11_loads_15 at hf
  refine lv_iload hx hb dX11_loads_15 (lv_at hl 4 rfl) ?_
  refine lv_iload_n hx hb dX11_loads_17 rfl (lv_at hl 3 rfl) ?_
  refine b_icmp_ge (tgt := 43) hx hb hf dX11_loads_18 (by decide) (fun hf => ?_) (fun hf => ?_)
  · cases hf
    exact q_retv C hH trivial dX11_loads_43
  · refine lv_aload_n hx hb dX11_loads_21 rfl (lv_at hl 0 rfl) ?_
    refine fg_X11_28 C hH dX11_loads_22 ?_
    refine lv_iload hx hb dX11_loads_25 (lv_at hl 4 rfl) ?_
    refine lv_iload_n hx hb dX11_loads_27 rfl (lv_at hl 2 rfl) ?_
    refine lv_isub hx hb dX11_loads_28 ?_
    refine lv_aload_n hx hb dX11_loads_29 rfl (lv_at hl 0 rfl) ?_
    refine lv_iload_n hx hb dX11_loads_30 rfl (lv_at hl 1 rfl) ?_
    refine lv_iload hx hb dX11_loads_31 (lv_at hl 4 rfl) ?_
    obtain ⟨x2, w1, hc, hf⟩ := bd_some hf
    refine q_callV1 (v := .int x2) (As := [.int v1, .int v4]) C hH (ci := 11) rfl (by omega) gk_X11_148 yd_X11_letterAt (by omega) (by omega) kc_713 (c_X11_letterAt hc) hl.1 rfl (Nat.le_of_ble_eq_true rfl) dX11_loads_33 ⟨by decide, by decide⟩ (fun H locs hH hP => ?_)
    refine g_iast C hH kc_720 hf dX11_loads_36 (fun w3 H locs hf hH => ?_)
    refine b_let hf (fun x4 he hf => ?_)
    refine lv_iinc (v := x4) (lv' := [(4, .int x4), (0, .ref (B + 713)), (1, .int v1), (2, .int v2), (3, .int v3)]) hx hb dX11_loads_37 hl (k := 4) rfl (by rw [← he]; rfl) (by decide) rfl (fun ls hl => ?_)
    refine lv_goto (tgt := 15) hx hb dX11_loads_40 (by decide) ?_
    exact hr_15 v1 v2 v3 x4 w3 hf _ _ _ hH (lv_sub hl [1, 2, 3, 4, 0] rfl)
set_option maxRecDepth 100000 in
set_option maxHeartbeats 4000000 in
theorem t_X11_loads_15 {D : va_G} {B : Nat} {Y : Nat → ClassId} {p : Program} {l : Launch} {e : Env} {s : State} {m : MethodId} {args : Array Value} {below : List Frame} {meth : Method} {c : Code} {z : (Unit × Wd)} {H : Heap} {locs : List Loc} {ls : Array Slot} {w : Wd} {v1 : Int32} {v2 : Int32} {v3 : Int32} {v4 : Int32} (C : CX D B Y p s m args meth c cX11_loads 5 RX11 none)     (hH : HS D B Y w s H locs) (hl : lv_has ls 5 [(0, .ref (B + 713)), (1, .int v1), (2, .int v2), (3, .int v3), (4, .int v4)]) (hf : f_X11_loads_15 v1 v2 v3 v4 w = some z) : W p l e (RM 1 0 0) s m args below meth c H locs 0 0 (MQ below (QG D B Y none z.2 True) args s 0 0 (AB B)) (F0 m 15 ls []) := by
  exact loopN_ind (z := z) (body := fun rc σ => g_X11_loads_15 rc  σ.1 σ.2.1 σ.2.2.1 σ.2.2.2.1 σ.2.2.2.2)
    (P := fun σ => ∀ (H : Heap) (locs : List Loc) (ls : Array Slot), HS D B Y σ.2.2.2.2 s H locs → lv_has ls 5 [(0, .ref (B + 713)), (1, .int σ.1), (2, .int σ.2.1), (3, .int σ.2.2.1), (4, .int σ.2.2.2.1)] → W p l e (RM 1 0 0) s m args below meth c H locs 0 0 (MQ below (QG D B Y none z.2 True) args s 0 0 (AB B)) (F0 m 15 ls []))
    (fun rc hrec σ hf  H locs ls hH hl => tb_X11_loads_15 C (fun v1 v2 v3 v4 w hr  H locs ls hH hl => hrec (v1, v2, v3, v4, w) hr  H locs ls hH hl)   hH hl hf) FU (v1, v2, v3, v4, w) hf  H locs ls hH hl
set_option maxRecDepth 100000 in
set_option maxHeartbeats 4000000 in
theorem t_X11_loads_0 {D : va_G} {B : Nat} {Y : Nat → ClassId} {p : Program} {l : Launch} {e : Env} {s : State} {m : MethodId} {args : Array Value} {below : List Frame} {meth : Method} {c : Code} {z : (Unit × Wd)} {H : Heap} {locs : List Loc} {ls : Array Slot} {w : Wd} {v1 : Int32} {v2 : Int32} {v3 : Int32} (C : CX D B Y p s m args meth c cX11_loads 5 RX11 none)     (hH : HS D B Y w s H locs) (hl : lv_has ls 5 [(0, .ref (B + 713)), (1, .int v1), (2, .int v2), (3, .int v3)]) (hf : f_X11_loads v1 v2 v3 w = some z) : W p l e (RM 1 0 0) s m args below meth c H locs 0 0 (MQ below (QG D B Y none z.2 True) args s 0 0 (AB B)) (F0 m 0 ls []) := by
  have hx := C.1
  have hb := C.2.1
  unfold f_X11_loads at hf
  refine lv_aload_n hx hb dX11_loads_0 rfl (lv_at hl 0 rfl) ?_
  refine lv_iload_n hx hb dX11_loads_1 rfl (lv_at hl 3 rfl) ?_
  refine lv_iload_n hx hb dX11_loads_2 rfl (lv_at hl 2 rfl) ?_
  refine lv_isub hx hb dX11_loads_3 ?_
  refine fp_X11_158 C hH dX11_loads_4 (fun H locs hH => ?_)
  refine b_w hf hH (fun w1 hf hH => ?_)
  refine lv_aload_n hx hb dX11_loads_7 rfl (lv_at hl 0 rfl) ?_
  refine lv_iconst (v := (0 : Int32)) hx hb dX11_loads_8 (by decide) ?_
  refine fp_X11_161 C hH isZ_0 dX11_loads_9 (fun H locs hH => ?_)
  refine b_w hf hH (fun w2 hf hH => ?_)
  refine lv_iload_n hx hb dX11_loads_12 rfl (lv_at hl 2 rfl) ?_
  refine lv_istore (lv' := [(4, .int v2), (0, .ref (B + 713)), (1, .int v1), (2, .int v2), (3, .int v3)]) hx hb dX11_loads_13 hl (by decide) rfl (fun ls hl => ?_)
  exact t_X11_loads_15 C hH (lv_sub hl [1, 2, 3, 4, 0] rfl) hf
set_option maxRecDepth 100000 in
theorem c_X11_loads {l : Launch} {D : va_G} {B : Nat} {Y : Nat → ClassId} {v1 : Int32} {v2 : Int32} {v3 : Int32} {w : Wd} {r : Unit} {w1 : Wd}   (hf : f_X11_loads v1 v2 v3 w = some (r, w1)) : CM l D B Y yX11_loads cX11_loads 5 none 1 [.ref (B + 713), .int v1, .int v2, .int v3] w none w1 True :=
  CM_of (by decide +kernel) (Nat.le_of_ble_eq_true rfl) (fun p e s m args below meth c ls C hH hl => t_X11_loads_0 C  hH (lv_sub hl [0, 1, 2, 3] rfl) hf)
/-! LetterTablesModel.doubles -/
set_option maxRecDepth 100000 in
set_option maxHeartbeats 4000000 in
theorem t_X11_doubles_84 {D : va_G} {B : Nat} {Y : Nat → ClassId} {p : Program} {l : Launch} {e : Env} {s : State} {m : MethodId} {args : Array Value} {below : List Frame} {meth : Method} {c : Code} {z : (Unit × Wd)} {H : Heap} {locs : List Loc} {ls : Array Slot} {w : Wd} {t1 : Int32} (C : CX D B Y p s m args meth c cX11_doubles 5 RX11 none)    (z_t1 : isZ t1) (hH : HS D B Y w s H locs) (hl : lv_has ls 5 []) (hf : f_X11_doubles_84 t1 w = some z) : W p l e (RM 0 0 0) s m args below meth c H locs 0 0 (MQ below (QG D B Y none z.2 True) args s 0 0 (AB B)) (F0 m 84 ls [.int t1, .ref (B + 713)]) := by
  have hx := C.1
  have hb := C.2.1
  unfold f_X11_doubles_84 at hf
  refine fp_X11_161 C hH z_t1 dX11_doubles_84 (fun H locs hH => ?_)
  refine b_w hf hH (fun w1 hf hH => ?_)
  cases hf
  exact q_retv C hH trivial dX11_doubles_87
set_option maxRecDepth 100000 in
set_option maxHeartbeats 4000000 in
theorem tb_X11_doubles_6 {D : va_G} {B : Nat} {Y : Nat → ClassId} {p : Program} {l : Launch} {e : Env} {s : State} {m : MethodId} {args : Array Value} {below : List Frame} {meth : Method} {c : Code} {z : (Unit × Wd)} {H : Heap} {locs : List Loc} {ls : Array Slot} {w : Wd} {v1 : Int32} {v2 : Int32} {v3 : Int32} {v4 : Int32} (C : CX D B Y p s m args meth c cX11_doubles 5 RX11 none)  {rc_6 : Int32 × Int32 × Int32 × Int32 × Wd → Option (Unit × Wd)} (hr_6 : ∀ (v1 : Int32) (v2 : Int32) (v3 : Int32) (v4 : Int32) (w : Wd), rc_6 (v1, v2, v3, v4, w) = some z → ∀ (H : Heap) (locs : List Loc) (ls : Array Slot), HS D B Y w s H locs → lv_has ls 5 [(0, .ref (B + 713)), (1, .int v1), (2, .int v2), (3, .int v3), (4, .int v4)] → W p l e (RM 0 0 0) s m args below meth c H locs 0 0 (MQ below (QG D B Y none z.2 True) args s 0 0 (AB B)) (F0 m 6 ls []))    (hH : HS D B Y w s H locs) (hl : lv_has ls 5 [(0, .ref (B + 713)), (1, .int v1), (2, .int v2), (3, .int v3), (4, .int v4)]) (hf : g_X11_doubles_6 rc_6 v1 v2 v3 v4 w = some z) : W p l e (RM 0 0 0) s m args below meth c H locs 0 0 (MQ below (QG D B Y none z.2 True) args s 0 0 (AB B)) (F0 m 6 ls []) := by
  have hx := C.1
  have hb := C.2.1
  unfold g_X11_doubles_6 at hf
  refine lv_iload hx hb dX11_doubles_6 (lv_at hl 4 rfl) ?_
  refine lv_iload_n hx hb dX11_doubles_8 rfl (lv_at hl 1 rfl) ?_
  refine lv_iconst (v := (1 : Int32)) hx hb dX11_doubles_9 (by decide) ?_
  refine lv_iadd hx hb dX11_doubles_10 ?_
  refine b_icmp_le (tgt := 36) hx hb hf dX11_doubles_11 (by decide) (fun hf => ?_) (fun hf => ?_)
  · refine lv_aload_n hx hb dX11_doubles_36 rfl (lv_at hl 0 rfl) ?_
    refine fg_X11_28 C hH dX11_doubles_37 ?_
    refine lv_iload_n hx hb dX11_doubles_40 rfl (lv_at hl 1 rfl) ?_
    refine lv_iload_n hx hb dX11_doubles_41 rfl (lv_at hl 2 rfl) ?_
    refine g_iast C hH kc_720 hf dX11_doubles_42 (fun w1 H locs hf hH => ?_)
    refine lv_aload_n hx hb dX11_doubles_43 rfl (lv_at hl 0 rfl) ?_
    refine fg_X11_28 C hH dX11_doubles_44 ?_
    refine lv_iload_n hx hb dX11_doubles_47 rfl (lv_at hl 1 rfl) ?_
    refine lv_iconst (v := (1 : Int32)) hx hb dX11_doubles_48 (by decide) ?_
    refine lv_iadd hx hb dX11_doubles_49 ?_
    refine lv_iload_n hx hb dX11_doubles_50 rfl (lv_at hl 3 rfl) ?_
    refine g_iast C hH kc_720 hf dX11_doubles_51 (fun w2 H locs hf hH => ?_)
    refine lv_aload_n hx hb dX11_doubles_52 rfl (lv_at hl 0 rfl) ?_
    refine lv_dup hx hb dX11_doubles_53 rfl ?_
    refine fg_X11_158 C hH dX11_doubles_54 ?_
    refine lv_iconst (v := (1 : Int32)) hx hb dX11_doubles_57 (by decide) ?_
    refine lv_iadd hx hb dX11_doubles_58 ?_
    refine fp_X11_158 C hH dX11_doubles_59 (fun H locs hH => ?_)
    refine b_w hf hH (fun w3 hf hH => ?_)
    refine lv_aload_n hx hb dX11_doubles_62 rfl (lv_at hl 0 rfl) ?_
    refine lv_aload_n hx hb dX11_doubles_63 rfl (lv_at hl 0 rfl) ?_
    refine fg_X11_161 C hH dX11_doubles_64 ?_
    refine b_if_ne (tgt := 79) hx hb hf dX11_doubles_67 (by decide) (fun hf => ?_) (fun hf => ?_)
    · refine lv_iconst (v := (1 : Int32)) hx hb dX11_doubles_79 (by decide) ?_
      refine lv_goto (tgt := 84) hx hb dX11_doubles_80 (by decide) ?_
      exact t_X11_doubles_84 C isZ_1 hH (lv_sub hl [] rfl) hf
    · refine lv_aload_n hx hb dX11_doubles_70 rfl (lv_at hl 0 rfl) ?_
      refine fg_X11_158 C hH dX11_doubles_71 ?_
      refine lv_bipush (v := (80 : Int32)) hx hb dX11_doubles_74 (by decide) ?_
      refine b_icmp_le (tgt := 83) hx hb hf dX11_doubles_76 (by decide) (fun hf => ?_) (fun hf => ?_)
      · refine lv_iconst (v := (0 : Int32)) hx hb dX11_doubles_83 (by decide) ?_
        exact t_X11_doubles_84 C isZ_0 hH (lv_sub hl [] rfl) hf
      · refine lv_iconst (v := (1 : Int32)) hx hb dX11_doubles_79 (by decide) ?_
        refine lv_goto (tgt := 84) hx hb dX11_doubles_80 (by decide) ?_
        exact t_X11_doubles_84 C isZ_1 hH (lv_sub hl [] rfl) hf
  · refine lv_aload_n hx hb dX11_doubles_14 rfl (lv_at hl 0 rfl) ?_
    refine fg_X11_28 C hH dX11_doubles_15 ?_
    refine lv_iload hx hb dX11_doubles_18 (lv_at hl 4 rfl) ?_
    refine lv_aload_n hx hb dX11_doubles_20 rfl (lv_at hl 0 rfl) ?_
    refine fg_X11_28 C hH dX11_doubles_21 ?_
    refine lv_iload hx hb dX11_doubles_24 (lv_at hl 4 rfl) ?_
    refine lv_iconst (v := (1 : Int32)) hx hb dX11_doubles_26 (by decide) ?_
    refine lv_isub hx hb dX11_doubles_27 ?_
    refine g_iald C hH kc_720 hf dX11_doubles_28 (fun x4 hf => ?_)
    refine g_iast C hH kc_720 hf dX11_doubles_29 (fun w5 H locs hf hH => ?_)
    refine b_let hf (fun x6 he hf => ?_)
    refine lv_iinc (v := x6) (lv' := [(4, .int x6), (0, .ref (B + 713)), (1, .int v1), (2, .int v2), (3, .int v3)]) hx hb dX11_doubles_30 hl (k := 4) rfl (by rw [← he]; rfl) (by decide) rfl (fun ls hl => ?_)
    refine lv_goto (tgt := 6) hx hb dX11_doubles_33 (by decide) ?_
    exact hr_6 v1 v2 v3 x6 w5 hf _ _ _ hH (lv_sub hl [1, 2, 3, 4, 0] rfl)
set_option maxRecDepth 100000 in
set_option maxHeartbeats 4000000 in
theorem t_X11_doubles_6 {D : va_G} {B : Nat} {Y : Nat → ClassId} {p : Program} {l : Launch} {e : Env} {s : State} {m : MethodId} {args : Array Value} {below : List Frame} {meth : Method} {c : Code} {z : (Unit × Wd)} {H : Heap} {locs : List Loc} {ls : Array Slot} {w : Wd} {v1 : Int32} {v2 : Int32} {v3 : Int32} {v4 : Int32} (C : CX D B Y p s m args meth c cX11_doubles 5 RX11 none)     (hH : HS D B Y w s H locs) (hl : lv_has ls 5 [(0, .ref (B + 713)), (1, .int v1), (2, .int v2), (3, .int v3), (4, .int v4)]) (hf : f_X11_doubles_6 v1 v2 v3 v4 w = some z) : W p l e (RM 0 0 0) s m args below meth c H locs 0 0 (MQ below (QG D B Y none z.2 True) args s 0 0 (AB B)) (F0 m 6 ls []) := by
  exact loopN_ind (z := z) (body := fun rc σ => g_X11_doubles_6 rc  σ.1 σ.2.1 σ.2.2.1 σ.2.2.2.1 σ.2.2.2.2)
    (P := fun σ => ∀ (H : Heap) (locs : List Loc) (ls : Array Slot), HS D B Y σ.2.2.2.2 s H locs → lv_has ls 5 [(0, .ref (B + 713)), (1, .int σ.1), (2, .int σ.2.1), (3, .int σ.2.2.1), (4, .int σ.2.2.2.1)] → W p l e (RM 0 0 0) s m args below meth c H locs 0 0 (MQ below (QG D B Y none z.2 True) args s 0 0 (AB B)) (F0 m 6 ls []))
    (fun rc hrec σ hf  H locs ls hH hl => tb_X11_doubles_6 C (fun v1 v2 v3 v4 w hr  H locs ls hH hl => hrec (v1, v2, v3, v4, w) hr  H locs ls hH hl)   hH hl hf) FU (v1, v2, v3, v4, w) hf  H locs ls hH hl
set_option maxRecDepth 100000 in
set_option maxHeartbeats 4000000 in
theorem t_X11_doubles_0 {D : va_G} {B : Nat} {Y : Nat → ClassId} {p : Program} {l : Launch} {e : Env} {s : State} {m : MethodId} {args : Array Value} {below : List Frame} {meth : Method} {c : Code} {z : (Unit × Wd)} {H : Heap} {locs : List Loc} {ls : Array Slot} {w : Wd} {v1 : Int32} {v2 : Int32} {v3 : Int32} (C : CX D B Y p s m args meth c cX11_doubles 5 RX11 none)     (hH : HS D B Y w s H locs) (hl : lv_has ls 5 [(0, .ref (B + 713)), (1, .int v1), (2, .int v2), (3, .int v3)]) (hf : f_X11_doubles v1 v2 v3 w = some z) : W p l e (RM 0 0 0) s m args below meth c H locs 0 0 (MQ below (QG D B Y none z.2 True) args s 0 0 (AB B)) (F0 m 0 ls []) := by
  have hx := C.1
  have hb := C.2.1
  unfold f_X11_doubles at hf
  refine lv_aload_n hx hb dX11_doubles_0 rfl (lv_at hl 0 rfl) ?_
  refine fg_X11_158 C hH dX11_doubles_1 ?_
  refine b_leti hf (fun x1 hf => ?_)
  refine lv_istore (lv' := [(4, .int x1), (0, .ref (B + 713)), (1, .int v1), (2, .int v2), (3, .int v3)]) hx hb dX11_doubles_4 hl (by decide) rfl (fun ls hl => ?_)
  exact t_X11_doubles_6 C hH (lv_sub hl [1, 2, 3, 4, 0] rfl) hf
set_option maxRecDepth 100000 in
theorem c_X11_doubles {l : Launch} {D : va_G} {B : Nat} {Y : Nat → ClassId} {v1 : Int32} {v2 : Int32} {v3 : Int32} {w : Wd} {r : Unit} {w1 : Wd}   (hf : f_X11_doubles v1 v2 v3 w = some (r, w1)) : CM l D B Y yX11_doubles cX11_doubles 5 none 0 [.ref (B + 713), .int v1, .int v2, .int v3] w none w1 True :=
  CM_of (by decide +kernel) (Nat.le_of_ble_eq_true rfl) (fun p e s m args below meth c ls C hH hl => t_X11_doubles_0 C  hH (lv_sub hl [0, 1, 2, 3] rfl) hf)
/-! LetterTablesModel.takesOut -/
set_option maxRecDepth 100000 in
set_option maxHeartbeats 4000000 in
theorem tb_X11_takesOut_12 {D : va_G} {B : Nat} {Y : Nat → ClassId} {p : Program} {l : Launch} {e : Env} {s : State} {m : MethodId} {args : Array Value} {below : List Frame} {meth : Method} {c : Code} {z : (Unit × Wd)} {H : Heap} {locs : List Loc} {ls : Array Slot} {w : Wd} {v2 : Int32} (C : CX D B Y p s m args meth c cX11_takesOut 3 RX11 none)  {rc_12 : Int32 × Wd → Option (Unit × Wd)} (hr_12 : ∀ (v2 : Int32) (w : Wd), rc_12 (v2, w) = some z → ∀ (H : Heap) (locs : List Loc) (ls : Array Slot), HS D B Y w s H locs → lv_has ls 3 [(0, .ref (B + 713)), (2, .int v2)] → W p l e (RM 0 0 0) s m args below meth c H locs 0 0 (MQ below (QG D B Y none z.2 True) args s 0 0 (AB B)) (F0 m 12 ls []))    (hH : HS D B Y w s H locs) (hl : lv_has ls 3 [(0, .ref (B + 713)), (2, .int v2)]) (hf : g_X11_takesOut_12 rc_12 v2 w = some z) : W p l e (RM 0 0 0) s m args below meth c H locs 0 0 (MQ below (QG D B Y none z.2 True) args s 0 0 (AB B)) (F0 m 12 ls []) := by
  have hx := C.1
  have hb := C.2.1
  unfold g_X11_takesOut_12 at hf
  refine lv_iload_n hx hb dX11_takesOut_12 rfl (lv_at hl 1 rfl) ?_
  refine lv_aload_n hx hb dX11_takesOut_13 rfl (lv_at hl 0 rfl) ?_
  refine fg_X11_158 C hH dX11_takesOut_14 ?_
  refine b_icmp_ge (tgt := 40) hx hb hf dX11_takesOut_17 (by decide) (fun hf => ?_) (fun hf => ?_)
  · cases hf
    exact q_retv C hH trivial dX11_takesOut_40
  · refine lv_aload_n hx hb dX11_takesOut_20 rfl (lv_at hl 0 rfl) ?_
    refine fg_X11_28 C hH dX11_takesOut_21 ?_
    refine lv_iload_n hx hb dX11_takesOut_24 rfl (lv_at hl 1 rfl) ?_
    refine lv_aload_n hx hb dX11_takesOut_25 rfl (lv_at hl 0 rfl) ?_
    refine fg_X11_28 C hH dX11_takesOut_26 ?_
    refine lv_iload_n hx hb dX11_takesOut_29 rfl (lv_at hl 1 rfl) ?_
    refine lv_iconst (v := (1 : Int32)) hx hb dX11_takesOut_30 (by decide) ?_
    refine lv_iadd hx hb dX11_takesOut_31 ?_
    refine g_iald C hH kc_720 hf dX11_takesOut_32 (fun x1 hf => ?_)
    refine g_iast C hH kc_720 hf dX11_takesOut_33 (fun w2 H locs hf hH => ?_)
    refine b_let hf (fun x3 he hf => ?_)
    refine lv_iinc (v := x3) (lv' := [(2, .int x3), (0, .ref (B + 713))]) hx hb dX11_takesOut_34 hl (k := 1) rfl (by rw [← he]; rfl) (by decide) rfl (fun ls hl => ?_)
    refine lv_goto (tgt := 12) hx hb dX11_takesOut_37 (by decide) ?_
    exact hr_12 x3 w2 hf _ _ _ hH (lv_sub hl [1, 0] rfl)
set_option maxRecDepth 100000 in
set_option maxHeartbeats 4000000 in
theorem t_X11_takesOut_12 {D : va_G} {B : Nat} {Y : Nat → ClassId} {p : Program} {l : Launch} {e : Env} {s : State} {m : MethodId} {args : Array Value} {below : List Frame} {meth : Method} {c : Code} {z : (Unit × Wd)} {H : Heap} {locs : List Loc} {ls : Array Slot} {w : Wd} {v2 : Int32} (C : CX D B Y p s m args meth c cX11_takesOut 3 RX11 none)     (hH : HS D B Y w s H locs) (hl : lv_has ls 3 [(0, .ref (B + 713)), (2, .int v2)]) (hf : f_X11_takesOut_12 v2 w = some z) : W p l e (RM 0 0 0) s m args below meth c H locs 0 0 (MQ below (QG D B Y none z.2 True) args s 0 0 (AB B)) (F0 m 12 ls []) := by
  exact loopN_ind (z := z) (body := fun rc σ => g_X11_takesOut_12 rc  σ.1 σ.2)
    (P := fun σ => ∀ (H : Heap) (locs : List Loc) (ls : Array Slot), HS D B Y σ.2 s H locs → lv_has ls 3 [(0, .ref (B + 713)), (2, .int σ.1)] → W p l e (RM 0 0 0) s m args below meth c H locs 0 0 (MQ below (QG D B Y none z.2 True) args s 0 0 (AB B)) (F0 m 12 ls []))
    (fun rc hrec σ hf  H locs ls hH hl => tb_X11_takesOut_12 C (fun v2 w hr  H locs ls hH hl => hrec (v2, w) hr  H locs ls hH hl)   hH hl hf) FU (v2, w) hf  H locs ls hH hl
set_option maxRecDepth 100000 in
set_option maxHeartbeats 4000000 in
theorem t_X11_takesOut_0 {D : va_G} {B : Nat} {Y : Nat → ClassId} {p : Program} {l : Launch} {e : Env} {s : State} {m : MethodId} {args : Array Value} {below : List Frame} {meth : Method} {c : Code} {z : (Unit × Wd)} {H : Heap} {locs : List Loc} {ls : Array Slot} {w : Wd} {v1 : Int32} (C : CX D B Y p s m args meth c cX11_takesOut 3 RX11 none)     (hH : HS D B Y w s H locs) (hl : lv_has ls 3 [(0, .ref (B + 713)), (1, .int v1)]) (hf : f_X11_takesOut v1 w = some z) : W p l e (RM 0 0 0) s m args below meth c H locs 0 0 (MQ below (QG D B Y none z.2 True) args s 0 0 (AB B)) (F0 m 0 ls []) := by
  have hx := C.1
  have hb := C.2.1
  unfold f_X11_takesOut at hf
  refine lv_aload_n hx hb dX11_takesOut_0 rfl (lv_at hl 0 rfl) ?_
  refine lv_dup hx hb dX11_takesOut_1 rfl ?_
  refine fg_X11_158 C hH dX11_takesOut_2 ?_
  refine lv_iconst (v := (1 : Int32)) hx hb dX11_takesOut_5 (by decide) ?_
  refine lv_isub hx hb dX11_takesOut_6 ?_
  refine fp_X11_158 C hH dX11_takesOut_7 (fun H locs hH => ?_)
  refine b_w hf hH (fun w1 hf hH => ?_)
  refine lv_iload_n hx hb dX11_takesOut_10 rfl (lv_at hl 1 rfl) ?_
  refine lv_istore_n (lv' := [(2, .int v1), (0, .ref (B + 713)), (1, .int v1)]) hx hb dX11_takesOut_11 rfl hl (by decide) rfl (fun ls hl => ?_)
  exact t_X11_takesOut_12 C hH (lv_sub hl [1, 0] rfl) hf
set_option maxRecDepth 100000 in
theorem c_X11_takesOut {l : Launch} {D : va_G} {B : Nat} {Y : Nat → ClassId} {v1 : Int32} {w : Wd} {r : Unit} {w1 : Wd}   (hf : f_X11_takesOut v1 w = some (r, w1)) : CM l D B Y yX11_takesOut cX11_takesOut 3 none 0 [.ref (B + 713), .int v1] w none w1 True :=
  CM_of (by decide +kernel) (Nat.le_of_ble_eq_true rfl) (fun p e s m args below meth c ls C hH hl => t_X11_takesOut_0 C  hH (lv_sub hl [0, 1] rfl) hf)
/-! LetterTablesModel.splitsAll -/
set_option maxRecDepth 100000 in
set_option maxHeartbeats 4000000 in
theorem tb_X11_splitsAll_84 {D : va_G} {B : Nat} {Y : Nat → ClassId} {p : Program} {l : Launch} {e : Env} {s : State} {m : MethodId} {args : Array Value} {below : List Frame} {meth : Method} {c : Code} {z : (Unit × Wd)} {H : Heap} {locs : List Loc} {ls : Array Slot} {w : Wd} {v2 : Int32} {v3 : Int32} (C : CX D B Y p s m args meth c cX11_splitsAll 6 RX11 none)  {rc_84 : Int32 × Int32 × Wd → Option (Unit × Wd)} (hr_84 : ∀ (v2 : Int32) (v3 : Int32) (w : Wd), rc_84 (v2, v3, w) = some z → isZ v2 → ∀ (H : Heap) (locs : List Loc) (ls : Array Slot), HS D B Y w s H locs → lv_has ls 6 [(0, .ref (B + 713)), (2, .int v2), (3, .int v3)] → W p l e (RM 1 0 0) s m args below meth c H locs 0 0 (MQ below (QG D B Y none z.2 True) args s 0 0 (AB B)) (F0 m 84 ls [])) {rc_76 : Int32 × Wd → Option (Unit × Wd)} (hr_76 : ∀ (v2 : Int32) (w : Wd), rc_76 (v2, w) = some z → isZ v2 → ∀ (H : Heap) (locs : List Loc) (ls : Array Slot), HS D B Y w s H locs → lv_has ls 6 [(0, .ref (B + 713)), (2, .int v2)] → W p l e (RM 1 0 0) s m args below meth c H locs 0 0 (MQ below (QG D B Y none z.2 True) args s 0 0 (AB B)) (F0 m 76 ls []))   (z_v2 : isZ v2) (hH : HS D B Y w s H locs) (hl : lv_has ls 6 [(0, .ref (B + 713)), (2, .int v2), (3, .int v3)]) (hf : g_X11_splitsAll_84 rc_84 rc_76 v2 v3 w = some z) : W p l e (RM 1 0 0) s m args below meth c H locs 0 0 (MQ below (QG D B Y none z.2 True) args s 0 0 (AB B)) (F0 m 84 ls []) := by
  have hx := C.1
  have hb := C.2.1
  unfold g_X11_splitsAll_84 at hf
  refine lv_iload_n hx hb dX11_splitsAll_84 rfl (lv_at hl 2 rfl) ?_
  refine lv_aload_n hx hb dX11_splitsAll_85 rfl (lv_at hl 0 rfl) ?_
  refine fg_X11_158 C hH dX11_splitsAll_86 ?_
  refine b_icmp_ge (tgt := 168) hx hb hf dX11_splitsAll_89 (by decide) (fun hf => ?_) (fun hf => ?_)
  · refine lv_goto (tgt := 76) hx hb dX11_splitsAll_168 (by decide) ?_
    exact hr_76 v2 w hf z_v2 _ _ _ hH (lv_sub hl [0, 1] rfl)
  · refine lv_aload_n hx hb dX11_splitsAll_92 rfl (lv_at hl 0 rfl) ?_
    refine lv_aload_n hx hb dX11_splitsAll_93 rfl (lv_at hl 0 rfl) ?_
    refine fg_X11_28 C hH dX11_splitsAll_94 ?_
    refine lv_iload_n hx hb dX11_splitsAll_97 rfl (lv_at hl 2 rfl) ?_
    refine g_iald C hH kc_720 hf dX11_splitsAll_98 (fun x1 hf => ?_)
    refine lv_iconst (v := (0 : Int32)) hx hb dX11_splitsAll_99 (by decide) ?_
    obtain ⟨x3, w2, hc, hf⟩ := bd_some hf
    refine q_callV1 (v := .int x3) (As := [.int x1, .int (0 : Int32)]) C hH (ci := 11) rfl (by omega) gk_X11_127 yd_X11_of (by omega) (by omega) kc_713 (c_X11_of hc) hl.1 rfl (Nat.le_of_ble_eq_true rfl) dX11_splitsAll_100 ⟨by decide, by decide⟩ (fun H locs hH hP => ?_)
    refine lv_istore (lv' := [(4, .int x3), (0, .ref (B + 713)), (2, .int v2), (3, .int v3)]) hx hb dX11_splitsAll_103 hl (by decide) rfl (fun ls hl => ?_)
    refine lv_iload hx hb dX11_splitsAll_105 (lv_at hl 0 rfl) ?_
    refine b_if_le (tgt := 162) hx hb hf dX11_splitsAll_107 (by decide) (fun hf => ?_) (fun hf => ?_)
    · refine b_let hf (fun x4 he hf => ?_)
      refine lv_iinc (v := x4) (lv' := [(3, .int x4), (4, .int x3), (0, .ref (B + 713)), (2, .int v2)]) hx hb dX11_splitsAll_162 hl (k := 3) rfl (by rw [← he]; rfl) (by decide) rfl (fun ls hl => ?_)
      refine lv_goto (tgt := 84) hx hb dX11_splitsAll_165 (by decide) ?_
      exact hr_84 v2 x4 w2 hf z_v2 _ _ _ hH (lv_sub hl [2, 3, 0] rfl)
    · refine lv_iload hx hb dX11_splitsAll_110 (lv_at hl 0 rfl) ?_
      refine lv_aload_n hx hb dX11_splitsAll_112 rfl (lv_at hl 1 rfl) ?_
      refine lv_aload_n hx hb dX11_splitsAll_113 rfl (lv_at hl 1 rfl) ?_
      refine fg_X11_28 C hH dX11_splitsAll_114 ?_
      refine lv_iload_n hx hb dX11_splitsAll_117 rfl (lv_at hl 3 rfl) ?_
      refine lv_iconst (v := (1 : Int32)) hx hb dX11_splitsAll_118 (by decide) ?_
      refine lv_isub hx hb dX11_splitsAll_119 ?_
      refine g_iald C hH kc_720 hf dX11_splitsAll_120 (fun x5 hf => ?_)
      refine lv_iconst (v := (0 : Int32)) hx hb dX11_splitsAll_121 (by decide) ?_
      obtain ⟨x7, w6, hc, hf⟩ := bd_some hf
      refine q_callV1 (v := .int x7) (As := [.int x5, .int (0 : Int32)]) C hH (ci := 11) rfl (by omega) gk_X11_127 yd_X11_of (by omega) (by omega) kc_713 (c_X11_of hc) hl.1 rfl (Nat.le_of_ble_eq_true rfl) dX11_splitsAll_122 ⟨by decide, by decide⟩ (fun H locs hH hP => ?_)
      refine b_icmp_ge (tgt := 162) hx hb hf dX11_splitsAll_125 (by decide) (fun hf => ?_) (fun hf => ?_)
      · refine b_let hf (fun x8 he hf => ?_)
        refine lv_iinc (v := x8) (lv' := [(3, .int x8), (4, .int x3), (0, .ref (B + 713)), (2, .int v2)]) hx hb dX11_splitsAll_162 hl (k := 3) rfl (by rw [← he]; rfl) (by decide) rfl (fun ls hl => ?_)
        refine lv_goto (tgt := 84) hx hb dX11_splitsAll_165 (by decide) ?_
        exact hr_84 v2 x8 w6 hf z_v2 _ _ _ hH (lv_sub hl [2, 3, 0] rfl)
      · refine lv_aload_n hx hb dX11_splitsAll_128 rfl (lv_at hl 1 rfl) ?_
        refine fg_X11_28 C hH dX11_splitsAll_129 ?_
        refine lv_iload_n hx hb dX11_splitsAll_132 rfl (lv_at hl 3 rfl) ?_
        refine g_iald C hH kc_720 hf dX11_splitsAll_133 (fun x9 hf => ?_)
        refine lv_istore (lv' := [(5, .int x9), (4, .int x3), (0, .ref (B + 713)), (2, .int v2), (3, .int v3)]) hx hb dX11_splitsAll_134 hl (by decide) rfl (fun ls hl => ?_)
        refine lv_aload_n hx hb dX11_splitsAll_136 rfl (lv_at hl 2 rfl) ?_
        refine fg_X11_28 C hH dX11_splitsAll_137 ?_
        refine lv_iload_n hx hb dX11_splitsAll_140 rfl (lv_at hl 4 rfl) ?_
        refine lv_aload_n hx hb dX11_splitsAll_141 rfl (lv_at hl 2 rfl) ?_
        refine fg_X11_28 C hH dX11_splitsAll_142 ?_
        refine lv_iload_n hx hb dX11_splitsAll_145 rfl (lv_at hl 4 rfl) ?_
        refine lv_iconst (v := (1 : Int32)) hx hb dX11_splitsAll_146 (by decide) ?_
        refine lv_isub hx hb dX11_splitsAll_147 ?_
        refine g_iald C hH kc_720 hf dX11_splitsAll_148 (fun x10 hf => ?_)
        refine g_iast C hH kc_720 hf dX11_splitsAll_149 (fun w11 H locs hf hH => ?_)
        refine lv_aload_n hx hb dX11_splitsAll_150 rfl (lv_at hl 2 rfl) ?_
        refine fg_X11_28 C hH dX11_splitsAll_151 ?_
        refine lv_iload_n hx hb dX11_splitsAll_154 rfl (lv_at hl 4 rfl) ?_
        refine lv_iconst (v := (1 : Int32)) hx hb dX11_splitsAll_155 (by decide) ?_
        refine lv_isub hx hb dX11_splitsAll_156 ?_
        refine lv_iload hx hb dX11_splitsAll_157 (lv_at hl 0 rfl) ?_
        refine g_iast C hH kc_720 hf dX11_splitsAll_159 (fun w12 H locs hf hH => ?_)
        refine lv_iconst (v := (1 : Int32)) hx hb dX11_splitsAll_160 (by decide) ?_
        refine lv_istore_n (lv' := [(2, .int (1 : Int32)), (5, .int x9), (4, .int x3), (0, .ref (B + 713)), (3, .int v3)]) hx hb dX11_splitsAll_161 rfl hl (by decide) rfl (fun ls hl => ?_)
        refine b_let hf (fun x13 he hf => ?_)
        refine lv_iinc (v := x13) (lv' := [(3, .int x13), (2, .int (1 : Int32)), (5, .int x9), (4, .int x3), (0, .ref (B + 713))]) hx hb dX11_splitsAll_162 hl (k := 4) rfl (by rw [← he]; rfl) (by decide) rfl (fun ls hl => ?_)
        refine lv_goto (tgt := 84) hx hb dX11_splitsAll_165 (by decide) ?_
        exact hr_84 (1 : Int32) x13 w12 hf isZ_1 _ _ _ hH (lv_sub hl [4, 1, 0] rfl)
set_option maxRecDepth 100000 in
set_option maxHeartbeats 4000000 in
theorem t_X11_splitsAll_84 {D : va_G} {B : Nat} {Y : Nat → ClassId} {p : Program} {l : Launch} {e : Env} {s : State} {m : MethodId} {args : Array Value} {below : List Frame} {meth : Method} {c : Code} {z : (Unit × Wd)} {H : Heap} {locs : List Loc} {ls : Array Slot} {w : Wd} {v2 : Int32} {v3 : Int32} (C : CX D B Y p s m args meth c cX11_splitsAll 6 RX11 none)  {rc_76 : Int32 × Wd → Option (Unit × Wd)} (hr_76 : ∀ (v2 : Int32) (w : Wd), rc_76 (v2, w) = some z → isZ v2 → ∀ (H : Heap) (locs : List Loc) (ls : Array Slot), HS D B Y w s H locs → lv_has ls 6 [(0, .ref (B + 713)), (2, .int v2)] → W p l e (RM 1 0 0) s m args below meth c H locs 0 0 (MQ below (QG D B Y none z.2 True) args s 0 0 (AB B)) (F0 m 76 ls []))   (z_v2 : isZ v2) (hH : HS D B Y w s H locs) (hl : lv_has ls 6 [(0, .ref (B + 713)), (2, .int v2), (3, .int v3)]) (hf : f_X11_splitsAll_84 rc_76 v2 v3 w = some z) : W p l e (RM 1 0 0) s m args below meth c H locs 0 0 (MQ below (QG D B Y none z.2 True) args s 0 0 (AB B)) (F0 m 84 ls []) := by
  exact loopN_ind (z := z) (body := fun rc σ => g_X11_splitsAll_84 rc rc_76 σ.1 σ.2.1 σ.2.2)
    (P := fun σ => isZ σ.1 → ∀ (H : Heap) (locs : List Loc) (ls : Array Slot), HS D B Y σ.2.2 s H locs → lv_has ls 6 [(0, .ref (B + 713)), (2, .int σ.1), (3, .int σ.2.1)] → W p l e (RM 1 0 0) s m args below meth c H locs 0 0 (MQ below (QG D B Y none z.2 True) args s 0 0 (AB B)) (F0 m 84 ls []))
    (fun rc hrec σ hf z_v2 H locs ls hH hl => tb_X11_splitsAll_84 C (fun v2 v3 w hr z_v2 H locs ls hH hl => hrec (v2, v3, w) hr z_v2 H locs ls hH hl) hr_76 z_v2 hH hl hf) FU (v2, v3, w) hf z_v2 H locs ls hH hl
set_option maxRecDepth 100000 in
set_option maxHeartbeats 4000000 in
theorem tb_X11_splitsAll_76 {D : va_G} {B : Nat} {Y : Nat → ClassId} {p : Program} {l : Launch} {e : Env} {s : State} {m : MethodId} {args : Array Value} {below : List Frame} {meth : Method} {c : Code} {z : (Unit × Wd)} {H : Heap} {locs : List Loc} {ls : Array Slot} {w : Wd} {v2 : Int32} (C : CX D B Y p s m args meth c cX11_splitsAll 6 RX11 none)  {rc_76 : Int32 × Wd → Option (Unit × Wd)} (hr_76 : ∀ (v2 : Int32) (w : Wd), rc_76 (v2, w) = some z → isZ v2 → ∀ (H : Heap) (locs : List Loc) (ls : Array Slot), HS D B Y w s H locs → lv_has ls 6 [(0, .ref (B + 713)), (2, .int v2)] → W p l e (RM 1 0 0) s m args below meth c H locs 0 0 (MQ below (QG D B Y none z.2 True) args s 0 0 (AB B)) (F0 m 76 ls []))   (z_v2 : isZ v2) (hH : HS D B Y w s H locs) (hl : lv_has ls 6 [(0, .ref (B + 713)), (2, .int v2)]) (hf : g_X11_splitsAll_76 rc_76 v2 w = some z) : W p l e (RM 1 0 0) s m args below meth c H locs 0 0 (MQ below (QG D B Y none z.2 True) args s 0 0 (AB B)) (F0 m 76 ls []) := by
  have hx := C.1
  have hb := C.2.1
  unfold g_X11_splitsAll_76 at hf
  refine lv_iload_n hx hb dX11_splitsAll_76 rfl (lv_at hl 1 rfl) ?_
  refine b_if_eq (tgt := 171) hx hb hf dX11_splitsAll_77 (by decide) (fun hf => ?_) (fun hf => ?_)
  · cases hf
    exact q_retv C hH trivial dX11_splitsAll_171
  · refine lv_iconst (v := (0 : Int32)) hx hb dX11_splitsAll_80 (by decide) ?_
    refine lv_istore_n (lv' := [(2, .int (0 : Int32)), (0, .ref (B + 713))]) hx hb dX11_splitsAll_81 rfl hl (by decide) rfl (fun ls hl => ?_)
    refine lv_iconst (v := (1 : Int32)) hx hb dX11_splitsAll_82 (by decide) ?_
    refine lv_istore_n (lv' := [(3, .int (1 : Int32)), (2, .int (0 : Int32)), (0, .ref (B + 713))]) hx hb dX11_splitsAll_83 rfl hl (by decide) rfl (fun ls hl => ?_)
    exact t_X11_splitsAll_84 C hr_76 isZ_0 hH (lv_sub hl [2, 1, 0] rfl) hf
set_option maxRecDepth 100000 in
set_option maxHeartbeats 4000000 in
theorem t_X11_splitsAll_76 {D : va_G} {B : Nat} {Y : Nat → ClassId} {p : Program} {l : Launch} {e : Env} {s : State} {m : MethodId} {args : Array Value} {below : List Frame} {meth : Method} {c : Code} {z : (Unit × Wd)} {H : Heap} {locs : List Loc} {ls : Array Slot} {w : Wd} {v2 : Int32} (C : CX D B Y p s m args meth c cX11_splitsAll 6 RX11 none)    (z_v2 : isZ v2) (hH : HS D B Y w s H locs) (hl : lv_has ls 6 [(0, .ref (B + 713)), (2, .int v2)]) (hf : f_X11_splitsAll_76 v2 w = some z) : W p l e (RM 1 0 0) s m args below meth c H locs 0 0 (MQ below (QG D B Y none z.2 True) args s 0 0 (AB B)) (F0 m 76 ls []) := by
  exact loopN_ind (z := z) (body := fun rc σ => g_X11_splitsAll_76 rc  σ.1 σ.2)
    (P := fun σ => isZ σ.1 → ∀ (H : Heap) (locs : List Loc) (ls : Array Slot), HS D B Y σ.2 s H locs → lv_has ls 6 [(0, .ref (B + 713)), (2, .int σ.1)] → W p l e (RM 1 0 0) s m args below meth c H locs 0 0 (MQ below (QG D B Y none z.2 True) args s 0 0 (AB B)) (F0 m 76 ls []))
    (fun rc hrec σ hf z_v2 H locs ls hH hl => tb_X11_splitsAll_76 C (fun v2 w hr z_v2 H locs ls hH hl => hrec (v2, w) hr z_v2 H locs ls hH hl)  z_v2 hH hl hf) FU (v2, w) hf z_v2 H locs ls hH hl
set_option maxRecDepth 100000 in
set_option maxHeartbeats 4000000 in
theorem t_X11_splitsAll_75 {D : va_G} {B : Nat} {Y : Nat → ClassId} {p : Program} {l : Launch} {e : Env} {s : State} {m : MethodId} {args : Array Value} {below : List Frame} {meth : Method} {c : Code} {z : (Unit × Wd)} {H : Heap} {locs : List Loc} {ls : Array Slot} {w : Wd} {t0 : Int32} (C : CX D B Y p s m args meth c cX11_splitsAll 6 RX11 none)    (z_t0 : isZ t0) (hH : HS D B Y w s H locs) (hl : lv_has ls 6 [(0, .ref (B + 713))]) (hf : f_X11_splitsAll_75 t0 w = some z) : W p l e (RM 1 0 0) s m args below meth c H locs 0 0 (MQ below (QG D B Y none z.2 True) args s 0 0 (AB B)) (F0 m 75 ls [.int t0]) := by
  have hx := C.1
  have hb := C.2.1
  unfold f_X11_splitsAll_75 at hf
  refine lv_istore_n (lv' := [(2, .int t0), (0, .ref (B + 713))]) hx hb dX11_splitsAll_75 rfl hl (by decide) rfl (fun ls hl => ?_)
  exact t_X11_splitsAll_76 C z_t0 hH (lv_sub hl [1, 0] rfl) hf
set_option maxRecDepth 100000 in
set_option maxHeartbeats 4000000 in
theorem t_X11_splitsAll_63 {D : va_G} {B : Nat} {Y : Nat → ClassId} {p : Program} {l : Launch} {e : Env} {s : State} {m : MethodId} {args : Array Value} {below : List Frame} {meth : Method} {c : Code} {z : (Unit × Wd)} {H : Heap} {locs : List Loc} {ls : Array Slot} {w : Wd}  (C : CX D B Y p s m args meth c cX11_splitsAll 6 RX11 none)     (hH : HS D B Y w s H locs) (hl : lv_has ls 6 [(0, .ref (B + 713))]) (hf : f_X11_splitsAll_63 w = some z) : W p l e (RM 1 0 0) s m args below meth c H locs 0 0 (MQ below (QG D B Y none z.2 True) args s 0 0 (AB B)) (F0 m 63 ls []) := by
  have hx := C.1
  have hb := C.2.1
  unfold f_X11_splitsAll_63 at hf
  refine lv_aload_n hx hb dX11_splitsAll_63 rfl (lv_at hl 0 rfl) ?_
  refine fg_X11_161 C hH dX11_splitsAll_64 ?_
  refine b_if_ne (tgt := 74) hx hb hf dX11_splitsAll_67 (by decide) (fun hf => ?_) (fun hf => ?_)
  · refine lv_iconst (v := (0 : Int32)) hx hb dX11_splitsAll_74 (by decide) ?_
    exact t_X11_splitsAll_75 C isZ_0 hH (lv_sub hl [0] rfl) hf
  · refine lv_iconst (v := (1 : Int32)) hx hb dX11_splitsAll_70 (by decide) ?_
    refine lv_goto (tgt := 75) hx hb dX11_splitsAll_71 (by decide) ?_
    exact t_X11_splitsAll_75 C isZ_1 hH (lv_sub hl [0] rfl) hf
set_option maxRecDepth 100000 in
set_option maxHeartbeats 4000000 in
theorem tb_X11_splitsAll_2 {D : va_G} {B : Nat} {Y : Nat → ClassId} {p : Program} {l : Launch} {e : Env} {s : State} {m : MethodId} {args : Array Value} {below : List Frame} {meth : Method} {c : Code} {z : (Unit × Wd)} {H : Heap} {locs : List Loc} {ls : Array Slot} {w : Wd} {v1 : Int32} (C : CX D B Y p s m args meth c cX11_splitsAll 6 RX11 none)  {rc_2 : Int32 × Wd → Option (Unit × Wd)} (hr_2 : ∀ (v1 : Int32) (w : Wd), rc_2 (v1, w) = some z → ∀ (H : Heap) (locs : List Loc) (ls : Array Slot), HS D B Y w s H locs → lv_has ls 6 [(0, .ref (B + 713)), (1, .int v1)] → W p l e (RM 1 0 0) s m args below meth c H locs 0 0 (MQ below (QG D B Y none z.2 True) args s 0 0 (AB B)) (F0 m 2 ls []))    (hH : HS D B Y w s H locs) (hl : lv_has ls 6 [(0, .ref (B + 713)), (1, .int v1)]) (hf : g_X11_splitsAll_2 rc_2 v1 w = some z) : W p l e (RM 1 0 0) s m args below meth c H locs 0 0 (MQ below (QG D B Y none z.2 True) args s 0 0 (AB B)) (F0 m 2 ls []) := by
  have hx := C.1
  have hb := C.2.1
  unfold g_X11_splitsAll_2 at hf
  refine lv_iload_n hx hb dX11_splitsAll_2 rfl (lv_at hl 1 rfl) ?_
  refine lv_aload_n hx hb dX11_splitsAll_3 rfl (lv_at hl 0 rfl) ?_
  refine fg_X11_158 C hH dX11_splitsAll_4 ?_
  refine b_icmp_ge (tgt := 63) hx hb hf dX11_splitsAll_7 (by decide) (fun hf => ?_) (fun hf => ?_)
  · exact t_X11_splitsAll_63 C hH (lv_sub hl [0] rfl) hf
  · refine lv_aload_n hx hb dX11_splitsAll_10 rfl (lv_at hl 0 rfl) ?_
    refine fg_X11_161 C hH dX11_splitsAll_11 ?_
    refine b_if_ne (tgt := 63) hx hb hf dX11_splitsAll_14 (by decide) (fun hf => ?_) (fun hf => ?_)
    · exact t_X11_splitsAll_63 C hH (lv_sub hl [0] rfl) hf
    · refine lv_aload_n hx hb dX11_splitsAll_17 rfl (lv_at hl 0 rfl) ?_
      refine lv_aload_n hx hb dX11_splitsAll_18 rfl (lv_at hl 0 rfl) ?_
      refine fg_X11_28 C hH dX11_splitsAll_19 ?_
      refine lv_iload_n hx hb dX11_splitsAll_22 rfl (lv_at hl 1 rfl) ?_
      refine g_iald C hH kc_720 hf dX11_splitsAll_23 (fun x1 hf => ?_)
      refine lv_iconst (v := (4 : Int32)) hx hb dX11_splitsAll_24 (by decide) ?_
      obtain ⟨x3, w2, hc, hf⟩ := bd_some hf
      refine q_callV1 (v := .int x3) (As := [.int x1, .int (4 : Int32)]) C hH (ci := 11) rfl (by omega) gk_X11_127 yd_X11_of (by omega) (by omega) kc_713 (c_X11_of hc) hl.1 rfl (Nat.le_of_ble_eq_true rfl) dX11_splitsAll_25 ⟨by decide, by decide⟩ (fun H locs hH hP => ?_)
      refine lv_istore_n (lv' := [(2, .int x3), (0, .ref (B + 713)), (1, .int v1)]) hx hb dX11_splitsAll_28 rfl hl (by decide) rfl (fun ls hl => ?_)
      refine lv_iload_n hx hb dX11_splitsAll_29 rfl (lv_at hl 0 rfl) ?_
      refine b_if_le (tgt := 57) hx hb hf dX11_splitsAll_30 (by decide) (fun hf => ?_) (fun hf => ?_)
      · refine b_let hf (fun x4 he hf => ?_)
        refine lv_iinc (v := x4) (lv' := [(1, .int x4), (2, .int x3), (0, .ref (B + 713))]) hx hb dX11_splitsAll_57 hl (k := 2) rfl (by rw [← he]; rfl) (by decide) rfl (fun ls hl => ?_)
        refine lv_goto (tgt := 2) hx hb dX11_splitsAll_60 (by decide) ?_
        exact hr_2 x4 w2 hf _ _ _ hH (lv_sub hl [2, 0] rfl)
      · refine lv_aload_n hx hb dX11_splitsAll_33 rfl (lv_at hl 1 rfl) ?_
        refine lv_iload_n hx hb dX11_splitsAll_34 rfl (lv_at hl 2 rfl) ?_
        refine lv_iload_n hx hb dX11_splitsAll_35 rfl (lv_at hl 0 rfl) ?_
        refine lv_iconst (v := (1 : Int32)) hx hb dX11_splitsAll_36 (by decide) ?_
        refine lv_isub hx hb dX11_splitsAll_37 ?_
        refine lv_aload_n hx hb dX11_splitsAll_38 rfl (lv_at hl 1 rfl) ?_
        refine lv_aload_n hx hb dX11_splitsAll_39 rfl (lv_at hl 1 rfl) ?_
        refine fg_X11_28 C hH dX11_splitsAll_40 ?_
        refine lv_iload_n hx hb dX11_splitsAll_43 rfl (lv_at hl 2 rfl) ?_
        refine g_iald C hH kc_720 hf dX11_splitsAll_44 (fun x5 hf => ?_)
        refine lv_iconst (v := (5 : Int32)) hx hb dX11_splitsAll_45 (by decide) ?_
        obtain ⟨x7, w6, hc, hf⟩ := bd_some hf
        refine q_callV1 (v := .int x7) (As := [.int x5, .int (5 : Int32)]) C hH (ci := 11) rfl (by omega) gk_X11_127 yd_X11_of (by omega) (by omega) kc_713 (c_X11_of hc) hl.1 rfl (Nat.le_of_ble_eq_true rfl) dX11_splitsAll_46 ⟨by decide, by decide⟩ (fun H locs hH hP => ?_)
        refine lv_iconst (v := (1 : Int32)) hx hb dX11_splitsAll_49 (by decide) ?_
        refine lv_isub hx hb dX11_splitsAll_50 ?_
        obtain ⟨u, w8, hc, hf⟩ := bd_some hf
        refine q_callV0 (As := [.int v1, .int (x3 - (1 : Int32)), .int (x7 - (1 : Int32))]) C hH (ci := 11) rfl (by omega) gk_X11_165 yd_X11_doubles (by omega) (by omega) kc_713 (c_X11_doubles hc) hl.1 rfl (Nat.le_of_ble_eq_true rfl) dX11_splitsAll_51 ⟨by decide, by decide⟩ (fun H locs hH hP => ?_)
        refine lv_goto (tgt := 60) hx hb dX11_splitsAll_54 (by decide) ?_
        refine lv_goto (tgt := 2) hx hb dX11_splitsAll_60 (by decide) ?_
        exact hr_2 v1 w8 hf _ _ _ hH (lv_sub hl [1, 2] rfl)
set_option maxRecDepth 100000 in
set_option maxHeartbeats 4000000 in
theorem t_X11_splitsAll_2 {D : va_G} {B : Nat} {Y : Nat → ClassId} {p : Program} {l : Launch} {e : Env} {s : State} {m : MethodId} {args : Array Value} {below : List Frame} {meth : Method} {c : Code} {z : (Unit × Wd)} {H : Heap} {locs : List Loc} {ls : Array Slot} {w : Wd} {v1 : Int32} (C : CX D B Y p s m args meth c cX11_splitsAll 6 RX11 none)     (hH : HS D B Y w s H locs) (hl : lv_has ls 6 [(0, .ref (B + 713)), (1, .int v1)]) (hf : f_X11_splitsAll_2 v1 w = some z) : W p l e (RM 1 0 0) s m args below meth c H locs 0 0 (MQ below (QG D B Y none z.2 True) args s 0 0 (AB B)) (F0 m 2 ls []) := by
  exact loopN_ind (z := z) (body := fun rc σ => g_X11_splitsAll_2 rc  σ.1 σ.2)
    (P := fun σ => ∀ (H : Heap) (locs : List Loc) (ls : Array Slot), HS D B Y σ.2 s H locs → lv_has ls 6 [(0, .ref (B + 713)), (1, .int σ.1)] → W p l e (RM 1 0 0) s m args below meth c H locs 0 0 (MQ below (QG D B Y none z.2 True) args s 0 0 (AB B)) (F0 m 2 ls []))
    (fun rc hrec σ hf  H locs ls hH hl => tb_X11_splitsAll_2 C (fun v1 w hr  H locs ls hH hl => hrec (v1, w) hr  H locs ls hH hl)   hH hl hf) FU (v1, w) hf  H locs ls hH hl
set_option maxRecDepth 100000 in
set_option maxHeartbeats 4000000 in
theorem t_X11_splitsAll_0 {D : va_G} {B : Nat} {Y : Nat → ClassId} {p : Program} {l : Launch} {e : Env} {s : State} {m : MethodId} {args : Array Value} {below : List Frame} {meth : Method} {c : Code} {z : (Unit × Wd)} {H : Heap} {locs : List Loc} {ls : Array Slot} {w : Wd}  (C : CX D B Y p s m args meth c cX11_splitsAll 6 RX11 none)     (hH : HS D B Y w s H locs) (hl : lv_has ls 6 [(0, .ref (B + 713))]) (hf : f_X11_splitsAll w = some z) : W p l e (RM 1 0 0) s m args below meth c H locs 0 0 (MQ below (QG D B Y none z.2 True) args s 0 0 (AB B)) (F0 m 0 ls []) := by
  have hx := C.1
  have hb := C.2.1
  unfold f_X11_splitsAll at hf
  refine lv_iconst (v := (0 : Int32)) hx hb dX11_splitsAll_0 (by decide) ?_
  refine lv_istore_n (lv' := [(1, .int (0 : Int32)), (0, .ref (B + 713))]) hx hb dX11_splitsAll_1 rfl hl (by decide) rfl (fun ls hl => ?_)
  exact t_X11_splitsAll_2 C hH (lv_sub hl [1, 0] rfl) hf
set_option maxRecDepth 100000 in
theorem c_X11_splitsAll {l : Launch} {D : va_G} {B : Nat} {Y : Nat → ClassId}  {w : Wd} {r : Unit} {w1 : Wd}   (hf : f_X11_splitsAll w = some (r, w1)) : CM l D B Y yX11_splitsAll cX11_splitsAll 6 none 1 [.ref (B + 713)] w none w1 True :=
  CM_of (by decide +kernel) (Nat.le_of_ble_eq_true rfl) (fun p e s m args below meth c ls C hH hl => t_X11_splitsAll_0 C  hH (lv_sub hl [0] rfl) hf)
/-! LetterTablesModel.joined -/
set_option maxRecDepth 100000 in
set_option maxHeartbeats 4000000 in
theorem tb_X11_joined_2 {D : va_G} {B : Nat} {Y : Nat → ClassId} {p : Program} {l : Launch} {e : Env} {s : State} {m : MethodId} {args : Array Value} {below : List Frame} {meth : Method} {c : Code} {z : (Int32 × Wd)} {H : Heap} {locs : List Loc} {ls : Array Slot} {w : Wd} {v1 : Int32} {v2 : Int32} {v3 : Int32} (C : CX D B Y p s m args meth c cX11_joined 4 RX11 (some .int))  {rc_2 : Int32 × Int32 × Int32 × Wd → Option (Int32 × Wd)} (hr_2 : ∀ (v1 : Int32) (v2 : Int32) (v3 : Int32) (w : Wd), rc_2 (v1, v2, v3, w) = some z → ∀ (H : Heap) (locs : List Loc) (ls : Array Slot), HS D B Y w s H locs → lv_has ls 4 [(0, .ref (B + 713)), (1, .int v1), (2, .int v2), (3, .int v3)] → W p l e (RM 1 0 0) s m args below meth c H locs 0 0 (MQ below (QG D B Y (some (.int z.1)) z.2 True) args s 0 0 (AB B)) (F0 m 2 ls []))    (hH : HS D B Y w s H locs) (hl : lv_has ls 4 [(0, .ref (B + 713)), (1, .int v1), (2, .int v2), (3, .int v3)]) (hf : g_X11_joined_2 rc_2 v1 v2 v3 w = some z) : W p l e (RM 1 0 0) s m args below meth c H locs 0 0 (MQ below (QG D B Y (some (.int z.1)) z.2 True) args s 0 0 (AB B)) (F0 m 2 ls []) := by
  have hx := C.1
  have hb := C.2.1
  unfold g_X11_joined_2 at hf
  refine lv_iload_n hx hb dX11_joined_2 rfl (lv_at hl 3 rfl) ?_
  refine lv_bipush (v := (96 : Int32)) hx hb dX11_joined_3 (by decide) ?_
  refine b_icmp_ge (tgt := 40) hx hb hf dX11_joined_5 (by decide) (fun hf => ?_) (fun hf => ?_)
  · refine lv_iconst (v := (-1 : Int32)) hx hb dX11_joined_40 (by decide) ?_
    cases hf
    exact q_reti C hH trivial dX11_joined_41
  · refine lv_aload_n hx hb dX11_joined_8 rfl (lv_at hl 0 rfl) ?_
    refine lv_iload_n hx hb dX11_joined_9 rfl (lv_at hl 3 rfl) ?_
    refine lv_iconst (v := (4 : Int32)) hx hb dX11_joined_10 (by decide) ?_
    obtain ⟨x2, w1, hc, hf⟩ := bd_some hf
    refine q_callV1 (v := .int x2) (As := [.int v3, .int (4 : Int32)]) C hH (ci := 11) rfl (by omega) gk_X11_127 yd_X11_of (by omega) (by omega) kc_713 (c_X11_of hc) hl.1 rfl (Nat.le_of_ble_eq_true rfl) dX11_joined_11 ⟨by decide, by decide⟩ (fun H locs hH hP => ?_)
    refine lv_iload_n hx hb dX11_joined_14 rfl (lv_at hl 1 rfl) ?_
    refine lv_iconst (v := (1 : Int32)) hx hb dX11_joined_15 (by decide) ?_
    refine lv_iadd hx hb dX11_joined_16 ?_
    refine b_icmp_ne (tgt := 34) hx hb hf dX11_joined_17 (by decide) (fun hf => ?_) (fun hf => ?_)
    · refine b_let hf (fun x3 he hf => ?_)
      refine lv_iinc (v := x3) (lv' := [(3, .int x3), (0, .ref (B + 713)), (1, .int v1), (2, .int v2)]) hx hb dX11_joined_34 hl (k := 3) rfl (by rw [← he]; rfl) (by decide) rfl (fun ls hl => ?_)
      refine lv_goto (tgt := 2) hx hb dX11_joined_37 (by decide) ?_
      exact hr_2 v1 v2 x3 w1 hf _ _ _ hH (lv_sub hl [1, 2, 3, 0] rfl)
    · refine lv_aload_n hx hb dX11_joined_20 rfl (lv_at hl 0 rfl) ?_
      refine lv_iload_n hx hb dX11_joined_21 rfl (lv_at hl 3 rfl) ?_
      refine lv_iconst (v := (5 : Int32)) hx hb dX11_joined_22 (by decide) ?_
      obtain ⟨x5, w4, hc, hf⟩ := bd_some hf
      refine q_callV1 (v := .int x5) (As := [.int v3, .int (5 : Int32)]) C hH (ci := 11) rfl (by omega) gk_X11_127 yd_X11_of (by omega) (by omega) kc_713 (c_X11_of hc) hl.1 rfl (Nat.le_of_ble_eq_true rfl) dX11_joined_23 ⟨by decide, by decide⟩ (fun H locs hH hP => ?_)
      refine lv_iload_n hx hb dX11_joined_26 rfl (lv_at hl 2 rfl) ?_
      refine lv_iconst (v := (1 : Int32)) hx hb dX11_joined_27 (by decide) ?_
      refine lv_iadd hx hb dX11_joined_28 ?_
      refine b_icmp_ne (tgt := 34) hx hb hf dX11_joined_29 (by decide) (fun hf => ?_) (fun hf => ?_)
      · refine b_let hf (fun x6 he hf => ?_)
        refine lv_iinc (v := x6) (lv' := [(3, .int x6), (0, .ref (B + 713)), (1, .int v1), (2, .int v2)]) hx hb dX11_joined_34 hl (k := 3) rfl (by rw [← he]; rfl) (by decide) rfl (fun ls hl => ?_)
        refine lv_goto (tgt := 2) hx hb dX11_joined_37 (by decide) ?_
        exact hr_2 v1 v2 x6 w4 hf _ _ _ hH (lv_sub hl [1, 2, 3, 0] rfl)
      · refine lv_iload_n hx hb dX11_joined_32 rfl (lv_at hl 3 rfl) ?_
        cases hf
        exact q_reti C hH trivial dX11_joined_33
set_option maxRecDepth 100000 in
set_option maxHeartbeats 4000000 in
theorem t_X11_joined_2 {D : va_G} {B : Nat} {Y : Nat → ClassId} {p : Program} {l : Launch} {e : Env} {s : State} {m : MethodId} {args : Array Value} {below : List Frame} {meth : Method} {c : Code} {z : (Int32 × Wd)} {H : Heap} {locs : List Loc} {ls : Array Slot} {w : Wd} {v1 : Int32} {v2 : Int32} {v3 : Int32} (C : CX D B Y p s m args meth c cX11_joined 4 RX11 (some .int))     (hH : HS D B Y w s H locs) (hl : lv_has ls 4 [(0, .ref (B + 713)), (1, .int v1), (2, .int v2), (3, .int v3)]) (hf : f_X11_joined_2 v1 v2 v3 w = some z) : W p l e (RM 1 0 0) s m args below meth c H locs 0 0 (MQ below (QG D B Y (some (.int z.1)) z.2 True) args s 0 0 (AB B)) (F0 m 2 ls []) := by
  exact loopN_ind (z := z) (body := fun rc σ => g_X11_joined_2 rc  σ.1 σ.2.1 σ.2.2.1 σ.2.2.2)
    (P := fun σ => ∀ (H : Heap) (locs : List Loc) (ls : Array Slot), HS D B Y σ.2.2.2 s H locs → lv_has ls 4 [(0, .ref (B + 713)), (1, .int σ.1), (2, .int σ.2.1), (3, .int σ.2.2.1)] → W p l e (RM 1 0 0) s m args below meth c H locs 0 0 (MQ below (QG D B Y (some (.int z.1)) z.2 True) args s 0 0 (AB B)) (F0 m 2 ls []))
    (fun rc hrec σ hf  H locs ls hH hl => tb_X11_joined_2 C (fun v1 v2 v3 w hr  H locs ls hH hl => hrec (v1, v2, v3, w) hr  H locs ls hH hl)   hH hl hf) FU (v1, v2, v3, w) hf  H locs ls hH hl
set_option maxRecDepth 100000 in
set_option maxHeartbeats 4000000 in
theorem t_X11_joined_0 {D : va_G} {B : Nat} {Y : Nat → ClassId} {p : Program} {l : Launch} {e : Env} {s : State} {m : MethodId} {args : Array Value} {below : List Frame} {meth : Method} {c : Code} {z : (Int32 × Wd)} {H : Heap} {locs : List Loc} {ls : Array Slot} {w : Wd} {v1 : Int32} {v2 : Int32} (C : CX D B Y p s m args meth c cX11_joined 4 RX11 (some .int))     (hH : HS D B Y w s H locs) (hl : lv_has ls 4 [(0, .ref (B + 713)), (1, .int v1), (2, .int v2)]) (hf : f_X11_joined v1 v2 w = some z) : W p l e (RM 1 0 0) s m args below meth c H locs 0 0 (MQ below (QG D B Y (some (.int z.1)) z.2 True) args s 0 0 (AB B)) (F0 m 0 ls []) := by
  have hx := C.1
  have hb := C.2.1
  unfold f_X11_joined at hf
  refine lv_iconst (v := (0 : Int32)) hx hb dX11_joined_0 (by decide) ?_
  refine lv_istore_n (lv' := [(3, .int (0 : Int32)), (0, .ref (B + 713)), (1, .int v1), (2, .int v2)]) hx hb dX11_joined_1 rfl hl (by decide) rfl (fun ls hl => ?_)
  exact t_X11_joined_2 C hH (lv_sub hl [1, 2, 3, 0] rfl) hf
set_option maxRecDepth 100000 in
theorem c_X11_joined {l : Launch} {D : va_G} {B : Nat} {Y : Nat → ClassId} {v1 : Int32} {v2 : Int32} {w : Wd} {r : Int32} {w1 : Wd}   (hf : f_X11_joined v1 v2 w = some (r, w1)) : CM l D B Y yX11_joined cX11_joined 4 (some .int) 1 [.ref (B + 713), .int v1, .int v2] w (some (.int r)) w1 True :=
  CM_of (by decide +kernel) (Nat.le_of_ble_eq_true rfl) (fun p e s m args below meth c ls C hH hl => t_X11_joined_0 C  hH (lv_sub hl [0, 1, 2] rfl) hf)
/-! LetterTablesModel.joinsAll -/
set_option maxRecDepth 100000 in
set_option maxHeartbeats 4000000 in
theorem t_X11_joinsAll_103 {D : va_G} {B : Nat} {Y : Nat → ClassId} {p : Program} {l : Launch} {e : Env} {s : State} {m : MethodId} {args : Array Value} {below : List Frame} {meth : Method} {c : Code} {z : (Unit × Wd)} {H : Heap} {locs : List Loc} {ls : Array Slot} {w : Wd} {v1 : Int32} {v2 : Int32} {t0 : Int32} (C : CX D B Y p s m args meth c cX11_joinsAll 5 RX11 none)  {rc_2 : Int32 × Wd → Option (Unit × Wd)} (hr_2 : ∀ (v1 : Int32) (w : Wd), rc_2 (v1, w) = some z → ∀ (H : Heap) (locs : List Loc) (ls : Array Slot), HS D B Y w s H locs → lv_has ls 5 [(0, .ref (B + 713)), (1, .int v1)] → W p l e (RM 2 0 0) s m args below meth c H locs 0 0 (MQ below (QG D B Y none z.2 True) args s 0 0 (AB B)) (F0 m 2 ls []))    (hH : HS D B Y w s H locs) (hl : lv_has ls 5 [(0, .ref (B + 713)), (1, .int v1), (2, .int v2)]) (hf : f_X11_joinsAll_103 rc_2 v1 v2 t0 w = some z) : W p l e (RM 2 0 0) s m args below meth c H locs 0 0 (MQ below (QG D B Y none z.2 True) args s 0 0 (AB B)) (F0 m 103 ls [.int t0]) := by
  have hx := C.1
  have hb := C.2.1
  unfold f_X11_joinsAll_103 at hf
  refine lv_istore (lv' := [(4, .int t0), (0, .ref (B + 713)), (1, .int v1), (2, .int v2)]) hx hb dX11_joinsAll_103 hl (by decide) rfl (fun ls hl => ?_)
  refine lv_iload hx hb dX11_joinsAll_105 (lv_at hl 0 rfl) ?_
  refine lv_iconst (v := (-1 : Int32)) hx hb dX11_joinsAll_107 (by decide) ?_
  refine b_icmp_eq (tgt := 127) hx hb hf dX11_joinsAll_108 (by decide) (fun hf => ?_) (fun hf => ?_)
  · refine b_let hf (fun x1 he hf => ?_)
    refine lv_iinc (v := x1) (lv' := [(1, .int x1), (4, .int t0), (0, .ref (B + 713)), (2, .int v2)]) hx hb dX11_joinsAll_127 hl (k := 2) rfl (by rw [← he]; rfl) (by decide) rfl (fun ls hl => ?_)
    refine lv_goto (tgt := 2) hx hb dX11_joinsAll_130 (by decide) ?_
    exact hr_2 x1 w hf _ _ _ hH (lv_sub hl [2, 0] rfl)
  · refine lv_aload_n hx hb dX11_joinsAll_111 rfl (lv_at hl 1 rfl) ?_
    refine fg_X11_28 C hH dX11_joinsAll_112 ?_
    refine lv_iload_n hx hb dX11_joinsAll_115 rfl (lv_at hl 3 rfl) ?_
    refine lv_iload hx hb dX11_joinsAll_116 (lv_at hl 0 rfl) ?_
    refine g_iast C hH kc_720 hf dX11_joinsAll_118 (fun w2 H locs hf hH => ?_)
    refine lv_aload_n hx hb dX11_joinsAll_119 rfl (lv_at hl 1 rfl) ?_
    refine lv_iload_n hx hb dX11_joinsAll_120 rfl (lv_at hl 2 rfl) ?_
    obtain ⟨u, w3, hc, hf⟩ := bd_some hf
    refine q_callV0 (As := [.int v1]) C hH (ci := 11) rfl (by omega) gk_X11_171 yd_X11_takesOut (by omega) (by omega) kc_713 (c_X11_takesOut hc) hl.1 rfl (Nat.le_of_ble_eq_true rfl) dX11_joinsAll_121 ⟨by decide, by decide⟩ (fun H locs hH hP => ?_)
    refine lv_goto (tgt := 130) hx hb dX11_joinsAll_124 (by decide) ?_
    refine lv_goto (tgt := 2) hx hb dX11_joinsAll_130 (by decide) ?_
    exact hr_2 v1 w3 hf _ _ _ hH (lv_sub hl [1, 2] rfl)
set_option maxRecDepth 100000 in
set_option maxHeartbeats 4000000 in
theorem t_X11_joinsAll_102 {D : va_G} {B : Nat} {Y : Nat → ClassId} {p : Program} {l : Launch} {e : Env} {s : State} {m : MethodId} {args : Array Value} {below : List Frame} {meth : Method} {c : Code} {z : (Unit × Wd)} {H : Heap} {locs : List Loc} {ls : Array Slot} {w : Wd} {v1 : Int32} {v2 : Int32} (C : CX D B Y p s m args meth c cX11_joinsAll 5 RX11 none)  {rc_2 : Int32 × Wd → Option (Unit × Wd)} (hr_2 : ∀ (v1 : Int32) (w : Wd), rc_2 (v1, w) = some z → ∀ (H : Heap) (locs : List Loc) (ls : Array Slot), HS D B Y w s H locs → lv_has ls 5 [(0, .ref (B + 713)), (1, .int v1)] → W p l e (RM 2 0 0) s m args below meth c H locs 0 0 (MQ below (QG D B Y none z.2 True) args s 0 0 (AB B)) (F0 m 2 ls []))    (hH : HS D B Y w s H locs) (hl : lv_has ls 5 [(0, .ref (B + 713)), (1, .int v1), (2, .int v2)]) (hf : f_X11_joinsAll_102 rc_2 v1 v2 w = some z) : W p l e (RM 2 0 0) s m args below meth c H locs 0 0 (MQ below (QG D B Y none z.2 True) args s 0 0 (AB B)) (F0 m 102 ls []) := by
  have hx := C.1
  have hb := C.2.1
  unfold f_X11_joinsAll_102 at hf
  refine lv_iconst (v := (-1 : Int32)) hx hb dX11_joinsAll_102 (by decide) ?_
  exact t_X11_joinsAll_103 C hr_2 hH (lv_sub hl [0, 1, 2] rfl) hf
set_option maxRecDepth 100000 in
set_option maxHeartbeats 4000000 in
theorem t_X11_joinsAll_75 {D : va_G} {B : Nat} {Y : Nat → ClassId} {p : Program} {l : Launch} {e : Env} {s : State} {m : MethodId} {args : Array Value} {below : List Frame} {meth : Method} {c : Code} {z : (Unit × Wd)} {H : Heap} {locs : List Loc} {ls : Array Slot} {w : Wd} {v1 : Int32} {v2 : Int32} {v3 : Int32} (C : CX D B Y p s m args meth c cX11_joinsAll 5 RX11 none)  {rc_2 : Int32 × Wd → Option (Unit × Wd)} (hr_2 : ∀ (v1 : Int32) (w : Wd), rc_2 (v1, w) = some z → ∀ (H : Heap) (locs : List Loc) (ls : Array Slot), HS D B Y w s H locs → lv_has ls 5 [(0, .ref (B + 713)), (1, .int v1)] → W p l e (RM 2 0 0) s m args below meth c H locs 0 0 (MQ below (QG D B Y none z.2 True) args s 0 0 (AB B)) (F0 m 2 ls []))   (z_v3 : isZ v3) (hH : HS D B Y w s H locs) (hl : lv_has ls 5 [(0, .ref (B + 713)), (1, .int v1), (2, .int v2), (3, .int v3)]) (hf : f_X11_joinsAll_75 rc_2 v1 v2 v3 w = some z) : W p l e (RM 2 0 0) s m args below meth c H locs 0 0 (MQ below (QG D B Y none z.2 True) args s 0 0 (AB B)) (F0 m 75 ls []) := by
  have hx := C.1
  have hb := C.2.1
  unfold f_X11_joinsAll_75 at hf
  refine lv_iload_n hx hb dX11_joinsAll_75 rfl (lv_at hl 2 rfl) ?_
  refine b_if_lt (tgt := 102) hx hb hf dX11_joinsAll_76 (by decide) (fun hf => ?_) (fun hf => ?_)
  · exact t_X11_joinsAll_102 C hr_2 hH (lv_sub hl [0, 1, 2] rfl) hf
  · refine lv_iload_n hx hb dX11_joinsAll_79 rfl (lv_at hl 3 rfl) ?_
    refine b_if_eq (tgt := 102) hx hb hf dX11_joinsAll_80 (by decide) (fun hf => ?_) (fun hf => ?_)
    · exact t_X11_joinsAll_102 C hr_2 hH (lv_sub hl [0, 1, 2] rfl) hf
    · refine lv_aload_n hx hb dX11_joinsAll_83 rfl (lv_at hl 0 rfl) ?_
      refine lv_aload_n hx hb dX11_joinsAll_84 rfl (lv_at hl 0 rfl) ?_
      refine fg_X11_28 C hH dX11_joinsAll_85 ?_
      refine lv_iload_n hx hb dX11_joinsAll_88 rfl (lv_at hl 2 rfl) ?_
      refine g_iald C hH kc_720 hf dX11_joinsAll_89 (fun x1 hf => ?_)
      refine lv_aload_n hx hb dX11_joinsAll_90 rfl (lv_at hl 0 rfl) ?_
      refine fg_X11_28 C hH dX11_joinsAll_91 ?_
      refine lv_iload_n hx hb dX11_joinsAll_94 rfl (lv_at hl 1 rfl) ?_
      refine g_iald C hH kc_720 hf dX11_joinsAll_95 (fun x2 hf => ?_)
      obtain ⟨x4, w3, hc, hf⟩ := bd_some hf
      refine q_callV1 (v := .int x4) (As := [.int x1, .int x2]) C hH (ci := 11) rfl (by omega) gk_X11_168 yd_X11_joined (by omega) (by omega) kc_713 (c_X11_joined hc) hl.1 rfl (Nat.le_of_ble_eq_true rfl) dX11_joinsAll_96 ⟨by decide, by decide⟩ (fun H locs hH hP => ?_)
      refine lv_goto (tgt := 103) hx hb dX11_joinsAll_99 (by decide) ?_
      exact t_X11_joinsAll_103 C hr_2 hH (lv_sub hl [0, 1, 2] rfl) hf
set_option maxRecDepth 100000 in
set_option maxHeartbeats 4000000 in
theorem t_X11_joinsAll_67 {D : va_G} {B : Nat} {Y : Nat → ClassId} {p : Program} {l : Launch} {e : Env} {s : State} {m : MethodId} {args : Array Value} {below : List Frame} {meth : Method} {c : Code} {z : (Unit × Wd)} {H : Heap} {locs : List Loc} {ls : Array Slot} {w : Wd} {v1 : Int32} {v2 : Int32} (C : CX D B Y p s m args meth c cX11_joinsAll 5 RX11 none)  {rc_16 : Int32 × Int32 × Int32 × Wd → Option (Unit × Wd)} (hr_16 : ∀ (v1 : Int32) (v2 : Int32) (v3 : Int32) (w : Wd), rc_16 (v1, v2, v3, w) = some z → isZ v3 → ∀ (H : Heap) (locs : List Loc) (ls : Array Slot), HS D B Y w s H locs → lv_has ls 5 [(0, .ref (B + 713)), (1, .int v1), (2, .int v2), (3, .int v3)] → W p l e (RM 2 0 0) s m args below meth c H locs 0 0 (MQ below (QG D B Y none z.2 True) args s 0 0 (AB B)) (F0 m 16 ls []))    (hH : HS D B Y w s H locs) (hl : lv_has ls 5 [(0, .ref (B + 713)), (1, .int v1), (2, .int v2)]) (hf : f_X11_joinsAll_67 rc_16 v1 v2 w = some z) : W p l e (RM 2 0 0) s m args below meth c H locs 0 0 (MQ below (QG D B Y none z.2 True) args s 0 0 (AB B)) (F0 m 67 ls []) := by
  have hx := C.1
  have hb := C.2.1
  unfold f_X11_joinsAll_67 at hf
  refine lv_iconst (v := (0 : Int32)) hx hb dX11_joinsAll_67 (by decide) ?_
  refine lv_istore_n (lv' := [(3, .int (0 : Int32)), (0, .ref (B + 713)), (1, .int v1), (2, .int v2)]) hx hb dX11_joinsAll_68 rfl hl (by decide) rfl (fun ls hl => ?_)
  refine b_let hf (fun x1 he hf => ?_)
  refine lv_iinc (v := x1) (lv' := [(2, .int x1), (3, .int (0 : Int32)), (0, .ref (B + 713)), (1, .int v1)]) hx hb dX11_joinsAll_69 hl (k := 3) rfl (by rw [← he]; rfl) (by decide) rfl (fun ls hl => ?_)
  refine lv_goto (tgt := 16) hx hb dX11_joinsAll_72 (by decide) ?_
  exact hr_16 v1 x1 (0 : Int32) w hf isZ_0 _ _ _ hH (lv_sub hl [2, 3, 0, 1] rfl)
set_option maxRecDepth 100000 in
set_option maxHeartbeats 4000000 in
theorem tb_X11_joinsAll_16 {D : va_G} {B : Nat} {Y : Nat → ClassId} {p : Program} {l : Launch} {e : Env} {s : State} {m : MethodId} {args : Array Value} {below : List Frame} {meth : Method} {c : Code} {z : (Unit × Wd)} {H : Heap} {locs : List Loc} {ls : Array Slot} {w : Wd} {v1 : Int32} {v2 : Int32} {v3 : Int32} (C : CX D B Y p s m args meth c cX11_joinsAll 5 RX11 none)  {rc_16 : Int32 × Int32 × Int32 × Wd → Option (Unit × Wd)} (hr_16 : ∀ (v1 : Int32) (v2 : Int32) (v3 : Int32) (w : Wd), rc_16 (v1, v2, v3, w) = some z → isZ v3 → ∀ (H : Heap) (locs : List Loc) (ls : Array Slot), HS D B Y w s H locs → lv_has ls 5 [(0, .ref (B + 713)), (1, .int v1), (2, .int v2), (3, .int v3)] → W p l e (RM 2 0 0) s m args below meth c H locs 0 0 (MQ below (QG D B Y none z.2 True) args s 0 0 (AB B)) (F0 m 16 ls [])) {rc_2 : Int32 × Wd → Option (Unit × Wd)} (hr_2 : ∀ (v1 : Int32) (w : Wd), rc_2 (v1, w) = some z → ∀ (H : Heap) (locs : List Loc) (ls : Array Slot), HS D B Y w s H locs → lv_has ls 5 [(0, .ref (B + 713)), (1, .int v1)] → W p l e (RM 2 0 0) s m args below meth c H locs 0 0 (MQ below (QG D B Y none z.2 True) args s 0 0 (AB B)) (F0 m 2 ls []))   (z_v3 : isZ v3) (hH : HS D B Y w s H locs) (hl : lv_has ls 5 [(0, .ref (B + 713)), (1, .int v1), (2, .int v2), (3, .int v3)]) (hf : g_X11_joinsAll_16 rc_16 rc_2 v1 v2 v3 w = some z) : W p l e (RM 2 0 0) s m args below meth c H locs 0 0 (MQ below (QG D B Y none z.2 True) args s 0 0 (AB B)) (F0 m 16 ls []) := by
  have hx := C.1
  have hb := C.2.1
  unfold g_X11_joinsAll_16 at hf
  refine lv_iload_n hx hb dX11_joinsAll_16 rfl (lv_at hl 2 rfl) ?_
  refine b_if_lt (tgt := 75) hx hb hf dX11_joinsAll_17 (by decide) (fun hf => ?_) (fun hf => ?_)
  · exact t_X11_joinsAll_75 C hr_2 z_v3 hH (lv_sub hl [0, 1, 2, 3] rfl) hf
  · refine lv_aload_n hx hb dX11_joinsAll_20 rfl (lv_at hl 0 rfl) ?_
    refine lv_aload_n hx hb dX11_joinsAll_21 rfl (lv_at hl 0 rfl) ?_
    refine fg_X11_28 C hH dX11_joinsAll_22 ?_
    refine lv_iload_n hx hb dX11_joinsAll_25 rfl (lv_at hl 2 rfl) ?_
    refine g_iald C hH kc_720 hf dX11_joinsAll_26 (fun x1 hf => ?_)
    refine lv_iconst (v := (0 : Int32)) hx hb dX11_joinsAll_27 (by decide) ?_
    obtain ⟨x3, w2, hc, hf⟩ := bd_some hf
    refine q_callV1 (v := .int x3) (As := [.int x1, .int (0 : Int32)]) C hH (ci := 11) rfl (by omega) gk_X11_127 yd_X11_of (by omega) (by omega) kc_713 (c_X11_of hc) hl.1 rfl (Nat.le_of_ble_eq_true rfl) dX11_joinsAll_28 ⟨by decide, by decide⟩ (fun H locs hH hP => ?_)
    refine b_if_le (tgt := 75) hx hb hf dX11_joinsAll_31 (by decide) (fun hf => ?_) (fun hf => ?_)
    · exact t_X11_joinsAll_75 C hr_2 z_v3 hH (lv_sub hl [0, 1, 2, 3] rfl) hf
    · refine lv_iload_n hx hb dX11_joinsAll_34 rfl (lv_at hl 3 rfl) ?_
      refine b_if_eq (tgt := 67) hx hb hf dX11_joinsAll_35 (by decide) (fun hf => ?_) (fun hf => ?_)
      · exact t_X11_joinsAll_67 C hr_16 hH (lv_sub hl [0, 1, 2] rfl) hf
      · refine lv_aload_n hx hb dX11_joinsAll_38 rfl (lv_at hl 0 rfl) ?_
        refine lv_aload_n hx hb dX11_joinsAll_39 rfl (lv_at hl 0 rfl) ?_
        refine fg_X11_28 C hH dX11_joinsAll_40 ?_
        refine lv_iload_n hx hb dX11_joinsAll_43 rfl (lv_at hl 2 rfl) ?_
        refine g_iald C hH kc_720 hf dX11_joinsAll_44 (fun x4 hf => ?_)
        refine lv_iconst (v := (0 : Int32)) hx hb dX11_joinsAll_45 (by decide) ?_
        obtain ⟨x6, w5, hc, hf⟩ := bd_some hf
        refine q_callV1 (v := .int x6) (As := [.int x4, .int (0 : Int32)]) C hH (ci := 11) rfl (by omega) gk_X11_127 yd_X11_of (by omega) (by omega) kc_713 (c_X11_of hc) hl.1 rfl (Nat.le_of_ble_eq_true rfl) dX11_joinsAll_46 ⟨by decide, by decide⟩ (fun H locs hH hP => ?_)
        refine lv_aload_n hx hb dX11_joinsAll_49 rfl (lv_at hl 0 rfl) ?_
        refine lv_aload_n hx hb dX11_joinsAll_50 rfl (lv_at hl 0 rfl) ?_
        refine fg_X11_28 C hH dX11_joinsAll_51 ?_
        refine lv_iload_n hx hb dX11_joinsAll_54 rfl (lv_at hl 1 rfl) ?_
        refine g_iald C hH kc_720 hf dX11_joinsAll_55 (fun x7 hf => ?_)
        refine lv_iconst (v := (0 : Int32)) hx hb dX11_joinsAll_56 (by decide) ?_
        obtain ⟨x9, w8, hc, hf⟩ := bd_some hf
        refine q_callV1 (v := .int x9) (As := [.int x7, .int (0 : Int32)]) C hH (ci := 11) rfl (by omega) gk_X11_127 yd_X11_of (by omega) (by omega) kc_713 (c_X11_of hc) hl.1 rfl (Nat.le_of_ble_eq_true rfl) dX11_joinsAll_57 ⟨by decide, by decide⟩ (fun H locs hH hP => ?_)
        refine b_icmp_ge (tgt := 67) hx hb hf dX11_joinsAll_60 (by decide) (fun hf => ?_) (fun hf => ?_)
        · exact t_X11_joinsAll_67 C hr_16 hH (lv_sub hl [0, 1, 2] rfl) hf
        · refine lv_iconst (v := (1 : Int32)) hx hb dX11_joinsAll_63 (by decide) ?_
          refine lv_goto (tgt := 68) hx hb dX11_joinsAll_64 (by decide) ?_
          refine lv_istore_n (lv' := [(3, .int (1 : Int32)), (0, .ref (B + 713)), (1, .int v1), (2, .int v2)]) hx hb dX11_joinsAll_68 rfl hl (by decide) rfl (fun ls hl => ?_)
          refine b_let hf (fun x10 he hf => ?_)
          refine lv_iinc (v := x10) (lv' := [(2, .int x10), (3, .int (1 : Int32)), (0, .ref (B + 713)), (1, .int v1)]) hx hb dX11_joinsAll_69 hl (k := 3) rfl (by rw [← he]; rfl) (by decide) rfl (fun ls hl => ?_)
          refine lv_goto (tgt := 16) hx hb dX11_joinsAll_72 (by decide) ?_
          exact hr_16 v1 x10 (1 : Int32) w8 hf isZ_1 _ _ _ hH (lv_sub hl [2, 3, 0, 1] rfl)
set_option maxRecDepth 100000 in
set_option maxHeartbeats 4000000 in
theorem t_X11_joinsAll_16 {D : va_G} {B : Nat} {Y : Nat → ClassId} {p : Program} {l : Launch} {e : Env} {s : State} {m : MethodId} {args : Array Value} {below : List Frame} {meth : Method} {c : Code} {z : (Unit × Wd)} {H : Heap} {locs : List Loc} {ls : Array Slot} {w : Wd} {v1 : Int32} {v2 : Int32} {v3 : Int32} (C : CX D B Y p s m args meth c cX11_joinsAll 5 RX11 none)  {rc_2 : Int32 × Wd → Option (Unit × Wd)} (hr_2 : ∀ (v1 : Int32) (w : Wd), rc_2 (v1, w) = some z → ∀ (H : Heap) (locs : List Loc) (ls : Array Slot), HS D B Y w s H locs → lv_has ls 5 [(0, .ref (B + 713)), (1, .int v1)] → W p l e (RM 2 0 0) s m args below meth c H locs 0 0 (MQ below (QG D B Y none z.2 True) args s 0 0 (AB B)) (F0 m 2 ls []))   (z_v3 : isZ v3) (hH : HS D B Y w s H locs) (hl : lv_has ls 5 [(0, .ref (B + 713)), (1, .int v1), (2, .int v2), (3, .int v3)]) (hf : f_X11_joinsAll_16 rc_2 v1 v2 v3 w = some z) : W p l e (RM 2 0 0) s m args below meth c H locs 0 0 (MQ below (QG D B Y none z.2 True) args s 0 0 (AB B)) (F0 m 16 ls []) := by
  exact loopN_ind (z := z) (body := fun rc σ => g_X11_joinsAll_16 rc rc_2 σ.1 σ.2.1 σ.2.2.1 σ.2.2.2)
    (P := fun σ => isZ σ.2.2.1 → ∀ (H : Heap) (locs : List Loc) (ls : Array Slot), HS D B Y σ.2.2.2 s H locs → lv_has ls 5 [(0, .ref (B + 713)), (1, .int σ.1), (2, .int σ.2.1), (3, .int σ.2.2.1)] → W p l e (RM 2 0 0) s m args below meth c H locs 0 0 (MQ below (QG D B Y none z.2 True) args s 0 0 (AB B)) (F0 m 16 ls []))
    (fun rc hrec σ hf z_v3 H locs ls hH hl => tb_X11_joinsAll_16 C (fun v1 v2 v3 w hr z_v3 H locs ls hH hl => hrec (v1, v2, v3, w) hr z_v3 H locs ls hH hl) hr_2 z_v3 hH hl hf) FU (v1, v2, v3, w) hf z_v3 H locs ls hH hl
set_option maxRecDepth 100000 in
set_option maxHeartbeats 4000000 in
theorem tb_X11_joinsAll_2 {D : va_G} {B : Nat} {Y : Nat → ClassId} {p : Program} {l : Launch} {e : Env} {s : State} {m : MethodId} {args : Array Value} {below : List Frame} {meth : Method} {c : Code} {z : (Unit × Wd)} {H : Heap} {locs : List Loc} {ls : Array Slot} {w : Wd} {v1 : Int32} (C : CX D B Y p s m args meth c cX11_joinsAll 5 RX11 none)  {rc_2 : Int32 × Wd → Option (Unit × Wd)} (hr_2 : ∀ (v1 : Int32) (w : Wd), rc_2 (v1, w) = some z → ∀ (H : Heap) (locs : List Loc) (ls : Array Slot), HS D B Y w s H locs → lv_has ls 5 [(0, .ref (B + 713)), (1, .int v1)] → W p l e (RM 2 0 0) s m args below meth c H locs 0 0 (MQ below (QG D B Y none z.2 True) args s 0 0 (AB B)) (F0 m 2 ls []))    (hH : HS D B Y w s H locs) (hl : lv_has ls 5 [(0, .ref (B + 713)), (1, .int v1)]) (hf : g_X11_joinsAll_2 rc_2 v1 w = some z) : W p l e (RM 2 0 0) s m args below meth c H locs 0 0 (MQ below (QG D B Y none z.2 True) args s 0 0 (AB B)) (F0 m 2 ls []) := by
  have hx := C.1
  have hb := C.2.1
  unfold g_X11_joinsAll_2 at hf
  refine lv_iload_n hx hb dX11_joinsAll_2 rfl (lv_at hl 1 rfl) ?_
  refine lv_aload_n hx hb dX11_joinsAll_3 rfl (lv_at hl 0 rfl) ?_
  refine fg_X11_158 C hH dX11_joinsAll_4 ?_
  refine b_icmp_ge (tgt := 133) hx hb hf dX11_joinsAll_7 (by decide) (fun hf => ?_) (fun hf => ?_)
  · cases hf
    exact q_retv C hH trivial dX11_joinsAll_133
  · refine lv_iload_n hx hb dX11_joinsAll_10 rfl (lv_at hl 1 rfl) ?_
    refine lv_iconst (v := (1 : Int32)) hx hb dX11_joinsAll_11 (by decide) ?_
    refine lv_isub hx hb dX11_joinsAll_12 ?_
    refine b_leti hf (fun x1 hf => ?_)
    refine lv_istore_n (lv' := [(2, .int x1), (0, .ref (B + 713)), (1, .int v1)]) hx hb dX11_joinsAll_13 rfl hl (by decide) rfl (fun ls hl => ?_)
    refine lv_iconst (v := (1 : Int32)) hx hb dX11_joinsAll_14 (by decide) ?_
    refine lv_istore_n (lv' := [(3, .int (1 : Int32)), (2, .int x1), (0, .ref (B + 713)), (1, .int v1)]) hx hb dX11_joinsAll_15 rfl hl (by decide) rfl (fun ls hl => ?_)
    exact t_X11_joinsAll_16 C hr_2 isZ_1 hH (lv_sub hl [2, 3, 1, 0] rfl) hf
set_option maxRecDepth 100000 in
set_option maxHeartbeats 4000000 in
theorem t_X11_joinsAll_2 {D : va_G} {B : Nat} {Y : Nat → ClassId} {p : Program} {l : Launch} {e : Env} {s : State} {m : MethodId} {args : Array Value} {below : List Frame} {meth : Method} {c : Code} {z : (Unit × Wd)} {H : Heap} {locs : List Loc} {ls : Array Slot} {w : Wd} {v1 : Int32} (C : CX D B Y p s m args meth c cX11_joinsAll 5 RX11 none)     (hH : HS D B Y w s H locs) (hl : lv_has ls 5 [(0, .ref (B + 713)), (1, .int v1)]) (hf : f_X11_joinsAll_2 v1 w = some z) : W p l e (RM 2 0 0) s m args below meth c H locs 0 0 (MQ below (QG D B Y none z.2 True) args s 0 0 (AB B)) (F0 m 2 ls []) := by
  exact loopN_ind (z := z) (body := fun rc σ => g_X11_joinsAll_2 rc  σ.1 σ.2)
    (P := fun σ => ∀ (H : Heap) (locs : List Loc) (ls : Array Slot), HS D B Y σ.2 s H locs → lv_has ls 5 [(0, .ref (B + 713)), (1, .int σ.1)] → W p l e (RM 2 0 0) s m args below meth c H locs 0 0 (MQ below (QG D B Y none z.2 True) args s 0 0 (AB B)) (F0 m 2 ls []))
    (fun rc hrec σ hf  H locs ls hH hl => tb_X11_joinsAll_2 C (fun v1 w hr  H locs ls hH hl => hrec (v1, w) hr  H locs ls hH hl)   hH hl hf) FU (v1, w) hf  H locs ls hH hl
set_option maxRecDepth 100000 in
set_option maxHeartbeats 4000000 in
theorem t_X11_joinsAll_0 {D : va_G} {B : Nat} {Y : Nat → ClassId} {p : Program} {l : Launch} {e : Env} {s : State} {m : MethodId} {args : Array Value} {below : List Frame} {meth : Method} {c : Code} {z : (Unit × Wd)} {H : Heap} {locs : List Loc} {ls : Array Slot} {w : Wd}  (C : CX D B Y p s m args meth c cX11_joinsAll 5 RX11 none)     (hH : HS D B Y w s H locs) (hl : lv_has ls 5 [(0, .ref (B + 713))]) (hf : f_X11_joinsAll w = some z) : W p l e (RM 2 0 0) s m args below meth c H locs 0 0 (MQ below (QG D B Y none z.2 True) args s 0 0 (AB B)) (F0 m 0 ls []) := by
  have hx := C.1
  have hb := C.2.1
  unfold f_X11_joinsAll at hf
  refine lv_iconst (v := (1 : Int32)) hx hb dX11_joinsAll_0 (by decide) ?_
  refine lv_istore_n (lv' := [(1, .int (1 : Int32)), (0, .ref (B + 713))]) hx hb dX11_joinsAll_1 rfl hl (by decide) rfl (fun ls hl => ?_)
  exact t_X11_joinsAll_2 C hH (lv_sub hl [1, 0] rfl) hf
set_option maxRecDepth 100000 in
theorem c_X11_joinsAll {l : Launch} {D : va_G} {B : Nat} {Y : Nat → ClassId}  {w : Wd} {r : Unit} {w1 : Wd}   (hf : f_X11_joinsAll w = some (r, w1)) : CM l D B Y yX11_joinsAll cX11_joinsAll 5 none 2 [.ref (B + 713)] w none w1 True :=
  CM_of (by decide +kernel) (Nat.le_of_ble_eq_true rfl) (fun p e s m args below meth c ls C hH hl => t_X11_joinsAll_0 C  hH (lv_sub hl [0] rfl) hf)
/-! LetterTablesModel.folds -/
set_option maxRecDepth 100000 in
set_option maxHeartbeats 4000000 in
theorem t_X11_folds_143 {D : va_G} {B : Nat} {Y : Nat → ClassId} {p : Program} {l : Launch} {e : Env} {s : State} {m : MethodId} {args : Array Value} {below : List Frame} {meth : Method} {c : Code} {z : (Unit × Wd)} {H : Heap} {locs : List Loc} {ls : Array Slot} {w : Wd} {v2 : Int32} (C : CX D B Y p s m args meth c cX11_folds 4 RX11 none)     (hH : HS D B Y w s H locs) (hl : lv_has ls 4 [(0, .ref (B + 713)), (2, .int v2)]) (hf : f_X11_folds_143 v2 w = some z) : W p l e (RM 2 0 0) s m args below meth c H locs 0 0 (MQ below (QG D B Y none z.2 True) args s 0 0 (AB B)) (F0 m 143 ls []) := by
  have hx := C.1
  have hb := C.2.1
  unfold f_X11_folds_143 at hf
  refine lv_aload_n hx hb dX11_folds_143 rfl (lv_at hl 0 rfl) ?_
  refine lv_iload_n hx hb dX11_folds_144 rfl (lv_at hl 1 rfl) ?_
  refine fp_X11_158 C hH dX11_folds_145 (fun H locs hH => ?_)
  refine b_w hf hH (fun w1 hf hH => ?_)
  cases hf
  exact q_retv C hH trivial dX11_folds_148
set_option maxRecDepth 100000 in
set_option maxHeartbeats 4000000 in
theorem t_X11_folds_135 {D : va_G} {B : Nat} {Y : Nat → ClassId} {p : Program} {l : Launch} {e : Env} {s : State} {m : MethodId} {args : Array Value} {below : List Frame} {meth : Method} {c : Code} {z : (Unit × Wd)} {H : Heap} {locs : List Loc} {ls : Array Slot} {w : Wd} {v3 : Int32} {t0 : Int32} {t1 : Int32} (C : CX D B Y p s m args meth c cX11_folds 4 RX11 none)  {rc_88 : Int32 × Int32 × Wd → Option (Unit × Wd)} (hr_88 : ∀ (v2 : Int32) (v3 : Int32) (w : Wd), rc_88 (v2, v3, w) = some z → ∀ (H : Heap) (locs : List Loc) (ls : Array Slot), HS D B Y w s H locs → lv_has ls 4 [(0, .ref (B + 713)), (2, .int v2), (3, .int v3)] → W p l e (RM 2 0 0) s m args below meth c H locs 0 0 (MQ below (QG D B Y none z.2 True) args s 0 0 (AB B)) (F0 m 88 ls []))   (z_t1 : isZ t1) (hH : HS D B Y w s H locs) (hl : lv_has ls 4 [(0, .ref (B + 713)), (3, .int v3)]) (hf : f_X11_folds_135 rc_88 v3 t0 t1 w = some z) : W p l e (RM 2 0 0) s m args below meth c H locs 0 0 (MQ below (QG D B Y none z.2 True) args s 0 0 (AB B)) (F0 m 135 ls [.int t1, .int t0]) := by
  have hx := C.1
  have hb := C.2.1
  unfold f_X11_folds_135 at hf
  refine lv_iadd hx hb dX11_folds_135 ?_
  refine b_leti hf (fun x1 hf => ?_)
  refine lv_istore_n (lv' := [(2, .int x1), (0, .ref (B + 713)), (3, .int v3)]) hx hb dX11_folds_136 rfl hl (by decide) rfl (fun ls hl => ?_)
  refine b_let hf (fun x2 he hf => ?_)
  refine lv_iinc (v := x2) (lv' := [(3, .int x2), (2, .int x1), (0, .ref (B + 713))]) hx hb dX11_folds_137 hl (k := 2) rfl (by rw [← he]; rfl) (by decide) rfl (fun ls hl => ?_)
  refine lv_goto (tgt := 88) hx hb dX11_folds_140 (by decide) ?_
  exact hr_88 x1 x2 w hf _ _ _ hH (lv_sub hl [2, 1, 0] rfl)
set_option maxRecDepth 100000 in
set_option maxHeartbeats 4000000 in
theorem tb_X11_folds_88 {D : va_G} {B : Nat} {Y : Nat → ClassId} {p : Program} {l : Launch} {e : Env} {s : State} {m : MethodId} {args : Array Value} {below : List Frame} {meth : Method} {c : Code} {z : (Unit × Wd)} {H : Heap} {locs : List Loc} {ls : Array Slot} {w : Wd} {v2 : Int32} {v3 : Int32} (C : CX D B Y p s m args meth c cX11_folds 4 RX11 none)  {rc_88 : Int32 × Int32 × Wd → Option (Unit × Wd)} (hr_88 : ∀ (v2 : Int32) (v3 : Int32) (w : Wd), rc_88 (v2, v3, w) = some z → ∀ (H : Heap) (locs : List Loc) (ls : Array Slot), HS D B Y w s H locs → lv_has ls 4 [(0, .ref (B + 713)), (2, .int v2), (3, .int v3)] → W p l e (RM 2 0 0) s m args below meth c H locs 0 0 (MQ below (QG D B Y none z.2 True) args s 0 0 (AB B)) (F0 m 88 ls []))    (hH : HS D B Y w s H locs) (hl : lv_has ls 4 [(0, .ref (B + 713)), (2, .int v2), (3, .int v3)]) (hf : g_X11_folds_88 rc_88 v2 v3 w = some z) : W p l e (RM 2 0 0) s m args below meth c H locs 0 0 (MQ below (QG D B Y none z.2 True) args s 0 0 (AB B)) (F0 m 88 ls []) := by
  have hx := C.1
  have hb := C.2.1
  unfold g_X11_folds_88 at hf
  refine lv_iload_n hx hb dX11_folds_88 rfl (lv_at hl 2 rfl) ?_
  refine lv_aload_n hx hb dX11_folds_89 rfl (lv_at hl 0 rfl) ?_
  refine fg_X11_158 C hH dX11_folds_90 ?_
  refine b_icmp_ge (tgt := 143) hx hb hf dX11_folds_93 (by decide) (fun hf => ?_) (fun hf => ?_)
  · exact t_X11_folds_143 C hH (lv_sub hl [0, 1] rfl) hf
  · refine lv_aload_n hx hb dX11_folds_96 rfl (lv_at hl 0 rfl) ?_
    refine fg_X11_161 C hH dX11_folds_97 ?_
    refine b_if_ne (tgt := 143) hx hb hf dX11_folds_100 (by decide) (fun hf => ?_) (fun hf => ?_)
    · exact t_X11_folds_143 C hH (lv_sub hl [0, 1] rfl) hf
    · refine lv_aload_n hx hb dX11_folds_103 rfl (lv_at hl 0 rfl) ?_
      refine fg_X11_28 C hH dX11_folds_104 ?_
      refine lv_iload_n hx hb dX11_folds_107 rfl (lv_at hl 1 rfl) ?_
      refine lv_aload_n hx hb dX11_folds_108 rfl (lv_at hl 0 rfl) ?_
      refine fg_X11_28 C hH dX11_folds_109 ?_
      refine lv_iload_n hx hb dX11_folds_112 rfl (lv_at hl 2 rfl) ?_
      refine g_iald C hH kc_720 hf dX11_folds_113 (fun x1 hf => ?_)
      refine g_iast C hH kc_720 hf dX11_folds_114 (fun w2 H locs hf hH => ?_)
      refine lv_iload_n hx hb dX11_folds_115 rfl (lv_at hl 1 rfl) ?_
      refine lv_aload_n hx hb dX11_folds_116 rfl (lv_at hl 0 rfl) ?_
      refine lv_aload_n hx hb dX11_folds_117 rfl (lv_at hl 0 rfl) ?_
      refine fg_X11_28 C hH dX11_folds_118 ?_
      refine lv_iload_n hx hb dX11_folds_121 rfl (lv_at hl 2 rfl) ?_
      refine g_iald C hH kc_720 hf dX11_folds_122 (fun x3 hf => ?_)
      refine lv_iconst (v := (0 : Int32)) hx hb dX11_folds_123 (by decide) ?_
      obtain ⟨x5, w4, hc, hf⟩ := bd_some hf
      refine q_callV1 (v := .int x5) (As := [.int x3, .int (0 : Int32)]) C hH (ci := 11) rfl (by omega) gk_X11_127 yd_X11_of (by omega) (by omega) kc_713 (c_X11_of hc) hl.1 rfl (Nat.le_of_ble_eq_true rfl) dX11_folds_124 ⟨by decide, by decide⟩ (fun H locs hH hP => ?_)
      refine b_if_ne (tgt := 134) hx hb hf dX11_folds_127 (by decide) (fun hf => ?_) (fun hf => ?_)
      · refine lv_iconst (v := (0 : Int32)) hx hb dX11_folds_134 (by decide) ?_
        exact t_X11_folds_135 C hr_88 isZ_0 hH (lv_sub hl [0, 2] rfl) hf
      · refine lv_iconst (v := (1 : Int32)) hx hb dX11_folds_130 (by decide) ?_
        refine lv_goto (tgt := 135) hx hb dX11_folds_131 (by decide) ?_
        exact t_X11_folds_135 C hr_88 isZ_1 hH (lv_sub hl [0, 2] rfl) hf
set_option maxRecDepth 100000 in
set_option maxHeartbeats 4000000 in
theorem t_X11_folds_88 {D : va_G} {B : Nat} {Y : Nat → ClassId} {p : Program} {l : Launch} {e : Env} {s : State} {m : MethodId} {args : Array Value} {below : List Frame} {meth : Method} {c : Code} {z : (Unit × Wd)} {H : Heap} {locs : List Loc} {ls : Array Slot} {w : Wd} {v2 : Int32} {v3 : Int32} (C : CX D B Y p s m args meth c cX11_folds 4 RX11 none)     (hH : HS D B Y w s H locs) (hl : lv_has ls 4 [(0, .ref (B + 713)), (2, .int v2), (3, .int v3)]) (hf : f_X11_folds_88 v2 v3 w = some z) : W p l e (RM 2 0 0) s m args below meth c H locs 0 0 (MQ below (QG D B Y none z.2 True) args s 0 0 (AB B)) (F0 m 88 ls []) := by
  exact loopN_ind (z := z) (body := fun rc σ => g_X11_folds_88 rc  σ.1 σ.2.1 σ.2.2)
    (P := fun σ => ∀ (H : Heap) (locs : List Loc) (ls : Array Slot), HS D B Y σ.2.2 s H locs → lv_has ls 4 [(0, .ref (B + 713)), (2, .int σ.1), (3, .int σ.2.1)] → W p l e (RM 2 0 0) s m args below meth c H locs 0 0 (MQ below (QG D B Y none z.2 True) args s 0 0 (AB B)) (F0 m 88 ls []))
    (fun rc hrec σ hf  H locs ls hH hl => tb_X11_folds_88 C (fun v2 v3 w hr  H locs ls hH hl => hrec (v2, v3, w) hr  H locs ls hH hl)   hH hl hf) FU (v2, v3, w) hf  H locs ls hH hl
set_option maxRecDepth 100000 in
set_option maxHeartbeats 4000000 in
theorem t_X11_folds_61 {D : va_G} {B : Nat} {Y : Nat → ClassId} {p : Program} {l : Launch} {e : Env} {s : State} {m : MethodId} {args : Array Value} {below : List Frame} {meth : Method} {c : Code} {z : (Unit × Wd)} {H : Heap} {locs : List Loc} {ls : Array Slot} {w : Wd} {v1 : Int32} {v2 : Int32} (C : CX D B Y p s m args meth c cX11_folds 4 RX11 none)  {rc_2 : Int32 × Wd → Option (Unit × Wd)} (hr_2 : ∀ (v1 : Int32) (w : Wd), rc_2 (v1, w) = some z → ∀ (H : Heap) (locs : List Loc) (ls : Array Slot), HS D B Y w s H locs → lv_has ls 4 [(0, .ref (B + 713)), (1, .int v1)] → W p l e (RM 2 0 0) s m args below meth c H locs 0 0 (MQ below (QG D B Y none z.2 True) args s 0 0 (AB B)) (F0 m 2 ls []))    (hH : HS D B Y w s H locs) (hl : lv_has ls 4 [(0, .ref (B + 713)), (1, .int v1), (2, .int v2)]) (hf : f_X11_folds_61 rc_2 v1 v2 w = some z) : W p l e (RM 2 0 0) s m args below meth c H locs 0 0 (MQ below (QG D B Y none z.2 True) args s 0 0 (AB B)) (F0 m 61 ls []) := by
  have hx := C.1
  have hb := C.2.1
  unfold f_X11_folds_61 at hf
  refine lv_iload_n hx hb dX11_folds_61 rfl (lv_at hl 2 rfl) ?_
  refine b_if_le (tgt := 74) hx hb hf dX11_folds_62 (by decide) (fun hf => ?_) (fun hf => ?_)
  · refine b_let hf (fun x1 he hf => ?_)
    refine lv_iinc (v := x1) (lv' := [(1, .int x1), (0, .ref (B + 713)), (2, .int v2)]) hx hb dX11_folds_74 hl (k := 1) rfl (by rw [← he]; rfl) (by decide) rfl (fun ls hl => ?_)
    refine lv_goto (tgt := 2) hx hb dX11_folds_77 (by decide) ?_
    exact hr_2 x1 w hf _ _ _ hH (lv_sub hl [1, 0] rfl)
  · refine lv_aload_n hx hb dX11_folds_65 rfl (lv_at hl 0 rfl) ?_
    refine fg_X11_28 C hH dX11_folds_66 ?_
    refine lv_iload_n hx hb dX11_folds_69 rfl (lv_at hl 1 rfl) ?_
    refine lv_iload_n hx hb dX11_folds_70 rfl (lv_at hl 2 rfl) ?_
    refine lv_iconst (v := (1 : Int32)) hx hb dX11_folds_71 (by decide) ?_
    refine lv_isub hx hb dX11_folds_72 ?_
    refine g_iast C hH kc_720 hf dX11_folds_73 (fun w2 H locs hf hH => ?_)
    refine b_let hf (fun x3 he hf => ?_)
    refine lv_iinc (v := x3) (lv' := [(1, .int x3), (0, .ref (B + 713)), (2, .int v2)]) hx hb dX11_folds_74 hl (k := 1) rfl (by rw [← he]; rfl) (by decide) rfl (fun ls hl => ?_)
    refine lv_goto (tgt := 2) hx hb dX11_folds_77 (by decide) ?_
    exact hr_2 x3 w2 hf _ _ _ hH (lv_sub hl [1, 0] rfl)
set_option maxRecDepth 100000 in
set_option maxHeartbeats 4000000 in
theorem tb_X11_folds_2 {D : va_G} {B : Nat} {Y : Nat → ClassId} {p : Program} {l : Launch} {e : Env} {s : State} {m : MethodId} {args : Array Value} {below : List Frame} {meth : Method} {c : Code} {z : (Unit × Wd)} {H : Heap} {locs : List Loc} {ls : Array Slot} {w : Wd} {v1 : Int32} (C : CX D B Y p s m args meth c cX11_folds 4 RX11 none)  {rc_2 : Int32 × Wd → Option (Unit × Wd)} (hr_2 : ∀ (v1 : Int32) (w : Wd), rc_2 (v1, w) = some z → ∀ (H : Heap) (locs : List Loc) (ls : Array Slot), HS D B Y w s H locs → lv_has ls 4 [(0, .ref (B + 713)), (1, .int v1)] → W p l e (RM 2 0 0) s m args below meth c H locs 0 0 (MQ below (QG D B Y none z.2 True) args s 0 0 (AB B)) (F0 m 2 ls []))    (hH : HS D B Y w s H locs) (hl : lv_has ls 4 [(0, .ref (B + 713)), (1, .int v1)]) (hf : g_X11_folds_2 rc_2 v1 w = some z) : W p l e (RM 2 0 0) s m args below meth c H locs 0 0 (MQ below (QG D B Y none z.2 True) args s 0 0 (AB B)) (F0 m 2 ls []) := by
  have hx := C.1
  have hb := C.2.1
  unfold g_X11_folds_2 at hf
  refine lv_iload_n hx hb dX11_folds_2 rfl (lv_at hl 1 rfl) ?_
  refine lv_aload_n hx hb dX11_folds_3 rfl (lv_at hl 0 rfl) ?_
  refine fg_X11_158 C hH dX11_folds_4 ?_
  refine b_icmp_ge (tgt := 80) hx hb hf dX11_folds_7 (by decide) (fun hf => ?_) (fun hf => ?_)
  · refine lv_aload_n hx hb dX11_folds_80 rfl (lv_at hl 0 rfl) ?_
    obtain ⟨u, w1, hc, hf⟩ := bd_some hf
    refine q_callV0 (As := []) C hH (ci := 11) rfl (by omega) gk_X11_175 yd_X11_splitsAll (by omega) (by omega) kc_713 (c_X11_splitsAll hc) hl.1 rfl (Nat.le_of_ble_eq_true rfl) dX11_folds_81 ⟨by decide, by decide⟩ (fun H locs hH hP => ?_)
    refine lv_iconst (v := (0 : Int32)) hx hb dX11_folds_84 (by decide) ?_
    refine lv_istore_n (lv' := [(2, .int (0 : Int32)), (0, .ref (B + 713)), (1, .int v1)]) hx hb dX11_folds_85 rfl hl (by decide) rfl (fun ls hl => ?_)
    refine lv_iconst (v := (0 : Int32)) hx hb dX11_folds_86 (by decide) ?_
    refine lv_istore_n (lv' := [(3, .int (0 : Int32)), (2, .int (0 : Int32)), (0, .ref (B + 713)), (1, .int v1)]) hx hb dX11_folds_87 rfl hl (by decide) rfl (fun ls hl => ?_)
    exact t_X11_folds_88 C hH (lv_sub hl [2, 1, 0] rfl) hf
  · refine lv_aload_n hx hb dX11_folds_10 rfl (lv_at hl 0 rfl) ?_
    refine lv_aload_n hx hb dX11_folds_11 rfl (lv_at hl 0 rfl) ?_
    refine fg_X11_28 C hH dX11_folds_12 ?_
    refine lv_iload_n hx hb dX11_folds_15 rfl (lv_at hl 1 rfl) ?_
    refine g_iald C hH kc_720 hf dX11_folds_16 (fun x2 hf => ?_)
    refine lv_bipush (v := (6 : Int32)) hx hb dX11_folds_17 (by decide) ?_
    obtain ⟨x4, w3, hc, hf⟩ := bd_some hf
    refine q_callV1 (v := .int x4) (As := [.int x2, .int (6 : Int32)]) C hH (ci := 11) rfl (by omega) gk_X11_127 yd_X11_of (by omega) (by omega) kc_713 (c_X11_of hc) hl.1 rfl (Nat.le_of_ble_eq_true rfl) dX11_folds_19 ⟨by decide, by decide⟩ (fun H locs hH hP => ?_)
    refine lv_istore_n (lv' := [(2, .int x4), (0, .ref (B + 713)), (1, .int v1)]) hx hb dX11_folds_22 rfl hl (by decide) rfl (fun ls hl => ?_)
    refine lv_aload_n hx hb dX11_folds_23 rfl (lv_at hl 1 rfl) ?_
    refine lv_aload_n hx hb dX11_folds_24 rfl (lv_at hl 1 rfl) ?_
    refine fg_X11_28 C hH dX11_folds_25 ?_
    refine lv_iload_n hx hb dX11_folds_28 rfl (lv_at hl 2 rfl) ?_
    refine g_iald C hH kc_720 hf dX11_folds_29 (fun x5 hf => ?_)
    refine lv_bipush (v := (7 : Int32)) hx hb dX11_folds_30 (by decide) ?_
    obtain ⟨x7, w6, hc, hf⟩ := bd_some hf
    refine q_callV1 (v := .int x7) (As := [.int x5, .int (7 : Int32)]) C hH (ci := 11) rfl (by omega) gk_X11_127 yd_X11_of (by omega) (by omega) kc_713 (c_X11_of hc) hl.1 rfl (Nat.le_of_ble_eq_true rfl) dX11_folds_32 ⟨by decide, by decide⟩ (fun H locs hH hP => ?_)
    refine lv_istore_n (lv' := [(3, .int x7), (2, .int x4), (0, .ref (B + 713)), (1, .int v1)]) hx hb dX11_folds_35 rfl hl (by decide) rfl (fun ls hl => ?_)
    refine lv_iload_n hx hb dX11_folds_36 rfl (lv_at hl 1 rfl) ?_
    refine b_if_le (tgt := 61) hx hb hf dX11_folds_37 (by decide) (fun hf => ?_) (fun hf => ?_)
    · exact t_X11_folds_61 C hr_2 hH (lv_sub hl [2, 3, 1] rfl) hf
    · refine lv_iload_n hx hb dX11_folds_40 rfl (lv_at hl 0 rfl) ?_
      refine b_if_le (tgt := 61) hx hb hf dX11_folds_41 (by decide) (fun hf => ?_) (fun hf => ?_)
      · exact t_X11_folds_61 C hr_2 hH (lv_sub hl [2, 3, 1] rfl) hf
      · refine lv_aload_n hx hb dX11_folds_44 rfl (lv_at hl 2 rfl) ?_
        refine lv_iload_n hx hb dX11_folds_45 rfl (lv_at hl 3 rfl) ?_
        refine lv_iload_n hx hb dX11_folds_46 rfl (lv_at hl 1 rfl) ?_
        refine lv_iconst (v := (1 : Int32)) hx hb dX11_folds_47 (by decide) ?_
        refine lv_isub hx hb dX11_folds_48 ?_
        refine lv_iload_n hx hb dX11_folds_49 rfl (lv_at hl 0 rfl) ?_
        refine lv_iconst (v := (1 : Int32)) hx hb dX11_folds_50 (by decide) ?_
        refine lv_isub hx hb dX11_folds_51 ?_
        obtain ⟨u, w8, hc, hf⟩ := bd_some hf
        refine q_callV0 (As := [.int v1, .int (x4 - (1 : Int32)), .int (x7 - (1 : Int32))]) C hH (ci := 11) rfl (by omega) gk_X11_165 yd_X11_doubles (by omega) (by omega) kc_713 (c_X11_doubles hc) hl.1 rfl (Nat.le_of_ble_eq_true rfl) dX11_folds_52 ⟨by decide, by decide⟩ (fun H locs hH hP => ?_)
        refine b_let hf (fun x9 he hf => ?_)
        refine lv_iinc (v := x9) (lv' := [(1, .int x9), (3, .int x7), (2, .int x4), (0, .ref (B + 713))]) hx hb dX11_folds_55 hl (k := 3) rfl (by rw [← he]; rfl) (by decide) rfl (fun ls hl => ?_)
        refine lv_goto (tgt := 74) hx hb dX11_folds_58 (by decide) ?_
        refine b_let hf (fun x10 he hf => ?_)
        refine lv_iinc (v := x10) (lv' := [(1, .int x10), (3, .int x7), (2, .int x4), (0, .ref (B + 713))]) hx hb dX11_folds_74 hl (k := 0) rfl (by rw [← he]; rfl) (by decide) rfl (fun ls hl => ?_)
        refine lv_goto (tgt := 2) hx hb dX11_folds_77 (by decide) ?_
        exact hr_2 x10 w8 hf _ _ _ hH (lv_sub hl [3, 0] rfl)
set_option maxRecDepth 100000 in
set_option maxHeartbeats 4000000 in
theorem t_X11_folds_2 {D : va_G} {B : Nat} {Y : Nat → ClassId} {p : Program} {l : Launch} {e : Env} {s : State} {m : MethodId} {args : Array Value} {below : List Frame} {meth : Method} {c : Code} {z : (Unit × Wd)} {H : Heap} {locs : List Loc} {ls : Array Slot} {w : Wd} {v1 : Int32} (C : CX D B Y p s m args meth c cX11_folds 4 RX11 none)     (hH : HS D B Y w s H locs) (hl : lv_has ls 4 [(0, .ref (B + 713)), (1, .int v1)]) (hf : f_X11_folds_2 v1 w = some z) : W p l e (RM 2 0 0) s m args below meth c H locs 0 0 (MQ below (QG D B Y none z.2 True) args s 0 0 (AB B)) (F0 m 2 ls []) := by
  exact loopN_ind (z := z) (body := fun rc σ => g_X11_folds_2 rc  σ.1 σ.2)
    (P := fun σ => ∀ (H : Heap) (locs : List Loc) (ls : Array Slot), HS D B Y σ.2 s H locs → lv_has ls 4 [(0, .ref (B + 713)), (1, .int σ.1)] → W p l e (RM 2 0 0) s m args below meth c H locs 0 0 (MQ below (QG D B Y none z.2 True) args s 0 0 (AB B)) (F0 m 2 ls []))
    (fun rc hrec σ hf  H locs ls hH hl => tb_X11_folds_2 C (fun v1 w hr  H locs ls hH hl => hrec (v1, w) hr  H locs ls hH hl)   hH hl hf) FU (v1, w) hf  H locs ls hH hl
set_option maxRecDepth 100000 in
set_option maxHeartbeats 4000000 in
theorem t_X11_folds_0 {D : va_G} {B : Nat} {Y : Nat → ClassId} {p : Program} {l : Launch} {e : Env} {s : State} {m : MethodId} {args : Array Value} {below : List Frame} {meth : Method} {c : Code} {z : (Unit × Wd)} {H : Heap} {locs : List Loc} {ls : Array Slot} {w : Wd}  (C : CX D B Y p s m args meth c cX11_folds 4 RX11 none)     (hH : HS D B Y w s H locs) (hl : lv_has ls 4 [(0, .ref (B + 713))]) (hf : f_X11_folds w = some z) : W p l e (RM 2 0 0) s m args below meth c H locs 0 0 (MQ below (QG D B Y none z.2 True) args s 0 0 (AB B)) (F0 m 0 ls []) := by
  have hx := C.1
  have hb := C.2.1
  unfold f_X11_folds at hf
  refine lv_iconst (v := (0 : Int32)) hx hb dX11_folds_0 (by decide) ?_
  refine lv_istore_n (lv' := [(1, .int (0 : Int32)), (0, .ref (B + 713))]) hx hb dX11_folds_1 rfl hl (by decide) rfl (fun ls hl => ?_)
  exact t_X11_folds_2 C hH (lv_sub hl [1, 0] rfl) hf
set_option maxRecDepth 100000 in
theorem c_X11_folds {l : Launch} {D : va_G} {B : Nat} {Y : Nat → ClassId}  {w : Wd} {r : Unit} {w1 : Wd}   (hf : f_X11_folds w = some (r, w1)) : CM l D B Y yX11_folds cX11_folds 4 none 2 [.ref (B + 713)] w none w1 True :=
  CM_of (by decide +kernel) (Nat.le_of_ble_eq_true rfl) (fun p e s m args below meth c ls C hH hl => t_X11_folds_0 C  hH (lv_sub hl [0] rfl) hf)
