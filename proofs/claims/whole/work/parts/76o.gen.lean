/-! LetterTablesModel.readsMessage -/
set_option maxRecDepth 100000 in
set_option maxHeartbeats 4000000 in
theorem t_X11_readsMessage_206 {D : va_G} {B : Nat} {Y : Nat → ClassId} {p : Program} {l : Launch} {e : Env} {s : State} {m : MethodId} {args : Array Value} {below : List Frame} {meth : Method} {c : Code} {z : (Int32 × Wd)} {H : Heap} {locs : List Loc} {ls : Array Slot} {w : Wd} {v1 : Int32} {v2 : Int32} {v3 : Int32} {v4 : Int32} (C : CX D B Y p s m args meth c cX11_readsMessage 7 RX11 (some .boolean))  {rc_7 : Int32 × Int32 × Int32 × Wd → Option (Int32 × Wd)} (hr_7 : ∀ (v1 : Int32) (v2 : Int32) (v3 : Int32) (w : Wd), rc_7 (v1, v2, v3, w) = some z → isZ v2 → ∀ (H : Heap) (locs : List Loc) (ls : Array Slot), HS D B Y w s H locs → lv_has ls 7 [(0, .ref (B + 713)), (1, .int v1), (2, .int v2), (3, .int v3)] → W p l e (RM 3 0 0) s m args below meth c H locs 0 0 (MQ below (QG D B Y (some (.int z.1)) z.2 (isZ z.1)) args s 0 0 (AB B)) (F0 m 7 ls []))   (z_v2 : isZ v2) (hH : HS D B Y w s H locs) (hl : lv_has ls 7 [(0, .ref (B + 713)), (1, .int v1), (2, .int v2), (3, .int v3), (4, .int v4)]) (hf : f_X11_readsMessage_206 rc_7 v1 v2 v3 v4 w = some z) : W p l e (RM 3 0 0) s m args below meth c H locs 0 0 (MQ below (QG D B Y (some (.int z.1)) z.2 (isZ z.1)) args s 0 0 (AB B)) (F0 m 206 ls []) := by
  have hx := C.1
  have hb := C.2.1
  unfold f_X11_readsMessage_206 at hf
  refine lv_iload_n hx hb dX11_readsMessage_206 rfl (lv_at hl 3 rfl) ?_
  refine lv_iload hx hb dX11_readsMessage_207 (lv_at hl 4 rfl) ?_
  refine lv_bipush (v := (125 : Int32)) hx hb dX11_readsMessage_209 (by decide) ?_
  refine b_icmp_ne (tgt := 218) hx hb hf dX11_readsMessage_211 (by decide) (fun hf => ?_) (fun hf => ?_)
  · refine lv_iconst (v := (0 : Int32)) hx hb dX11_readsMessage_218 (by decide) ?_
    refine lv_isub hx hb dX11_readsMessage_219 ?_
    refine b_leti hf (fun x1 hf => ?_)
    refine lv_istore_n (lv' := [(3, .int x1), (0, .ref (B + 713)), (1, .int v1), (2, .int v2), (4, .int v4)]) hx hb dX11_readsMessage_220 rfl hl (by decide) rfl (fun ls hl => ?_)
    refine lv_goto (tgt := 256) hx hb dX11_readsMessage_221 (by decide) ?_
    refine lv_goto (tgt := 7) hx hb dX11_readsMessage_256 (by decide) ?_
    exact hr_7 v1 v2 x1 w hf z_v2 _ _ _ hH (lv_sub hl [1, 2, 3, 0] rfl)
  · refine lv_iconst (v := (1 : Int32)) hx hb dX11_readsMessage_214 (by decide) ?_
    refine lv_goto (tgt := 219) hx hb dX11_readsMessage_215 (by decide) ?_
    refine lv_isub hx hb dX11_readsMessage_219 ?_
    refine b_leti hf (fun x2 hf => ?_)
    refine lv_istore_n (lv' := [(3, .int x2), (0, .ref (B + 713)), (1, .int v1), (2, .int v2), (4, .int v4)]) hx hb dX11_readsMessage_220 rfl hl (by decide) rfl (fun ls hl => ?_)
    refine lv_goto (tgt := 256) hx hb dX11_readsMessage_221 (by decide) ?_
    refine lv_goto (tgt := 7) hx hb dX11_readsMessage_256 (by decide) ?_
    exact hr_7 v1 v2 x2 w hf z_v2 _ _ _ hH (lv_sub hl [1, 2, 3, 0] rfl)
set_option maxRecDepth 100000 in
set_option maxHeartbeats 4000000 in
theorem t_X11_readsMessage_184 {D : va_G} {B : Nat} {Y : Nat → ClassId} {p : Program} {l : Launch} {e : Env} {s : State} {m : MethodId} {args : Array Value} {below : List Frame} {meth : Method} {c : Code} {z : (Int32 × Wd)} {H : Heap} {locs : List Loc} {ls : Array Slot} {w : Wd} {v1 : Int32} {v2 : Int32} {v3 : Int32} {v4 : Int32} (C : CX D B Y p s m args meth c cX11_readsMessage 7 RX11 (some .boolean))  {rc_7 : Int32 × Int32 × Int32 × Wd → Option (Int32 × Wd)} (hr_7 : ∀ (v1 : Int32) (v2 : Int32) (v3 : Int32) (w : Wd), rc_7 (v1, v2, v3, w) = some z → isZ v2 → ∀ (H : Heap) (locs : List Loc) (ls : Array Slot), HS D B Y w s H locs → lv_has ls 7 [(0, .ref (B + 713)), (1, .int v1), (2, .int v2), (3, .int v3)] → W p l e (RM 3 0 0) s m args below meth c H locs 0 0 (MQ below (QG D B Y (some (.int z.1)) z.2 (isZ z.1)) args s 0 0 (AB B)) (F0 m 7 ls []))   (z_v2 : isZ v2) (hH : HS D B Y w s H locs) (hl : lv_has ls 7 [(0, .ref (B + 713)), (1, .int v1), (2, .int v2), (3, .int v3), (4, .int v4)]) (hf : f_X11_readsMessage_184 rc_7 v1 v2 v3 v4 w = some z) : W p l e (RM 3 0 0) s m args below meth c H locs 0 0 (MQ below (QG D B Y (some (.int z.1)) z.2 (isZ z.1)) args s 0 0 (AB B)) (F0 m 184 ls []) := by
  have hx := C.1
  have hb := C.2.1
  unfold f_X11_readsMessage_184 at hf
  refine lv_iload_n hx hb dX11_readsMessage_184 rfl (lv_at hl 3 rfl) ?_
  refine b_if_eq (tgt := 204) hx hb hf dX11_readsMessage_185 (by decide) (fun hf => ?_) (fun hf => ?_)
  · refine lv_iconst (v := (0 : Int32)) hx hb dX11_readsMessage_204 (by decide) ?_
    cases hf
    exact q_retz C hH isZ_0 isZ_0 dX11_readsMessage_205
  · refine lv_iload hx hb dX11_readsMessage_188 (lv_at hl 4 rfl) ?_
    refine lv_bipush (v := (124 : Int32)) hx hb dX11_readsMessage_190 (by decide) ?_
    refine b_icmp_ne (tgt := 206) hx hb hf dX11_readsMessage_192 (by decide) (fun hf => ?_) (fun hf => ?_)
    · exact t_X11_readsMessage_206 C hr_7 z_v2 hH (lv_sub hl [0, 1, 2, 3, 4] rfl) hf
    · refine lv_aload_n hx hb dX11_readsMessage_195 rfl (lv_at hl 0 rfl) ?_
      refine lv_iload_n hx hb dX11_readsMessage_196 rfl (lv_at hl 1 rfl) ?_
      refine lv_iload_n hx hb dX11_readsMessage_197 rfl (lv_at hl 3 rfl) ?_
      obtain ⟨x2, w1, hc, hf⟩ := bd_some hf
      refine q_callV1 (v := .int x2) (As := [.int v1, .int v3]) C hH (ci := 11) rfl (by omega) gk_X11_344 yd_X11_readsCase (by omega) (by omega) kc_713 (c_X11_readsCase hc) hl.1 rfl (Nat.le_of_ble_eq_true rfl) dX11_readsMessage_198 ⟨by decide, by decide⟩ (fun H locs hH z_x2 => ?_)
      refine b_if_ne (tgt := 206) hx hb hf dX11_readsMessage_201 (by decide) (fun hf => ?_) (fun hf => ?_)
      · exact t_X11_readsMessage_206 C hr_7 z_v2 hH (lv_sub hl [0, 1, 2, 3, 4] rfl) hf
      · refine lv_iconst (v := (0 : Int32)) hx hb dX11_readsMessage_204 (by decide) ?_
        cases hf
        exact q_retz C hH isZ_0 isZ_0 dX11_readsMessage_205
set_option maxRecDepth 100000 in
set_option maxHeartbeats 4000000 in
theorem t_X11_readsMessage_108 {D : va_G} {B : Nat} {Y : Nat → ClassId} {p : Program} {l : Launch} {e : Env} {s : State} {m : MethodId} {args : Array Value} {below : List Frame} {meth : Method} {c : Code} {z : (Int32 × Wd)} {H : Heap} {locs : List Loc} {ls : Array Slot} {w : Wd} {v1 : Int32} {v2 : Int32} {v3 : Int32} {v5 : Int32} {v6 : Int32} (C : CX D B Y p s m args meth c cX11_readsMessage 7 RX11 (some .boolean))  {rc_7 : Int32 × Int32 × Int32 × Wd → Option (Int32 × Wd)} (hr_7 : ∀ (v1 : Int32) (v2 : Int32) (v3 : Int32) (w : Wd), rc_7 (v1, v2, v3, w) = some z → isZ v2 → ∀ (H : Heap) (locs : List Loc) (ls : Array Slot), HS D B Y w s H locs → lv_has ls 7 [(0, .ref (B + 713)), (1, .int v1), (2, .int v2), (3, .int v3)] → W p l e (RM 3 0 0) s m args below meth c H locs 0 0 (MQ below (QG D B Y (some (.int z.1)) z.2 (isZ z.1)) args s 0 0 (AB B)) (F0 m 7 ls []))   (z_v2 : isZ v2) (hH : HS D B Y w s H locs) (hl : lv_has ls 7 [(0, .ref (B + 713)), (1, .int v1), (2, .int v2), (3, .int v3), (5, .int v5), (6, .int v6)]) (hf : f_X11_readsMessage_108 rc_7 v1 v2 v3 v5 v6 w = some z) : W p l e (RM 3 0 0) s m args below meth c H locs 0 0 (MQ below (QG D B Y (some (.int z.1)) z.2 (isZ z.1)) args s 0 0 (AB B)) (F0 m 108 ls []) := by
  have hx := C.1
  have hb := C.2.1
  unfold f_X11_readsMessage_108 at hf
  refine lv_iload hx hb dX11_readsMessage_108 (lv_at hl 5 rfl) ?_
  refine lv_bipush (v := (58 : Int32)) hx hb dX11_readsMessage_110 (by decide) ?_
  refine b_icmp_ne (tgt := 144) hx hb hf dX11_readsMessage_112 (by decide) (fun hf => ?_) (fun hf => ?_)
  · refine lv_iload_n hx hb dX11_readsMessage_144 rfl (lv_at hl 2 rfl) ?_
    refine b_if_eq (tgt := 167) hx hb hf dX11_readsMessage_145 (by decide) (fun hf => ?_) (fun hf => ?_)
    · refine lv_goto (tgt := 256) hx hb dX11_readsMessage_167 (by decide) ?_
      refine lv_goto (tgt := 7) hx hb dX11_readsMessage_256 (by decide) ?_
      exact hr_7 v1 v2 v3 w hf z_v2 _ _ _ hH (lv_sub hl [0, 1, 2, 3] rfl)
    · refine lv_aload_n hx hb dX11_readsMessage_148 rfl (lv_at hl 0 rfl) ?_
      refine lv_iload_n hx hb dX11_readsMessage_149 rfl (lv_at hl 3 rfl) ?_
      obtain ⟨x2, w1, hc, hf⟩ := bd_some hf
      refine q_callV1 (v := .int x2) (As := [.int v3]) C hH (ci := 11) rfl (by omega) gk_X11_347 yd_X11_isHeard (by omega) (by omega) kc_713 (c_X11_isHeard hc) hl.1 rfl (Nat.le_of_ble_eq_true rfl) dX11_readsMessage_150 ⟨by decide, by decide⟩ (fun H locs hH z_x2 => ?_)
      refine b_if_eq (tgt := 167) hx hb hf dX11_readsMessage_153 (by decide) (fun hf => ?_) (fun hf => ?_)
      · refine lv_goto (tgt := 256) hx hb dX11_readsMessage_167 (by decide) ?_
        refine lv_goto (tgt := 7) hx hb dX11_readsMessage_256 (by decide) ?_
        exact hr_7 v1 v2 v3 w1 hf z_v2 _ _ _ hH (lv_sub hl [0, 1, 2, 3] rfl)
      · refine lv_aload_n hx hb dX11_readsMessage_156 rfl (lv_at hl 0 rfl) ?_
        refine lv_aload_n hx hb dX11_readsMessage_157 rfl (lv_at hl 0 rfl) ?_
        refine fg_X11_104 C hH dX11_readsMessage_158 ?_
        refine lv_iload hx hb dX11_readsMessage_161 (lv_at hl 4 rfl) ?_
        refine g_iald C hH kc_745 hf dX11_readsMessage_163 (fun x3 hf => ?_)
        obtain ⟨u, w4, hc, hf⟩ := bd_some hf
        refine q_callV0 (As := [.int x3]) C hH (ci := 11) rfl (by omega) gk_X11_350 yd_X11_putsNumber (by omega) (by omega) kc_713 (c_X11_putsNumber hc) hl.1 rfl (Nat.le_of_ble_eq_true rfl) dX11_readsMessage_164 ⟨by decide, by decide⟩ (fun H locs hH hP => ?_)
        refine lv_goto (tgt := 256) hx hb dX11_readsMessage_167 (by decide) ?_
        refine lv_goto (tgt := 7) hx hb dX11_readsMessage_256 (by decide) ?_
        exact hr_7 v1 v2 v3 w4 hf z_v2 _ _ _ hH (lv_sub hl [0, 1, 2, 3] rfl)
  · refine b_let hf (fun x5 he hf => ?_)
    refine lv_iinc (v := x5) (lv' := [(3, .int x5), (0, .ref (B + 713)), (1, .int v1), (2, .int v2), (5, .int v5), (6, .int v6)]) hx hb dX11_readsMessage_115 hl (k := 3) rfl (by rw [← he]; rfl) (by decide) rfl (fun ls hl => ?_)
    refine lv_aload_n hx hb dX11_readsMessage_118 rfl (lv_at hl 1 rfl) ?_
    refine fg_X11_95 C hH dX11_readsMessage_119 ?_
    refine lv_iload_n hx hb dX11_readsMessage_122 rfl (lv_at hl 0 rfl) ?_
    refine lv_iload hx hb dX11_readsMessage_123 (lv_at hl 4 rfl) ?_
    refine g_iast C hH kc_742 hf dX11_readsMessage_125 (fun w6 H locs hf hH => ?_)
    refine lv_aload_n hx hb dX11_readsMessage_126 rfl (lv_at hl 1 rfl) ?_
    refine fg_X11_98 C hH dX11_readsMessage_127 ?_
    refine lv_iload_n hx hb dX11_readsMessage_130 rfl (lv_at hl 0 rfl) ?_
    refine lv_iconst (v := (0 : Int32)) hx hb dX11_readsMessage_131 (by decide) ?_
    refine g_zast C hH kc_743 isZ_0 hf dX11_readsMessage_132 (fun w7 H locs hf hH => ?_)
    refine lv_aload_n hx hb dX11_readsMessage_133 rfl (lv_at hl 1 rfl) ?_
    refine lv_iload_n hx hb dX11_readsMessage_134 rfl (lv_at hl 2 rfl) ?_
    refine lv_iload_n hx hb dX11_readsMessage_135 rfl (lv_at hl 0 rfl) ?_
    obtain ⟨x9, w8, hc, hf⟩ := bd_some hf
    refine q_callV1 (v := .int x9) (As := [.int v1, .int x5]) C hH (ci := 11) rfl (by omega) gk_X11_344 yd_X11_readsCase (by omega) (by omega) kc_713 (c_X11_readsCase hc) hl.1 rfl (Nat.le_of_ble_eq_true rfl) dX11_readsMessage_136 ⟨by decide, by decide⟩ (fun H locs hH z_x9 => ?_)
    refine b_if_ne (tgt := 167) hx hb hf dX11_readsMessage_139 (by decide) (fun hf => ?_) (fun hf => ?_)
    · refine lv_goto (tgt := 256) hx hb dX11_readsMessage_167 (by decide) ?_
      refine lv_goto (tgt := 7) hx hb dX11_readsMessage_256 (by decide) ?_
      exact hr_7 v1 v2 x5 w8 hf z_v2 _ _ _ hH (lv_sub hl [1, 2, 3, 0] rfl)
    · refine lv_iconst (v := (0 : Int32)) hx hb dX11_readsMessage_142 (by decide) ?_
      cases hf
      exact q_retz C hH isZ_0 isZ_0 dX11_readsMessage_143
set_option maxRecDepth 100000 in
set_option maxHeartbeats 4000000 in
theorem tb_X11_readsMessage_7 {D : va_G} {B : Nat} {Y : Nat → ClassId} {p : Program} {l : Launch} {e : Env} {s : State} {m : MethodId} {args : Array Value} {below : List Frame} {meth : Method} {c : Code} {z : (Int32 × Wd)} {H : Heap} {locs : List Loc} {ls : Array Slot} {w : Wd} {v1 : Int32} {v2 : Int32} {v3 : Int32} (C : CX D B Y p s m args meth c cX11_readsMessage 7 RX11 (some .boolean))  {rc_7 : Int32 × Int32 × Int32 × Wd → Option (Int32 × Wd)} (hr_7 : ∀ (v1 : Int32) (v2 : Int32) (v3 : Int32) (w : Wd), rc_7 (v1, v2, v3, w) = some z → isZ v2 → ∀ (H : Heap) (locs : List Loc) (ls : Array Slot), HS D B Y w s H locs → lv_has ls 7 [(0, .ref (B + 713)), (1, .int v1), (2, .int v2), (3, .int v3)] → W p l e (RM 3 0 0) s m args below meth c H locs 0 0 (MQ below (QG D B Y (some (.int z.1)) z.2 (isZ z.1)) args s 0 0 (AB B)) (F0 m 7 ls []))   (z_v2 : isZ v2) (hH : HS D B Y w s H locs) (hl : lv_has ls 7 [(0, .ref (B + 713)), (1, .int v1), (2, .int v2), (3, .int v3)]) (hf : g_X11_readsMessage_7 rc_7 v1 v2 v3 w = some z) : W p l e (RM 3 0 0) s m args below meth c H locs 0 0 (MQ below (QG D B Y (some (.int z.1)) z.2 (isZ z.1)) args s 0 0 (AB B)) (F0 m 7 ls []) := by
  have hx := C.1
  have hb := C.2.1
  unfold g_X11_readsMessage_7 at hf
  refine lv_aload_n hx hb dX11_readsMessage_7 rfl (lv_at hl 0 rfl) ?_
  refine fg_X11_285 C hH dX11_readsMessage_8 ?_
  refine lv_aload_n hx hb dX11_readsMessage_11 rfl (lv_at hl 0 rfl) ?_
  refine fg_X11_115 C hH dX11_readsMessage_12 ?_
  refine b_icmp_ge (tgt := 259) hx hb hf dX11_readsMessage_15 (by decide) (fun hf => ?_) (fun hf => ?_)
  · refine lv_iload_n hx hb dX11_readsMessage_259 rfl (lv_at hl 3 rfl) ?_
    refine b_if_ne (tgt := 267) hx hb hf dX11_readsMessage_260 (by decide) (fun hf => ?_) (fun hf => ?_)
    · refine lv_iconst (v := (0 : Int32)) hx hb dX11_readsMessage_267 (by decide) ?_
      cases hf
      exact q_retz C hH isZ_0 isZ_0 dX11_readsMessage_268
    · refine lv_iconst (v := (1 : Int32)) hx hb dX11_readsMessage_263 (by decide) ?_
      refine lv_goto (tgt := 268) hx hb dX11_readsMessage_264 (by decide) ?_
      cases hf
      exact q_retz C hH isZ_1 isZ_1 dX11_readsMessage_268
  · refine lv_aload_n hx hb dX11_readsMessage_18 rfl (lv_at hl 0 rfl) ?_
    obtain ⟨x2, w1, hc, hf⟩ := bd_some hf
    refine q_callV1 (v := .int x2) (As := []) C hH (ci := 11) rfl (by omega) gk_X11_288 yd_X11_taping (by omega) (by omega) kc_713 (c_X11_taping hc) hl.1 rfl (Nat.le_of_ble_eq_true rfl) dX11_readsMessage_19 ⟨by decide, by decide⟩ (fun H locs hH hP => ?_)
    refine lv_istore (lv' := [(4, .int x2), (0, .ref (B + 713)), (1, .int v1), (2, .int v2), (3, .int v3)]) hx hb dX11_readsMessage_22 hl (by decide) rfl (fun ls hl => ?_)
    refine lv_aload_n hx hb dX11_readsMessage_24 rfl (lv_at hl 1 rfl) ?_
    refine lv_dup hx hb dX11_readsMessage_25 rfl ?_
    refine fg_X11_285 C hH dX11_readsMessage_26 ?_
    refine lv_iconst (v := (1 : Int32)) hx hb dX11_readsMessage_29 (by decide) ?_
    refine lv_iadd hx hb dX11_readsMessage_30 ?_
    refine fp_X11_285 C hH dX11_readsMessage_31 (fun H locs hH => ?_)
    refine b_w hf hH (fun w3 hf hH => ?_)
    refine lv_iload hx hb dX11_readsMessage_34 (lv_at hl 0 rfl) ?_
    refine lv_bipush (v := (123 : Int32)) hx hb dX11_readsMessage_36 (by decide) ?_
    refine b_icmp_ne (tgt := 170) hx hb hf dX11_readsMessage_38 (by decide) (fun hf => ?_) (fun hf => ?_)
    · refine lv_iload hx hb dX11_readsMessage_170 (lv_at hl 0 rfl) ?_
      refine lv_bipush (v := (124 : Int32)) hx hb dX11_readsMessage_172 (by decide) ?_
      refine b_icmp_eq (tgt := 184) hx hb hf dX11_readsMessage_174 (by decide) (fun hf => ?_) (fun hf => ?_)
      · exact t_X11_readsMessage_184 C hr_7 z_v2 hH (lv_sub hl [1, 2, 3, 4, 0] rfl) hf
      · refine lv_iload hx hb dX11_readsMessage_177 (lv_at hl 0 rfl) ?_
        refine lv_bipush (v := (125 : Int32)) hx hb dX11_readsMessage_179 (by decide) ?_
        refine b_icmp_ne (tgt := 224) hx hb hf dX11_readsMessage_181 (by decide) (fun hf => ?_) (fun hf => ?_)
        · refine lv_iload hx hb dX11_readsMessage_224 (lv_at hl 0 rfl) ?_
          refine lv_bipush (v := (32 : Int32)) hx hb dX11_readsMessage_226 (by decide) ?_
          refine lv_bipush (v := (126 : Int32)) hx hb dX11_readsMessage_228 (by decide) ?_
          obtain ⟨x5, w4, hc, hf⟩ := bd_some hf
          refine q_callS1 (v := .int x5) (As := [.int x2, .int (32 : Int32), .int (126 : Int32)]) C hH gk_X11_111 yd_X11_in (by omega) (by omega) (c_X11_in hc) hl.1 rfl (Nat.le_of_ble_eq_true rfl) dX11_readsMessage_230 ⟨by decide, by decide⟩ (fun H locs hH z_x5 => ?_)
          refine b_if_ne (tgt := 238) hx hb hf dX11_readsMessage_233 (by decide) (fun hf => ?_) (fun hf => ?_)
          · refine lv_iload_n hx hb dX11_readsMessage_238 rfl (lv_at hl 3 rfl) ?_
            refine b_if_eq (tgt := 256) hx hb hf dX11_readsMessage_239 (by decide) (fun hf => ?_) (fun hf => ?_)
            · refine lv_goto (tgt := 7) hx hb dX11_readsMessage_256 (by decide) ?_
              exact hr_7 v1 v2 v3 w4 hf z_v2 _ _ _ hH (lv_sub hl [1, 2, 3, 4] rfl)
            · refine lv_aload_n hx hb dX11_readsMessage_242 rfl (lv_at hl 1 rfl) ?_
              refine lv_iload_n hx hb dX11_readsMessage_243 rfl (lv_at hl 4 rfl) ?_
              obtain ⟨x7, w6, hc, hf⟩ := bd_some hf
              refine q_callV1 (v := .int x7) (As := [.int v3]) C hH (ci := 11) rfl (by omega) gk_X11_347 yd_X11_isHeard (by omega) (by omega) kc_713 (c_X11_isHeard hc) hl.1 rfl (Nat.le_of_ble_eq_true rfl) dX11_readsMessage_244 ⟨by decide, by decide⟩ (fun H locs hH z_x7 => ?_)
              refine b_if_eq (tgt := 256) hx hb hf dX11_readsMessage_247 (by decide) (fun hf => ?_) (fun hf => ?_)
              · refine lv_goto (tgt := 7) hx hb dX11_readsMessage_256 (by decide) ?_
                exact hr_7 v1 v2 v3 w6 hf z_v2 _ _ _ hH (lv_sub hl [1, 2, 3, 4] rfl)
              · refine lv_aload_n hx hb dX11_readsMessage_250 rfl (lv_at hl 1 rfl) ?_
                refine lv_iload hx hb dX11_readsMessage_251 (lv_at hl 0 rfl) ?_
                obtain ⟨u, w8, hc, hf⟩ := bd_some hf
                refine q_callV0 (As := [.int x2]) C hH (ci := 11) rfl (by omega) gk_X11_341 yd_X11_puts (by omega) (by omega) kc_713 (c_X11_puts hc) hl.1 rfl (Nat.le_of_ble_eq_true rfl) dX11_readsMessage_253 ⟨by decide, by decide⟩ (fun H locs hH hP => ?_)
                refine lv_goto (tgt := 7) hx hb dX11_readsMessage_256 (by decide) ?_
                exact hr_7 v1 v2 v3 w8 hf z_v2 _ _ _ hH (lv_sub hl [1, 2, 3, 4] rfl)
          · refine lv_iconst (v := (0 : Int32)) hx hb dX11_readsMessage_236 (by decide) ?_
            cases hf
            exact q_retz C hH isZ_0 isZ_0 dX11_readsMessage_237
        · exact t_X11_readsMessage_184 C hr_7 z_v2 hH (lv_sub hl [1, 2, 3, 4, 0] rfl) hf
    · refine lv_aload_n hx hb dX11_readsMessage_41 rfl (lv_at hl 1 rfl) ?_
      obtain ⟨x10, w9, hc, hf⟩ := bd_some hf
      refine q_callV1 (v := .int x10) (As := []) C hH (ci := 11) rfl (by omega) gk_X11_288 yd_X11_taping (by omega) (by omega) kc_713 (c_X11_taping hc) hl.1 rfl (Nat.le_of_ble_eq_true rfl) dX11_readsMessage_42 ⟨by decide, by decide⟩ (fun H locs hH hP => ?_)
      refine lv_bipush (v := (48 : Int32)) hx hb dX11_readsMessage_45 (by decide) ?_
      refine lv_isub hx hb dX11_readsMessage_47 ?_
      refine b_leti hf (fun x11 hf => ?_)
      refine lv_istore (lv' := [(5, .int x11), (4, .int x2), (0, .ref (B + 713)), (1, .int v1), (2, .int v2), (3, .int v3)]) hx hb dX11_readsMessage_48 hl (by decide) rfl (fun ls hl => ?_)
      refine lv_aload_n hx hb dX11_readsMessage_50 rfl (lv_at hl 2 rfl) ?_
      refine lv_dup hx hb dX11_readsMessage_51 rfl ?_
      refine fg_X11_285 C hH dX11_readsMessage_52 ?_
      refine lv_iconst (v := (1 : Int32)) hx hb dX11_readsMessage_55 (by decide) ?_
      refine lv_iadd hx hb dX11_readsMessage_56 ?_
      refine fp_X11_285 C hH dX11_readsMessage_57 (fun H locs hH => ?_)
      refine b_w hf hH (fun w12 hf hH => ?_)
      refine lv_aload_n hx hb dX11_readsMessage_60 rfl (lv_at hl 2 rfl) ?_
      obtain ⟨x14, w13, hc, hf⟩ := bd_some hf
      refine q_callV1 (v := .int x14) (As := []) C hH (ci := 11) rfl (by omega) gk_X11_288 yd_X11_taping (by omega) (by omega) kc_713 (c_X11_taping hc) hl.1 rfl (Nat.le_of_ble_eq_true rfl) dX11_readsMessage_61 ⟨by decide, by decide⟩ (fun H locs hH hP => ?_)
      refine lv_istore (lv' := [(6, .int x14), (5, .int x11), (4, .int x2), (0, .ref (B + 713)), (1, .int v1), (2, .int v2), (3, .int v3)]) hx hb dX11_readsMessage_64 hl (by decide) rfl (fun ls hl => ?_)
      refine lv_aload_n hx hb dX11_readsMessage_66 rfl (lv_at hl 3 rfl) ?_
      refine lv_dup hx hb dX11_readsMessage_67 rfl ?_
      refine fg_X11_285 C hH dX11_readsMessage_68 ?_
      refine lv_iconst (v := (1 : Int32)) hx hb dX11_readsMessage_71 (by decide) ?_
      refine lv_iadd hx hb dX11_readsMessage_72 ?_
      refine fp_X11_285 C hH dX11_readsMessage_73 (fun H locs hH => ?_)
      refine b_w hf hH (fun w15 hf hH => ?_)
      refine lv_iload hx hb dX11_readsMessage_76 (lv_at hl 1 rfl) ?_
      refine lv_iconst (v := (0 : Int32)) hx hb dX11_readsMessage_78 (by decide) ?_
      refine lv_iconst (v := (3 : Int32)) hx hb dX11_readsMessage_79 (by decide) ?_
      obtain ⟨x17, w16, hc, hf⟩ := bd_some hf
      refine q_callS1 (v := .int x17) (As := [.int x11, .int (0 : Int32), .int (3 : Int32)]) C hH gk_X11_111 yd_X11_in (by omega) (by omega) (c_X11_in hc) hl.1 rfl (Nat.le_of_ble_eq_true rfl) dX11_readsMessage_80 ⟨by decide, by decide⟩ (fun H locs hH z_x17 => ?_)
      refine b_if_eq (tgt := 106) hx hb hf dX11_readsMessage_83 (by decide) (fun hf => ?_) (fun hf => ?_)
      · refine lv_iconst (v := (0 : Int32)) hx hb dX11_readsMessage_106 (by decide) ?_
        cases hf
        exact q_retz C hH isZ_0 isZ_0 dX11_readsMessage_107
      · refine lv_iload hx hb dX11_readsMessage_86 (lv_at hl 0 rfl) ?_
        refine lv_bipush (v := (125 : Int32)) hx hb dX11_readsMessage_88 (by decide) ?_
        refine b_icmp_eq (tgt := 108) hx hb hf dX11_readsMessage_90 (by decide) (fun hf => ?_) (fun hf => ?_)
        · exact t_X11_readsMessage_108 C hr_7 z_v2 hH (lv_sub hl [3, 4, 5, 6, 1, 0] rfl) hf
        · refine lv_iload hx hb dX11_readsMessage_93 (lv_at hl 0 rfl) ?_
          refine lv_bipush (v := (58 : Int32)) hx hb dX11_readsMessage_95 (by decide) ?_
          refine b_icmp_ne (tgt := 106) hx hb hf dX11_readsMessage_97 (by decide) (fun hf => ?_) (fun hf => ?_)
          · refine lv_iconst (v := (0 : Int32)) hx hb dX11_readsMessage_106 (by decide) ?_
            cases hf
            exact q_retz C hH isZ_0 isZ_0 dX11_readsMessage_107
          · refine lv_iload_n hx hb dX11_readsMessage_100 rfl (lv_at hl 6 rfl) ?_
            refine lv_bipush (v := (6 : Int32)) hx hb dX11_readsMessage_101 (by decide) ?_
            refine b_icmp_ne (tgt := 108) hx hb hf dX11_readsMessage_103 (by decide) (fun hf => ?_) (fun hf => ?_)
            · exact t_X11_readsMessage_108 C hr_7 z_v2 hH (lv_sub hl [3, 4, 5, 6, 1, 0] rfl) hf
            · refine lv_iconst (v := (0 : Int32)) hx hb dX11_readsMessage_106 (by decide) ?_
              cases hf
              exact q_retz C hH isZ_0 isZ_0 dX11_readsMessage_107
set_option maxRecDepth 100000 in
set_option maxHeartbeats 4000000 in
theorem t_X11_readsMessage_7 {D : va_G} {B : Nat} {Y : Nat → ClassId} {p : Program} {l : Launch} {e : Env} {s : State} {m : MethodId} {args : Array Value} {below : List Frame} {meth : Method} {c : Code} {z : (Int32 × Wd)} {H : Heap} {locs : List Loc} {ls : Array Slot} {w : Wd} {v1 : Int32} {v2 : Int32} {v3 : Int32} (C : CX D B Y p s m args meth c cX11_readsMessage 7 RX11 (some .boolean))    (z_v2 : isZ v2) (hH : HS D B Y w s H locs) (hl : lv_has ls 7 [(0, .ref (B + 713)), (1, .int v1), (2, .int v2), (3, .int v3)]) (hf : f_X11_readsMessage_7 v1 v2 v3 w = some z) : W p l e (RM 3 0 0) s m args below meth c H locs 0 0 (MQ below (QG D B Y (some (.int z.1)) z.2 (isZ z.1)) args s 0 0 (AB B)) (F0 m 7 ls []) := by
  exact loopN_ind (z := z) (body := fun rc σ => g_X11_readsMessage_7 rc  σ.1 σ.2.1 σ.2.2.1 σ.2.2.2)
    (P := fun σ => isZ σ.2.1 → ∀ (H : Heap) (locs : List Loc) (ls : Array Slot), HS D B Y σ.2.2.2 s H locs → lv_has ls 7 [(0, .ref (B + 713)), (1, .int σ.1), (2, .int σ.2.1), (3, .int σ.2.2.1)] → W p l e (RM 3 0 0) s m args below meth c H locs 0 0 (MQ below (QG D B Y (some (.int z.1)) z.2 (isZ z.1)) args s 0 0 (AB B)) (F0 m 7 ls []))
    (fun rc hrec σ hf z_v2 H locs ls hH hl => tb_X11_readsMessage_7 C (fun v1 v2 v3 w hr z_v2 H locs ls hH hl => hrec (v1, v2, v3, w) hr z_v2 H locs ls hH hl)  z_v2 hH hl hf) FU (v1, v2, v3, w) hf z_v2 H locs ls hH hl
set_option maxRecDepth 100000 in
set_option maxHeartbeats 4000000 in
theorem t_X11_readsMessage_0 {D : va_G} {B : Nat} {Y : Nat → ClassId} {p : Program} {l : Launch} {e : Env} {s : State} {m : MethodId} {args : Array Value} {below : List Frame} {meth : Method} {c : Code} {z : (Int32 × Wd)} {H : Heap} {locs : List Loc} {ls : Array Slot} {w : Wd} {v1 : Int32} {v2 : Int32} (C : CX D B Y p s m args meth c cX11_readsMessage 7 RX11 (some .boolean))    (z_v2 : isZ v2) (hH : HS D B Y w s H locs) (hl : lv_has ls 7 [(0, .ref (B + 713)), (1, .int v1), (2, .int v2)]) (hf : f_X11_readsMessage v1 v2 w = some z) : W p l e (RM 3 0 0) s m args below meth c H locs 0 0 (MQ below (QG D B Y (some (.int z.1)) z.2 (isZ z.1)) args s 0 0 (AB B)) (F0 m 0 ls []) := by
  have hx := C.1
  have hb := C.2.1
  unfold f_X11_readsMessage at hf
  refine lv_iconst (v := (0 : Int32)) hx hb dX11_readsMessage_0 (by decide) ?_
  refine lv_istore_n (lv' := [(3, .int (0 : Int32)), (0, .ref (B + 713)), (1, .int v1), (2, .int v2)]) hx hb dX11_readsMessage_1 rfl hl (by decide) rfl (fun ls hl => ?_)
  refine lv_aload_n hx hb dX11_readsMessage_2 rfl (lv_at hl 1 rfl) ?_
  refine lv_iconst (v := (0 : Int32)) hx hb dX11_readsMessage_3 (by decide) ?_
  refine fp_X11_285 C hH dX11_readsMessage_4 (fun H locs hH => ?_)
  refine b_w hf hH (fun w1 hf hH => ?_)
  exact t_X11_readsMessage_7 C z_v2 hH (lv_sub hl [1, 2, 3, 0] rfl) hf
set_option maxRecDepth 100000 in
theorem c_X11_readsMessage {l : Launch} {D : va_G} {B : Nat} {Y : Nat → ClassId} {v1 : Int32} {v2 : Int32} {w : Wd} {r : Int32} {w1 : Wd}  (z_v2 : isZ v2) (hf : f_X11_readsMessage v1 v2 w = some (r, w1)) : CM l D B Y yX11_readsMessage cX11_readsMessage 7 (some .boolean) 3 [.ref (B + 713), .int v1, .int v2] w (some (.int r)) w1 (isZ r) :=
  CM_of (by decide +kernel) (Nat.le_of_ble_eq_true rfl) (fun p e s m args below meth c ls C hH hl => t_X11_readsMessage_0 C z_v2 hH (lv_sub hl [0, 1, 2] rfl) hf)
/-! LetterTablesModel.message -/
set_option maxRecDepth 100000 in
set_option maxHeartbeats 4000000 in
theorem t_X11_message_155 {D : va_G} {B : Nat} {Y : Nat → ClassId} {p : Program} {l : Launch} {e : Env} {s : State} {m : MethodId} {args : Array Value} {below : List Frame} {meth : Method} {c : Code} {z : (Int32 × Wd)} {H : Heap} {locs : List Loc} {ls : Array Slot} {w : Wd} {t1 : Int32} (C : CX D B Y p s m args meth c cX11_message 8 RX11 (some .int))     (hH : HS D B Y w s H locs) (hl : lv_has ls 8 [(0, .ref (B + 713))]) (hf : f_X11_message_155 t1 w = some z) : W p l e (RM 4 0 0) s m args below meth c H locs 0 0 (MQ below (QG D B Y (some (.int z.1)) z.2 True) args s 0 0 (AB B)) (F0 m 155 ls [.int t1, .ref (B + 713)]) := by
  have hx := C.1
  have hb := C.2.1
  unfold f_X11_message_155 at hf
  obtain ⟨x2, w1, hc, hf⟩ := bd_some hf
  refine q_callV1 (v := .int x2) (As := [.int t1]) C hH (ci := 11) rfl (by omega) gk_X11_118 yd_X11_holds (by omega) (by omega) kc_713 (c_X11_holds hc) hl.1 rfl (Nat.le_of_ble_eq_true rfl) dX11_message_155 ⟨by decide, by decide⟩ (fun H locs hH z_x2 => ?_)
  refine b_if_eq (tgt := 168) hx hb hf dX11_message_158 (by decide) (fun hf => ?_) (fun hf => ?_)
  · refine lv_iconst (v := (0 : Int32)) hx hb dX11_message_168 (by decide) ?_
    cases hf
    exact q_reti C hH trivial dX11_message_169
  · refine lv_aload_n hx hb dX11_message_161 rfl (lv_at hl 0 rfl) ?_
    refine fg_X11_338 C hH dX11_message_162 ?_
    refine lv_goto (tgt := 169) hx hb dX11_message_165 (by decide) ?_
    cases hf
    exact q_reti C hH trivial dX11_message_169
set_option maxRecDepth 100000 in
set_option maxHeartbeats 4000000 in
theorem t_X11_message_139 {D : va_G} {B : Nat} {Y : Nat → ClassId} {p : Program} {l : Launch} {e : Env} {s : State} {m : MethodId} {args : Array Value} {below : List Frame} {meth : Method} {c : Code} {z : (Int32 × Wd)} {H : Heap} {locs : List Loc} {ls : Array Slot} {w : Wd} {v7 : Int32} (C : CX D B Y p s m args meth c cX11_message 8 RX11 (some .int))    (z_v7 : isZ v7) (hH : HS D B Y w s H locs) (hl : lv_has ls 8 [(0, .ref (B + 713)), (7, .int v7)]) (hf : f_X11_message_139 v7 w = some z) : W p l e (RM 4 0 0) s m args below meth c H locs 0 0 (MQ below (QG D B Y (some (.int z.1)) z.2 True) args s 0 0 (AB B)) (F0 m 139 ls []) := by
  have hx := C.1
  have hb := C.2.1
  unfold f_X11_message_139 at hf
  refine lv_aload_n hx hb dX11_message_139 rfl (lv_at hl 0 rfl) ?_
  refine lv_iconst (v := (0 : Int32)) hx hb dX11_message_140 (by decide) ?_
  refine fp_X11_115 C hH dX11_message_141 (fun H locs hH => ?_)
  refine b_w hf hH (fun w1 hf hH => ?_)
  refine lv_aload_n hx hb dX11_message_144 rfl (lv_at hl 0 rfl) ?_
  refine lv_iload hx hb dX11_message_145 (lv_at hl 1 rfl) ?_
  refine b_if_eq (tgt := 154) hx hb hf dX11_message_147 (by decide) (fun hf => ?_) (fun hf => ?_)
  · refine lv_iconst (v := (3 : Int32)) hx hb dX11_message_154 (by decide) ?_
    exact t_X11_message_155 C hH (lv_sub hl [0] rfl) hf
  · refine lv_iconst (v := (0 : Int32)) hx hb dX11_message_150 (by decide) ?_
    refine lv_goto (tgt := 155) hx hb dX11_message_151 (by decide) ?_
    exact t_X11_message_155 C hH (lv_sub hl [0] rfl) hf
set_option maxRecDepth 100000 in
set_option maxHeartbeats 4000000 in
theorem t_X11_message_75 {D : va_G} {B : Nat} {Y : Nat → ClassId} {p : Program} {l : Launch} {e : Env} {s : State} {m : MethodId} {args : Array Value} {below : List Frame} {meth : Method} {c : Code} {z : (Int32 × Wd)} {H : Heap} {locs : List Loc} {ls : Array Slot} {w : Wd} {v1 : Int32} {v2 : Int32} {v3 : Int32} {v4 : Int32} {v5 : Int32} {t1 : Int32} (C : CX D B Y p s m args meth c cX11_message 8 RX11 (some .int))     (hH : HS D B Y w s H locs) (hl : lv_has ls 8 [(0, .ref (B + 713)), (1, .int v1), (2, .int v2), (3, .int v3), (4, .int v4), (5, .int v5)]) (hf : f_X11_message_75 v1 v2 v3 v4 v5 t1 w = some z) : W p l e (RM 4 0 0) s m args below meth c H locs 0 0 (MQ below (QG D B Y (some (.int z.1)) z.2 True) args s 0 0 (AB B)) (F0 m 75 ls [.int t1, .ref (B + 713)]) := by
  have hx := C.1
  have hb := C.2.1
  unfold f_X11_message_75 at hf
  obtain ⟨x2, w1, hc, hf⟩ := bd_some hf
  refine q_callV1 (v := .int x2) (As := [.int t1]) C hH (ci := 11) rfl (by omega) gk_X11_118 yd_X11_holds (by omega) (by omega) kc_713 (c_X11_holds hc) hl.1 rfl (Nat.le_of_ble_eq_true rfl) dX11_message_75 ⟨by decide, by decide⟩ (fun H locs hH z_x2 => ?_)
  refine b_if_ne (tgt := 83) hx hb hf dX11_message_78 (by decide) (fun hf => ?_) (fun hf => ?_)
  · refine lv_aload_n hx hb dX11_message_83 rfl (lv_at hl 0 rfl) ?_
    refine fg_X11_104 C hH dX11_message_84 ?_
    refine lv_iconst (v := (0 : Int32)) hx hb dX11_message_87 (by decide) ?_
    refine lv_iload_n hx hb dX11_message_88 rfl (lv_at hl 2 rfl) ?_
    refine g_iast C hH kc_745 hf dX11_message_89 (fun w3 H locs hf hH => ?_)
    refine lv_aload_n hx hb dX11_message_90 rfl (lv_at hl 0 rfl) ?_
    refine fg_X11_104 C hH dX11_message_91 ?_
    refine lv_iconst (v := (1 : Int32)) hx hb dX11_message_94 (by decide) ?_
    refine lv_iload_n hx hb dX11_message_95 rfl (lv_at hl 3 rfl) ?_
    refine g_iast C hH kc_745 hf dX11_message_96 (fun w4 H locs hf hH => ?_)
    refine lv_aload_n hx hb dX11_message_97 rfl (lv_at hl 0 rfl) ?_
    refine fg_X11_104 C hH dX11_message_98 ?_
    refine lv_iconst (v := (2 : Int32)) hx hb dX11_message_101 (by decide) ?_
    refine lv_iload hx hb dX11_message_102 (lv_at hl 4 rfl) ?_
    refine g_iast C hH kc_745 hf dX11_message_104 (fun w5 H locs hf hH => ?_)
    refine lv_aload_n hx hb dX11_message_105 rfl (lv_at hl 0 rfl) ?_
    refine fg_X11_104 C hH dX11_message_106 ?_
    refine lv_iconst (v := (3 : Int32)) hx hb dX11_message_109 (by decide) ?_
    refine lv_iload hx hb dX11_message_110 (lv_at hl 5 rfl) ?_
    refine g_iast C hH kc_745 hf dX11_message_112 (fun w6 H locs hf hH => ?_)
    refine lv_aload_n hx hb dX11_message_113 rfl (lv_at hl 0 rfl) ?_
    refine lv_iload_n hx hb dX11_message_114 rfl (lv_at hl 1 rfl) ?_
    refine lv_iconst (v := (0 : Int32)) hx hb dX11_message_115 (by decide) ?_
    obtain ⟨x8, w7, hc, hf⟩ := bd_some hf
    refine q_callV1 (v := .int x8) (As := [.int v1, .int (0 : Int32)]) C hH (ci := 11) rfl (by omega) gk_X11_353 yd_X11_readsMessage (by omega) (by omega) kc_713 (c_X11_readsMessage isZ_0 hc) hl.1 rfl (Nat.le_of_ble_eq_true rfl) dX11_message_116 ⟨by decide, by decide⟩ (fun H locs hH z_x8 => ?_)
    refine lv_istore (lv' := [(7, .int x8), (0, .ref (B + 713)), (1, .int v1), (2, .int v2), (3, .int v3), (4, .int v4), (5, .int v5)]) hx hb dX11_message_119 hl (by decide) rfl (fun ls hl => ?_)
    refine lv_iload hx hb dX11_message_121 (lv_at hl 0 rfl) ?_
    refine b_if_eq (tgt := 139) hx hb hf dX11_message_123 (by decide) (fun hf => ?_) (fun hf => ?_)
    · exact t_X11_message_139 C z_x8 hH (lv_sub hl [1, 0] rfl) hf
    · refine lv_aload_n hx hb dX11_message_126 rfl (lv_at hl 1 rfl) ?_
      refine lv_iconst (v := (0 : Int32)) hx hb dX11_message_127 (by decide) ?_
      refine fp_X11_338 C hH dX11_message_128 (fun H locs hH => ?_)
      refine b_w hf hH (fun w9 hf hH => ?_)
      refine lv_aload_n hx hb dX11_message_131 rfl (lv_at hl 1 rfl) ?_
      refine lv_iload_n hx hb dX11_message_132 rfl (lv_at hl 2 rfl) ?_
      refine lv_iconst (v := (1 : Int32)) hx hb dX11_message_133 (by decide) ?_
      obtain ⟨x11, w10, hc, hf⟩ := bd_some hf
      refine q_callV1 (v := .int x11) (As := [.int v1, .int (1 : Int32)]) C hH (ci := 11) rfl (by omega) gk_X11_353 yd_X11_readsMessage (by omega) (by omega) kc_713 (c_X11_readsMessage isZ_1 hc) hl.1 rfl (Nat.le_of_ble_eq_true rfl) dX11_message_134 ⟨by decide, by decide⟩ (fun H locs hH z_x11 => ?_)
      refine lv_istore (lv' := [(7, .int x11), (0, .ref (B + 713)), (1, .int v1), (2, .int v2), (3, .int v3), (4, .int v4), (5, .int v5)]) hx hb dX11_message_137 hl (by decide) rfl (fun ls hl => ?_)
      exact t_X11_message_139 C z_x11 hH (lv_sub hl [1, 0] rfl) hf
  · refine lv_iconst (v := (0 : Int32)) hx hb dX11_message_81 (by decide) ?_
    cases hf
    exact q_reti C hH trivial dX11_message_82
set_option maxRecDepth 100000 in
set_option maxHeartbeats 4000000 in
theorem t_X11_message_51 {D : va_G} {B : Nat} {Y : Nat → ClassId} {p : Program} {l : Launch} {e : Env} {s : State} {m : MethodId} {args : Array Value} {below : List Frame} {meth : Method} {c : Code} {z : (Int32 × Wd)} {H : Heap} {locs : List Loc} {ls : Array Slot} {w : Wd} {v1 : Int32} {v2 : Int32} {v3 : Int32} {v4 : Int32} {v5 : Int32} {t0 : Int32} (C : CX D B Y p s m args meth c cX11_message 8 RX11 (some .int))    (z_t0 : isZ t0) (hH : HS D B Y w s H locs) (hl : lv_has ls 8 [(0, .ref (B + 713)), (1, .int v1), (2, .int v2), (3, .int v3), (4, .int v4), (5, .int v5)]) (hf : f_X11_message_51 v1 v2 v3 v4 v5 t0 w = some z) : W p l e (RM 4 0 0) s m args below meth c H locs 0 0 (MQ below (QG D B Y (some (.int z.1)) z.2 True) args s 0 0 (AB B)) (F0 m 51 ls [.int t0]) := by
  have hx := C.1
  have hb := C.2.1
  unfold f_X11_message_51 at hf
  refine lv_istore (lv' := [(6, .int t0), (0, .ref (B + 713)), (1, .int v1), (2, .int v2), (3, .int v3), (4, .int v4), (5, .int v5)]) hx hb dX11_message_51 hl (by decide) rfl (fun ls hl => ?_)
  refine lv_aload_n hx hb dX11_message_53 rfl (lv_at hl 1 rfl) ?_
  refine lv_iload_n hx hb dX11_message_54 rfl (lv_at hl 2 rfl) ?_
  obtain ⟨x2, w1, hc, hf⟩ := bd_some hf
  refine q_callS1 (v := .int x2) (As := [.int v1]) C hH gk_X11_131 yd_X11_isLanguage (by omega) (by omega) (c_X11_isLanguage hc) hl.1 rfl (Nat.le_of_ble_eq_true rfl) dX11_message_55 ⟨by decide, by decide⟩ (fun H locs hH z_x2 => ?_)
  refine b_if_ne (tgt := 65) hx hb hf dX11_message_58 (by decide) (fun hf => ?_) (fun hf => ?_)
  · refine lv_iload hx hb dX11_message_65 (lv_at hl 0 rfl) ?_
    refine b_if_eq (tgt := 74) hx hb hf dX11_message_67 (by decide) (fun hf => ?_) (fun hf => ?_)
    · refine lv_iconst (v := (2 : Int32)) hx hb dX11_message_74 (by decide) ?_
      exact t_X11_message_75 C hH (lv_sub hl [1, 2, 3, 4, 5, 6] rfl) hf
    · refine lv_iconst (v := (0 : Int32)) hx hb dX11_message_70 (by decide) ?_
      refine lv_goto (tgt := 75) hx hb dX11_message_71 (by decide) ?_
      exact t_X11_message_75 C hH (lv_sub hl [1, 2, 3, 4, 5, 6] rfl) hf
  · refine lv_iconst (v := (1 : Int32)) hx hb dX11_message_61 (by decide) ?_
    refine lv_goto (tgt := 75) hx hb dX11_message_62 (by decide) ?_
    exact t_X11_message_75 C hH (lv_sub hl [1, 2, 3, 4, 5, 6] rfl) hf
set_option maxRecDepth 100000 in
set_option maxHeartbeats 4000000 in
theorem t_X11_message_50 {D : va_G} {B : Nat} {Y : Nat → ClassId} {p : Program} {l : Launch} {e : Env} {s : State} {m : MethodId} {args : Array Value} {below : List Frame} {meth : Method} {c : Code} {z : (Int32 × Wd)} {H : Heap} {locs : List Loc} {ls : Array Slot} {w : Wd} {v1 : Int32} {v2 : Int32} {v3 : Int32} {v4 : Int32} {v5 : Int32} (C : CX D B Y p s m args meth c cX11_message 8 RX11 (some .int))     (hH : HS D B Y w s H locs) (hl : lv_has ls 8 [(0, .ref (B + 713)), (1, .int v1), (2, .int v2), (3, .int v3), (4, .int v4), (5, .int v5)]) (hf : f_X11_message_50 v1 v2 v3 v4 v5 w = some z) : W p l e (RM 4 0 0) s m args below meth c H locs 0 0 (MQ below (QG D B Y (some (.int z.1)) z.2 True) args s 0 0 (AB B)) (F0 m 50 ls []) := by
  have hx := C.1
  have hb := C.2.1
  unfold f_X11_message_50 at hf
  refine lv_iconst (v := (0 : Int32)) hx hb dX11_message_50 (by decide) ?_
  exact t_X11_message_51 C isZ_0 hH (lv_sub hl [0, 1, 2, 3, 4, 5] rfl) hf
set_option maxRecDepth 100000 in
set_option maxHeartbeats 4000000 in
theorem t_X11_message_0 {D : va_G} {B : Nat} {Y : Nat → ClassId} {p : Program} {l : Launch} {e : Env} {s : State} {m : MethodId} {args : Array Value} {below : List Frame} {meth : Method} {c : Code} {z : (Int32 × Wd)} {H : Heap} {locs : List Loc} {ls : Array Slot} {w : Wd} {v1 : Int32} {v2 : Int32} {v3 : Int32} {v4 : Int32} {v5 : Int32} (C : CX D B Y p s m args meth c cX11_message 8 RX11 (some .int))     (hH : HS D B Y w s H locs) (hl : lv_has ls 8 [(0, .ref (B + 713)), (1, .int v1), (2, .int v2), (3, .int v3), (4, .int v4), (5, .int v5)]) (hf : f_X11_message v1 v2 v3 v4 v5 w = some z) : W p l e (RM 4 0 0) s m args below meth c H locs 0 0 (MQ below (QG D B Y (some (.int z.1)) z.2 True) args s 0 0 (AB B)) (F0 m 0 ls []) := by
  have hx := C.1
  have hb := C.2.1
  unfold f_X11_message at hf
  refine lv_iload_n hx hb dX11_message_0 rfl (lv_at hl 2 rfl) ?_
  refine lv_iconst (v := (0 : Int32)) hx hb dX11_message_1 (by decide) ?_
  refine lv_ldcw (v := (999999 : Int32)) hx hb C.2.2.2.1 (C.2.2.2.2.1 _ wd_1956) dX11_message_2 ?_
  obtain ⟨x2, w1, hc, hf⟩ := bd_some hf
  refine q_callS1 (v := .int x2) (As := [.int v2, .int (0 : Int32), .int (999999 : Int32)]) C hH gk_X11_111 yd_X11_in (by omega) (by omega) (c_X11_in hc) hl.1 rfl (Nat.le_of_ble_eq_true rfl) dX11_message_5 ⟨by decide, by decide⟩ (fun H locs hH z_x2 => ?_)
  refine b_if_eq (tgt := 50) hx hb hf dX11_message_8 (by decide) (fun hf => ?_) (fun hf => ?_)
  · exact t_X11_message_50 C hH (lv_sub hl [0, 1, 2, 3, 4, 5] rfl) hf
  · refine lv_iload_n hx hb dX11_message_11 rfl (lv_at hl 3 rfl) ?_
    refine lv_iconst (v := (0 : Int32)) hx hb dX11_message_12 (by decide) ?_
    refine lv_ldcw (v := (999999 : Int32)) hx hb C.2.2.2.1 (C.2.2.2.2.1 _ wd_1956) dX11_message_13 ?_
    obtain ⟨x4, w3, hc, hf⟩ := bd_some hf
    refine q_callS1 (v := .int x4) (As := [.int v3, .int (0 : Int32), .int (999999 : Int32)]) C hH gk_X11_111 yd_X11_in (by omega) (by omega) (c_X11_in hc) hl.1 rfl (Nat.le_of_ble_eq_true rfl) dX11_message_16 ⟨by decide, by decide⟩ (fun H locs hH z_x4 => ?_)
    refine b_if_eq (tgt := 50) hx hb hf dX11_message_19 (by decide) (fun hf => ?_) (fun hf => ?_)
    · exact t_X11_message_50 C hH (lv_sub hl [0, 1, 2, 3, 4, 5] rfl) hf
    · refine lv_iload hx hb dX11_message_22 (lv_at hl 4 rfl) ?_
      refine lv_iconst (v := (0 : Int32)) hx hb dX11_message_24 (by decide) ?_
      refine lv_ldcw (v := (999999 : Int32)) hx hb C.2.2.2.1 (C.2.2.2.2.1 _ wd_1956) dX11_message_25 ?_
      obtain ⟨x6, w5, hc, hf⟩ := bd_some hf
      refine q_callS1 (v := .int x6) (As := [.int v4, .int (0 : Int32), .int (999999 : Int32)]) C hH gk_X11_111 yd_X11_in (by omega) (by omega) (c_X11_in hc) hl.1 rfl (Nat.le_of_ble_eq_true rfl) dX11_message_28 ⟨by decide, by decide⟩ (fun H locs hH z_x6 => ?_)
      refine b_if_eq (tgt := 50) hx hb hf dX11_message_31 (by decide) (fun hf => ?_) (fun hf => ?_)
      · exact t_X11_message_50 C hH (lv_sub hl [0, 1, 2, 3, 4, 5] rfl) hf
      · refine lv_iload hx hb dX11_message_34 (lv_at hl 5 rfl) ?_
        refine lv_iconst (v := (0 : Int32)) hx hb dX11_message_36 (by decide) ?_
        refine lv_ldcw (v := (999999 : Int32)) hx hb C.2.2.2.1 (C.2.2.2.2.1 _ wd_1956) dX11_message_37 ?_
        obtain ⟨x8, w7, hc, hf⟩ := bd_some hf
        refine q_callS1 (v := .int x8) (As := [.int v5, .int (0 : Int32), .int (999999 : Int32)]) C hH gk_X11_111 yd_X11_in (by omega) (by omega) (c_X11_in hc) hl.1 rfl (Nat.le_of_ble_eq_true rfl) dX11_message_40 ⟨by decide, by decide⟩ (fun H locs hH z_x8 => ?_)
        refine b_if_eq (tgt := 50) hx hb hf dX11_message_43 (by decide) (fun hf => ?_) (fun hf => ?_)
        · exact t_X11_message_50 C hH (lv_sub hl [0, 1, 2, 3, 4, 5] rfl) hf
        · refine lv_iconst (v := (1 : Int32)) hx hb dX11_message_46 (by decide) ?_
          refine lv_goto (tgt := 51) hx hb dX11_message_47 (by decide) ?_
          exact t_X11_message_51 C isZ_1 hH (lv_sub hl [0, 1, 2, 3, 4, 5] rfl) hf
set_option maxRecDepth 100000 in
theorem c_X11_message {l : Launch} {D : va_G} {B : Nat} {Y : Nat → ClassId} {v1 : Int32} {v2 : Int32} {v3 : Int32} {v4 : Int32} {v5 : Int32} {w : Wd} {r : Int32} {w1 : Wd}   (hf : f_X11_message v1 v2 v3 v4 v5 w = some (r, w1)) : CM l D B Y yX11_message cX11_message 8 (some .int) 4 [.ref (B + 713), .int v1, .int v2, .int v3, .int v4, .int v5] w (some (.int r)) w1 True :=
  CM_of (by decide +kernel) (Nat.le_of_ble_eq_true rfl) (fun p e s m args below meth c ls C hH hl => t_X11_message_0 C  hH (lv_sub hl [0, 1, 2, 3, 4, 5] rfl) hf)
/-! LetterTablesModel.word -/
set_option maxRecDepth 100000 in
set_option maxHeartbeats 4000000 in
theorem t_X11_word_64 {D : va_G} {B : Nat} {Y : Nat → ClassId} {p : Program} {l : Launch} {e : Env} {s : State} {m : MethodId} {args : Array Value} {below : List Frame} {meth : Method} {c : Code} {z : (Int64 × Wd)} {H : Heap} {locs : List Loc} {ls : Array Slot} {w : Wd} {v1 : Int32} {v4 : Int32} {t0 : Int64} {t1 : Int64} (C : CX D B Y p s m args meth c cX11_word 6 RX11 (some .long))  {rc_10 : Int32 × Int64 × Int32 × Wd → Option (Int64 × Wd)} (hr_10 : ∀ (v1 : Int32) (v2 : Int64) (v4 : Int32) (w : Wd), rc_10 (v1, v2, v4, w) = some z → ∀ (H : Heap) (locs : List Loc) (ls : Array Slot), HS D B Y w s H locs → lv_has ls 6 [(0, .ref (B + 713)), (1, .int v1), (2, .long v2), (4, .int v4)] → W p l e (RM 1 0 0) s m args below meth c H locs 0 0 (MQ below (QG D B Y (some (.long z.1)) z.2 True) args s 0 0 (AB B)) (F0 m 10 ls []))    (hH : HS D B Y w s H locs) (hl : lv_has ls 6 [(0, .ref (B + 713)), (1, .int v1), (4, .int v4)]) (hf : f_X11_word_64 rc_10 v1 v4 t0 t1 w = some z) : W p l e (RM 1 0 0) s m args below meth c H locs 0 0 (MQ below (QG D B Y (some (.long z.1)) z.2 True) args s 0 0 (AB B)) (F0 m 64 ls [.long t1, .long t0]) := by
  have hx := C.1
  have hb := C.2.1
  unfold f_X11_word_64 at hf
  refine lv_lor hx hb dX11_word_64 ?_
  refine b_letl hf (fun y1 hf => ?_)
  refine lv_lstore_n (lv' := [(2, .long y1), (0, .ref (B + 713)), (1, .int v1), (4, .int v4)]) hx hb dX11_word_65 rfl hl (by decide) rfl (fun ls hl => ?_)
  refine b_let hf (fun x2 he hf => ?_)
  refine lv_iinc (v := x2) (lv' := [(4, .int x2), (2, .long y1), (0, .ref (B + 713)), (1, .int v1)]) hx hb dX11_word_66 hl (k := 3) rfl (by rw [← he]; rfl) (by decide) rfl (fun ls hl => ?_)
  refine lv_goto (tgt := 10) hx hb dX11_word_69 (by decide) ?_
  exact hr_10 v1 y1 x2 w hf _ _ _ hH (lv_sub hl [2, 3, 1, 0] rfl)
set_option maxRecDepth 100000 in
set_option maxHeartbeats 4000000 in
theorem tb_X11_word_10 {D : va_G} {B : Nat} {Y : Nat → ClassId} {p : Program} {l : Launch} {e : Env} {s : State} {m : MethodId} {args : Array Value} {below : List Frame} {meth : Method} {c : Code} {z : (Int64 × Wd)} {H : Heap} {locs : List Loc} {ls : Array Slot} {w : Wd} {v1 : Int32} {v2 : Int64} {v4 : Int32} (C : CX D B Y p s m args meth c cX11_word 6 RX11 (some .long))  {rc_10 : Int32 × Int64 × Int32 × Wd → Option (Int64 × Wd)} (hr_10 : ∀ (v1 : Int32) (v2 : Int64) (v4 : Int32) (w : Wd), rc_10 (v1, v2, v4, w) = some z → ∀ (H : Heap) (locs : List Loc) (ls : Array Slot), HS D B Y w s H locs → lv_has ls 6 [(0, .ref (B + 713)), (1, .int v1), (2, .long v2), (4, .int v4)] → W p l e (RM 1 0 0) s m args below meth c H locs 0 0 (MQ below (QG D B Y (some (.long z.1)) z.2 True) args s 0 0 (AB B)) (F0 m 10 ls []))    (hH : HS D B Y w s H locs) (hl : lv_has ls 6 [(0, .ref (B + 713)), (1, .int v1), (2, .long v2), (4, .int v4)]) (hf : g_X11_word_10 rc_10 v1 v2 v4 w = some z) : W p l e (RM 1 0 0) s m args below meth c H locs 0 0 (MQ below (QG D B Y (some (.long z.1)) z.2 True) args s 0 0 (AB B)) (F0 m 10 ls []) := by
  have hx := C.1
  have hb := C.2.1
  unfold g_X11_word_10 at hf
  refine lv_iload hx hb dX11_word_10 (lv_at hl 3 rfl) ?_
  refine lv_bipush (v := (8 : Int32)) hx hb dX11_word_12 (by decide) ?_
  refine b_icmp_ge (tgt := 72) hx hb hf dX11_word_14 (by decide) (fun hf => ?_) (fun hf => ?_)
  · refine lv_lload_n hx hb dX11_word_72 rfl (lv_at hl 2 rfl) ?_
    cases hf
    exact q_retl C hH trivial dX11_word_73
  · refine lv_iload_n hx hb dX11_word_17 rfl (lv_at hl 1 rfl) ?_
    refine lv_iconst (v := (0 : Int32)) hx hb dX11_word_18 (by decide) ?_
    refine lv_bipush (v := (25 : Int32)) hx hb dX11_word_19 (by decide) ?_
    obtain ⟨x2, w1, hc, hf⟩ := bd_some hf
    refine q_callS1 (v := .int x2) (As := [.int v1, .int (0 : Int32), .int (25 : Int32)]) C hH gk_X11_111 yd_X11_in (by omega) (by omega) (c_X11_in hc) hl.1 rfl (Nat.le_of_ble_eq_true rfl) dX11_word_21 ⟨by decide, by decide⟩ (fun H locs hH z_x2 => ?_)
    refine b_if_eq (tgt := 72) hx hb hf dX11_word_24 (by decide) (fun hf => ?_) (fun hf => ?_)
    · refine lv_lload_n hx hb dX11_word_72 rfl (lv_at hl 2 rfl) ?_
      cases hf
      exact q_retl C hH trivial dX11_word_73
    · refine lv_bipush (v := (8 : Int32)) hx hb dX11_word_27 (by decide) ?_
      refine lv_iload_n hx hb dX11_word_29 rfl (lv_at hl 1 rfl) ?_
      refine lv_imul hx hb dX11_word_30 ?_
      refine lv_iload hx hb dX11_word_31 (lv_at hl 3 rfl) ?_
      refine lv_iadd hx hb dX11_word_33 ?_
      refine b_leti hf (fun x3 hf => ?_)
      refine lv_istore (lv' := [(5, .int x3), (0, .ref (B + 713)), (1, .int v1), (2, .long v2), (4, .int v4)]) hx hb dX11_word_34 hl (by decide) rfl (fun ls hl => ?_)
      refine lv_lload_n hx hb dX11_word_36 rfl (lv_at hl 3 rfl) ?_
      refine lv_iload hx hb dX11_word_37 (lv_at hl 0 rfl) ?_
      refine lv_aload_n hx hb dX11_word_39 rfl (lv_at hl 1 rfl) ?_
      refine fg_X11_338 C hH dX11_word_40 ?_
      refine b_icmp_ge (tgt := 63) hx hb hf dX11_word_43 (by decide) (fun hf => ?_) (fun hf => ?_)
      · refine lv_lconst (v := (0 : Int64)) hx hb dX11_word_63 (by decide) ?_
        exact t_X11_word_64 C hr_10 hH (lv_sub hl [1, 2, 4] rfl) hf
      · refine lv_aload_n hx hb dX11_word_46 rfl (lv_at hl 1 rfl) ?_
        refine fg_X11_25 C hH dX11_word_47 ?_
        refine lv_iload hx hb dX11_word_50 (lv_at hl 0 rfl) ?_
        refine g_iald C hH kc_719 hf dX11_word_52 (fun x4 hf => ?_)
        refine lv_i2l (v := x4.toInt64) hx hb dX11_word_53 rfl ?_
        refine lv_bipush (v := (8 : Int32)) hx hb dX11_word_54 (by decide) ?_
        refine lv_iload hx hb dX11_word_56 (lv_at hl 4 rfl) ?_
        refine lv_imul hx hb dX11_word_58 ?_
        refine lv_lshl (v := x4.toInt64 <<< (((8 : Int32) * v4).toInt64 &&& 63)) hx hb dX11_word_59 rfl ?_
        refine lv_goto (tgt := 64) hx hb dX11_word_60 (by decide) ?_
        exact t_X11_word_64 C hr_10 hH (lv_sub hl [1, 2, 4] rfl) hf
set_option maxRecDepth 100000 in
set_option maxHeartbeats 4000000 in
theorem t_X11_word_10 {D : va_G} {B : Nat} {Y : Nat → ClassId} {p : Program} {l : Launch} {e : Env} {s : State} {m : MethodId} {args : Array Value} {below : List Frame} {meth : Method} {c : Code} {z : (Int64 × Wd)} {H : Heap} {locs : List Loc} {ls : Array Slot} {w : Wd} {v1 : Int32} {v2 : Int64} {v4 : Int32} (C : CX D B Y p s m args meth c cX11_word 6 RX11 (some .long))     (hH : HS D B Y w s H locs) (hl : lv_has ls 6 [(0, .ref (B + 713)), (1, .int v1), (2, .long v2), (4, .int v4)]) (hf : f_X11_word_10 v1 v2 v4 w = some z) : W p l e (RM 1 0 0) s m args below meth c H locs 0 0 (MQ below (QG D B Y (some (.long z.1)) z.2 True) args s 0 0 (AB B)) (F0 m 10 ls []) := by
  exact loopN_ind (z := z) (body := fun rc σ => g_X11_word_10 rc  σ.1 σ.2.1 σ.2.2.1 σ.2.2.2)
    (P := fun σ => ∀ (H : Heap) (locs : List Loc) (ls : Array Slot), HS D B Y σ.2.2.2 s H locs → lv_has ls 6 [(0, .ref (B + 713)), (1, .int σ.1), (2, .long σ.2.1), (4, .int σ.2.2.1)] → W p l e (RM 1 0 0) s m args below meth c H locs 0 0 (MQ below (QG D B Y (some (.long z.1)) z.2 True) args s 0 0 (AB B)) (F0 m 10 ls []))
    (fun rc hrec σ hf  H locs ls hH hl => tb_X11_word_10 C (fun v1 v2 v4 w hr  H locs ls hH hl => hrec (v1, v2, v4, w) hr  H locs ls hH hl)   hH hl hf) FU (v1, v2, v4, w) hf  H locs ls hH hl
set_option maxRecDepth 100000 in
set_option maxHeartbeats 4000000 in
theorem t_X11_word_0 {D : va_G} {B : Nat} {Y : Nat → ClassId} {p : Program} {l : Launch} {e : Env} {s : State} {m : MethodId} {args : Array Value} {below : List Frame} {meth : Method} {c : Code} {z : (Int64 × Wd)} {H : Heap} {locs : List Loc} {ls : Array Slot} {w : Wd} {v1 : Int32} (C : CX D B Y p s m args meth c cX11_word 6 RX11 (some .long))     (hH : HS D B Y w s H locs) (hl : lv_has ls 6 [(0, .ref (B + 713)), (1, .int v1)]) (hf : f_X11_word v1 w = some z) : W p l e (RM 1 0 0) s m args below meth c H locs 0 0 (MQ below (QG D B Y (some (.long z.1)) z.2 True) args s 0 0 (AB B)) (F0 m 0 ls []) := by
  have hx := C.1
  have hb := C.2.1
  unfold f_X11_word at hf
  refine lv_aload_n hx hb dX11_word_0 rfl (lv_at hl 0 rfl) ?_
  refine lv_iconst (v := (0 : Int32)) hx hb dX11_word_1 (by decide) ?_
  refine fp_X11_107 C hH dX11_word_2 (fun H locs hH => ?_)
  refine b_w hf hH (fun w1 hf hH => ?_)
  refine lv_lconst (v := (0 : Int64)) hx hb dX11_word_5 (by decide) ?_
  refine lv_lstore_n (lv' := [(2, .long (0 : Int64)), (0, .ref (B + 713)), (1, .int v1)]) hx hb dX11_word_6 rfl hl (by decide) rfl (fun ls hl => ?_)
  refine lv_iconst (v := (0 : Int32)) hx hb dX11_word_7 (by decide) ?_
  refine lv_istore (lv' := [(4, .int (0 : Int32)), (2, .long (0 : Int64)), (0, .ref (B + 713)), (1, .int v1)]) hx hb dX11_word_8 hl (by decide) rfl (fun ls hl => ?_)
  exact t_X11_word_10 C hH (lv_sub hl [2, 3, 1, 0] rfl) hf
set_option maxRecDepth 100000 in
theorem c_X11_word {l : Launch} {D : va_G} {B : Nat} {Y : Nat → ClassId} {v1 : Int32} {w : Wd} {r : Int64} {w1 : Wd}   (hf : f_X11_word v1 w = some (r, w1)) : CM l D B Y yX11_word cX11_word 6 (some .long) 1 [.ref (B + 713), .int v1] w (some (.long r)) w1 True :=
  CM_of (by decide +kernel) (Nat.le_of_ble_eq_true rfl) (fun p e s m args below meth c ls C hH hl => t_X11_word_0 C  hH (lv_sub hl [0, 1] rfl) hf)
/-! LetterTablesModel.encode -/
set_option maxRecDepth 100000 in
set_option maxHeartbeats 4000000 in
theorem t_X11_encode_88 {D : va_G} {B : Nat} {Y : Nat → ClassId} {p : Program} {l : Launch} {e : Env} {s : State} {m : MethodId} {args : Array Value} {below : List Frame} {meth : Method} {c : Code} {z : (Int32 × Wd)} {H : Heap} {locs : List Loc} {ls : Array Slot} {w : Wd} {v1 : Int32} {v2 : Int32} {v3 : Int32} {v4 : Int32} (C : CX D B Y p s m args meth c cX11_encode 6 RX11 (some .int))  {rc_30 : Int32 × Int32 × Int32 × Wd → Option (Int32 × Wd)} (hr_30 : ∀ (v1 : Int32) (v2 : Int32) (v3 : Int32) (w : Wd), rc_30 (v1, v2, v3, w) = some z → isZ v2 → ∀ (H : Heap) (locs : List Loc) (ls : Array Slot), HS D B Y w s H locs → lv_has ls 6 [(0, .ref (B + 713)), (1, .int v1), (2, .int v2), (3, .int v3)] → W p l e (RM 2 0 0) s m args below meth c H locs 0 0 (MQ below (QG D B Y (some (.int z.1)) z.2 True) args s 0 0 (AB B)) (F0 m 30 ls []))   (z_v2 : isZ v2) (hH : HS D B Y w s H locs) (hl : lv_has ls 6 [(0, .ref (B + 713)), (1, .int v1), (2, .int v2), (3, .int v3), (4, .int v4)]) (hf : f_X11_encode_88 rc_30 v1 v2 v3 v4 w = some z) : W p l e (RM 2 0 0) s m args below meth c H locs 0 0 (MQ below (QG D B Y (some (.int z.1)) z.2 True) args s 0 0 (AB B)) (F0 m 88 ls []) := by
  have hx := C.1
  have hb := C.2.1
  unfold f_X11_encode_88 at hf
  refine lv_aload_n hx hb dX11_encode_88 rfl (lv_at hl 0 rfl) ?_
  refine lv_bipush (v := (32 : Int32)) hx hb dX11_encode_89 (by decide) ?_
  refine lv_iload hx hb dX11_encode_91 (lv_at hl 4 rfl) ?_
  refine lv_bipush (v := (64 : Int32)) hx hb dX11_encode_93 (by decide) ?_
  refine lv_irem hx hb dX11_encode_95 (by decide) ?_
  refine lv_iadd hx hb dX11_encode_96 ?_
  obtain ⟨u, w1, hc, hf⟩ := bd_some hf
  refine q_callV0 (As := [.int ((32 : Int32) + (v4 - v4 / (64 : Int32) * (64 : Int32)))]) C hH (ci := 11) rfl (by omega) gk_X11_341 yd_X11_puts (by omega) (by omega) kc_713 (c_X11_puts hc) hl.1 rfl (Nat.le_of_ble_eq_true rfl) dX11_encode_97 ⟨by decide, by decide⟩ (fun H locs hH hP => ?_)
  refine b_let hf (fun x2 he hf => ?_)
  refine lv_iinc (v := x2) (lv' := [(3, .int x2), (0, .ref (B + 713)), (1, .int v1), (2, .int v2), (4, .int v4)]) hx hb dX11_encode_100 hl (k := 3) rfl (by rw [← he]; rfl) (by decide) rfl (fun ls hl => ?_)
  refine lv_goto (tgt := 30) hx hb dX11_encode_103 (by decide) ?_
  exact hr_30 v1 v2 x2 w1 hf z_v2 _ _ _ hH (lv_sub hl [1, 2, 3, 0] rfl)
set_option maxRecDepth 100000 in
set_option maxHeartbeats 4000000 in
theorem t_X11_encode_82 {D : va_G} {B : Nat} {Y : Nat → ClassId} {p : Program} {l : Launch} {e : Env} {s : State} {m : MethodId} {args : Array Value} {below : List Frame} {meth : Method} {c : Code} {z : (Int32 × Wd)} {H : Heap} {locs : List Loc} {ls : Array Slot} {w : Wd} {v1 : Int32} {v3 : Int32} {v4 : Int32} {v5 : Int32} {t1 : Int32} (C : CX D B Y p s m args meth c cX11_encode 6 RX11 (some .int))  {rc_30 : Int32 × Int32 × Int32 × Wd → Option (Int32 × Wd)} (hr_30 : ∀ (v1 : Int32) (v2 : Int32) (v3 : Int32) (w : Wd), rc_30 (v1, v2, v3, w) = some z → isZ v2 → ∀ (H : Heap) (locs : List Loc) (ls : Array Slot), HS D B Y w s H locs → lv_has ls 6 [(0, .ref (B + 713)), (1, .int v1), (2, .int v2), (3, .int v3)] → W p l e (RM 2 0 0) s m args below meth c H locs 0 0 (MQ below (QG D B Y (some (.int z.1)) z.2 True) args s 0 0 (AB B)) (F0 m 30 ls []))   (z_v5 : isZ v5) (hH : HS D B Y w s H locs) (hl : lv_has ls 6 [(0, .ref (B + 713)), (1, .int v1), (3, .int v3), (4, .int v4), (5, .int v5)]) (hf : f_X11_encode_82 rc_30 v1 v3 v4 v5 t1 w = some z) : W p l e (RM 2 0 0) s m args below meth c H locs 0 0 (MQ below (QG D B Y (some (.int z.1)) z.2 True) args s 0 0 (AB B)) (F0 m 82 ls [.int t1, .ref (B + 713)]) := by
  have hx := C.1
  have hb := C.2.1
  unfold f_X11_encode_82 at hf
  obtain ⟨u, w1, hc, hf⟩ := bd_some hf
  refine q_callV0 (As := [.int t1]) C hH (ci := 11) rfl (by omega) gk_X11_341 yd_X11_puts (by omega) (by omega) kc_713 (c_X11_puts hc) hl.1 rfl (Nat.le_of_ble_eq_true rfl) dX11_encode_82 ⟨by decide, by decide⟩ (fun H locs hH hP => ?_)
  refine lv_iload hx hb dX11_encode_85 (lv_at hl 4 rfl) ?_
  refine lv_istore_n (lv' := [(2, .int v5), (0, .ref (B + 713)), (1, .int v1), (3, .int v3), (4, .int v4), (5, .int v5)]) hx hb dX11_encode_87 rfl hl (by decide) rfl (fun ls hl => ?_)
  exact t_X11_encode_88 C hr_30 z_v5 hH (lv_sub hl [1, 2, 0, 3, 4] rfl) hf
set_option maxRecDepth 100000 in
set_option maxHeartbeats 4000000 in
theorem t_X11_encode_60 {D : va_G} {B : Nat} {Y : Nat → ClassId} {p : Program} {l : Launch} {e : Env} {s : State} {m : MethodId} {args : Array Value} {below : List Frame} {meth : Method} {c : Code} {z : (Int32 × Wd)} {H : Heap} {locs : List Loc} {ls : Array Slot} {w : Wd} {v1 : Int32} {v2 : Int32} {v3 : Int32} {v4 : Int32} {t0 : Int32} (C : CX D B Y p s m args meth c cX11_encode 6 RX11 (some .int))  {rc_30 : Int32 × Int32 × Int32 × Wd → Option (Int32 × Wd)} (hr_30 : ∀ (v1 : Int32) (v2 : Int32) (v3 : Int32) (w : Wd), rc_30 (v1, v2, v3, w) = some z → isZ v2 → ∀ (H : Heap) (locs : List Loc) (ls : Array Slot), HS D B Y w s H locs → lv_has ls 6 [(0, .ref (B + 713)), (1, .int v1), (2, .int v2), (3, .int v3)] → W p l e (RM 2 0 0) s m args below meth c H locs 0 0 (MQ below (QG D B Y (some (.int z.1)) z.2 True) args s 0 0 (AB B)) (F0 m 30 ls []))   (z_v2 : isZ v2) (z_t0 : isZ t0) (hH : HS D B Y w s H locs) (hl : lv_has ls 6 [(0, .ref (B + 713)), (1, .int v1), (2, .int v2), (3, .int v3), (4, .int v4)]) (hf : f_X11_encode_60 rc_30 v1 v2 v3 v4 t0 w = some z) : W p l e (RM 2 0 0) s m args below meth c H locs 0 0 (MQ below (QG D B Y (some (.int z.1)) z.2 True) args s 0 0 (AB B)) (F0 m 60 ls [.int t0]) := by
  have hx := C.1
  have hb := C.2.1
  unfold f_X11_encode_60 at hf
  refine lv_istore (lv' := [(5, .int t0), (0, .ref (B + 713)), (1, .int v1), (2, .int v2), (3, .int v3), (4, .int v4)]) hx hb dX11_encode_60 hl (by decide) rfl (fun ls hl => ?_)
  refine lv_iload hx hb dX11_encode_62 (lv_at hl 0 rfl) ?_
  refine lv_iload_n hx hb dX11_encode_64 rfl (lv_at hl 3 rfl) ?_
  refine b_icmp_eq (tgt := 88) hx hb hf dX11_encode_65 (by decide) (fun hf => ?_) (fun hf => ?_)
  · exact t_X11_encode_88 C hr_30 z_v2 hH (lv_sub hl [1, 2, 3, 4, 5] rfl) hf
  · refine lv_aload_n hx hb dX11_encode_68 rfl (lv_at hl 1 rfl) ?_
    refine lv_iload hx hb dX11_encode_69 (lv_at hl 0 rfl) ?_
    refine lv_iconst (v := (1 : Int32)) hx hb dX11_encode_71 (by decide) ?_
    refine b_icmp_ne (tgt := 80) hx hb hf dX11_encode_72 (by decide) (fun hf => ?_) (fun hf => ?_)
    · refine lv_bipush (v := (15 : Int32)) hx hb dX11_encode_80 (by decide) ?_
      exact t_X11_encode_82 C hr_30 z_t0 hH (lv_sub hl [1, 2, 4, 5, 0] rfl) hf
    · refine lv_bipush (v := (14 : Int32)) hx hb dX11_encode_75 (by decide) ?_
      refine lv_goto (tgt := 82) hx hb dX11_encode_77 (by decide) ?_
      exact t_X11_encode_82 C hr_30 z_t0 hH (lv_sub hl [1, 2, 4, 5, 0] rfl) hf
set_option maxRecDepth 100000 in
set_option maxHeartbeats 4000000 in
theorem tb_X11_encode_30 {D : va_G} {B : Nat} {Y : Nat → ClassId} {p : Program} {l : Launch} {e : Env} {s : State} {m : MethodId} {args : Array Value} {below : List Frame} {meth : Method} {c : Code} {z : (Int32 × Wd)} {H : Heap} {locs : List Loc} {ls : Array Slot} {w : Wd} {v1 : Int32} {v2 : Int32} {v3 : Int32} (C : CX D B Y p s m args meth c cX11_encode 6 RX11 (some .int))  {rc_30 : Int32 × Int32 × Int32 × Wd → Option (Int32 × Wd)} (hr_30 : ∀ (v1 : Int32) (v2 : Int32) (v3 : Int32) (w : Wd), rc_30 (v1, v2, v3, w) = some z → isZ v2 → ∀ (H : Heap) (locs : List Loc) (ls : Array Slot), HS D B Y w s H locs → lv_has ls 6 [(0, .ref (B + 713)), (1, .int v1), (2, .int v2), (3, .int v3)] → W p l e (RM 2 0 0) s m args below meth c H locs 0 0 (MQ below (QG D B Y (some (.int z.1)) z.2 True) args s 0 0 (AB B)) (F0 m 30 ls []))   (z_v2 : isZ v2) (hH : HS D B Y w s H locs) (hl : lv_has ls 6 [(0, .ref (B + 713)), (1, .int v1), (2, .int v2), (3, .int v3)]) (hf : g_X11_encode_30 rc_30 v1 v2 v3 w = some z) : W p l e (RM 2 0 0) s m args below meth c H locs 0 0 (MQ below (QG D B Y (some (.int z.1)) z.2 True) args s 0 0 (AB B)) (F0 m 30 ls []) := by
  have hx := C.1
  have hb := C.2.1
  unfold g_X11_encode_30 at hf
  refine lv_iload_n hx hb dX11_encode_30 rfl (lv_at hl 3 rfl) ?_
  refine lv_aload_n hx hb dX11_encode_31 rfl (lv_at hl 0 rfl) ?_
  refine fg_X11_19 C hH dX11_encode_32 ?_
  refine lv_iload_n hx hb dX11_encode_35 rfl (lv_at hl 1 rfl) ?_
  refine g_iald C hH kc_717 hf dX11_encode_36 (fun x1 hf => ?_)
  refine b_icmp_ge (tgt := 106) hx hb hf dX11_encode_37 (by decide) (fun hf => ?_) (fun hf => ?_)
  · refine lv_iload_n hx hb dX11_encode_106 rfl (lv_at hl 2 rfl) ?_
    refine lv_iconst (v := (1 : Int32)) hx hb dX11_encode_107 (by decide) ?_
    refine b_icmp_ne (tgt := 117) hx hb hf dX11_encode_108 (by decide) (fun hf => ?_) (fun hf => ?_)
    · refine lv_aload_n hx hb dX11_encode_117 rfl (lv_at hl 0 rfl) ?_
      refine fg_X11_338 C hH dX11_encode_118 ?_
      cases hf
      exact q_reti C hH trivial dX11_encode_121
    · refine lv_aload_n hx hb dX11_encode_111 rfl (lv_at hl 0 rfl) ?_
      refine lv_bipush (v := (15 : Int32)) hx hb dX11_encode_112 (by decide) ?_
      obtain ⟨u, w2, hc, hf⟩ := bd_some hf
      refine q_callV0 (As := [.int (15 : Int32)]) C hH (ci := 11) rfl (by omega) gk_X11_341 yd_X11_puts (by omega) (by omega) kc_713 (c_X11_puts hc) hl.1 rfl (Nat.le_of_ble_eq_true rfl) dX11_encode_114 ⟨by decide, by decide⟩ (fun H locs hH hP => ?_)
      refine lv_aload_n hx hb dX11_encode_117 rfl (lv_at hl 0 rfl) ?_
      refine fg_X11_338 C hH dX11_encode_118 ?_
      cases hf
      exact q_reti C hH trivial dX11_encode_121
  · refine lv_aload_n hx hb dX11_encode_40 rfl (lv_at hl 0 rfl) ?_
    refine lv_iload_n hx hb dX11_encode_41 rfl (lv_at hl 1 rfl) ?_
    refine lv_iload_n hx hb dX11_encode_42 rfl (lv_at hl 3 rfl) ?_
    obtain ⟨x4, w3, hc, hf⟩ := bd_some hf
    refine q_callV1 (v := .int x4) (As := [.int v1, .int v3]) C hH (ci := 11) rfl (by omega) gk_X11_148 yd_X11_letterAt (by omega) (by omega) kc_713 (c_X11_letterAt hc) hl.1 rfl (Nat.le_of_ble_eq_true rfl) dX11_encode_43 ⟨by decide, by decide⟩ (fun H locs hH hP => ?_)
    refine lv_istore (lv' := [(4, .int x4), (0, .ref (B + 713)), (1, .int v1), (2, .int v2), (3, .int v3)]) hx hb dX11_encode_46 hl (by decide) rfl (fun ls hl => ?_)
    refine lv_iload hx hb dX11_encode_48 (lv_at hl 0 rfl) ?_
    refine lv_bipush (v := (63 : Int32)) hx hb dX11_encode_50 (by decide) ?_
    refine b_icmp_le (tgt := 59) hx hb hf dX11_encode_52 (by decide) (fun hf => ?_) (fun hf => ?_)
    · refine lv_iconst (v := (0 : Int32)) hx hb dX11_encode_59 (by decide) ?_
      exact t_X11_encode_60 C hr_30 z_v2 isZ_0 hH (lv_sub hl [1, 2, 3, 4, 0] rfl) hf
    · refine lv_iconst (v := (1 : Int32)) hx hb dX11_encode_55 (by decide) ?_
      refine lv_goto (tgt := 60) hx hb dX11_encode_56 (by decide) ?_
      exact t_X11_encode_60 C hr_30 z_v2 isZ_1 hH (lv_sub hl [1, 2, 3, 4, 0] rfl) hf
set_option maxRecDepth 100000 in
set_option maxHeartbeats 4000000 in
theorem t_X11_encode_30 {D : va_G} {B : Nat} {Y : Nat → ClassId} {p : Program} {l : Launch} {e : Env} {s : State} {m : MethodId} {args : Array Value} {below : List Frame} {meth : Method} {c : Code} {z : (Int32 × Wd)} {H : Heap} {locs : List Loc} {ls : Array Slot} {w : Wd} {v1 : Int32} {v2 : Int32} {v3 : Int32} (C : CX D B Y p s m args meth c cX11_encode 6 RX11 (some .int))    (z_v2 : isZ v2) (hH : HS D B Y w s H locs) (hl : lv_has ls 6 [(0, .ref (B + 713)), (1, .int v1), (2, .int v2), (3, .int v3)]) (hf : f_X11_encode_30 v1 v2 v3 w = some z) : W p l e (RM 2 0 0) s m args below meth c H locs 0 0 (MQ below (QG D B Y (some (.int z.1)) z.2 True) args s 0 0 (AB B)) (F0 m 30 ls []) := by
  exact loopN_ind (z := z) (body := fun rc σ => g_X11_encode_30 rc  σ.1 σ.2.1 σ.2.2.1 σ.2.2.2)
    (P := fun σ => isZ σ.2.1 → ∀ (H : Heap) (locs : List Loc) (ls : Array Slot), HS D B Y σ.2.2.2 s H locs → lv_has ls 6 [(0, .ref (B + 713)), (1, .int σ.1), (2, .int σ.2.1), (3, .int σ.2.2.1)] → W p l e (RM 2 0 0) s m args below meth c H locs 0 0 (MQ below (QG D B Y (some (.int z.1)) z.2 True) args s 0 0 (AB B)) (F0 m 30 ls []))
    (fun rc hrec σ hf z_v2 H locs ls hH hl => tb_X11_encode_30 C (fun v1 v2 v3 w hr z_v2 H locs ls hH hl => hrec (v1, v2, v3, w) hr z_v2 H locs ls hH hl)  z_v2 hH hl hf) FU (v1, v2, v3, w) hf z_v2 H locs ls hH hl
set_option maxRecDepth 100000 in
set_option maxHeartbeats 4000000 in
theorem t_X11_encode_13 {D : va_G} {B : Nat} {Y : Nat → ClassId} {p : Program} {l : Launch} {e : Env} {s : State} {m : MethodId} {args : Array Value} {below : List Frame} {meth : Method} {c : Code} {z : (Int32 × Wd)} {H : Heap} {locs : List Loc} {ls : Array Slot} {w : Wd} {v1 : Int32} {t1 : Int32} (C : CX D B Y p s m args meth c cX11_encode 6 RX11 (some .int))    (z_t1 : isZ t1) (hH : HS D B Y w s H locs) (hl : lv_has ls 6 [(0, .ref (B + 713)), (1, .int v1)]) (hf : f_X11_encode_13 v1 t1 w = some z) : W p l e (RM 2 0 0) s m args below meth c H locs 0 0 (MQ below (QG D B Y (some (.int z.1)) z.2 True) args s 0 0 (AB B)) (F0 m 13 ls [.int t1, .ref (B + 713)]) := by
  have hx := C.1
  have hb := C.2.1
  unfold f_X11_encode_13 at hf
  obtain ⟨x2, w1, hc, hf⟩ := bd_some hf
  refine q_callV1 (v := .int x2) (As := [.int t1]) C hH (ci := 11) rfl (by omega) gk_X11_118 yd_X11_holds (by omega) (by omega) kc_713 (c_X11_holds hc) hl.1 rfl (Nat.le_of_ble_eq_true rfl) dX11_encode_13 ⟨by decide, by decide⟩ (fun H locs hH z_x2 => ?_)
  refine b_if_ne (tgt := 21) hx hb hf dX11_encode_16 (by decide) (fun hf => ?_) (fun hf => ?_)
  · refine lv_aload_n hx hb dX11_encode_21 rfl (lv_at hl 0 rfl) ?_
    refine lv_iconst (v := (0 : Int32)) hx hb dX11_encode_22 (by decide) ?_
    refine fp_X11_338 C hH dX11_encode_23 (fun H locs hH => ?_)
    refine b_w hf hH (fun w3 hf hH => ?_)
    refine lv_iconst (v := (0 : Int32)) hx hb dX11_encode_26 (by decide) ?_
    refine lv_istore_n (lv' := [(2, .int (0 : Int32)), (0, .ref (B + 713)), (1, .int v1)]) hx hb dX11_encode_27 rfl hl (by decide) rfl (fun ls hl => ?_)
    refine lv_iconst (v := (0 : Int32)) hx hb dX11_encode_28 (by decide) ?_
    refine lv_istore_n (lv' := [(3, .int (0 : Int32)), (2, .int (0 : Int32)), (0, .ref (B + 713)), (1, .int v1)]) hx hb dX11_encode_29 rfl hl (by decide) rfl (fun ls hl => ?_)
    exact t_X11_encode_30 C isZ_0 hH (lv_sub hl [2, 3, 1, 0] rfl) hf
  · refine lv_iconst (v := (0 : Int32)) hx hb dX11_encode_19 (by decide) ?_
    cases hf
    exact q_reti C hH trivial dX11_encode_20
set_option maxRecDepth 100000 in
set_option maxHeartbeats 4000000 in
theorem t_X11_encode_0 {D : va_G} {B : Nat} {Y : Nat → ClassId} {p : Program} {l : Launch} {e : Env} {s : State} {m : MethodId} {args : Array Value} {below : List Frame} {meth : Method} {c : Code} {z : (Int32 × Wd)} {H : Heap} {locs : List Loc} {ls : Array Slot} {w : Wd} {v1 : Int32} (C : CX D B Y p s m args meth c cX11_encode 6 RX11 (some .int))     (hH : HS D B Y w s H locs) (hl : lv_has ls 6 [(0, .ref (B + 713)), (1, .int v1)]) (hf : f_X11_encode v1 w = some z) : W p l e (RM 2 0 0) s m args below meth c H locs 0 0 (MQ below (QG D B Y (some (.int z.1)) z.2 True) args s 0 0 (AB B)) (F0 m 0 ls []) := by
  have hx := C.1
  have hb := C.2.1
  unfold f_X11_encode at hf
  refine lv_aload_n hx hb dX11_encode_0 rfl (lv_at hl 0 rfl) ?_
  refine lv_iload_n hx hb dX11_encode_1 rfl (lv_at hl 1 rfl) ?_
  obtain ⟨x2, w1, hc, hf⟩ := bd_some hf
  refine q_callS1 (v := .int x2) (As := [.int v1]) C hH gk_X11_145 yd_X11_isSlot (by omega) (by omega) (c_X11_isSlot hc) hl.1 rfl (Nat.le_of_ble_eq_true rfl) dX11_encode_2 ⟨by decide, by decide⟩ (fun H locs hH z_x2 => ?_)
  refine b_if_eq (tgt := 12) hx hb hf dX11_encode_5 (by decide) (fun hf => ?_) (fun hf => ?_)
  · refine lv_iconst (v := (1 : Int32)) hx hb dX11_encode_12 (by decide) ?_
    exact t_X11_encode_13 C isZ_1 hH (lv_sub hl [0, 1] rfl) hf
  · refine lv_iconst (v := (0 : Int32)) hx hb dX11_encode_8 (by decide) ?_
    refine lv_goto (tgt := 13) hx hb dX11_encode_9 (by decide) ?_
    exact t_X11_encode_13 C isZ_0 hH (lv_sub hl [0, 1] rfl) hf
set_option maxRecDepth 100000 in
theorem c_X11_encode {l : Launch} {D : va_G} {B : Nat} {Y : Nat → ClassId} {v1 : Int32} {w : Wd} {r : Int32} {w1 : Wd}   (hf : f_X11_encode v1 w = some (r, w1)) : CM l D B Y yX11_encode cX11_encode 6 (some .int) 2 [.ref (B + 713), .int v1] w (some (.int r)) w1 True :=
  CM_of (by decide +kernel) (Nat.le_of_ble_eq_true rfl) (fun p e s m args below meth c ls C hH hl => t_X11_encode_0 C  hH (lv_sub hl [0, 1] rfl) hf)
/-! LetterTablesModel.decodes -/
set_option maxRecDepth 100000 in
set_option maxHeartbeats 4000000 in
theorem t_X11_decodes_44 {D : va_G} {B : Nat} {Y : Nat → ClassId} {p : Program} {l : Launch} {e : Env} {s : State} {m : MethodId} {args : Array Value} {below : List Frame} {meth : Method} {c : Code} {z : (Int32 × Wd)} {H : Heap} {locs : List Loc} {ls : Array Slot} {w : Wd} {v1 : Int32} {v2 : Int32} {v4 : Int32} {v5 : Int32} {v6 : Int32} (C : CX D B Y p s m args meth c cX11_decodes 8 RX11 (some .int))  {rc_11 : Int32 × Int32 × Int32 × Int32 × Int32 × Int32 × Wd → Option (Int32 × Wd)} (hr_11 : ∀ (v1 : Int32) (v2 : Int32) (v3 : Int32) (v4 : Int32) (v5 : Int32) (v6 : Int32) (w : Wd), rc_11 (v1, v2, v3, v4, v5, v6, w) = some z → isZ v2 → isZ v3 → ∀ (H : Heap) (locs : List Loc) (ls : Array Slot), HS D B Y w s H locs → lv_has ls 8 [(0, .ref (B + 713)), (1, .int v1), (2, .int v2), (3, .int v3), (4, .int v4), (5, .int v5), (6, .int v6)] → W p l e (RM 1 0 0) s m args below meth c H locs 0 0 (MQ below (QG D B Y (some (.int z.1)) z.2 True) args s 0 0 (AB B)) (F0 m 11 ls []))   (z_v2 : isZ v2) (hH : HS D B Y w s H locs) (hl : lv_has ls 8 [(0, .ref (B + 713)), (1, .int v1), (2, .int v2), (4, .int v4), (5, .int v5), (6, .int v6)]) (hf : f_X11_decodes_44 rc_11 v1 v2 v4 v5 v6 w = some z) : W p l e (RM 1 0 0) s m args below meth c H locs 0 0 (MQ below (QG D B Y (some (.int z.1)) z.2 True) args s 0 0 (AB B)) (F0 m 44 ls []) := by
  have hx := C.1
  have hb := C.2.1
  unfold f_X11_decodes_44 at hf
  refine lv_aload_n hx hb dX11_decodes_44 rfl (lv_at hl 0 rfl) ?_
  refine fg_X11_22 C hH dX11_decodes_45 ?_
  refine lv_iload hx hb dX11_decodes_48 (lv_at hl 5 rfl) ?_
  refine g_iald C hH kc_718 hf dX11_decodes_50 (fun x1 hf => ?_)
  refine lv_bipush (v := (14 : Int32)) hx hb dX11_decodes_51 (by decide) ?_
  refine b_icmp_ne (tgt := 60) hx hb hf dX11_decodes_53 (by decide) (fun hf => ?_) (fun hf => ?_)
  · refine lv_iconst (v := (0 : Int32)) hx hb dX11_decodes_60 (by decide) ?_
    refine lv_istore_n (lv' := [(3, .int (0 : Int32)), (0, .ref (B + 713)), (1, .int v1), (2, .int v2), (4, .int v4), (5, .int v5), (6, .int v6)]) hx hb dX11_decodes_61 rfl hl (by decide) rfl (fun ls hl => ?_)
    refine lv_goto (tgt := 148) hx hb dX11_decodes_62 (by decide) ?_
    refine b_let hf (fun x2 he hf => ?_)
    refine lv_iinc (v := x2) (lv' := [(6, .int x2), (3, .int (0 : Int32)), (0, .ref (B + 713)), (1, .int v1), (2, .int v2), (4, .int v4), (5, .int v5)]) hx hb dX11_decodes_148 hl (k := 6) rfl (by rw [← he]; rfl) (by decide) rfl (fun ls hl => ?_)
    refine lv_goto (tgt := 11) hx hb dX11_decodes_151 (by decide) ?_
    exact hr_11 v1 v2 (0 : Int32) v4 v5 x2 w hf z_v2 isZ_0 _ _ _ hH (lv_sub hl [2, 3, 4, 1, 5, 6, 0] rfl)
  · refine lv_iconst (v := (1 : Int32)) hx hb dX11_decodes_56 (by decide) ?_
    refine lv_goto (tgt := 61) hx hb dX11_decodes_57 (by decide) ?_
    refine lv_istore_n (lv' := [(3, .int (1 : Int32)), (0, .ref (B + 713)), (1, .int v1), (2, .int v2), (4, .int v4), (5, .int v5), (6, .int v6)]) hx hb dX11_decodes_61 rfl hl (by decide) rfl (fun ls hl => ?_)
    refine lv_goto (tgt := 148) hx hb dX11_decodes_62 (by decide) ?_
    refine b_let hf (fun x3 he hf => ?_)
    refine lv_iinc (v := x3) (lv' := [(6, .int x3), (3, .int (1 : Int32)), (0, .ref (B + 713)), (1, .int v1), (2, .int v2), (4, .int v4), (5, .int v5)]) hx hb dX11_decodes_148 hl (k := 6) rfl (by rw [← he]; rfl) (by decide) rfl (fun ls hl => ?_)
    refine lv_goto (tgt := 11) hx hb dX11_decodes_151 (by decide) ?_
    exact hr_11 v1 v2 (1 : Int32) v4 v5 x3 w hf z_v2 isZ_1 _ _ _ hH (lv_sub hl [2, 3, 4, 1, 5, 6, 0] rfl)
set_option maxRecDepth 100000 in
set_option maxHeartbeats 4000000 in
theorem t_X11_decodes_144 {D : va_G} {B : Nat} {Y : Nat → ClassId} {p : Program} {l : Launch} {e : Env} {s : State} {m : MethodId} {args : Array Value} {below : List Frame} {meth : Method} {c : Code} {z : (Int32 × Wd)} {H : Heap} {locs : List Loc} {ls : Array Slot} {w : Wd} {v1 : Int32} {v2 : Int32} {v3 : Int32} {v4 : Int32} {v5 : Int32} {v6 : Int32} {t0 : Nat} {t1 : Int32} {t2 : Int32} (C : CX D B Y p s m args meth c cX11_decodes 8 RX11 (some .int))  {rc_11 : Int32 × Int32 × Int32 × Int32 × Int32 × Int32 × Wd → Option (Int32 × Wd)} (hr_11 : ∀ (v1 : Int32) (v2 : Int32) (v3 : Int32) (v4 : Int32) (v5 : Int32) (v6 : Int32) (w : Wd), rc_11 (v1, v2, v3, v4, v5, v6, w) = some z → isZ v2 → isZ v3 → ∀ (H : Heap) (locs : List Loc) (ls : Array Slot), HS D B Y w s H locs → lv_has ls 8 [(0, .ref (B + 713)), (1, .int v1), (2, .int v2), (3, .int v3), (4, .int v4), (5, .int v5), (6, .int v6)] → W p l e (RM 1 0 0) s m args below meth c H locs 0 0 (MQ below (QG D B Y (some (.int z.1)) z.2 True) args s 0 0 (AB B)) (F0 m 11 ls []))  (k_t0 : KD t0 = 20) (z_v2 : isZ v2) (z_v3 : isZ v3) (hH : HS D B Y w s H locs) (hl : lv_has ls 8 [(0, .ref (B + 713)), (1, .int v1), (2, .int v2), (3, .int v3), (4, .int v4), (5, .int v5), (6, .int v6)]) (hf : f_X11_decodes_144 rc_11 v1 v2 v3 v4 v5 v6 t0 t1 t2 w = some z) : W p l e (RM 1 0 0) s m args below meth c H locs 0 0 (MQ below (QG D B Y (some (.int z.1)) z.2 True) args s 0 0 (AB B)) (F0 m 144 ls [.int t2, .int t1, .ref (B + t0)]) := by
  have hx := C.1
  have hb := C.2.1
  unfold f_X11_decodes_144 at hf
  refine g_iast C hH k_t0 hf dX11_decodes_144 (fun w1 H locs hf hH => ?_)
  refine b_let hf (fun x2 he hf => ?_)
  refine lv_iinc (v := x2) (lv' := [(4, .int x2), (0, .ref (B + 713)), (1, .int v1), (2, .int v2), (3, .int v3), (5, .int v5), (6, .int v6)]) hx hb dX11_decodes_145 hl (k := 4) rfl (by rw [← he]; rfl) (by decide) rfl (fun ls hl => ?_)
  refine b_let hf (fun x3 he hf => ?_)
  refine lv_iinc (v := x3) (lv' := [(6, .int x3), (4, .int x2), (0, .ref (B + 713)), (1, .int v1), (2, .int v2), (3, .int v3), (5, .int v5)]) hx hb dX11_decodes_148 hl (k := 6) rfl (by rw [← he]; rfl) (by decide) rfl (fun ls hl => ?_)
  refine lv_goto (tgt := 11) hx hb dX11_decodes_151 (by decide) ?_
  exact hr_11 v1 v2 v3 x2 v5 x3 w1 hf z_v2 z_v3 _ _ _ hH (lv_sub hl [2, 3, 4, 5, 1, 6, 0] rfl)
set_option maxRecDepth 100000 in
set_option maxHeartbeats 4000000 in
theorem t_X11_decodes_102 {D : va_G} {B : Nat} {Y : Nat → ClassId} {p : Program} {l : Launch} {e : Env} {s : State} {m : MethodId} {args : Array Value} {below : List Frame} {meth : Method} {c : Code} {z : (Int32 × Wd)} {H : Heap} {locs : List Loc} {ls : Array Slot} {w : Wd} {v1 : Int32} {v2 : Int32} {v3 : Int32} {v4 : Int32} {v6 : Int32} {v7 : Int32} {t0 : Int32} {t1 : Int32} (C : CX D B Y p s m args meth c cX11_decodes 8 RX11 (some .int))  {rc_11 : Int32 × Int32 × Int32 × Int32 × Int32 × Int32 × Wd → Option (Int32 × Wd)} (hr_11 : ∀ (v1 : Int32) (v2 : Int32) (v3 : Int32) (v4 : Int32) (v5 : Int32) (v6 : Int32) (w : Wd), rc_11 (v1, v2, v3, v4, v5, v6, w) = some z → isZ v2 → isZ v3 → ∀ (H : Heap) (locs : List Loc) (ls : Array Slot), HS D B Y w s H locs → lv_has ls 8 [(0, .ref (B + 713)), (1, .int v1), (2, .int v2), (3, .int v3), (4, .int v4), (5, .int v5), (6, .int v6)] → W p l e (RM 1 0 0) s m args below meth c H locs 0 0 (MQ below (QG D B Y (some (.int z.1)) z.2 True) args s 0 0 (AB B)) (F0 m 11 ls []))   (z_v2 : isZ v2) (z_v3 : isZ v3) (z_v7 : isZ v7) (z_t1 : isZ t1) (hH : HS D B Y w s H locs) (hl : lv_has ls 8 [(0, .ref (B + 713)), (1, .int v1), (2, .int v2), (3, .int v3), (4, .int v4), (6, .int v6), (7, .int v7)]) (hf : f_X11_decodes_102 rc_11 v1 v2 v3 v4 v6 v7 t0 t1 w = some z) : W p l e (RM 1 0 0) s m args below meth c H locs 0 0 (MQ below (QG D B Y (some (.int z.1)) z.2 True) args s 0 0 (AB B)) (F0 m 102 ls [.int t1, .int t0]) := by
  have hx := C.1
  have hb := C.2.1
  unfold f_X11_decodes_102 at hf
  refine lv_iadd hx hb dX11_decodes_102 ?_
  refine b_leti hf (fun x1 hf => ?_)
  refine lv_istore (lv' := [(5, .int x1), (0, .ref (B + 713)), (1, .int v1), (2, .int v2), (3, .int v3), (4, .int v4), (6, .int v6), (7, .int v7)]) hx hb dX11_decodes_103 hl (by decide) rfl (fun ls hl => ?_)
  refine lv_iload_n hx hb dX11_decodes_105 rfl (lv_at hl 3 rfl) ?_
  refine b_if_eq (tgt := 145) hx hb hf dX11_decodes_106 (by decide) (fun hf => ?_) (fun hf => ?_)
  · refine b_let hf (fun x2 he hf => ?_)
    refine lv_iinc (v := x2) (lv' := [(4, .int x2), (5, .int x1), (0, .ref (B + 713)), (1, .int v1), (2, .int v2), (3, .int v3), (6, .int v6), (7, .int v7)]) hx hb dX11_decodes_145 hl (k := 5) rfl (by rw [← he]; rfl) (by decide) rfl (fun ls hl => ?_)
    refine b_let hf (fun x3 he hf => ?_)
    refine lv_iinc (v := x3) (lv' := [(6, .int x3), (4, .int x2), (5, .int x1), (0, .ref (B + 713)), (1, .int v1), (2, .int v2), (3, .int v3), (7, .int v7)]) hx hb dX11_decodes_148 hl (k := 6) rfl (by rw [← he]; rfl) (by decide) rfl (fun ls hl => ?_)
    refine lv_goto (tgt := 11) hx hb dX11_decodes_151 (by decide) ?_
    exact hr_11 v1 v2 v3 x2 x1 x3 w hf z_v2 z_v3 _ _ _ hH (lv_sub hl [3, 4, 5, 6, 1, 2, 0] rfl)
  · refine lv_aload_n hx hb dX11_decodes_109 rfl (lv_at hl 1 rfl) ?_
    refine fg_X11_16 C hH dX11_decodes_110 ?_
    refine lv_bipush (v := (40 : Int32)) hx hb dX11_decodes_113 (by decide) ?_
    refine lv_iload_n hx hb dX11_decodes_115 rfl (lv_at hl 2 rfl) ?_
    refine lv_imul hx hb dX11_decodes_116 ?_
    refine lv_iload hx hb dX11_decodes_117 (lv_at hl 5 rfl) ?_
    refine lv_iadd hx hb dX11_decodes_119 ?_
    refine lv_iload hx hb dX11_decodes_120 (lv_at hl 7 rfl) ?_
    refine b_if_eq (tgt := 143) hx hb hf dX11_decodes_122 (by decide) (fun hf => ?_) (fun hf => ?_)
    · refine lv_iconst (v := (0 : Int32)) hx hb dX11_decodes_143 (by decide) ?_
      exact t_X11_decodes_144 C hr_11 kc_716 z_v2 z_v3 hH (lv_sub hl [1, 2, 3, 4, 5, 0, 6] rfl) hf
    · refine lv_aload_n hx hb dX11_decodes_125 rfl (lv_at hl 1 rfl) ?_
      refine fg_X11_22 C hH dX11_decodes_126 ?_
      refine lv_iload hx hb dX11_decodes_129 (lv_at hl 6 rfl) ?_
      refine g_iald C hH kc_718 hf dX11_decodes_131 (fun x4 hf => ?_)
      refine lv_bipush (v := (32 : Int32)) hx hb dX11_decodes_132 (by decide) ?_
      refine lv_isub hx hb dX11_decodes_134 ?_
      refine lv_bipush (v := (64 : Int32)) hx hb dX11_decodes_135 (by decide) ?_
      refine lv_iload_n hx hb dX11_decodes_137 rfl (lv_at hl 4 rfl) ?_
      refine lv_imul hx hb dX11_decodes_138 ?_
      refine lv_iadd hx hb dX11_decodes_139 ?_
      refine lv_goto (tgt := 144) hx hb dX11_decodes_140 (by decide) ?_
      exact t_X11_decodes_144 C hr_11 kc_716 z_v2 z_v3 hH (lv_sub hl [1, 2, 3, 4, 5, 0, 6] rfl) hf
set_option maxRecDepth 100000 in
set_option maxHeartbeats 4000000 in
theorem t_X11_decodes_85 {D : va_G} {B : Nat} {Y : Nat → ClassId} {p : Program} {l : Launch} {e : Env} {s : State} {m : MethodId} {args : Array Value} {below : List Frame} {meth : Method} {c : Code} {z : (Int32 × Wd)} {H : Heap} {locs : List Loc} {ls : Array Slot} {w : Wd} {v1 : Int32} {v2 : Int32} {v3 : Int32} {v4 : Int32} {v5 : Int32} {v6 : Int32} {t0 : Int32} {t1 : Int32} {t2 : Int32} (C : CX D B Y p s m args meth c cX11_decodes 8 RX11 (some .int))  {rc_11 : Int32 × Int32 × Int32 × Int32 × Int32 × Int32 × Wd → Option (Int32 × Wd)} (hr_11 : ∀ (v1 : Int32) (v2 : Int32) (v3 : Int32) (v4 : Int32) (v5 : Int32) (v6 : Int32) (w : Wd), rc_11 (v1, v2, v3, v4, v5, v6, w) = some z → isZ v2 → isZ v3 → ∀ (H : Heap) (locs : List Loc) (ls : Array Slot), HS D B Y w s H locs → lv_has ls 8 [(0, .ref (B + 713)), (1, .int v1), (2, .int v2), (3, .int v3), (4, .int v4), (5, .int v5), (6, .int v6)] → W p l e (RM 1 0 0) s m args below meth c H locs 0 0 (MQ below (QG D B Y (some (.int z.1)) z.2 True) args s 0 0 (AB B)) (F0 m 11 ls []))   (z_v2 : isZ v2) (z_v3 : isZ v3) (hH : HS D B Y w s H locs) (hl : lv_has ls 8 [(0, .ref (B + 713)), (1, .int v1), (2, .int v2), (3, .int v3), (4, .int v4), (5, .int v5), (6, .int v6)]) (hf : f_X11_decodes_85 rc_11 v1 v2 v3 v4 v5 v6 t0 t1 t2 w = some z) : W p l e (RM 1 0 0) s m args below meth c H locs 0 0 (MQ below (QG D B Y (some (.int z.1)) z.2 True) args s 0 0 (AB B)) (F0 m 85 ls [.int t2, .int t1, .int t0]) := by
  have hx := C.1
  have hb := C.2.1
  unfold f_X11_decodes_85 at hf
  obtain ⟨x2, w1, hc, hf⟩ := bd_some hf
  refine q_callS1 (v := .int x2) (As := [.int t0, .int t1, .int t2]) C hH gk_X11_111 yd_X11_in (by omega) (by omega) (c_X11_in hc) hl.1 rfl (Nat.le_of_ble_eq_true rfl) dX11_decodes_85 ⟨by decide, by decide⟩ (fun H locs hH z_x2 => ?_)
  refine lv_istore (lv' := [(7, .int x2), (0, .ref (B + 713)), (1, .int v1), (2, .int v2), (3, .int v3), (4, .int v4), (5, .int v5), (6, .int v6)]) hx hb dX11_decodes_88 hl (by decide) rfl (fun ls hl => ?_)
  refine lv_iload hx hb dX11_decodes_90 (lv_at hl 6 rfl) ?_
  refine lv_iload hx hb dX11_decodes_92 (lv_at hl 0 rfl) ?_
  refine b_if_eq (tgt := 101) hx hb hf dX11_decodes_94 (by decide) (fun hf => ?_) (fun hf => ?_)
  · refine lv_iconst (v := (1 : Int32)) hx hb dX11_decodes_101 (by decide) ?_
    exact t_X11_decodes_102 C hr_11 z_v2 z_v3 z_x2 isZ_1 hH (lv_sub hl [1, 2, 3, 4, 5, 7, 0] rfl) hf
  · refine lv_iconst (v := (0 : Int32)) hx hb dX11_decodes_97 (by decide) ?_
    refine lv_goto (tgt := 102) hx hb dX11_decodes_98 (by decide) ?_
    exact t_X11_decodes_102 C hr_11 z_v2 z_v3 z_x2 isZ_0 hH (lv_sub hl [1, 2, 3, 4, 5, 7, 0] rfl) hf
set_option maxRecDepth 100000 in
set_option maxHeartbeats 4000000 in
theorem tb_X11_decodes_11 {D : va_G} {B : Nat} {Y : Nat → ClassId} {p : Program} {l : Launch} {e : Env} {s : State} {m : MethodId} {args : Array Value} {below : List Frame} {meth : Method} {c : Code} {z : (Int32 × Wd)} {H : Heap} {locs : List Loc} {ls : Array Slot} {w : Wd} {v1 : Int32} {v2 : Int32} {v3 : Int32} {v4 : Int32} {v5 : Int32} {v6 : Int32} (C : CX D B Y p s m args meth c cX11_decodes 8 RX11 (some .int))  {rc_11 : Int32 × Int32 × Int32 × Int32 × Int32 × Int32 × Wd → Option (Int32 × Wd)} (hr_11 : ∀ (v1 : Int32) (v2 : Int32) (v3 : Int32) (v4 : Int32) (v5 : Int32) (v6 : Int32) (w : Wd), rc_11 (v1, v2, v3, v4, v5, v6, w) = some z → isZ v2 → isZ v3 → ∀ (H : Heap) (locs : List Loc) (ls : Array Slot), HS D B Y w s H locs → lv_has ls 8 [(0, .ref (B + 713)), (1, .int v1), (2, .int v2), (3, .int v3), (4, .int v4), (5, .int v5), (6, .int v6)] → W p l e (RM 1 0 0) s m args below meth c H locs 0 0 (MQ below (QG D B Y (some (.int z.1)) z.2 True) args s 0 0 (AB B)) (F0 m 11 ls []))   (z_v2 : isZ v2) (z_v3 : isZ v3) (hH : HS D B Y w s H locs) (hl : lv_has ls 8 [(0, .ref (B + 713)), (1, .int v1), (2, .int v2), (3, .int v3), (4, .int v4), (5, .int v5), (6, .int v6)]) (hf : g_X11_decodes_11 rc_11 v1 v2 v3 v4 v5 v6 w = some z) : W p l e (RM 1 0 0) s m args below meth c H locs 0 0 (MQ below (QG D B Y (some (.int z.1)) z.2 True) args s 0 0 (AB B)) (F0 m 11 ls []) := by
  have hx := C.1
  have hb := C.2.1
  unfold g_X11_decodes_11 at hf
  refine lv_iload hx hb dX11_decodes_11 (lv_at hl 6 rfl) ?_
  refine lv_aload_n hx hb dX11_decodes_13 rfl (lv_at hl 0 rfl) ?_
  refine fg_X11_115 C hH dX11_decodes_14 ?_
  refine b_icmp_ge (tgt := 154) hx hb hf dX11_decodes_17 (by decide) (fun hf => ?_) (fun hf => ?_)
  · refine lv_iload hx hb dX11_decodes_154 (lv_at hl 4 rfl) ?_
    refine lv_sipush (v := (1000 : Int32)) hx hb dX11_decodes_156 (by decide) ?_
    refine lv_iload hx hb dX11_decodes_159 (lv_at hl 5 rfl) ?_
    refine lv_iload_n hx hb dX11_decodes_161 rfl (lv_at hl 3 rfl) ?_
    refine lv_iadd hx hb dX11_decodes_162 ?_
    refine lv_imul hx hb dX11_decodes_163 ?_
    refine lv_iadd hx hb dX11_decodes_164 ?_
    cases hf
    exact q_reti C hH trivial dX11_decodes_165
  · refine lv_aload_n hx hb dX11_decodes_20 rfl (lv_at hl 0 rfl) ?_
    refine fg_X11_22 C hH dX11_decodes_21 ?_
    refine lv_iload hx hb dX11_decodes_24 (lv_at hl 6 rfl) ?_
    refine g_iald C hH kc_718 hf dX11_decodes_26 (fun x1 hf => ?_)
    refine lv_bipush (v := (14 : Int32)) hx hb dX11_decodes_27 (by decide) ?_
    refine b_icmp_eq (tgt := 44) hx hb hf dX11_decodes_29 (by decide) (fun hf => ?_) (fun hf => ?_)
    · exact t_X11_decodes_44 C hr_11 z_v2 hH (lv_sub hl [0, 1, 2, 4, 5, 6] rfl) hf
    · refine lv_aload_n hx hb dX11_decodes_32 rfl (lv_at hl 0 rfl) ?_
      refine fg_X11_22 C hH dX11_decodes_33 ?_
      refine lv_iload hx hb dX11_decodes_36 (lv_at hl 6 rfl) ?_
      refine g_iald C hH kc_718 hf dX11_decodes_38 (fun x2 hf => ?_)
      refine lv_bipush (v := (15 : Int32)) hx hb dX11_decodes_39 (by decide) ?_
      refine b_icmp_ne (tgt := 65) hx hb hf dX11_decodes_41 (by decide) (fun hf => ?_) (fun hf => ?_)
      · refine lv_aload_n hx hb dX11_decodes_65 rfl (lv_at hl 0 rfl) ?_
        refine fg_X11_22 C hH dX11_decodes_66 ?_
        refine lv_iload hx hb dX11_decodes_69 (lv_at hl 6 rfl) ?_
        refine g_iald C hH kc_718 hf dX11_decodes_71 (fun x3 hf => ?_)
        refine lv_bipush (v := (32 : Int32)) hx hb dX11_decodes_72 (by decide) ?_
        refine lv_iload_n hx hb dX11_decodes_74 rfl (lv_at hl 3 rfl) ?_
        refine b_if_ne (tgt := 83) hx hb hf dX11_decodes_75 (by decide) (fun hf => ?_) (fun hf => ?_)
        · refine lv_bipush (v := (63 : Int32)) hx hb dX11_decodes_83 (by decide) ?_
          exact t_X11_decodes_85 C hr_11 z_v2 z_v3 hH (lv_sub hl [0, 1, 2, 3, 4, 5, 6] rfl) hf
        · refine lv_bipush (v := (95 : Int32)) hx hb dX11_decodes_78 (by decide) ?_
          refine lv_goto (tgt := 85) hx hb dX11_decodes_80 (by decide) ?_
          exact t_X11_decodes_85 C hr_11 z_v2 z_v3 hH (lv_sub hl [0, 1, 2, 3, 4, 5, 6] rfl) hf
      · exact t_X11_decodes_44 C hr_11 z_v2 hH (lv_sub hl [0, 1, 2, 4, 5, 6] rfl) hf
set_option maxRecDepth 100000 in
set_option maxHeartbeats 4000000 in
theorem t_X11_decodes_11 {D : va_G} {B : Nat} {Y : Nat → ClassId} {p : Program} {l : Launch} {e : Env} {s : State} {m : MethodId} {args : Array Value} {below : List Frame} {meth : Method} {c : Code} {z : (Int32 × Wd)} {H : Heap} {locs : List Loc} {ls : Array Slot} {w : Wd} {v1 : Int32} {v2 : Int32} {v3 : Int32} {v4 : Int32} {v5 : Int32} {v6 : Int32} (C : CX D B Y p s m args meth c cX11_decodes 8 RX11 (some .int))    (z_v2 : isZ v2) (z_v3 : isZ v3) (hH : HS D B Y w s H locs) (hl : lv_has ls 8 [(0, .ref (B + 713)), (1, .int v1), (2, .int v2), (3, .int v3), (4, .int v4), (5, .int v5), (6, .int v6)]) (hf : f_X11_decodes_11 v1 v2 v3 v4 v5 v6 w = some z) : W p l e (RM 1 0 0) s m args below meth c H locs 0 0 (MQ below (QG D B Y (some (.int z.1)) z.2 True) args s 0 0 (AB B)) (F0 m 11 ls []) := by
  exact loopN_ind (z := z) (body := fun rc σ => g_X11_decodes_11 rc  σ.1 σ.2.1 σ.2.2.1 σ.2.2.2.1 σ.2.2.2.2.1 σ.2.2.2.2.2.1 σ.2.2.2.2.2.2)
    (P := fun σ => isZ σ.2.1 → isZ σ.2.2.1 → ∀ (H : Heap) (locs : List Loc) (ls : Array Slot), HS D B Y σ.2.2.2.2.2.2 s H locs → lv_has ls 8 [(0, .ref (B + 713)), (1, .int σ.1), (2, .int σ.2.1), (3, .int σ.2.2.1), (4, .int σ.2.2.2.1), (5, .int σ.2.2.2.2.1), (6, .int σ.2.2.2.2.2.1)] → W p l e (RM 1 0 0) s m args below meth c H locs 0 0 (MQ below (QG D B Y (some (.int z.1)) z.2 True) args s 0 0 (AB B)) (F0 m 11 ls []))
    (fun rc hrec σ hf z_v2 z_v3 H locs ls hH hl => tb_X11_decodes_11 C (fun v1 v2 v3 v4 v5 v6 w hr z_v2 z_v3 H locs ls hH hl => hrec (v1, v2, v3, v4, v5, v6, w) hr z_v2 z_v3 H locs ls hH hl)  z_v2 z_v3 hH hl hf) FU (v1, v2, v3, v4, v5, v6, w) hf z_v2 z_v3 H locs ls hH hl
set_option maxRecDepth 100000 in
set_option maxHeartbeats 4000000 in
theorem t_X11_decodes_0 {D : va_G} {B : Nat} {Y : Nat → ClassId} {p : Program} {l : Launch} {e : Env} {s : State} {m : MethodId} {args : Array Value} {below : List Frame} {meth : Method} {c : Code} {z : (Int32 × Wd)} {H : Heap} {locs : List Loc} {ls : Array Slot} {w : Wd} {v1 : Int32} {v2 : Int32} (C : CX D B Y p s m args meth c cX11_decodes 8 RX11 (some .int))    (z_v2 : isZ v2) (hH : HS D B Y w s H locs) (hl : lv_has ls 8 [(0, .ref (B + 713)), (1, .int v1), (2, .int v2)]) (hf : f_X11_decodes v1 v2 w = some z) : W p l e (RM 1 0 0) s m args below meth c H locs 0 0 (MQ below (QG D B Y (some (.int z.1)) z.2 True) args s 0 0 (AB B)) (F0 m 0 ls []) := by
  have hx := C.1
  have hb := C.2.1
  unfold f_X11_decodes at hf
  refine lv_iconst (v := (0 : Int32)) hx hb dX11_decodes_0 (by decide) ?_
  refine lv_istore_n (lv' := [(3, .int (0 : Int32)), (0, .ref (B + 713)), (1, .int v1), (2, .int v2)]) hx hb dX11_decodes_1 rfl hl (by decide) rfl (fun ls hl => ?_)
  refine lv_iconst (v := (0 : Int32)) hx hb dX11_decodes_2 (by decide) ?_
  refine lv_istore (lv' := [(4, .int (0 : Int32)), (3, .int (0 : Int32)), (0, .ref (B + 713)), (1, .int v1), (2, .int v2)]) hx hb dX11_decodes_3 hl (by decide) rfl (fun ls hl => ?_)
  refine lv_iconst (v := (0 : Int32)) hx hb dX11_decodes_5 (by decide) ?_
  refine lv_istore (lv' := [(5, .int (0 : Int32)), (4, .int (0 : Int32)), (3, .int (0 : Int32)), (0, .ref (B + 713)), (1, .int v1), (2, .int v2)]) hx hb dX11_decodes_6 hl (by decide) rfl (fun ls hl => ?_)
  refine lv_iconst (v := (0 : Int32)) hx hb dX11_decodes_8 (by decide) ?_
  refine lv_istore (lv' := [(6, .int (0 : Int32)), (5, .int (0 : Int32)), (4, .int (0 : Int32)), (3, .int (0 : Int32)), (0, .ref (B + 713)), (1, .int v1), (2, .int v2)]) hx hb dX11_decodes_9 hl (by decide) rfl (fun ls hl => ?_)
  exact t_X11_decodes_11 C z_v2 isZ_0 hH (lv_sub hl [4, 5, 6, 3, 2, 1, 0] rfl) hf
set_option maxRecDepth 100000 in
theorem c_X11_decodes {l : Launch} {D : va_G} {B : Nat} {Y : Nat → ClassId} {v1 : Int32} {v2 : Int32} {w : Wd} {r : Int32} {w1 : Wd}  (z_v2 : isZ v2) (hf : f_X11_decodes v1 v2 w = some (r, w1)) : CM l D B Y yX11_decodes cX11_decodes 8 (some .int) 1 [.ref (B + 713), .int v1, .int v2] w (some (.int r)) w1 True :=
  CM_of (by decide +kernel) (Nat.le_of_ble_eq_true rfl) (fun p e s m args below meth c ls C hH hl => t_X11_decodes_0 C z_v2 hH (lv_sub hl [0, 1, 2] rfl) hf)
/-! LetterTablesModel.decode -/
set_option maxRecDepth 100000 in
set_option maxHeartbeats 4000000 in
theorem t_X11_decode_68 {D : va_G} {B : Nat} {Y : Nat → ClassId} {p : Program} {l : Launch} {e : Env} {s : State} {m : MethodId} {args : Array Value} {below : List Frame} {meth : Method} {c : Code} {z : (Int32 × Wd)} {H : Heap} {locs : List Loc} {ls : Array Slot} {w : Wd} {v2 : Int32} (C : CX D B Y p s m args meth c cX11_decode 3 RX11 (some .int))     (hH : HS D B Y w s H locs) (hl : lv_has ls 3 [(0, .ref (B + 713)), (2, .int v2)]) (hf : f_X11_decode_68 v2 w = some z) : W p l e (RM 2 0 0) s m args below meth c H locs 0 0 (MQ below (QG D B Y (some (.int z.1)) z.2 True) args s 0 0 (AB B)) (F0 m 68 ls []) := by
  have hx := C.1
  have hb := C.2.1
  unfold f_X11_decode_68 at hf
  refine lv_aload_n hx hb dX11_decode_68 rfl (lv_at hl 0 rfl) ?_
  refine lv_iconst (v := (0 : Int32)) hx hb dX11_decode_69 (by decide) ?_
  refine fp_X11_115 C hH dX11_decode_70 (fun H locs hH => ?_)
  refine b_w hf hH (fun w1 hf hH => ?_)
  refine lv_aload_n hx hb dX11_decode_73 rfl (lv_at hl 0 rfl) ?_
  refine fg_X11_107 C hH dX11_decode_74 ?_
  refine b_if_le (tgt := 84) hx hb hf dX11_decode_77 (by decide) (fun hf => ?_) (fun hf => ?_)
  · refine lv_iload_n hx hb dX11_decode_84 rfl (lv_at hl 1 rfl) ?_
    refine lv_sipush (v := (1000 : Int32)) hx hb dX11_decode_85 (by decide) ?_
    refine lv_idiv hx hb dX11_decode_88 (by decide) ?_
    cases hf
    exact q_reti C hH trivial dX11_decode_89
  · refine lv_iconst (v := (0 : Int32)) hx hb dX11_decode_80 (by decide) ?_
    refine lv_goto (tgt := 89) hx hb dX11_decode_81 (by decide) ?_
    cases hf
    exact q_reti C hH trivial dX11_decode_89
set_option maxRecDepth 100000 in
set_option maxHeartbeats 4000000 in
theorem t_X11_decode_44 {D : va_G} {B : Nat} {Y : Nat → ClassId} {p : Program} {l : Launch} {e : Env} {s : State} {m : MethodId} {args : Array Value} {below : List Frame} {meth : Method} {c : Code} {z : (Int32 × Wd)} {H : Heap} {locs : List Loc} {ls : Array Slot} {w : Wd} {v1 : Int32} {v2 : Int32} {t1 : Int32} (C : CX D B Y p s m args meth c cX11_decode 3 RX11 (some .int))     (hH : HS D B Y w s H locs) (hl : lv_has ls 3 [(0, .ref (B + 713)), (1, .int v1), (2, .int v2)]) (hf : f_X11_decode_44 v1 v2 t1 w = some z) : W p l e (RM 2 0 0) s m args below meth c H locs 0 0 (MQ below (QG D B Y (some (.int z.1)) z.2 True) args s 0 0 (AB B)) (F0 m 44 ls [.int t1, .ref (B + 713)]) := by
  have hx := C.1
  have hb := C.2.1
  unfold f_X11_decode_44 at hf
  obtain ⟨x2, w1, hc, hf⟩ := bd_some hf
  refine q_callV1 (v := .int x2) (As := [.int t1]) C hH (ci := 11) rfl (by omega) gk_X11_118 yd_X11_holds (by omega) (by omega) kc_713 (c_X11_holds hc) hl.1 rfl (Nat.le_of_ble_eq_true rfl) dX11_decode_44 ⟨by decide, by decide⟩ (fun H locs hH z_x2 => ?_)
  refine b_if_eq (tgt := 68) hx hb hf dX11_decode_47 (by decide) (fun hf => ?_) (fun hf => ?_)
  · exact t_X11_decode_68 C hH (lv_sub hl [0, 2] rfl) hf
  · refine lv_aload_n hx hb dX11_decode_50 rfl (lv_at hl 0 rfl) ?_
    refine fg_X11_19 C hH dX11_decode_51 ?_
    refine lv_iload_n hx hb dX11_decode_54 rfl (lv_at hl 1 rfl) ?_
    refine lv_iload_n hx hb dX11_decode_55 rfl (lv_at hl 2 rfl) ?_
    refine lv_sipush (v := (1000 : Int32)) hx hb dX11_decode_56 (by decide) ?_
    refine lv_irem hx hb dX11_decode_59 (by decide) ?_
    refine g_iast C hH kc_717 hf dX11_decode_60 (fun w3 H locs hf hH => ?_)
    refine lv_aload_n hx hb dX11_decode_61 rfl (lv_at hl 0 rfl) ?_
    refine lv_iload_n hx hb dX11_decode_62 rfl (lv_at hl 1 rfl) ?_
    refine lv_iconst (v := (1 : Int32)) hx hb dX11_decode_63 (by decide) ?_
    obtain ⟨x5, w4, hc, hf⟩ := bd_some hf
    refine q_callV1 (v := .int x5) (As := [.int v1, .int (1 : Int32)]) C hH (ci := 11) rfl (by omega) gk_X11_356 yd_X11_decodes (by omega) (by omega) kc_713 (c_X11_decodes isZ_1 hc) hl.1 rfl (Nat.le_of_ble_eq_true rfl) dX11_decode_64 ⟨by decide, by decide⟩ (fun H locs hH hP => ?_)
    refine lv_istore_n (lv' := [(2, .int x5), (0, .ref (B + 713)), (1, .int v1)]) hx hb dX11_decode_67 rfl hl (by decide) rfl (fun ls hl => ?_)
    exact t_X11_decode_68 C hH (lv_sub hl [1, 0] rfl) hf
set_option maxRecDepth 100000 in
set_option maxHeartbeats 4000000 in
theorem t_X11_decode_13 {D : va_G} {B : Nat} {Y : Nat → ClassId} {p : Program} {l : Launch} {e : Env} {s : State} {m : MethodId} {args : Array Value} {below : List Frame} {meth : Method} {c : Code} {z : (Int32 × Wd)} {H : Heap} {locs : List Loc} {ls : Array Slot} {w : Wd} {v1 : Int32} {t1 : Int32} (C : CX D B Y p s m args meth c cX11_decode 3 RX11 (some .int))    (z_t1 : isZ t1) (hH : HS D B Y w s H locs) (hl : lv_has ls 3 [(0, .ref (B + 713)), (1, .int v1)]) (hf : f_X11_decode_13 v1 t1 w = some z) : W p l e (RM 2 0 0) s m args below meth c H locs 0 0 (MQ below (QG D B Y (some (.int z.1)) z.2 True) args s 0 0 (AB B)) (F0 m 13 ls [.int t1, .ref (B + 713)]) := by
  have hx := C.1
  have hb := C.2.1
  unfold f_X11_decode_13 at hf
  obtain ⟨x2, w1, hc, hf⟩ := bd_some hf
  refine q_callV1 (v := .int x2) (As := [.int t1]) C hH (ci := 11) rfl (by omega) gk_X11_118 yd_X11_holds (by omega) (by omega) kc_713 (c_X11_holds hc) hl.1 rfl (Nat.le_of_ble_eq_true rfl) dX11_decode_13 ⟨by decide, by decide⟩ (fun H locs hH z_x2 => ?_)
  refine b_if_ne (tgt := 21) hx hb hf dX11_decode_16 (by decide) (fun hf => ?_) (fun hf => ?_)
  · refine lv_aload_n hx hb dX11_decode_21 rfl (lv_at hl 0 rfl) ?_
    refine lv_iload_n hx hb dX11_decode_22 rfl (lv_at hl 1 rfl) ?_
    refine lv_iconst (v := (0 : Int32)) hx hb dX11_decode_23 (by decide) ?_
    obtain ⟨x4, w3, hc, hf⟩ := bd_some hf
    refine q_callV1 (v := .int x4) (As := [.int v1, .int (0 : Int32)]) C hH (ci := 11) rfl (by omega) gk_X11_356 yd_X11_decodes (by omega) (by omega) kc_713 (c_X11_decodes isZ_0 hc) hl.1 rfl (Nat.le_of_ble_eq_true rfl) dX11_decode_24 ⟨by decide, by decide⟩ (fun H locs hH hP => ?_)
    refine lv_istore_n (lv' := [(2, .int x4), (0, .ref (B + 713)), (1, .int v1)]) hx hb dX11_decode_27 rfl hl (by decide) rfl (fun ls hl => ?_)
    refine lv_aload_n hx hb dX11_decode_28 rfl (lv_at hl 1 rfl) ?_
    refine lv_iload_n hx hb dX11_decode_29 rfl (lv_at hl 0 rfl) ?_
    refine lv_sipush (v := (1000 : Int32)) hx hb dX11_decode_30 (by decide) ?_
    refine lv_irem hx hb dX11_decode_33 (by decide) ?_
    refine lv_bipush (v := (40 : Int32)) hx hb dX11_decode_34 (by decide) ?_
    refine b_icmp_le (tgt := 43) hx hb hf dX11_decode_36 (by decide) (fun hf => ?_) (fun hf => ?_)
    · refine lv_iconst (v := (0 : Int32)) hx hb dX11_decode_43 (by decide) ?_
      exact t_X11_decode_44 C hH (lv_sub hl [1, 2, 0] rfl) hf
    · refine lv_iconst (v := (2 : Int32)) hx hb dX11_decode_39 (by decide) ?_
      refine lv_goto (tgt := 44) hx hb dX11_decode_40 (by decide) ?_
      exact t_X11_decode_44 C hH (lv_sub hl [1, 2, 0] rfl) hf
  · refine lv_iconst (v := (0 : Int32)) hx hb dX11_decode_19 (by decide) ?_
    cases hf
    exact q_reti C hH trivial dX11_decode_20
set_option maxRecDepth 100000 in
set_option maxHeartbeats 4000000 in
theorem t_X11_decode_0 {D : va_G} {B : Nat} {Y : Nat → ClassId} {p : Program} {l : Launch} {e : Env} {s : State} {m : MethodId} {args : Array Value} {below : List Frame} {meth : Method} {c : Code} {z : (Int32 × Wd)} {H : Heap} {locs : List Loc} {ls : Array Slot} {w : Wd} {v1 : Int32} (C : CX D B Y p s m args meth c cX11_decode 3 RX11 (some .int))     (hH : HS D B Y w s H locs) (hl : lv_has ls 3 [(0, .ref (B + 713)), (1, .int v1)]) (hf : f_X11_decode v1 w = some z) : W p l e (RM 2 0 0) s m args below meth c H locs 0 0 (MQ below (QG D B Y (some (.int z.1)) z.2 True) args s 0 0 (AB B)) (F0 m 0 ls []) := by
  have hx := C.1
  have hb := C.2.1
  unfold f_X11_decode at hf
  refine lv_aload_n hx hb dX11_decode_0 rfl (lv_at hl 0 rfl) ?_
  refine lv_iload_n hx hb dX11_decode_1 rfl (lv_at hl 1 rfl) ?_
  obtain ⟨x2, w1, hc, hf⟩ := bd_some hf
  refine q_callS1 (v := .int x2) (As := [.int v1]) C hH gk_X11_145 yd_X11_isSlot (by omega) (by omega) (c_X11_isSlot hc) hl.1 rfl (Nat.le_of_ble_eq_true rfl) dX11_decode_2 ⟨by decide, by decide⟩ (fun H locs hH z_x2 => ?_)
  refine b_if_eq (tgt := 12) hx hb hf dX11_decode_5 (by decide) (fun hf => ?_) (fun hf => ?_)
  · refine lv_iconst (v := (1 : Int32)) hx hb dX11_decode_12 (by decide) ?_
    exact t_X11_decode_13 C isZ_1 hH (lv_sub hl [0, 1] rfl) hf
  · refine lv_iconst (v := (0 : Int32)) hx hb dX11_decode_8 (by decide) ?_
    refine lv_goto (tgt := 13) hx hb dX11_decode_9 (by decide) ?_
    exact t_X11_decode_13 C isZ_0 hH (lv_sub hl [0, 1] rfl) hf
set_option maxRecDepth 100000 in
theorem c_X11_decode {l : Launch} {D : va_G} {B : Nat} {Y : Nat → ClassId} {v1 : Int32} {w : Wd} {r : Int32} {w1 : Wd}   (hf : f_X11_decode v1 w = some (r, w1)) : CM l D B Y yX11_decode cX11_decode 3 (some .int) 2 [.ref (B + 713), .int v1] w (some (.int r)) w1 True :=
  CM_of (by decide +kernel) (Nat.le_of_ble_eq_true rfl) (fun p e s m args below meth c ls C hH hl => t_X11_decode_0 C  hH (lv_sub hl [0, 1] rfl) hf)
