/-! LetterTables.classOf -/
set_option maxRecDepth 100000 in
set_option maxHeartbeats 4000000 in
theorem t_X10_classOf_0 {D : va_G} {B : Nat} {Y : Nat → ClassId} {p : Program} {l : Launch} {e : Env} {s : State} {m : MethodId} {args : Array Value} {below : List Frame} {meth : Method} {c : Code} {z : ((Nat ⊕ Int32) × Wd)} {H : Heap} {locs : List Loc} {ls : Array Slot} {w : Wd} {v1 : Int32} {v2 : Int32} (C : CX D B Y p s m args meth c cX10_classOf 4 RX10 (some .int)) (hxt : ∀ x ∈ c.exceptionTable.toList, False) (htr : l.stackTraces = false)     (hH : HS D B Y w s H locs) (hl : lv_has ls 4 [(0, .ref (B + 0)), (1, .int v1), (2, .int v2)]) (hf : f_X10_classOf v1 v2 w = some z) : W p l e (RM 3 (xv (zoI z.1)) (6 * xv (zoI z.1))) s m args below meth c H locs 0 0 (vx_MQ below (QX D B Y (zoI z.1) z.2 True) (XX D B Y (zoI z.1) z.2) args s (xv (zoI z.1)) (6 * xv (zoI z.1)) (AB B)) (F0 m 0 ls []) := by
  have hx := C.1
  have hb := C.2.1
  unfold f_X10_classOf at hf
  refine lv_aload_n hx hb dX10_classOf_0 rfl (lv_at hl 0 rfl) ?_
  refine lv_iload_n hx hb dX10_classOf_1 rfl (lv_at hl 1 rfl) ?_
  rcases bdx_some hf with ⟨k, w1, hc, rfl⟩ | ⟨r2, w1, hc, hf⟩
  · exact q_xrunX (k0 := k) (q_xV (As := [.int v1]) C hH (ci := 10) rfl (by omega) gk_X10_151 yd_X10_languageOf (by omega) (by omega) kc_0 (c_X10_languageOf (r := .inl k) htr hc) hl.1 rfl (Nat.le_of_ble_eq_true rfl) dX10_classOf_2 (xv_le rfl)) hH (fun H locs ce q hH h1 h2 h3 => q_out C hH hxt h1 h2 h3 (xv_1 rfl) (xv_6 rfl))
  refine q_xrun (ov := some (.ref (B + r2))) (q_xV (As := [.int v1]) C hH (ci := 10) rfl (by omega) gk_X10_151 yd_X10_languageOf (by omega) (by omega) kc_0 (c_X10_languageOf (r := .inr r2) htr hc) hl.1 rfl (Nat.le_of_ble_eq_true rfl) dX10_classOf_2 (xv_0 rfl xv_00)) hH (fun H locs hH k_r2 => ?_)
  refine lv_astore_n (lv' := [(3, .ref (B + r2)), (0, .ref (B + 0)), (1, .int v1), (2, .int v2)]) hx hb dX10_classOf_5 rfl hl (by decide) rfl (fun ls hl => ?_)
  refine lv_iload_n hx hb dX10_classOf_6 rfl (lv_at hl 3 rfl) ?_
  obtain ⟨x4, w3, hc, hf⟩ := bd_some hf
  refine q_callS1 (v := .int x4) (As := [.int v2]) C hH gk_X10_336 yd_X10_isNumber (by omega) (by omega) (c_X10_isNumber hc) hl.1 rfl (Nat.le_of_ble_eq_true rfl) dX10_classOf_7 xv_00 (fun H locs hH z_x4 => ?_)
  rcases bdx_some hf with ⟨k, w5, hc, rfl⟩ | ⟨u, w5, hc, hf⟩
  · exact q_xrunX (k0 := k) (q_xS (As := [.int x4]) C hH gk_X10_103 yd_X10_checkArgument (by omega) (by omega) (c_X10_checkArgument (r := .inl k) htr z_x4 hc) hl.1 rfl (Nat.le_of_ble_eq_true rfl) dX10_classOf_10 (xv_le rfl)) hH (fun H locs ce q hH h1 h2 h3 => q_out C hH hxt h1 h2 h3 (xv_1 rfl) (xv_6 rfl))
  refine q_xrun (ov := none) (q_xS (As := [.int x4]) C hH gk_X10_103 yd_X10_checkArgument (by omega) (by omega) (c_X10_checkArgument (r := .inr u) htr z_x4 hc) hl.1 rfl (Nat.le_of_ble_eq_true rfl) dX10_classOf_10 (xv_0 rfl xv_00)) hH (fun H locs hH hP => ?_)
  refine lv_aload_n hx hb dX10_classOf_13 rfl (lv_at hl 0 rfl) ?_
  refine lv_iload_n hx hb dX10_classOf_14 rfl (lv_at hl 3 rfl) ?_
  obtain ⟨x7, w6, hc, hf⟩ := bd_some hf
  refine q_callV1 (v := .int x7) (As := [.int v2]) C hH (ci := 2) rfl (by omega) gk_X10_339 yd_X2_classFor (by omega) (by omega) k_r2 (c_X2_classFor k_r2 hc) hl.1 rfl (Nat.le_of_ble_eq_true rfl) dX10_classOf_15 xv_00 (fun H locs hH hP => ?_)
  cases hf
  exact q_x0 rfl (q_reti C hH trivial dX10_classOf_18)
set_option maxRecDepth 100000 in
theorem c_X10_classOf {l : Launch} {D : va_G} {B : Nat} {Y : Nat → ClassId} {v1 : Int32} {v2 : Int32} {w : Wd} {r : (Nat ⊕ Int32)} {w1 : Wd} (htr : l.stackTraces = false)   (hf : f_X10_classOf v1 v2 w = some (r, w1)) : XM l D B Y yX10_classOf cX10_classOf 4 (some .int) 3 [.ref (B + 0), .int v1, .int v2] w (zoI r) w1 True :=
  XM_of (by decide +kernel) (Nat.le_of_ble_eq_true rfl) (fun p e s m args below meth c ls C hxt hH hl => t_X10_classOf_0 C hxt htr  hH (lv_sub hl [0, 1, 2] rfl) hf)
/-! LetterTables$MessageReader.begin -/
set_option maxRecDepth 100000 in
set_option maxHeartbeats 4000000 in
theorem t_X4_begin_0 {D : va_G} {B : Nat} {Y : Nat → ClassId} {p : Program} {l : Launch} {e : Env} {s : State} {m : MethodId} {args : Array Value} {below : List Frame} {meth : Method} {c : Code} {z : (Unit × Wd)} {H : Heap} {locs : List Loc} {ls : Array Slot} {w : Wd}  (C : CX D B Y p s m args meth c cX4_begin 1 RX4 none)     (hH : HS D B Y w s H locs) (hl : lv_has ls 1 [(0, .ref (B + 692))]) (hf : f_X4_begin w = some z) : W p l e (RM 1 0 0) s m args below meth c H locs 0 0 (MQ below (QG D B Y none z.2 True) args s 0 0 (AB B)) (F0 m 0 ls []) := by
  have hx := C.1
  have hb := C.2.1
  unfold f_X4_begin at hf
  refine lv_aload_n hx hb dX4_begin_0 rfl (lv_at hl 0 rfl) ?_
  refine fg_X4_20 C hH dX4_begin_1 ?_
  refine lv_iconst (v := (0 : Int32)) hx hb dX4_begin_4 (by decide) ?_
  obtain ⟨u, w1, hc, hf⟩ := bd_some hf
  refine q_callV0 (As := [.int (0 : Int32)]) C hH (ci := 7) rfl (by omega) gk_X4_29 yd_X7_cutTo (by omega) (by omega) kc_693 (c_X7_cutTo kc_693 hc) hl.1 rfl (Nat.le_of_ble_eq_true rfl) dX4_begin_5 xv_00 (fun H locs hH hP => ?_)
  refine lv_aload_n hx hb dX4_begin_8 rfl (lv_at hl 0 rfl) ?_
  refine fg_X4_23 C hH dX4_begin_9 ?_
  refine lv_iconst (v := (0 : Int32)) hx hb dX4_begin_12 (by decide) ?_
  obtain ⟨u, w2, hc, hf⟩ := bd_some hf
  refine q_callV0 (As := [.int (0 : Int32)]) C hH (ci := 7) rfl (by omega) gk_X4_29 yd_X7_cutTo (by omega) (by omega) kc_695 (c_X7_cutTo kc_695 hc) hl.1 rfl (Nat.le_of_ble_eq_true rfl) dX4_begin_13 xv_00 (fun H locs hH hP => ?_)
  refine lv_aload_n hx hb dX4_begin_16 rfl (lv_at hl 0 rfl) ?_
  refine fg_X4_26 C hH dX4_begin_17 ?_
  refine lv_iconst (v := (0 : Int32)) hx hb dX4_begin_20 (by decide) ?_
  obtain ⟨u, w3, hc, hf⟩ := bd_some hf
  refine q_callV0 (As := [.int (0 : Int32)]) C hH (ci := 7) rfl (by omega) gk_X4_29 yd_X7_cutTo (by omega) (by omega) kc_697 (c_X7_cutTo kc_697 hc) hl.1 rfl (Nat.le_of_ble_eq_true rfl) dX4_begin_21 xv_00 (fun H locs hH hP => ?_)
  cases hf
  exact q_retv C hH trivial dX4_begin_24
set_option maxRecDepth 100000 in
theorem c_X4_begin {l : Launch} {D : va_G} {B : Nat} {Y : Nat → ClassId}  {w : Wd} {r : Unit} {w1 : Wd}   (hf : f_X4_begin w = some (r, w1)) : CM l D B Y yX4_begin cX4_begin 1 none 1 [.ref (B + 692)] w none w1 True :=
  CM_of (by decide +kernel) (Nat.le_of_ble_eq_true rfl) (fun p e s m args below meth c ls C hH hl => t_X4_begin_0 C  hH (lv_sub hl [0] rfl) hf)
/-! LetterTables$MessageReader.tellNumber -/
set_option maxRecDepth 100000 in
set_option maxHeartbeats 4000000 in
theorem t_X4_tellNumber_0 {D : va_G} {B : Nat} {Y : Nat → ClassId} {p : Program} {l : Launch} {e : Env} {s : State} {m : MethodId} {args : Array Value} {below : List Frame} {meth : Method} {c : Code} {z : (Unit × Wd)} {H : Heap} {locs : List Loc} {ls : Array Slot} {w : Wd} {v1 : Int32} {v2 : Int32} (C : CX D B Y p s m args meth c cX4_tellNumber 3 RX4 none)     (hH : HS D B Y w s H locs) (hl : lv_has ls 3 [(0, .ref (B + 692)), (1, .int v1), (2, .int v2)]) (hf : f_X4_tellNumber v1 v2 w = some z) : W p l e (RM 1 0 0) s m args below meth c H locs 0 0 (MQ below (QG D B Y none z.2 True) args s 0 0 (AB B)) (F0 m 0 ls []) := by
  have hx := C.1
  have hb := C.2.1
  unfold f_X4_tellNumber at hf
  refine lv_aload_n hx hb dX4_tellNumber_0 rfl (lv_at hl 0 rfl) ?_
  refine fg_X4_20 C hH dX4_tellNumber_1 ?_
  refine lv_iload_n hx hb dX4_tellNumber_4 rfl (lv_at hl 1 rfl) ?_
  obtain ⟨x2, w1, hc, hf⟩ := bd_some hf
  refine q_callV1 (v := .int x2) (As := [.int v1]) C hH (ci := 7) rfl (by omega) gk_X4_32 yd_X7_add (by omega) (by omega) kc_693 (c_X7_add kc_693 hc) hl.1 rfl (Nat.le_of_ble_eq_true rfl) dX4_tellNumber_5 xv_00 (fun H locs hH z_x2 => ?_)
  refine lv_pop hx hb dX4_tellNumber_8 rfl ?_
  refine lv_aload_n hx hb dX4_tellNumber_9 rfl (lv_at hl 0 rfl) ?_
  refine fg_X4_23 C hH dX4_tellNumber_10 ?_
  refine lv_iload_n hx hb dX4_tellNumber_13 rfl (lv_at hl 2 rfl) ?_
  obtain ⟨x4, w3, hc, hf⟩ := bd_some hf
  refine q_callV1 (v := .int x4) (As := [.int v2]) C hH (ci := 7) rfl (by omega) gk_X4_32 yd_X7_add (by omega) (by omega) kc_695 (c_X7_add kc_695 hc) hl.1 rfl (Nat.le_of_ble_eq_true rfl) dX4_tellNumber_14 xv_00 (fun H locs hH z_x4 => ?_)
  refine lv_pop hx hb dX4_tellNumber_17 rfl ?_
  cases hf
  exact q_retv C hH trivial dX4_tellNumber_18
set_option maxRecDepth 100000 in
theorem c_X4_tellNumber {l : Launch} {D : va_G} {B : Nat} {Y : Nat → ClassId} {v1 : Int32} {v2 : Int32} {w : Wd} {r : Unit} {w1 : Wd}   (hf : f_X4_tellNumber v1 v2 w = some (r, w1)) : CM l D B Y yX4_tellNumber cX4_tellNumber 3 none 1 [.ref (B + 692), .int v1, .int v2] w none w1 True :=
  CM_of (by decide +kernel) (Nat.le_of_ble_eq_true rfl) (fun p e s m args below meth c ls C hH hl => t_X4_tellNumber_0 C  hH (lv_sub hl [0, 1, 2] rfl) hf)
/-! LetterTables$MessageReader.digitAt -/
set_option maxRecDepth 100000 in
set_option maxHeartbeats 4000000 in
theorem t_X4_digitAt_0 {D : va_G} {B : Nat} {Y : Nat → ClassId} {p : Program} {l : Launch} {e : Env} {s : State} {m : MethodId} {args : Array Value} {below : List Frame} {meth : Method} {c : Code} {z : (Int32 × Wd)} {H : Heap} {locs : List Loc} {ls : Array Slot} {w : Wd} {v1 : Int32} (C : CX D B Y p s m args meth c cX4_digitAt 3 RX4 (some .int))     (hH : HS D B Y w s H locs) (hl : lv_has ls 3 [(0, .ref (B + 692)), (1, .int v1)]) (hf : f_X4_digitAt v1 w = some z) : W p l e (RM 1 0 0) s m args below meth c H locs 0 0 (MQ below (QG D B Y (some (.int z.1)) z.2 True) args s 0 0 (AB B)) (F0 m 0 ls []) := by
  have hx := C.1
  have hb := C.2.1
  unfold f_X4_digitAt at hf
  refine lv_aload_n hx hb dX4_digitAt_0 rfl (lv_at hl 0 rfl) ?_
  refine fg_X4_9 C hH dX4_digitAt_1 ?_
  refine lv_iload_n hx hb dX4_digitAt_4 rfl (lv_at hl 1 rfl) ?_
  obtain ⟨x2, w1, hc, hf⟩ := bd_some hf
  refine q_callV1 (v := .int x2) (As := [.int v1]) C hH (ci := 7) rfl (by omega) gk_X4_44 yd_X7_get (by omega) (by omega) kc_635 (c_X7_get kc_635 hc) hl.1 rfl (Nat.le_of_ble_eq_true rfl) dX4_digitAt_5 xv_00 (fun H locs hH hP => ?_)
  refine lv_bipush (v := (48 : Int32)) hx hb dX4_digitAt_8 (by decide) ?_
  refine lv_isub hx hb dX4_digitAt_10 ?_
  refine b_leti hf (fun x3 hf => ?_)
  refine lv_istore_n (lv' := [(2, .int x3), (0, .ref (B + 692)), (1, .int v1)]) hx hb dX4_digitAt_11 rfl hl (by decide) rfl (fun ls hl => ?_)
  refine lv_iload_n hx hb dX4_digitAt_12 rfl (lv_at hl 0 rfl) ?_
  refine lv_iconst (v := (0 : Int32)) hx hb dX4_digitAt_13 (by decide) ?_
  refine lv_iconst (v := (3 : Int32)) hx hb dX4_digitAt_14 (by decide) ?_
  obtain ⟨x5, w4, hc, hf⟩ := bd_some hf
  refine q_callN1 (v := .int x5) (As := [.int x3, .int (0 : Int32), .int (3 : Int32)]) C hH (List.mem_of_getElem? (i := 10) rfl) wd_452 wd_50 wd_451 yd_X10_isWithin (by omega) (by omega) (c_X10_isWithin hc) hl.1 rfl (Nat.le_of_ble_eq_true rfl) dX4_digitAt_15 xv_00 (fun H locs hH z_x5 => ?_)
  refine b_if_eq (tgt := 25) hx hb hf dX4_digitAt_18 (by decide) (fun hf => ?_) (fun hf => ?_)
  · refine lv_iconst (v := (-1 : Int32)) hx hb dX4_digitAt_25 (by decide) ?_
    cases hf
    exact q_reti C hH trivial dX4_digitAt_26
  · refine lv_iload_n hx hb dX4_digitAt_21 rfl (lv_at hl 0 rfl) ?_
    refine lv_goto (tgt := 26) hx hb dX4_digitAt_22 (by decide) ?_
    cases hf
    exact q_reti C hH trivial dX4_digitAt_26
set_option maxRecDepth 100000 in
theorem c_X4_digitAt {l : Launch} {D : va_G} {B : Nat} {Y : Nat → ClassId} {v1 : Int32} {w : Wd} {r : Int32} {w1 : Wd}   (hf : f_X4_digitAt v1 w = some (r, w1)) : CM l D B Y yX4_digitAt cX4_digitAt 3 (some .int) 1 [.ref (B + 692), .int v1] w (some (.int r)) w1 True :=
  CM_of (by decide +kernel) (Nat.le_of_ble_eq_true rfl) (fun p e s m args below meth c ls C hH hl => t_X4_digitAt_0 C  hH (lv_sub hl [0, 1] rfl) hf)
/-! LetterTables$MessageReader.putByte -/
set_option maxRecDepth 100000 in
set_option maxHeartbeats 4000000 in
theorem t_X4_putByte_0 {D : va_G} {B : Nat} {Y : Nat → ClassId} {p : Program} {l : Launch} {e : Env} {s : State} {m : MethodId} {args : Array Value} {below : List Frame} {meth : Method} {c : Code} {z : (Unit × Wd)} {H : Heap} {locs : List Loc} {ls : Array Slot} {w : Wd} {v1 : Int32} {v2 : Int32} (C : CX D B Y p s m args meth c cX4_putByte 3 RX4 none)    (z_v2 : isZ v2) (hH : HS D B Y w s H locs) (hl : lv_has ls 3 [(0, .ref (B + 692)), (1, .int v1), (2, .int v2)]) (hf : f_X4_putByte v1 v2 w = some z) : W p l e (RM 1 0 0) s m args below meth c H locs 0 0 (MQ below (QG D B Y none z.2 True) args s 0 0 (AB B)) (F0 m 0 ls []) := by
  have hx := C.1
  have hb := C.2.1
  unfold f_X4_putByte at hf
  refine lv_iload_n hx hb dX4_putByte_0 rfl (lv_at hl 2 rfl) ?_
  refine b_if_eq (tgt := 13) hx hb hf dX4_putByte_1 (by decide) (fun hf => ?_) (fun hf => ?_)
  · cases hf
    exact q_retv C hH trivial dX4_putByte_13
  · refine lv_aload_n hx hb dX4_putByte_4 rfl (lv_at hl 0 rfl) ?_
    refine fg_X4_26 C hH dX4_putByte_5 ?_
    refine lv_iload_n hx hb dX4_putByte_8 rfl (lv_at hl 1 rfl) ?_
    obtain ⟨x2, w1, hc, hf⟩ := bd_some hf
    refine q_callV1 (v := .int x2) (As := [.int v1]) C hH (ci := 7) rfl (by omega) gk_X4_32 yd_X7_add (by omega) (by omega) kc_697 (c_X7_add kc_697 hc) hl.1 rfl (Nat.le_of_ble_eq_true rfl) dX4_putByte_9 xv_00 (fun H locs hH z_x2 => ?_)
    refine lv_pop hx hb dX4_putByte_12 rfl ?_
    cases hf
    exact q_retv C hH trivial dX4_putByte_13
set_option maxRecDepth 100000 in
theorem c_X4_putByte {l : Launch} {D : va_G} {B : Nat} {Y : Nat → ClassId} {v1 : Int32} {v2 : Int32} {w : Wd} {r : Unit} {w1 : Wd}  (z_v2 : isZ v2) (hf : f_X4_putByte v1 v2 w = some (r, w1)) : CM l D B Y yX4_putByte cX4_putByte 3 none 1 [.ref (B + 692), .int v1, .int v2] w none w1 True :=
  CM_of (by decide +kernel) (Nat.le_of_ble_eq_true rfl) (fun p e s m args below meth c ls C hH hl => t_X4_putByte_0 C z_v2 hH (lv_sub hl [0, 1, 2] rfl) hf)
/-! LetterTables$MessageReader.putNumber -/
set_option maxRecDepth 100000 in
set_option maxHeartbeats 4000000 in
theorem t_X4_putNumber_61 {D : va_G} {B : Nat} {Y : Nat → ClassId} {p : Program} {l : Launch} {e : Env} {s : State} {m : MethodId} {args : Array Value} {below : List Frame} {meth : Method} {c : Code} {z : (Unit × Wd)} {H : Heap} {locs : List Loc} {ls : Array Slot} {w : Wd} {v1 : Int32} {v2 : Int32} {v3 : Int32} {v4 : Int32} {t1 : Int32} {t2 : Int32} (C : CX D B Y p s m args meth c cX4_putNumber 6 RX4 none)  {rc_6 : Int32 × Int32 × Int32 × Int32 × Wd → Option (Unit × Wd)} (hr_6 : ∀ (v1 : Int32) (v2 : Int32) (v3 : Int32) (v4 : Int32) (w : Wd), rc_6 (v1, v2, v3, v4, w) = some z → isZ v2 → isZ v3 → ∀ (H : Heap) (locs : List Loc) (ls : Array Slot), HS D B Y w s H locs → lv_has ls 6 [(0, .ref (B + 692)), (1, .int v1), (2, .int v2), (3, .int v3), (4, .int v4)] → W p l e (RM 2 0 0) s m args below meth c H locs 0 0 (MQ below (QG D B Y none z.2 True) args s 0 0 (AB B)) (F0 m 6 ls []))   (z_v2 : isZ v2) (z_v3 : isZ v3) (z_t2 : isZ t2) (hH : HS D B Y w s H locs) (hl : lv_has ls 6 [(0, .ref (B + 692)), (1, .int v1), (2, .int v2), (3, .int v3), (4, .int v4)]) (hf : f_X4_putNumber_61 rc_6 v1 v2 v3 v4 t1 t2 w = some z) : W p l e (RM 2 0 0) s m args below meth c H locs 0 0 (MQ below (QG D B Y none z.2 True) args s 0 0 (AB B)) (F0 m 61 ls [.int t2, .int t1, .ref (B + 692)]) := by
  have hx := C.1
  have hb := C.2.1
  unfold f_X4_putNumber_61 at hf
  obtain ⟨u, w1, hc, hf⟩ := bd_some hf
  refine q_callV0 (As := [.int t1, .int t2]) C hH (ci := 4) rfl (by omega) gk_X4_55 yd_X4_putByte (by omega) (by omega) kc_692 (c_X4_putByte z_t2 hc) hl.1 rfl (Nat.le_of_ble_eq_true rfl) dX4_putNumber_61 xv_00 (fun H locs hH hP => ?_)
  refine lv_iload hx hb dX4_putNumber_64 (lv_at hl 4 rfl) ?_
  refine lv_bipush (v := (10 : Int32)) hx hb dX4_putNumber_66 (by decide) ?_
  refine lv_idiv hx hb dX4_putNumber_68 (by decide) ?_
  refine b_leti hf (fun x2 hf => ?_)
  refine lv_istore (lv' := [(4, .int x2), (0, .ref (B + 692)), (1, .int v1), (2, .int v2), (3, .int v3)]) hx hb dX4_putNumber_69 hl (by decide) rfl (fun ls hl => ?_)
  refine lv_goto (tgt := 6) hx hb dX4_putNumber_71 (by decide) ?_
  exact hr_6 v1 v2 v3 x2 w1 hf z_v2 z_v3 _ _ _ hH (lv_sub hl [1, 2, 3, 4, 0] rfl)
set_option maxRecDepth 100000 in
set_option maxHeartbeats 4000000 in
theorem t_X4_putNumber_60 {D : va_G} {B : Nat} {Y : Nat → ClassId} {p : Program} {l : Launch} {e : Env} {s : State} {m : MethodId} {args : Array Value} {below : List Frame} {meth : Method} {c : Code} {z : (Unit × Wd)} {H : Heap} {locs : List Loc} {ls : Array Slot} {w : Wd} {v1 : Int32} {v2 : Int32} {v3 : Int32} {v4 : Int32} {t1 : Int32} (C : CX D B Y p s m args meth c cX4_putNumber 6 RX4 none)  {rc_6 : Int32 × Int32 × Int32 × Int32 × Wd → Option (Unit × Wd)} (hr_6 : ∀ (v1 : Int32) (v2 : Int32) (v3 : Int32) (v4 : Int32) (w : Wd), rc_6 (v1, v2, v3, v4, w) = some z → isZ v2 → isZ v3 → ∀ (H : Heap) (locs : List Loc) (ls : Array Slot), HS D B Y w s H locs → lv_has ls 6 [(0, .ref (B + 692)), (1, .int v1), (2, .int v2), (3, .int v3), (4, .int v4)] → W p l e (RM 2 0 0) s m args below meth c H locs 0 0 (MQ below (QG D B Y none z.2 True) args s 0 0 (AB B)) (F0 m 6 ls []))   (z_v2 : isZ v2) (z_v3 : isZ v3) (hH : HS D B Y w s H locs) (hl : lv_has ls 6 [(0, .ref (B + 692)), (1, .int v1), (2, .int v2), (3, .int v3), (4, .int v4)]) (hf : f_X4_putNumber_60 rc_6 v1 v2 v3 v4 t1 w = some z) : W p l e (RM 2 0 0) s m args below meth c H locs 0 0 (MQ below (QG D B Y none z.2 True) args s 0 0 (AB B)) (F0 m 60 ls [.int t1, .ref (B + 692)]) := by
  have hx := C.1
  have hb := C.2.1
  unfold f_X4_putNumber_60 at hf
  refine lv_iconst (v := (0 : Int32)) hx hb dX4_putNumber_60 (by decide) ?_
  exact t_X4_putNumber_61 C hr_6 z_v2 z_v3 isZ_0 hH (lv_sub hl [0, 1, 2, 3, 4] rfl) hf
set_option maxRecDepth 100000 in
set_option maxHeartbeats 4000000 in
theorem t_X4_putNumber_41 {D : va_G} {B : Nat} {Y : Nat → ClassId} {p : Program} {l : Launch} {e : Env} {s : State} {m : MethodId} {args : Array Value} {below : List Frame} {meth : Method} {c : Code} {z : (Unit × Wd)} {H : Heap} {locs : List Loc} {ls : Array Slot} {w : Wd} {v1 : Int32} {v2 : Int32} {v4 : Int32} {v5 : Int32} {t0 : Int32} (C : CX D B Y p s m args meth c cX4_putNumber 6 RX4 none)  {rc_6 : Int32 × Int32 × Int32 × Int32 × Wd → Option (Unit × Wd)} (hr_6 : ∀ (v1 : Int32) (v2 : Int32) (v3 : Int32) (v4 : Int32) (w : Wd), rc_6 (v1, v2, v3, v4, w) = some z → isZ v2 → isZ v3 → ∀ (H : Heap) (locs : List Loc) (ls : Array Slot), HS D B Y w s H locs → lv_has ls 6 [(0, .ref (B + 692)), (1, .int v1), (2, .int v2), (3, .int v3), (4, .int v4)] → W p l e (RM 2 0 0) s m args below meth c H locs 0 0 (MQ below (QG D B Y none z.2 True) args s 0 0 (AB B)) (F0 m 6 ls []))   (z_v2 : isZ v2) (z_t0 : isZ t0) (hH : HS D B Y w s H locs) (hl : lv_has ls 6 [(0, .ref (B + 692)), (1, .int v1), (2, .int v2), (4, .int v4), (5, .int v5)]) (hf : f_X4_putNumber_41 rc_6 v1 v2 v4 v5 t0 w = some z) : W p l e (RM 2 0 0) s m args below meth c H locs 0 0 (MQ below (QG D B Y none z.2 True) args s 0 0 (AB B)) (F0 m 41 ls [.int t0]) := by
  have hx := C.1
  have hb := C.2.1
  unfold f_X4_putNumber_41 at hf
  refine lv_istore_n (lv' := [(3, .int t0), (0, .ref (B + 692)), (1, .int v1), (2, .int v2), (4, .int v4), (5, .int v5)]) hx hb dX4_putNumber_41 rfl hl (by decide) rfl (fun ls hl => ?_)
  refine lv_aload_n hx hb dX4_putNumber_42 rfl (lv_at hl 1 rfl) ?_
  refine lv_bipush (v := (48 : Int32)) hx hb dX4_putNumber_43 (by decide) ?_
  refine lv_iload hx hb dX4_putNumber_45 (lv_at hl 5 rfl) ?_
  refine lv_iadd hx hb dX4_putNumber_47 ?_
  refine lv_iload_n hx hb dX4_putNumber_48 rfl (lv_at hl 3 rfl) ?_
  refine b_if_eq (tgt := 60) hx hb hf dX4_putNumber_49 (by decide) (fun hf => ?_) (fun hf => ?_)
  · exact t_X4_putNumber_60 C hr_6 z_v2 z_t0 hH (lv_sub hl [1, 2, 3, 0, 4] rfl) hf
  · refine lv_iload_n hx hb dX4_putNumber_52 rfl (lv_at hl 0 rfl) ?_
    refine b_if_eq (tgt := 60) hx hb hf dX4_putNumber_53 (by decide) (fun hf => ?_) (fun hf => ?_)
    · exact t_X4_putNumber_60 C hr_6 z_v2 z_t0 hH (lv_sub hl [1, 2, 3, 0, 4] rfl) hf
    · refine lv_iconst (v := (1 : Int32)) hx hb dX4_putNumber_56 (by decide) ?_
      refine lv_goto (tgt := 61) hx hb dX4_putNumber_57 (by decide) ?_
      exact t_X4_putNumber_61 C hr_6 z_v2 z_t0 isZ_1 hH (lv_sub hl [1, 2, 3, 0, 4] rfl) hf
set_option maxRecDepth 100000 in
set_option maxHeartbeats 4000000 in
theorem tb_X4_putNumber_6 {D : va_G} {B : Nat} {Y : Nat → ClassId} {p : Program} {l : Launch} {e : Env} {s : State} {m : MethodId} {args : Array Value} {below : List Frame} {meth : Method} {c : Code} {z : (Unit × Wd)} {H : Heap} {locs : List Loc} {ls : Array Slot} {w : Wd} {v1 : Int32} {v2 : Int32} {v3 : Int32} {v4 : Int32} (C : CX D B Y p s m args meth c cX4_putNumber 6 RX4 none)  {rc_6 : Int32 × Int32 × Int32 × Int32 × Wd → Option (Unit × Wd)} (hr_6 : ∀ (v1 : Int32) (v2 : Int32) (v3 : Int32) (v4 : Int32) (w : Wd), rc_6 (v1, v2, v3, v4, w) = some z → isZ v2 → isZ v3 → ∀ (H : Heap) (locs : List Loc) (ls : Array Slot), HS D B Y w s H locs → lv_has ls 6 [(0, .ref (B + 692)), (1, .int v1), (2, .int v2), (3, .int v3), (4, .int v4)] → W p l e (RM 2 0 0) s m args below meth c H locs 0 0 (MQ below (QG D B Y none z.2 True) args s 0 0 (AB B)) (F0 m 6 ls []))   (z_v2 : isZ v2) (z_v3 : isZ v3) (hH : HS D B Y w s H locs) (hl : lv_has ls 6 [(0, .ref (B + 692)), (1, .int v1), (2, .int v2), (3, .int v3), (4, .int v4)]) (hf : g_X4_putNumber_6 rc_6 v1 v2 v3 v4 w = some z) : W p l e (RM 2 0 0) s m args below meth c H locs 0 0 (MQ below (QG D B Y none z.2 True) args s 0 0 (AB B)) (F0 m 6 ls []) := by
  have hx := C.1
  have hb := C.2.1
  unfold g_X4_putNumber_6 at hf
  refine lv_iload hx hb dX4_putNumber_6 (lv_at hl 4 rfl) ?_
  refine lv_iconst (v := (1 : Int32)) hx hb dX4_putNumber_8 (by decide) ?_
  refine b_icmp_lt (tgt := 74) hx hb hf dX4_putNumber_9 (by decide) (fun hf => ?_) (fun hf => ?_)
  · cases hf
    exact q_retv C hH trivial dX4_putNumber_74
  · refine lv_iload_n hx hb dX4_putNumber_12 rfl (lv_at hl 1 rfl) ?_
    refine lv_iload hx hb dX4_putNumber_13 (lv_at hl 4 rfl) ?_
    refine g_idiv hx hb hf dX4_putNumber_15 (fun hf => ?_)
    refine lv_bipush (v := (10 : Int32)) hx hb dX4_putNumber_16 (by decide) ?_
    refine lv_irem hx hb dX4_putNumber_18 (by decide) ?_
    refine b_leti hf (fun x1 hf => ?_)
    refine lv_istore (lv' := [(5, .int x1), (0, .ref (B + 692)), (1, .int v1), (2, .int v2), (3, .int v3), (4, .int v4)]) hx hb dX4_putNumber_19 hl (by decide) rfl (fun ls hl => ?_)
    refine lv_iload_n hx hb dX4_putNumber_21 rfl (lv_at hl 4 rfl) ?_
    refine b_if_ne (tgt := 36) hx hb hf dX4_putNumber_22 (by decide) (fun hf => ?_) (fun hf => ?_)
    · refine lv_iconst (v := (1 : Int32)) hx hb dX4_putNumber_36 (by decide) ?_
      refine lv_goto (tgt := 41) hx hb dX4_putNumber_37 (by decide) ?_
      exact t_X4_putNumber_41 C hr_6 z_v2 isZ_1 hH (lv_sub hl [1, 2, 3, 5, 0] rfl) hf
    · refine lv_iload hx hb dX4_putNumber_25 (lv_at hl 0 rfl) ?_
      refine b_if_gt (tgt := 36) hx hb hf dX4_putNumber_27 (by decide) (fun hf => ?_) (fun hf => ?_)
      · refine lv_iconst (v := (1 : Int32)) hx hb dX4_putNumber_36 (by decide) ?_
        refine lv_goto (tgt := 41) hx hb dX4_putNumber_37 (by decide) ?_
        exact t_X4_putNumber_41 C hr_6 z_v2 isZ_1 hH (lv_sub hl [1, 2, 3, 5, 0] rfl) hf
      · refine lv_iload hx hb dX4_putNumber_30 (lv_at hl 5 rfl) ?_
        refine lv_iconst (v := (1 : Int32)) hx hb dX4_putNumber_32 (by decide) ?_
        refine b_icmp_ne (tgt := 40) hx hb hf dX4_putNumber_33 (by decide) (fun hf => ?_) (fun hf => ?_)
        · refine lv_iconst (v := (0 : Int32)) hx hb dX4_putNumber_40 (by decide) ?_
          exact t_X4_putNumber_41 C hr_6 z_v2 isZ_0 hH (lv_sub hl [1, 2, 3, 5, 0] rfl) hf
        · refine lv_iconst (v := (1 : Int32)) hx hb dX4_putNumber_36 (by decide) ?_
          refine lv_goto (tgt := 41) hx hb dX4_putNumber_37 (by decide) ?_
          exact t_X4_putNumber_41 C hr_6 z_v2 isZ_1 hH (lv_sub hl [1, 2, 3, 5, 0] rfl) hf
set_option maxRecDepth 100000 in
set_option maxHeartbeats 4000000 in
theorem t_X4_putNumber_6 {D : va_G} {B : Nat} {Y : Nat → ClassId} {p : Program} {l : Launch} {e : Env} {s : State} {m : MethodId} {args : Array Value} {below : List Frame} {meth : Method} {c : Code} {z : (Unit × Wd)} {H : Heap} {locs : List Loc} {ls : Array Slot} {w : Wd} {v1 : Int32} {v2 : Int32} {v3 : Int32} {v4 : Int32} (C : CX D B Y p s m args meth c cX4_putNumber 6 RX4 none)    (z_v2 : isZ v2) (z_v3 : isZ v3) (hH : HS D B Y w s H locs) (hl : lv_has ls 6 [(0, .ref (B + 692)), (1, .int v1), (2, .int v2), (3, .int v3), (4, .int v4)]) (hf : f_X4_putNumber_6 v1 v2 v3 v4 w = some z) : W p l e (RM 2 0 0) s m args below meth c H locs 0 0 (MQ below (QG D B Y none z.2 True) args s 0 0 (AB B)) (F0 m 6 ls []) := by
  exact loopN_ind (z := z) (body := fun rc σ => g_X4_putNumber_6 rc  σ.1 σ.2.1 σ.2.2.1 σ.2.2.2.1 σ.2.2.2.2)
    (P := fun σ => isZ σ.2.1 → isZ σ.2.2.1 → ∀ (H : Heap) (locs : List Loc) (ls : Array Slot), HS D B Y σ.2.2.2.2 s H locs → lv_has ls 6 [(0, .ref (B + 692)), (1, .int σ.1), (2, .int σ.2.1), (3, .int σ.2.2.1), (4, .int σ.2.2.2.1)] → W p l e (RM 2 0 0) s m args below meth c H locs 0 0 (MQ below (QG D B Y none z.2 True) args s 0 0 (AB B)) (F0 m 6 ls []))
    (fun rc hrec σ hf z_v2 z_v3 H locs ls hH hl => tb_X4_putNumber_6 C (fun v1 v2 v3 v4 w hr z_v2 z_v3 H locs ls hH hl => hrec (v1, v2, v3, v4, w) hr z_v2 z_v3 H locs ls hH hl)  z_v2 z_v3 hH hl hf) FU (v1, v2, v3, v4, w) hf z_v2 z_v3 H locs ls hH hl
set_option maxRecDepth 100000 in
set_option maxHeartbeats 4000000 in
theorem t_X4_putNumber_0 {D : va_G} {B : Nat} {Y : Nat → ClassId} {p : Program} {l : Launch} {e : Env} {s : State} {m : MethodId} {args : Array Value} {below : List Frame} {meth : Method} {c : Code} {z : (Unit × Wd)} {H : Heap} {locs : List Loc} {ls : Array Slot} {w : Wd} {v1 : Int32} {v2 : Int32} (C : CX D B Y p s m args meth c cX4_putNumber 6 RX4 none)    (z_v2 : isZ v2) (hH : HS D B Y w s H locs) (hl : lv_has ls 6 [(0, .ref (B + 692)), (1, .int v1), (2, .int v2)]) (hf : f_X4_putNumber v1 v2 w = some z) : W p l e (RM 2 0 0) s m args below meth c H locs 0 0 (MQ below (QG D B Y none z.2 True) args s 0 0 (AB B)) (F0 m 0 ls []) := by
  have hx := C.1
  have hb := C.2.1
  unfold f_X4_putNumber at hf
  refine lv_iconst (v := (0 : Int32)) hx hb dX4_putNumber_0 (by decide) ?_
  refine lv_istore_n (lv' := [(3, .int (0 : Int32)), (0, .ref (B + 692)), (1, .int v1), (2, .int v2)]) hx hb dX4_putNumber_1 rfl hl (by decide) rfl (fun ls hl => ?_)
  refine lv_ldc (v := (100000 : Int32)) hx hb C.2.2.2.1 (C.2.2.2.2.1 _ wd_1211) dX4_putNumber_2 ?_
  refine lv_istore (lv' := [(4, .int (100000 : Int32)), (3, .int (0 : Int32)), (0, .ref (B + 692)), (1, .int v1), (2, .int v2)]) hx hb dX4_putNumber_4 hl (by decide) rfl (fun ls hl => ?_)
  exact t_X4_putNumber_6 C z_v2 isZ_0 hH (lv_sub hl [2, 3, 4, 1, 0] rfl) hf
set_option maxRecDepth 100000 in
theorem c_X4_putNumber {l : Launch} {D : va_G} {B : Nat} {Y : Nat → ClassId} {v1 : Int32} {v2 : Int32} {w : Wd} {r : Unit} {w1 : Wd}  (z_v2 : isZ v2) (hf : f_X4_putNumber v1 v2 w = some (r, w1)) : CM l D B Y yX4_putNumber cX4_putNumber 6 none 2 [.ref (B + 692), .int v1, .int v2] w none w1 True :=
  CM_of (by decide +kernel) (Nat.le_of_ble_eq_true rfl) (fun p e s m args below meth c ls C hH hl => t_X4_putNumber_0 C z_v2 hH (lv_sub hl [0, 1, 2] rfl) hf)
/-! LetterTables$MessageReader.keyEnd -/
set_option maxRecDepth 100000 in
set_option maxHeartbeats 4000000 in
theorem t_X4_keyEnd_0 {D : va_G} {B : Nat} {Y : Nat → ClassId} {p : Program} {l : Launch} {e : Env} {s : State} {m : MethodId} {args : Array Value} {below : List Frame} {meth : Method} {c : Code} {z : (Int32 × Wd)} {H : Heap} {locs : List Loc} {ls : Array Slot} {w : Wd} {v1 : Int32} (C : CX D B Y p s m args meth c cX4_keyEnd 2 RX4 (some .int))     (hH : HS D B Y w s H locs) (hl : lv_has ls 2 [(0, .ref (B + 692)), (1, .int v1)]) (hf : f_X4_keyEnd v1 w = some z) : W p l e (RM 2 0 0) s m args below meth c H locs 0 0 (MQ below (QG D B Y (some (.int z.1)) z.2 True) args s 0 0 (AB B)) (F0 m 0 ls []) := by
  have hx := C.1
  have hb := C.2.1
  unfold f_X4_keyEnd at hf
  refine lv_aload_n hx hb dX4_keyEnd_0 rfl (lv_at hl 0 rfl) ?_
  refine fg_X4_9 C hH dX4_keyEnd_1 ?_
  refine lv_iload_n hx hb dX4_keyEnd_4 rfl (lv_at hl 1 rfl) ?_
  obtain ⟨x2, w1, hc, hf⟩ := bd_some hf
  refine q_callV1 (v := .int x2) (As := [.int v1]) C hH (ci := 7) rfl (by omega) gk_X4_44 yd_X7_get (by omega) (by omega) kc_635 (c_X7_get kc_635 hc) hl.1 rfl (Nat.le_of_ble_eq_true rfl) dX4_keyEnd_5 xv_00 (fun H locs hH hP => ?_)
  by_cases h_35 : x2 = 35
  · rw [if_pos h_35] at hf
    refine lv_lookup (tgt := 64) hx hb dX4_keyEnd_8 (by decide) (by rw [h_35]; try rfl) (by decide) ?_
    refine lv_aload_n hx hb dX4_keyEnd_64 rfl (lv_at hl 0 rfl) ?_
    refine lv_iload_n hx hb dX4_keyEnd_65 rfl (lv_at hl 1 rfl) ?_
    refine lv_iconst (v := (1 : Int32)) hx hb dX4_keyEnd_66 (by decide) ?_
    refine lv_iadd hx hb dX4_keyEnd_67 ?_
    obtain ⟨x4, w3, hc, hf⟩ := bd_some hf
    refine q_callV1 (v := .int x4) (As := [.int (v1 + (1 : Int32))]) C hH (ci := 4) rfl (by omega) gk_X4_59 yd_X4_digitAt (by omega) (by omega) kc_692 (c_X4_digitAt hc) hl.1 rfl (Nat.le_of_ble_eq_true rfl) dX4_keyEnd_68 xv_00 (fun H locs hH hP => ?_)
    refine lv_iconst (v := (-1 : Int32)) hx hb dX4_keyEnd_71 (by decide) ?_
    refine b_icmp_ne (tgt := 79) hx hb hf dX4_keyEnd_72 (by decide) (fun hf => ?_) (fun hf => ?_)
    · refine lv_iload_n hx hb dX4_keyEnd_79 rfl (lv_at hl 1 rfl) ?_
      refine lv_iconst (v := (2 : Int32)) hx hb dX4_keyEnd_80 (by decide) ?_
      refine lv_iadd hx hb dX4_keyEnd_81 ?_
      cases hf
      exact q_reti C hH trivial dX4_keyEnd_82
    · refine lv_iconst (v := (-1 : Int32)) hx hb dX4_keyEnd_75 (by decide) ?_
      refine lv_goto (tgt := 82) hx hb dX4_keyEnd_76 (by decide) ?_
      cases hf
      exact q_reti C hH trivial dX4_keyEnd_82
  rw [if_neg h_35] at hf
  by_cases h_102 : x2 = 102
  · rw [if_pos h_102] at hf
    refine lv_lookup (tgt := 60) hx hb dX4_keyEnd_8 (by decide) (by rw [h_102]; try rfl) (by decide) ?_
    refine lv_iload_n hx hb dX4_keyEnd_60 rfl (lv_at hl 1 rfl) ?_
    refine lv_iconst (v := (1 : Int32)) hx hb dX4_keyEnd_61 (by decide) ?_
    refine lv_iadd hx hb dX4_keyEnd_62 ?_
    cases hf
    exact q_reti C hH trivial dX4_keyEnd_63
  rw [if_neg h_102] at hf
  by_cases h_109 : x2 = 109
  · rw [if_pos h_109] at hf
    refine lv_lookup (tgt := 60) hx hb dX4_keyEnd_8 (by decide) (by rw [h_109]; try rfl) (by decide) ?_
    refine lv_iload_n hx hb dX4_keyEnd_60 rfl (lv_at hl 1 rfl) ?_
    refine lv_iconst (v := (1 : Int32)) hx hb dX4_keyEnd_61 (by decide) ?_
    refine lv_iadd hx hb dX4_keyEnd_62 ?_
    cases hf
    exact q_reti C hH trivial dX4_keyEnd_63
  rw [if_neg h_109] at hf
  by_cases h_111 : x2 = 111
  · rw [if_pos h_111] at hf
    refine lv_lookup (tgt := 60) hx hb dX4_keyEnd_8 (by decide) (by rw [h_111]; try rfl) (by decide) ?_
    refine lv_iload_n hx hb dX4_keyEnd_60 rfl (lv_at hl 1 rfl) ?_
    refine lv_iconst (v := (1 : Int32)) hx hb dX4_keyEnd_61 (by decide) ?_
    refine lv_iadd hx hb dX4_keyEnd_62 ?_
    cases hf
    exact q_reti C hH trivial dX4_keyEnd_63
  rw [if_neg h_111] at hf
  by_cases h_120 : x2 = 120
  · rw [if_pos h_120] at hf
    refine lv_lookup (tgt := 60) hx hb dX4_keyEnd_8 (by decide) (by rw [h_120]; try rfl) (by decide) ?_
    refine lv_iload_n hx hb dX4_keyEnd_60 rfl (lv_at hl 1 rfl) ?_
    refine lv_iconst (v := (1 : Int32)) hx hb dX4_keyEnd_61 (by decide) ?_
    refine lv_iadd hx hb dX4_keyEnd_62 ?_
    cases hf
    exact q_reti C hH trivial dX4_keyEnd_63
  rw [if_neg h_120] at hf
  refine lv_lookup (off := 75) (tgt := 83) hx hb dX4_keyEnd_8 (by decide) (by have q_35 : ¬ (35 : Int) = _ := fun e => sw_ne2 h_35 (by decide) e.symm; have q_102 : ¬ (102 : Int) = _ := fun e => sw_ne2 h_102 (by decide) e.symm; have q_109 : ¬ (109 : Int) = _ := fun e => sw_ne2 h_109 (by decide) e.symm; have q_111 : ¬ (111 : Int) = _ := fun e => sw_ne2 h_111 (by decide) e.symm; have q_120 : ¬ (120 : Int) = _ := fun e => sw_ne2 h_120 (by decide) e.symm; simp [Op.lookupswitch.offset, q_35, q_102, q_109, q_111, q_120]) (by decide) ?_
  refine lv_iconst (v := (-1 : Int32)) hx hb dX4_keyEnd_83 (by decide) ?_
  cases hf
  exact q_reti C hH trivial dX4_keyEnd_84
set_option maxRecDepth 100000 in
theorem c_X4_keyEnd {l : Launch} {D : va_G} {B : Nat} {Y : Nat → ClassId} {v1 : Int32} {w : Wd} {r : Int32} {w1 : Wd}   (hf : f_X4_keyEnd v1 w = some (r, w1)) : CM l D B Y yX4_keyEnd cX4_keyEnd 2 (some .int) 2 [.ref (B + 692), .int v1] w (some (.int r)) w1 True :=
  CM_of (by decide +kernel) (Nat.le_of_ble_eq_true rfl) (fun p e s m args below meth c ls C hH hl => t_X4_keyEnd_0 C  hH (lv_sub hl [0, 1] rfl) hf)
/-! LetterTables$MessageReader.isFitting -/
set_option maxRecDepth 100000 in
set_option maxHeartbeats 4000000 in
theorem t_X4_isFitting_0 {D : va_G} {B : Nat} {Y : Nat → ClassId} {p : Program} {l : Launch} {e : Env} {s : State} {m : MethodId} {args : Array Value} {below : List Frame} {meth : Method} {c : Code} {z : (Int32 × Wd)} {H : Heap} {locs : List Loc} {ls : Array Slot} {w : Wd} {v1 : Int32} {v2 : Int32} (C : CX D B Y p s m args meth c cX4_isFitting 3 RX4 (some .boolean))     (hH : HS D B Y w s H locs) (hl : lv_has ls 3 [(0, .ref (B + 692)), (1, .int v1), (2, .int v2)]) (hf : f_X4_isFitting v1 v2 w = some z) : W p l e (RM 2 0 0) s m args below meth c H locs 0 0 (MQ below (QG D B Y (some (.int z.1)) z.2 (isZ z.1)) args s 0 0 (AB B)) (F0 m 0 ls []) := by
  have hx := C.1
  have hb := C.2.1
  unfold f_X4_isFitting at hf
  refine lv_aload_n hx hb dX4_isFitting_0 rfl (lv_at hl 0 rfl) ?_
  refine fg_X4_9 C hH dX4_isFitting_1 ?_
  refine lv_iload_n hx hb dX4_isFitting_4 rfl (lv_at hl 1 rfl) ?_
  obtain ⟨x2, w1, hc, hf⟩ := bd_some hf
  refine q_callV1 (v := .int x2) (As := [.int v1]) C hH (ci := 7) rfl (by omega) gk_X4_44 yd_X7_get (by omega) (by omega) kc_635 (c_X7_get kc_635 hc) hl.1 rfl (Nat.le_of_ble_eq_true rfl) dX4_isFitting_5 xv_00 (fun H locs hH hP => ?_)
  by_cases h_35 : x2 = 35
  · rw [if_pos h_35] at hf
    refine lv_lookup (tgt := 105) hx hb dX4_isFitting_8 (by decide) (by rw [h_35]; try rfl) (by decide) ?_
    refine lv_aload_n hx hb dX4_isFitting_105 rfl (lv_at hl 0 rfl) ?_
    refine fg_X4_20 C hH dX4_isFitting_106 ?_
    refine lv_iload_n hx hb dX4_isFitting_109 rfl (lv_at hl 2 rfl) ?_
    obtain ⟨x4, w3, hc, hf⟩ := bd_some hf
    refine q_callV1 (v := .int x4) (As := [.int v2]) C hH (ci := 7) rfl (by omega) gk_X4_44 yd_X7_get (by omega) (by omega) kc_693 (c_X7_get kc_693 hc) hl.1 rfl (Nat.le_of_ble_eq_true rfl) dX4_isFitting_110 xv_00 (fun H locs hH hP => ?_)
    refine lv_aload_n hx hb dX4_isFitting_113 rfl (lv_at hl 0 rfl) ?_
    refine lv_iload_n hx hb dX4_isFitting_114 rfl (lv_at hl 1 rfl) ?_
    refine lv_iconst (v := (1 : Int32)) hx hb dX4_isFitting_115 (by decide) ?_
    refine lv_iadd hx hb dX4_isFitting_116 ?_
    obtain ⟨x6, w5, hc, hf⟩ := bd_some hf
    refine q_callV1 (v := .int x6) (As := [.int (v1 + (1 : Int32))]) C hH (ci := 4) rfl (by omega) gk_X4_59 yd_X4_digitAt (by omega) (by omega) kc_692 (c_X4_digitAt hc) hl.1 rfl (Nat.le_of_ble_eq_true rfl) dX4_isFitting_117 xv_00 (fun H locs hH hP => ?_)
    refine b_icmp_ne (tgt := 127) hx hb hf dX4_isFitting_120 (by decide) (fun hf => ?_) (fun hf => ?_)
    · refine lv_iconst (v := (0 : Int32)) hx hb dX4_isFitting_127 (by decide) ?_
      cases hf
      exact q_retz C hH isZ_0 isZ_0 dX4_isFitting_128
    · refine lv_iconst (v := (1 : Int32)) hx hb dX4_isFitting_123 (by decide) ?_
      refine lv_goto (tgt := 128) hx hb dX4_isFitting_124 (by decide) ?_
      cases hf
      exact q_retz C hH isZ_1 isZ_1 dX4_isFitting_128
  rw [if_neg h_35] at hf
  by_cases h_102 : x2 = 102
  · rw [if_pos h_102] at hf
    refine lv_lookup (tgt := 69) hx hb dX4_isFitting_8 (by decide) (by rw [h_102]; try rfl) (by decide) ?_
    refine lv_aload_n hx hb dX4_isFitting_69 rfl (lv_at hl 0 rfl) ?_
    refine fg_X4_23 C hH dX4_isFitting_70 ?_
    refine lv_iload_n hx hb dX4_isFitting_73 rfl (lv_at hl 2 rfl) ?_
    obtain ⟨x8, w7, hc, hf⟩ := bd_some hf
    refine q_callV1 (v := .int x8) (As := [.int v2]) C hH (ci := 7) rfl (by omega) gk_X4_44 yd_X7_get (by omega) (by omega) kc_695 (c_X7_get kc_695 hc) hl.1 rfl (Nat.le_of_ble_eq_true rfl) dX4_isFitting_74 xv_00 (fun H locs hH hP => ?_)
    refine lv_iconst (v := (1 : Int32)) hx hb dX4_isFitting_77 (by decide) ?_
    refine b_icmp_ne (tgt := 85) hx hb hf dX4_isFitting_78 (by decide) (fun hf => ?_) (fun hf => ?_)
    · refine lv_iconst (v := (0 : Int32)) hx hb dX4_isFitting_85 (by decide) ?_
      cases hf
      exact q_retz C hH isZ_0 isZ_0 dX4_isFitting_86
    · refine lv_iconst (v := (1 : Int32)) hx hb dX4_isFitting_81 (by decide) ?_
      refine lv_goto (tgt := 86) hx hb dX4_isFitting_82 (by decide) ?_
      cases hf
      exact q_retz C hH isZ_1 isZ_1 dX4_isFitting_86
  rw [if_neg h_102] at hf
  by_cases h_109 : x2 = 109
  · rw [if_pos h_109] at hf
    refine lv_lookup (tgt := 87) hx hb dX4_isFitting_8 (by decide) (by rw [h_109]; try rfl) (by decide) ?_
    refine lv_aload_n hx hb dX4_isFitting_87 rfl (lv_at hl 0 rfl) ?_
    refine fg_X4_23 C hH dX4_isFitting_88 ?_
    refine lv_iload_n hx hb dX4_isFitting_91 rfl (lv_at hl 2 rfl) ?_
    obtain ⟨x10, w9, hc, hf⟩ := bd_some hf
    refine q_callV1 (v := .int x10) (As := [.int v2]) C hH (ci := 7) rfl (by omega) gk_X4_44 yd_X7_get (by omega) (by omega) kc_695 (c_X7_get kc_695 hc) hl.1 rfl (Nat.le_of_ble_eq_true rfl) dX4_isFitting_92 xv_00 (fun H locs hH hP => ?_)
    refine lv_iconst (v := (2 : Int32)) hx hb dX4_isFitting_95 (by decide) ?_
    refine b_icmp_ne (tgt := 103) hx hb hf dX4_isFitting_96 (by decide) (fun hf => ?_) (fun hf => ?_)
    · refine lv_iconst (v := (0 : Int32)) hx hb dX4_isFitting_103 (by decide) ?_
      cases hf
      exact q_retz C hH isZ_0 isZ_0 dX4_isFitting_104
    · refine lv_iconst (v := (1 : Int32)) hx hb dX4_isFitting_99 (by decide) ?_
      refine lv_goto (tgt := 104) hx hb dX4_isFitting_100 (by decide) ?_
      cases hf
      exact q_retz C hH isZ_1 isZ_1 dX4_isFitting_104
  rw [if_neg h_109] at hf
  by_cases h_111 : x2 = 111
  · rw [if_pos h_111] at hf
    refine lv_lookup (tgt := 52) hx hb dX4_isFitting_8 (by decide) (by rw [h_111]; try rfl) (by decide) ?_
    refine lv_aload_n hx hb dX4_isFitting_52 rfl (lv_at hl 0 rfl) ?_
    refine fg_X4_23 C hH dX4_isFitting_53 ?_
    refine lv_iload_n hx hb dX4_isFitting_56 rfl (lv_at hl 2 rfl) ?_
    obtain ⟨x12, w11, hc, hf⟩ := bd_some hf
    refine q_callV1 (v := .int x12) (As := [.int v2]) C hH (ci := 7) rfl (by omega) gk_X4_44 yd_X7_get (by omega) (by omega) kc_695 (c_X7_get kc_695 hc) hl.1 rfl (Nat.le_of_ble_eq_true rfl) dX4_isFitting_57 xv_00 (fun H locs hH hP => ?_)
    refine b_if_ne (tgt := 67) hx hb hf dX4_isFitting_60 (by decide) (fun hf => ?_) (fun hf => ?_)
    · refine lv_iconst (v := (0 : Int32)) hx hb dX4_isFitting_67 (by decide) ?_
      cases hf
      exact q_retz C hH isZ_0 isZ_0 dX4_isFitting_68
    · refine lv_iconst (v := (1 : Int32)) hx hb dX4_isFitting_63 (by decide) ?_
      refine lv_goto (tgt := 68) hx hb dX4_isFitting_64 (by decide) ?_
      cases hf
      exact q_retz C hH isZ_1 isZ_1 dX4_isFitting_68
  rw [if_neg h_111] at hf
  refine lv_lookup (off := 121) (tgt := 129) hx hb dX4_isFitting_8 (by decide) (by have q_35 : ¬ (35 : Int) = _ := fun e => sw_ne2 h_35 (by decide) e.symm; have q_102 : ¬ (102 : Int) = _ := fun e => sw_ne2 h_102 (by decide) e.symm; have q_109 : ¬ (109 : Int) = _ := fun e => sw_ne2 h_109 (by decide) e.symm; have q_111 : ¬ (111 : Int) = _ := fun e => sw_ne2 h_111 (by decide) e.symm; simp [Op.lookupswitch.offset, q_35, q_102, q_109, q_111]) (by decide) ?_
  refine lv_iconst (v := (1 : Int32)) hx hb dX4_isFitting_129 (by decide) ?_
  cases hf
  exact q_retz C hH isZ_1 isZ_1 dX4_isFitting_130
set_option maxRecDepth 100000 in
theorem c_X4_isFitting {l : Launch} {D : va_G} {B : Nat} {Y : Nat → ClassId} {v1 : Int32} {v2 : Int32} {w : Wd} {r : Int32} {w1 : Wd}   (hf : f_X4_isFitting v1 v2 w = some (r, w1)) : CM l D B Y yX4_isFitting cX4_isFitting 3 (some .boolean) 2 [.ref (B + 692), .int v1, .int v2] w (some (.int r)) w1 (isZ r) :=
  CM_of (by decide +kernel) (Nat.le_of_ble_eq_true rfl) (fun p e s m args below meth c ls C hH hl => t_X4_isFitting_0 C  hH (lv_sub hl [0, 1, 2] rfl) hf)
/-! LetterTables$MessageReader.readCases -/
set_option maxRecDepth 100000 in
set_option maxHeartbeats 4000000 in
theorem t_X4_readCases_106 {D : va_G} {B : Nat} {Y : Nat → ClassId} {p : Program} {l : Launch} {e : Env} {s : State} {m : MethodId} {args : Array Value} {below : List Frame} {meth : Method} {c : Code} {z : (Int32 × Wd)} {H : Heap} {locs : List Loc} {ls : Array Slot} {w : Wd} {v2 : Int32} {v4 : Int32} {v5 : Int32} {v7 : Int32} {t0 : Int32} (hp : Nat) (h0 : 3 ≤ hp) (rp : Int32 → Int32 → Int32 → Wd → Option (Int32 × Wd)) (hrp : ∀ (a b d : Int32) (w : Wd) (r : Int32) (w1 : Wd), isZ b → rp a b d w = some (r, w1) → CM l D B Y yX4_readPieces cX4_readPieces 7 (some .int) hp [.ref (B + 692), .int a, .int b, .int d] w (some (.int r)) w1 True) (C : CX D B Y p s m args meth c cX4_readCases 11 RX4 (some .int))  {rc_9 : Int32 × Int32 × Int32 × Int32 × Int32 × Wd → Option (Int32 × Wd)} (hr_9 : ∀ (v2 : Int32) (v4 : Int32) (v5 : Int32) (v6 : Int32) (v7 : Int32) (w : Wd), rc_9 (v2, v4, v5, v6, v7, w) = some z → isZ v6 → ∀ (H : Heap) (locs : List Loc) (ls : Array Slot), HS D B Y w s H locs → lv_has ls 11 [(0, .ref (B + 692)), (2, .int v2), (4, .int v4), (5, .int v5), (6, .int v6), (7, .int v7)] → W p l e (RM (hp + 1) 0 0) s m args below meth c H locs 0 0 (MQ below (QG D B Y (some (.int z.1)) z.2 True) args s 0 0 (AB B)) (F0 m 9 ls []))   (z_t0 : isZ t0) (hH : HS D B Y w s H locs) (hl : lv_has ls 11 [(0, .ref (B + 692)), (2, .int v2), (4, .int v4), (5, .int v5), (7, .int v7)]) (hf : f_X4_readCases_106 rp rc_9 v2 v4 v5 v7 t0 w = some z) : W p l e (RM (hp + 1) 0 0) s m args below meth c H locs 0 0 (MQ below (QG D B Y (some (.int z.1)) z.2 True) args s 0 0 (AB B)) (F0 m 106 ls [.int t0]) := by
  have hx := C.1
  have hb := C.2.1
  unfold f_X4_readCases_106 at hf
  refine lv_istore (lv' := [(6, .int t0), (0, .ref (B + 692)), (2, .int v2), (4, .int v4), (5, .int v5), (7, .int v7)]) hx hb dX4_readCases_106 hl (by decide) rfl (fun ls hl => ?_)
  refine lv_aload_n hx hb dX4_readCases_108 rfl (lv_at hl 1 rfl) ?_
  refine fg_X4_9 C hH dX4_readCases_109 ?_
  refine lv_iload hx hb dX4_readCases_112 (lv_at hl 4 rfl) ?_
  obtain ⟨x2, w1, hc, hf⟩ := bd_some hf
  refine q_callV1 (v := .int x2) (As := [.int v5]) C hH (ci := 7) rfl (by omega) gk_X4_44 yd_X7_get (by omega) (by omega) kc_635 (c_X7_get kc_635 hc) hl.1 rfl (Nat.le_of_ble_eq_true rfl) dX4_readCases_114 xv_00 (fun H locs hH hP => ?_)
  refine lv_istore (lv' := [(10, .int x2), (6, .int t0), (0, .ref (B + 692)), (2, .int v2), (4, .int v4), (5, .int v5), (7, .int v7)]) hx hb dX4_readCases_117 hl (by decide) rfl (fun ls hl => ?_)
  refine b_let hf (fun x3 he hf => ?_)
  refine lv_iinc (v := x3) (lv' := [(5, .int x3), (10, .int x2), (6, .int t0), (0, .ref (B + 692)), (2, .int v2), (4, .int v4), (7, .int v7)]) hx hb dX4_readCases_119 hl (k := 5) rfl (by rw [← he]; rfl) (by decide) rfl (fun ls hl => ?_)
  refine lv_iload hx hb dX4_readCases_122 (lv_at hl 1 rfl) ?_
  refine lv_bipush (v := (124 : Int32)) hx hb dX4_readCases_124 (by decide) ?_
  refine b_icmp_eq (tgt := 143) hx hb hf dX4_readCases_126 (by decide) (fun hf => ?_) (fun hf => ?_)
  · refine b_let hf (fun x4 he hf => ?_)
    refine lv_iinc (v := x4) (lv' := [(7, .int x4), (5, .int x3), (10, .int x2), (6, .int t0), (0, .ref (B + 692)), (2, .int v2), (4, .int v4)]) hx hb dX4_readCases_143 hl (k := 6) rfl (by rw [← he]; rfl) (by decide) rfl (fun ls hl => ?_)
    refine lv_goto (tgt := 9) hx hb dX4_readCases_146 (by decide) ?_
    exact hr_9 v2 v4 x3 t0 x4 w1 hf z_t0 _ _ _ hH (lv_sub hl [4, 5, 6, 1, 3, 0] rfl)
  · refine lv_iload hx hb dX4_readCases_129 (lv_at hl 1 rfl) ?_
    refine lv_bipush (v := (125 : Int32)) hx hb dX4_readCases_131 (by decide) ?_
    refine b_icmp_ne (tgt := 141) hx hb hf dX4_readCases_133 (by decide) (fun hf => ?_) (fun hf => ?_)
    · refine lv_iconst (v := (-1 : Int32)) hx hb dX4_readCases_141 (by decide) ?_
      cases hf
      exact q_reti C hH trivial dX4_readCases_142
    · refine lv_iload hx hb dX4_readCases_136 (lv_at hl 0 rfl) ?_
      refine lv_goto (tgt := 142) hx hb dX4_readCases_138 (by decide) ?_
      cases hf
      exact q_reti C hH trivial dX4_readCases_142
set_option maxRecDepth 100000 in
set_option maxHeartbeats 4000000 in
theorem t_X4_readCases_105 {D : va_G} {B : Nat} {Y : Nat → ClassId} {p : Program} {l : Launch} {e : Env} {s : State} {m : MethodId} {args : Array Value} {below : List Frame} {meth : Method} {c : Code} {z : (Int32 × Wd)} {H : Heap} {locs : List Loc} {ls : Array Slot} {w : Wd} {v2 : Int32} {v4 : Int32} {v5 : Int32} {v7 : Int32} (hp : Nat) (h0 : 3 ≤ hp) (rp : Int32 → Int32 → Int32 → Wd → Option (Int32 × Wd)) (hrp : ∀ (a b d : Int32) (w : Wd) (r : Int32) (w1 : Wd), isZ b → rp a b d w = some (r, w1) → CM l D B Y yX4_readPieces cX4_readPieces 7 (some .int) hp [.ref (B + 692), .int a, .int b, .int d] w (some (.int r)) w1 True) (C : CX D B Y p s m args meth c cX4_readCases 11 RX4 (some .int))  {rc_9 : Int32 × Int32 × Int32 × Int32 × Int32 × Wd → Option (Int32 × Wd)} (hr_9 : ∀ (v2 : Int32) (v4 : Int32) (v5 : Int32) (v6 : Int32) (v7 : Int32) (w : Wd), rc_9 (v2, v4, v5, v6, v7, w) = some z → isZ v6 → ∀ (H : Heap) (locs : List Loc) (ls : Array Slot), HS D B Y w s H locs → lv_has ls 11 [(0, .ref (B + 692)), (2, .int v2), (4, .int v4), (5, .int v5), (6, .int v6), (7, .int v7)] → W p l e (RM (hp + 1) 0 0) s m args below meth c H locs 0 0 (MQ below (QG D B Y (some (.int z.1)) z.2 True) args s 0 0 (AB B)) (F0 m 9 ls []))    (hH : HS D B Y w s H locs) (hl : lv_has ls 11 [(0, .ref (B + 692)), (2, .int v2), (4, .int v4), (5, .int v5), (7, .int v7)]) (hf : f_X4_readCases_105 rp rc_9 v2 v4 v5 v7 w = some z) : W p l e (RM (hp + 1) 0 0) s m args below meth c H locs 0 0 (MQ below (QG D B Y (some (.int z.1)) z.2 True) args s 0 0 (AB B)) (F0 m 105 ls []) := by
  have hx := C.1
  have hb := C.2.1
  unfold f_X4_readCases_105 at hf
  refine lv_iconst (v := (0 : Int32)) hx hb dX4_readCases_105 (by decide) ?_
  exact t_X4_readCases_106 hp h0 rp hrp C hr_9 isZ_0 hH (lv_sub hl [0, 1, 2, 3, 4] rfl) hf
set_option maxRecDepth 100000 in
set_option maxHeartbeats 4000000 in
theorem t_X4_readCases_67 {D : va_G} {B : Nat} {Y : Nat → ClassId} {p : Program} {l : Launch} {e : Env} {s : State} {m : MethodId} {args : Array Value} {below : List Frame} {meth : Method} {c : Code} {z : (Int32 × Wd)} {H : Heap} {locs : List Loc} {ls : Array Slot} {w : Wd} {v2 : Int32} {v4 : Int32} {v6 : Int32} {v7 : Int32} {v8 : Int32} {t0 : Int32} (hp : Nat) (h0 : 3 ≤ hp) (rp : Int32 → Int32 → Int32 → Wd → Option (Int32 × Wd)) (hrp : ∀ (a b d : Int32) (w : Wd) (r : Int32) (w1 : Wd), isZ b → rp a b d w = some (r, w1) → CM l D B Y yX4_readPieces cX4_readPieces 7 (some .int) hp [.ref (B + 692), .int a, .int b, .int d] w (some (.int r)) w1 True) (C : CX D B Y p s m args meth c cX4_readCases 11 RX4 (some .int))  {rc_9 : Int32 × Int32 × Int32 × Int32 × Int32 × Wd → Option (Int32 × Wd)} (hr_9 : ∀ (v2 : Int32) (v4 : Int32) (v5 : Int32) (v6 : Int32) (v7 : Int32) (w : Wd), rc_9 (v2, v4, v5, v6, v7, w) = some z → isZ v6 → ∀ (H : Heap) (locs : List Loc) (ls : Array Slot), HS D B Y w s H locs → lv_has ls 11 [(0, .ref (B + 692)), (2, .int v2), (4, .int v4), (5, .int v5), (6, .int v6), (7, .int v7)] → W p l e (RM (hp + 1) 0 0) s m args below meth c H locs 0 0 (MQ below (QG D B Y (some (.int z.1)) z.2 True) args s 0 0 (AB B)) (F0 m 9 ls []))   (z_v6 : isZ v6) (z_t0 : isZ t0) (hH : HS D B Y w s H locs) (hl : lv_has ls 11 [(0, .ref (B + 692)), (2, .int v2), (4, .int v4), (6, .int v6), (7, .int v7), (8, .int v8)]) (hf : f_X4_readCases_67 rp rc_9 v2 v4 v6 v7 v8 t0 w = some z) : W p l e (RM (hp + 1) 0 0) s m args below meth c H locs 0 0 (MQ below (QG D B Y (some (.int z.1)) z.2 True) args s 0 0 (AB B)) (F0 m 67 ls [.int t0]) := by
  have hx := C.1
  have hb := C.2.1
  unfold f_X4_readCases_67 at hf
  refine lv_istore (lv' := [(9, .int t0), (0, .ref (B + 692)), (2, .int v2), (4, .int v4), (6, .int v6), (7, .int v7), (8, .int v8)]) hx hb dX4_readCases_67 hl (by decide) rfl (fun ls hl => ?_)
  refine lv_aload_n hx hb dX4_readCases_69 rfl (lv_at hl 1 rfl) ?_
  refine lv_iload hx hb dX4_readCases_70 (lv_at hl 6 rfl) ?_
  refine lv_iconst (v := (1 : Int32)) hx hb dX4_readCases_72 (by decide) ?_
  refine lv_iadd hx hb dX4_readCases_73 ?_
  refine lv_iload hx hb dX4_readCases_74 (lv_at hl 0 rfl) ?_
  refine lv_iload hx hb dX4_readCases_76 (lv_at hl 3 rfl) ?_
  obtain ⟨x2, w1, hc, hf⟩ := bd_some hf
  refine q_callV1 (v := .int x2) (As := [.int (v8 + (1 : Int32)), .int t0, .int v4]) C hH (ci := 4) rfl (by omega) gk_X4_36 yd_X4_readPieces (by omega) (by omega) kc_692 (hrp _ _ _ _ _ _ z_t0 hc) hl.1 rfl (Nat.le_of_ble_eq_true rfl) dX4_readCases_78 xv_00 (fun H locs hH hP => ?_)
  refine lv_istore (lv' := [(5, .int x2), (9, .int t0), (0, .ref (B + 692)), (2, .int v2), (4, .int v4), (6, .int v6), (7, .int v7), (8, .int v8)]) hx hb dX4_readCases_81 hl (by decide) rfl (fun ls hl => ?_)
  refine lv_iload hx hb dX4_readCases_83 (lv_at hl 0 rfl) ?_
  refine lv_iconst (v := (-1 : Int32)) hx hb dX4_readCases_85 (by decide) ?_
  refine b_icmp_ne (tgt := 91) hx hb hf dX4_readCases_86 (by decide) (fun hf => ?_) (fun hf => ?_)
  · refine lv_iload hx hb dX4_readCases_91 (lv_at hl 5 rfl) ?_
    refine b_if_eq (tgt := 105) hx hb hf dX4_readCases_93 (by decide) (fun hf => ?_) (fun hf => ?_)
    · exact t_X4_readCases_105 hp h0 rp hrp C hr_9 hH (lv_sub hl [2, 3, 4, 0, 6] rfl) hf
    · refine lv_iload hx hb dX4_readCases_96 (lv_at hl 1 rfl) ?_
      refine b_if_ne (tgt := 105) hx hb hf dX4_readCases_98 (by decide) (fun hf => ?_) (fun hf => ?_)
      · exact t_X4_readCases_105 hp h0 rp hrp C hr_9 hH (lv_sub hl [2, 3, 4, 0, 6] rfl) hf
      · refine lv_iconst (v := (1 : Int32)) hx hb dX4_readCases_101 (by decide) ?_
        refine lv_goto (tgt := 106) hx hb dX4_readCases_102 (by decide) ?_
        exact t_X4_readCases_106 hp h0 rp hrp C hr_9 isZ_1 hH (lv_sub hl [2, 3, 4, 0, 6] rfl) hf
  · refine lv_iconst (v := (-1 : Int32)) hx hb dX4_readCases_89 (by decide) ?_
    cases hf
    exact q_reti C hH trivial dX4_readCases_90
set_option maxRecDepth 100000 in
set_option maxHeartbeats 4000000 in
theorem t_X4_readCases_66 {D : va_G} {B : Nat} {Y : Nat → ClassId} {p : Program} {l : Launch} {e : Env} {s : State} {m : MethodId} {args : Array Value} {below : List Frame} {meth : Method} {c : Code} {z : (Int32 × Wd)} {H : Heap} {locs : List Loc} {ls : Array Slot} {w : Wd} {v2 : Int32} {v4 : Int32} {v6 : Int32} {v7 : Int32} {v8 : Int32} (hp : Nat) (h0 : 3 ≤ hp) (rp : Int32 → Int32 → Int32 → Wd → Option (Int32 × Wd)) (hrp : ∀ (a b d : Int32) (w : Wd) (r : Int32) (w1 : Wd), isZ b → rp a b d w = some (r, w1) → CM l D B Y yX4_readPieces cX4_readPieces 7 (some .int) hp [.ref (B + 692), .int a, .int b, .int d] w (some (.int r)) w1 True) (C : CX D B Y p s m args meth c cX4_readCases 11 RX4 (some .int))  {rc_9 : Int32 × Int32 × Int32 × Int32 × Int32 × Wd → Option (Int32 × Wd)} (hr_9 : ∀ (v2 : Int32) (v4 : Int32) (v5 : Int32) (v6 : Int32) (v7 : Int32) (w : Wd), rc_9 (v2, v4, v5, v6, v7, w) = some z → isZ v6 → ∀ (H : Heap) (locs : List Loc) (ls : Array Slot), HS D B Y w s H locs → lv_has ls 11 [(0, .ref (B + 692)), (2, .int v2), (4, .int v4), (5, .int v5), (6, .int v6), (7, .int v7)] → W p l e (RM (hp + 1) 0 0) s m args below meth c H locs 0 0 (MQ below (QG D B Y (some (.int z.1)) z.2 True) args s 0 0 (AB B)) (F0 m 9 ls []))   (z_v6 : isZ v6) (hH : HS D B Y w s H locs) (hl : lv_has ls 11 [(0, .ref (B + 692)), (2, .int v2), (4, .int v4), (6, .int v6), (7, .int v7), (8, .int v8)]) (hf : f_X4_readCases_66 rp rc_9 v2 v4 v6 v7 v8 w = some z) : W p l e (RM (hp + 1) 0 0) s m args below meth c H locs 0 0 (MQ below (QG D B Y (some (.int z.1)) z.2 True) args s 0 0 (AB B)) (F0 m 66 ls []) := by
  have hx := C.1
  have hb := C.2.1
  unfold f_X4_readCases_66 at hf
  refine lv_iconst (v := (0 : Int32)) hx hb dX4_readCases_66 (by decide) ?_
  exact t_X4_readCases_67 hp h0 rp hrp C hr_9 z_v6 isZ_0 hH (lv_sub hl [0, 1, 2, 3, 4, 5] rfl) hf
set_option maxRecDepth 100000 in
set_option maxHeartbeats 4000000 in
theorem tb_X4_readCases_9 {D : va_G} {B : Nat} {Y : Nat → ClassId} {p : Program} {l : Launch} {e : Env} {s : State} {m : MethodId} {args : Array Value} {below : List Frame} {meth : Method} {c : Code} {z : (Int32 × Wd)} {H : Heap} {locs : List Loc} {ls : Array Slot} {w : Wd} {v2 : Int32} {v4 : Int32} {v5 : Int32} {v6 : Int32} {v7 : Int32} (hp : Nat) (h0 : 3 ≤ hp) (rp : Int32 → Int32 → Int32 → Wd → Option (Int32 × Wd)) (hrp : ∀ (a b d : Int32) (w : Wd) (r : Int32) (w1 : Wd), isZ b → rp a b d w = some (r, w1) → CM l D B Y yX4_readPieces cX4_readPieces 7 (some .int) hp [.ref (B + 692), .int a, .int b, .int d] w (some (.int r)) w1 True) (C : CX D B Y p s m args meth c cX4_readCases 11 RX4 (some .int))  {rc_9 : Int32 × Int32 × Int32 × Int32 × Int32 × Wd → Option (Int32 × Wd)} (hr_9 : ∀ (v2 : Int32) (v4 : Int32) (v5 : Int32) (v6 : Int32) (v7 : Int32) (w : Wd), rc_9 (v2, v4, v5, v6, v7, w) = some z → isZ v6 → ∀ (H : Heap) (locs : List Loc) (ls : Array Slot), HS D B Y w s H locs → lv_has ls 11 [(0, .ref (B + 692)), (2, .int v2), (4, .int v4), (5, .int v5), (6, .int v6), (7, .int v7)] → W p l e (RM (hp + 1) 0 0) s m args below meth c H locs 0 0 (MQ below (QG D B Y (some (.int z.1)) z.2 True) args s 0 0 (AB B)) (F0 m 9 ls []))   (z_v6 : isZ v6) (hH : HS D B Y w s H locs) (hl : lv_has ls 11 [(0, .ref (B + 692)), (2, .int v2), (4, .int v4), (5, .int v5), (6, .int v6), (7, .int v7)]) (hf : g_X4_readCases_9 rp rc_9 v2 v4 v5 v6 v7 w = some z) : W p l e (RM (hp + 1) 0 0) s m args below meth c H locs 0 0 (MQ below (QG D B Y (some (.int z.1)) z.2 True) args s 0 0 (AB B)) (F0 m 9 ls []) := by
  have hx := C.1
  have hb := C.2.1
  unfold g_X4_readCases_9 at hf
  refine lv_iload hx hb dX4_readCases_9 (lv_at hl 5 rfl) ?_
  refine lv_sipush (v := (160 : Int32)) hx hb dX4_readCases_11 (by decide) ?_
  refine b_icmp_gt (tgt := 149) hx hb hf dX4_readCases_14 (by decide) (fun hf => ?_) (fun hf => ?_)
  · refine lv_iconst (v := (-1 : Int32)) hx hb dX4_readCases_149 (by decide) ?_
    cases hf
    exact q_reti C hH trivial dX4_readCases_150
  · refine lv_aload_n hx hb dX4_readCases_17 rfl (lv_at hl 0 rfl) ?_
    refine lv_iload hx hb dX4_readCases_18 (lv_at hl 3 rfl) ?_
    obtain ⟨x2, w1, hc, hf⟩ := bd_some hf
    refine q_callV1 (v := .int x2) (As := [.int v5]) C hH (ci := 4) rfl (by omega) gk_X4_69 yd_X4_keyEnd (by omega) (by omega) kc_692 (c_X4_keyEnd hc) hl.1 rfl (Nat.le_of_ble_eq_true rfl) dX4_readCases_20 xv_00 (fun H locs hH hP => ?_)
    refine lv_istore (lv' := [(8, .int x2), (0, .ref (B + 692)), (2, .int v2), (4, .int v4), (5, .int v5), (6, .int v6), (7, .int v7)]) hx hb dX4_readCases_23 hl (by decide) rfl (fun ls hl => ?_)
    refine lv_iload hx hb dX4_readCases_25 (lv_at hl 0 rfl) ?_
    refine lv_iconst (v := (-1 : Int32)) hx hb dX4_readCases_27 (by decide) ?_
    refine b_icmp_eq (tgt := 45) hx hb hf dX4_readCases_28 (by decide) (fun hf => ?_) (fun hf => ?_)
    · refine lv_iconst (v := (-1 : Int32)) hx hb dX4_readCases_45 (by decide) ?_
      cases hf
      exact q_reti C hH trivial dX4_readCases_46
    · refine lv_aload_n hx hb dX4_readCases_31 rfl (lv_at hl 1 rfl) ?_
      refine fg_X4_9 C hH dX4_readCases_32 ?_
      refine lv_iload hx hb dX4_readCases_35 (lv_at hl 0 rfl) ?_
      obtain ⟨x4, w3, hc, hf⟩ := bd_some hf
      refine q_callV1 (v := .int x4) (As := [.int x2]) C hH (ci := 7) rfl (by omega) gk_X4_44 yd_X7_get (by omega) (by omega) kc_635 (c_X7_get kc_635 hc) hl.1 rfl (Nat.le_of_ble_eq_true rfl) dX4_readCases_37 xv_00 (fun H locs hH hP => ?_)
      refine lv_bipush (v := (61 : Int32)) hx hb dX4_readCases_40 (by decide) ?_
      refine b_icmp_eq (tgt := 47) hx hb hf dX4_readCases_42 (by decide) (fun hf => ?_) (fun hf => ?_)
      · refine lv_iload hx hb dX4_readCases_47 (lv_at hl 5 rfl) ?_
        refine b_if_eq (tgt := 66) hx hb hf dX4_readCases_49 (by decide) (fun hf => ?_) (fun hf => ?_)
        · exact t_X4_readCases_66 hp h0 rp hrp C hr_9 z_v6 hH (lv_sub hl [1, 2, 3, 5, 6, 0] rfl) hf
        · refine lv_aload_n hx hb dX4_readCases_52 rfl (lv_at hl 1 rfl) ?_
          refine lv_iload hx hb dX4_readCases_53 (lv_at hl 4 rfl) ?_
          refine lv_iload_n hx hb dX4_readCases_55 rfl (lv_at hl 2 rfl) ?_
          obtain ⟨x6, w5, hc, hf⟩ := bd_some hf
          refine q_callV1 (v := .int x6) (As := [.int v5, .int v2]) C hH (ci := 4) rfl (by omega) gk_X4_72 yd_X4_isFitting (by omega) (by omega) kc_692 (c_X4_isFitting hc) hl.1 rfl (Nat.le_of_ble_eq_true rfl) dX4_readCases_56 xv_00 (fun H locs hH z_x6 => ?_)
          refine b_if_eq (tgt := 66) hx hb hf dX4_readCases_59 (by decide) (fun hf => ?_) (fun hf => ?_)
          · exact t_X4_readCases_66 hp h0 rp hrp C hr_9 z_v6 hH (lv_sub hl [1, 2, 3, 5, 6, 0] rfl) hf
          · refine lv_iconst (v := (1 : Int32)) hx hb dX4_readCases_62 (by decide) ?_
            refine lv_goto (tgt := 67) hx hb dX4_readCases_63 (by decide) ?_
            exact t_X4_readCases_67 hp h0 rp hrp C hr_9 z_v6 isZ_1 hH (lv_sub hl [1, 2, 3, 5, 6, 0] rfl) hf
      · refine lv_iconst (v := (-1 : Int32)) hx hb dX4_readCases_45 (by decide) ?_
        cases hf
        exact q_reti C hH trivial dX4_readCases_46
set_option maxRecDepth 100000 in
set_option maxHeartbeats 4000000 in
theorem t_X4_readCases_9 {D : va_G} {B : Nat} {Y : Nat → ClassId} {p : Program} {l : Launch} {e : Env} {s : State} {m : MethodId} {args : Array Value} {below : List Frame} {meth : Method} {c : Code} {z : (Int32 × Wd)} {H : Heap} {locs : List Loc} {ls : Array Slot} {w : Wd} {v2 : Int32} {v4 : Int32} {v5 : Int32} {v6 : Int32} {v7 : Int32} (hp : Nat) (h0 : 3 ≤ hp) (rp : Int32 → Int32 → Int32 → Wd → Option (Int32 × Wd)) (hrp : ∀ (a b d : Int32) (w : Wd) (r : Int32) (w1 : Wd), isZ b → rp a b d w = some (r, w1) → CM l D B Y yX4_readPieces cX4_readPieces 7 (some .int) hp [.ref (B + 692), .int a, .int b, .int d] w (some (.int r)) w1 True) (C : CX D B Y p s m args meth c cX4_readCases 11 RX4 (some .int))    (z_v6 : isZ v6) (hH : HS D B Y w s H locs) (hl : lv_has ls 11 [(0, .ref (B + 692)), (2, .int v2), (4, .int v4), (5, .int v5), (6, .int v6), (7, .int v7)]) (hf : f_X4_readCases_9 rp v2 v4 v5 v6 v7 w = some z) : W p l e (RM (hp + 1) 0 0) s m args below meth c H locs 0 0 (MQ below (QG D B Y (some (.int z.1)) z.2 True) args s 0 0 (AB B)) (F0 m 9 ls []) := by
  exact loopN_ind (z := z) (body := fun rc σ => g_X4_readCases_9 rp rc  σ.1 σ.2.1 σ.2.2.1 σ.2.2.2.1 σ.2.2.2.2.1 σ.2.2.2.2.2)
    (P := fun σ => isZ σ.2.2.2.1 → ∀ (H : Heap) (locs : List Loc) (ls : Array Slot), HS D B Y σ.2.2.2.2.2 s H locs → lv_has ls 11 [(0, .ref (B + 692)), (2, .int σ.1), (4, .int σ.2.1), (5, .int σ.2.2.1), (6, .int σ.2.2.2.1), (7, .int σ.2.2.2.2.1)] → W p l e (RM (hp + 1) 0 0) s m args below meth c H locs 0 0 (MQ below (QG D B Y (some (.int z.1)) z.2 True) args s 0 0 (AB B)) (F0 m 9 ls []))
    (fun rc hrec σ hf z_v6 H locs ls hH hl => tb_X4_readCases_9 hp h0 rp hrp C (fun v2 v4 v5 v6 v7 w hr z_v6 H locs ls hH hl => hrec (v2, v4, v5, v6, v7, w) hr z_v6 H locs ls hH hl)  z_v6 hH hl hf) FU (v2, v4, v5, v6, v7, w) hf z_v6 H locs ls hH hl
set_option maxRecDepth 100000 in
set_option maxHeartbeats 4000000 in
theorem t_X4_readCases_0 {D : va_G} {B : Nat} {Y : Nat → ClassId} {p : Program} {l : Launch} {e : Env} {s : State} {m : MethodId} {args : Array Value} {below : List Frame} {meth : Method} {c : Code} {z : (Int32 × Wd)} {H : Heap} {locs : List Loc} {ls : Array Slot} {w : Wd} {v1 : Int32} {v2 : Int32} {v3 : Int32} {v4 : Int32} (hp : Nat) (h0 : 3 ≤ hp) (rp : Int32 → Int32 → Int32 → Wd → Option (Int32 × Wd)) (hrp : ∀ (a b d : Int32) (w : Wd) (r : Int32) (w1 : Wd), isZ b → rp a b d w = some (r, w1) → CM l D B Y yX4_readPieces cX4_readPieces 7 (some .int) hp [.ref (B + 692), .int a, .int b, .int d] w (some (.int r)) w1 True) (C : CX D B Y p s m args meth c cX4_readCases 11 RX4 (some .int))    (z_v3 : isZ v3) (hH : HS D B Y w s H locs) (hl : lv_has ls 11 [(0, .ref (B + 692)), (1, .int v1), (2, .int v2), (3, .int v3), (4, .int v4)]) (hf : f_X4_readCases rp v1 v2 v3 v4 w = some z) : W p l e (RM (hp + 1) 0 0) s m args below meth c H locs 0 0 (MQ below (QG D B Y (some (.int z.1)) z.2 True) args s 0 0 (AB B)) (F0 m 0 ls []) := by
  have hx := C.1
  have hb := C.2.1
  unfold f_X4_readCases at hf
  refine lv_iload_n hx hb dX4_readCases_0 rfl (lv_at hl 1 rfl) ?_
  refine lv_istore (lv' := [(5, .int v1), (0, .ref (B + 692)), (1, .int v1), (2, .int v2), (3, .int v3), (4, .int v4)]) hx hb dX4_readCases_1 hl (by decide) rfl (fun ls hl => ?_)
  refine lv_iload_n hx hb dX4_readCases_3 rfl (lv_at hl 4 rfl) ?_
  refine lv_istore (lv' := [(6, .int v3), (5, .int v1), (0, .ref (B + 692)), (1, .int v1), (2, .int v2), (3, .int v3), (4, .int v4)]) hx hb dX4_readCases_4 hl (by decide) rfl (fun ls hl => ?_)
  refine lv_iconst (v := (0 : Int32)) hx hb dX4_readCases_6 (by decide) ?_
  refine lv_istore (lv' := [(7, .int (0 : Int32)), (6, .int v3), (5, .int v1), (0, .ref (B + 692)), (1, .int v1), (2, .int v2), (3, .int v3), (4, .int v4)]) hx hb dX4_readCases_7 hl (by decide) rfl (fun ls hl => ?_)
  exact t_X4_readCases_9 hp h0 rp hrp C z_v3 hH (lv_sub hl [3, 5, 7, 2, 1, 0] rfl) hf
set_option maxRecDepth 100000 in
theorem c_X4_readCases {l : Launch} {D : va_G} {B : Nat} {Y : Nat → ClassId} {v1 : Int32} {v2 : Int32} {v3 : Int32} {v4 : Int32} {w : Wd} {r : Int32} {w1 : Wd} (hp : Nat) (h0 : 3 ≤ hp) (rp : Int32 → Int32 → Int32 → Wd → Option (Int32 × Wd)) (hrp : ∀ (a b d : Int32) (w : Wd) (r : Int32) (w1 : Wd), isZ b → rp a b d w = some (r, w1) → CM l D B Y yX4_readPieces cX4_readPieces 7 (some .int) hp [.ref (B + 692), .int a, .int b, .int d] w (some (.int r)) w1 True)  (z_v3 : isZ v3) (hf : f_X4_readCases rp v1 v2 v3 v4 w = some (r, w1)) : CM l D B Y yX4_readCases cX4_readCases 11 (some .int) (hp + 1) [.ref (B + 692), .int v1, .int v2, .int v3, .int v4] w (some (.int r)) w1 True :=
  CM_of (by decide +kernel) (Nat.le_of_ble_eq_true rfl) (fun p e s m args below meth c ls C hH hl => t_X4_readCases_0 hp h0 rp hrp C z_v3 hH (lv_sub hl [0, 1, 2, 3, 4] rfl) hf)
/-! LetterTables$MessageReader.readBraces -/
set_option maxRecDepth 100000 in
set_option maxHeartbeats 4000000 in
theorem t_X4_readBraces_0 {D : va_G} {B : Nat} {Y : Nat → ClassId} {p : Program} {l : Launch} {e : Env} {s : State} {m : MethodId} {args : Array Value} {below : List Frame} {meth : Method} {c : Code} {z : (Int32 × Wd)} {H : Heap} {locs : List Loc} {ls : Array Slot} {w : Wd} {v1 : Int32} {v2 : Int32} {v3 : Int32} (hp : Nat) (h0 : 3 ≤ hp) (rp : Int32 → Int32 → Int32 → Wd → Option (Int32 × Wd)) (hrp : ∀ (a b d : Int32) (w : Wd) (r : Int32) (w1 : Wd), isZ b → rp a b d w = some (r, w1) → CM l D B Y yX4_readPieces cX4_readPieces 7 (some .int) hp [.ref (B + 692), .int a, .int b, .int d] w (some (.int r)) w1 True) (C : CX D B Y p s m args meth c cX4_readBraces 6 RX4 (some .int))    (z_v2 : isZ v2) (hH : HS D B Y w s H locs) (hl : lv_has ls 6 [(0, .ref (B + 692)), (1, .int v1), (2, .int v2), (3, .int v3)]) (hf : f_X4_readBraces rp v1 v2 v3 w = some z) : W p l e (RM (hp + 2) 0 0) s m args below meth c H locs 0 0 (MQ below (QG D B Y (some (.int z.1)) z.2 True) args s 0 0 (AB B)) (F0 m 0 ls []) := by
  have hx := C.1
  have hb := C.2.1
  unfold f_X4_readBraces at hf
  refine lv_aload_n hx hb dX4_readBraces_0 rfl (lv_at hl 0 rfl) ?_
  refine lv_iload_n hx hb dX4_readBraces_1 rfl (lv_at hl 1 rfl) ?_
  obtain ⟨x2, w1, hc, hf⟩ := bd_some hf
  refine q_callV1 (v := .int x2) (As := [.int v1]) C hH (ci := 4) rfl (by omega) gk_X4_59 yd_X4_digitAt (by omega) (by omega) kc_692 (c_X4_digitAt hc) hl.1 rfl (Nat.le_of_ble_eq_true rfl) dX4_readBraces_2 xv_00 (fun H locs hH hP => ?_)
  refine lv_istore (lv' := [(4, .int x2), (0, .ref (B + 692)), (1, .int v1), (2, .int v2), (3, .int v3)]) hx hb dX4_readBraces_5 hl (by decide) rfl (fun ls hl => ?_)
  refine lv_aload_n hx hb dX4_readBraces_7 rfl (lv_at hl 1 rfl) ?_
  refine fg_X4_9 C hH dX4_readBraces_8 ?_
  refine lv_iload_n hx hb dX4_readBraces_11 rfl (lv_at hl 2 rfl) ?_
  refine lv_iconst (v := (1 : Int32)) hx hb dX4_readBraces_12 (by decide) ?_
  refine lv_iadd hx hb dX4_readBraces_13 ?_
  obtain ⟨x4, w3, hc, hf⟩ := bd_some hf
  refine q_callV1 (v := .int x4) (As := [.int (v1 + (1 : Int32))]) C hH (ci := 7) rfl (by omega) gk_X4_44 yd_X7_get (by omega) (by omega) kc_635 (c_X7_get kc_635 hc) hl.1 rfl (Nat.le_of_ble_eq_true rfl) dX4_readBraces_14 xv_00 (fun H locs hH hP => ?_)
  refine lv_istore (lv' := [(5, .int x4), (4, .int x2), (0, .ref (B + 692)), (1, .int v1), (2, .int v2), (3, .int v3)]) hx hb dX4_readBraces_17 hl (by decide) rfl (fun ls hl => ?_)
  refine lv_iload hx hb dX4_readBraces_19 (lv_at hl 1 rfl) ?_
  refine lv_iconst (v := (-1 : Int32)) hx hb dX4_readBraces_21 (by decide) ?_
  refine b_icmp_ne (tgt := 27) hx hb hf dX4_readBraces_22 (by decide) (fun hf => ?_) (fun hf => ?_)
  · refine lv_iload hx hb dX4_readBraces_27 (lv_at hl 0 rfl) ?_
    refine lv_bipush (v := (125 : Int32)) hx hb dX4_readBraces_29 (by decide) ?_
    refine b_icmp_ne (tgt := 52) hx hb hf dX4_readBraces_31 (by decide) (fun hf => ?_) (fun hf => ?_)
    · refine lv_iload hx hb dX4_readBraces_52 (lv_at hl 0 rfl) ?_
      refine lv_bipush (v := (58 : Int32)) hx hb dX4_readBraces_54 (by decide) ?_
      refine b_icmp_ne (tgt := 65) hx hb hf dX4_readBraces_56 (by decide) (fun hf => ?_) (fun hf => ?_)
      · refine lv_iconst (v := (-1 : Int32)) hx hb dX4_readBraces_65 (by decide) ?_
        cases hf
        exact q_reti C hH trivial dX4_readBraces_66
      · refine lv_iload_n hx hb dX4_readBraces_59 rfl (lv_at hl 5 rfl) ?_
        refine lv_bipush (v := (6 : Int32)) hx hb dX4_readBraces_60 (by decide) ?_
        refine b_icmp_lt (tgt := 67) hx hb hf dX4_readBraces_62 (by decide) (fun hf => ?_) (fun hf => ?_)
        · refine lv_aload_n hx hb dX4_readBraces_67 rfl (lv_at hl 2 rfl) ?_
          refine lv_iload_n hx hb dX4_readBraces_68 rfl (lv_at hl 3 rfl) ?_
          refine lv_iconst (v := (2 : Int32)) hx hb dX4_readBraces_69 (by decide) ?_
          refine lv_iadd hx hb dX4_readBraces_70 ?_
          refine lv_iload hx hb dX4_readBraces_71 (lv_at hl 1 rfl) ?_
          refine lv_iload_n hx hb dX4_readBraces_73 rfl (lv_at hl 4 rfl) ?_
          refine lv_iload_n hx hb dX4_readBraces_74 rfl (lv_at hl 5 rfl) ?_
          refine lv_iconst (v := (1 : Int32)) hx hb dX4_readBraces_75 (by decide) ?_
          refine lv_iadd hx hb dX4_readBraces_76 ?_
          obtain ⟨x6, w5, hc, hf⟩ := bd_some hf
          refine q_callV1 (v := .int x6) (As := [.int (v1 + (2 : Int32)), .int x2, .int v2, .int (v3 + (1 : Int32))]) C hH (ci := 4) rfl (by omega) gk_X4_65 yd_X4_readCases (by omega) (by omega) kc_692 (c_X4_readCases hp h0 rp hrp z_v2 hc) hl.1 rfl (Nat.le_of_ble_eq_true rfl) dX4_readBraces_77 xv_00 (fun H locs hH hP => ?_)
          cases hf
          exact q_reti C hH trivial dX4_readBraces_80
        · refine lv_iconst (v := (-1 : Int32)) hx hb dX4_readBraces_65 (by decide) ?_
          cases hf
          exact q_reti C hH trivial dX4_readBraces_66
    · refine lv_aload_n hx hb dX4_readBraces_34 rfl (lv_at hl 2 rfl) ?_
      refine lv_aload_n hx hb dX4_readBraces_35 rfl (lv_at hl 2 rfl) ?_
      refine fg_X4_20 C hH dX4_readBraces_36 ?_
      refine lv_iload hx hb dX4_readBraces_39 (lv_at hl 1 rfl) ?_
      obtain ⟨x8, w7, hc, hf⟩ := bd_some hf
      refine q_callV1 (v := .int x8) (As := [.int x2]) C hH (ci := 7) rfl (by omega) gk_X4_44 yd_X7_get (by omega) (by omega) kc_693 (c_X7_get kc_693 hc) hl.1 rfl (Nat.le_of_ble_eq_true rfl) dX4_readBraces_41 xv_00 (fun H locs hH hP => ?_)
      refine lv_iload_n hx hb dX4_readBraces_44 rfl (lv_at hl 4 rfl) ?_
      obtain ⟨u, w9, hc, hf⟩ := bd_some hf
      refine q_callV0 (As := [.int x8, .int v2]) C hH (ci := 4) rfl (by omega) gk_X4_62 yd_X4_putNumber (by omega) (by omega) kc_692 (c_X4_putNumber z_v2 hc) hl.1 rfl (Nat.le_of_ble_eq_true rfl) dX4_readBraces_45 xv_00 (fun H locs hH hP => ?_)
      refine lv_iload_n hx hb dX4_readBraces_48 rfl (lv_at hl 3 rfl) ?_
      refine lv_iconst (v := (2 : Int32)) hx hb dX4_readBraces_49 (by decide) ?_
      refine lv_iadd hx hb dX4_readBraces_50 ?_
      cases hf
      exact q_reti C hH trivial dX4_readBraces_51
  · refine lv_iconst (v := (-1 : Int32)) hx hb dX4_readBraces_25 (by decide) ?_
    cases hf
    exact q_reti C hH trivial dX4_readBraces_26
set_option maxRecDepth 100000 in
theorem c_X4_readBraces {l : Launch} {D : va_G} {B : Nat} {Y : Nat → ClassId} {v1 : Int32} {v2 : Int32} {v3 : Int32} {w : Wd} {r : Int32} {w1 : Wd} (hp : Nat) (h0 : 3 ≤ hp) (rp : Int32 → Int32 → Int32 → Wd → Option (Int32 × Wd)) (hrp : ∀ (a b d : Int32) (w : Wd) (r : Int32) (w1 : Wd), isZ b → rp a b d w = some (r, w1) → CM l D B Y yX4_readPieces cX4_readPieces 7 (some .int) hp [.ref (B + 692), .int a, .int b, .int d] w (some (.int r)) w1 True)  (z_v2 : isZ v2) (hf : f_X4_readBraces rp v1 v2 v3 w = some (r, w1)) : CM l D B Y yX4_readBraces cX4_readBraces 6 (some .int) (hp + 2) [.ref (B + 692), .int v1, .int v2, .int v3] w (some (.int r)) w1 True :=
  CM_of (by decide +kernel) (Nat.le_of_ble_eq_true rfl) (fun p e s m args below meth c ls C hH hl => t_X4_readBraces_0 hp h0 rp hrp C z_v2 hH (lv_sub hl [0, 1, 2, 3] rfl) hf)
/-! LetterTables$MessageReader.readPieces -/
set_option maxRecDepth 100000 in
set_option maxHeartbeats 4000000 in
theorem tb_X4_readPieces_6 {D : va_G} {B : Nat} {Y : Nat → ClassId} {p : Program} {l : Launch} {e : Env} {s : State} {m : MethodId} {args : Array Value} {below : List Frame} {meth : Method} {c : Code} {z : (Int32 × Wd)} {H : Heap} {locs : List Loc} {ls : Array Slot} {w : Wd} {v2 : Int32} {v3 : Int32} {v4 : Int32} {v5 : Int32} (hp : Nat) (h0 : 3 ≤ hp) (rp : Int32 → Int32 → Int32 → Wd → Option (Int32 × Wd)) (hrp : ∀ (a b d : Int32) (w : Wd) (r : Int32) (w1 : Wd), isZ b → rp a b d w = some (r, w1) → CM l D B Y yX4_readPieces cX4_readPieces 7 (some .int) hp [.ref (B + 692), .int a, .int b, .int d] w (some (.int r)) w1 True) (C : CX D B Y p s m args meth c cX4_readPieces 7 RX4 (some .int))  {rc_6 : Int32 × Int32 × Int32 × Int32 × Wd → Option (Int32 × Wd)} (hr_6 : ∀ (v2 : Int32) (v3 : Int32) (v4 : Int32) (v5 : Int32) (w : Wd), rc_6 (v2, v3, v4, v5, w) = some z → isZ v2 → ∀ (H : Heap) (locs : List Loc) (ls : Array Slot), HS D B Y w s H locs → lv_has ls 7 [(0, .ref (B + 692)), (2, .int v2), (3, .int v3), (4, .int v4), (5, .int v5)] → W p l e (RM (hp + 3) 0 0) s m args below meth c H locs 0 0 (MQ below (QG D B Y (some (.int z.1)) z.2 True) args s 0 0 (AB B)) (F0 m 6 ls []))   (z_v2 : isZ v2) (hH : HS D B Y w s H locs) (hl : lv_has ls 7 [(0, .ref (B + 692)), (2, .int v2), (3, .int v3), (4, .int v4), (5, .int v5)]) (hf : g_X4_readPieces_6 rp rc_6 v2 v3 v4 v5 w = some z) : W p l e (RM (hp + 3) 0 0) s m args below meth c H locs 0 0 (MQ below (QG D B Y (some (.int z.1)) z.2 True) args s 0 0 (AB B)) (F0 m 6 ls []) := by
  have hx := C.1
  have hb := C.2.1
  unfold g_X4_readPieces_6 at hf
  refine lv_iload hx hb dX4_readPieces_6 (lv_at hl 4 rfl) ?_
  refine lv_sipush (v := (160 : Int32)) hx hb dX4_readPieces_8 (by decide) ?_
  refine b_icmp_gt (tgt := 108) hx hb hf dX4_readPieces_11 (by decide) (fun hf => ?_) (fun hf => ?_)
  · refine lv_iconst (v := (-1 : Int32)) hx hb dX4_readPieces_108 (by decide) ?_
    cases hf
    exact q_reti C hH trivial dX4_readPieces_109
  · refine lv_aload_n hx hb dX4_readPieces_14 rfl (lv_at hl 0 rfl) ?_
    refine fg_X4_9 C hH dX4_readPieces_15 ?_
    refine lv_iload hx hb dX4_readPieces_18 (lv_at hl 3 rfl) ?_
    obtain ⟨x2, w1, hc, hf⟩ := bd_some hf
    refine q_callV1 (v := .int x2) (As := [.int v4]) C hH (ci := 7) rfl (by omega) gk_X4_44 yd_X7_get (by omega) (by omega) kc_635 (c_X7_get kc_635 hc) hl.1 rfl (Nat.le_of_ble_eq_true rfl) dX4_readPieces_20 xv_00 (fun H locs hH hP => ?_)
    refine lv_istore (lv' := [(6, .int x2), (0, .ref (B + 692)), (2, .int v2), (3, .int v3), (4, .int v4), (5, .int v5)]) hx hb dX4_readPieces_23 hl (by decide) rfl (fun ls hl => ?_)
    refine lv_iload hx hb dX4_readPieces_25 (lv_at hl 0 rfl) ?_
    refine lv_iconst (v := (-1 : Int32)) hx hb dX4_readPieces_27 (by decide) ?_
    refine b_icmp_eq (tgt := 45) hx hb hf dX4_readPieces_28 (by decide) (fun hf => ?_) (fun hf => ?_)
    · refine lv_iload hx hb dX4_readPieces_45 (lv_at hl 4 rfl) ?_
      cases hf
      exact q_reti C hH trivial dX4_readPieces_47
    · refine lv_iload hx hb dX4_readPieces_31 (lv_at hl 0 rfl) ?_
      refine lv_bipush (v := (124 : Int32)) hx hb dX4_readPieces_33 (by decide) ?_
      refine b_icmp_eq (tgt := 45) hx hb hf dX4_readPieces_35 (by decide) (fun hf => ?_) (fun hf => ?_)
      · refine lv_iload hx hb dX4_readPieces_45 (lv_at hl 4 rfl) ?_
        cases hf
        exact q_reti C hH trivial dX4_readPieces_47
      · refine lv_iload hx hb dX4_readPieces_38 (lv_at hl 0 rfl) ?_
        refine lv_bipush (v := (125 : Int32)) hx hb dX4_readPieces_40 (by decide) ?_
        refine b_icmp_ne (tgt := 48) hx hb hf dX4_readPieces_42 (by decide) (fun hf => ?_) (fun hf => ?_)
        · refine lv_iload hx hb dX4_readPieces_48 (lv_at hl 0 rfl) ?_
          refine lv_bipush (v := (123 : Int32)) hx hb dX4_readPieces_50 (by decide) ?_
          refine b_icmp_ne (tgt := 75) hx hb hf dX4_readPieces_52 (by decide) (fun hf => ?_) (fun hf => ?_)
          · refine lv_iload hx hb dX4_readPieces_75 (lv_at hl 0 rfl) ?_
            refine lv_bipush (v := (32 : Int32)) hx hb dX4_readPieces_77 (by decide) ?_
            refine lv_bipush (v := (126 : Int32)) hx hb dX4_readPieces_79 (by decide) ?_
            obtain ⟨x4, w3, hc, hf⟩ := bd_some hf
            refine q_callN1 (v := .int x4) (As := [.int x2, .int (32 : Int32), .int (126 : Int32)]) C hH (List.mem_of_getElem? (i := 10) rfl) wd_452 wd_50 wd_451 yd_X10_isWithin (by omega) (by omega) (c_X10_isWithin hc) hl.1 rfl (Nat.le_of_ble_eq_true rfl) dX4_readPieces_81 xv_00 (fun H locs hH z_x4 => ?_)
            refine b_if_eq (tgt := 100) hx hb hf dX4_readPieces_84 (by decide) (fun hf => ?_) (fun hf => ?_)
            · refine lv_iconst (v := (-1 : Int32)) hx hb dX4_readPieces_100 (by decide) ?_
              cases hf
              exact q_reti C hH trivial dX4_readPieces_101
            · refine lv_aload_n hx hb dX4_readPieces_87 rfl (lv_at hl 1 rfl) ?_
              refine lv_iload hx hb dX4_readPieces_88 (lv_at hl 0 rfl) ?_
              refine lv_iload_n hx hb dX4_readPieces_90 rfl (lv_at hl 2 rfl) ?_
              obtain ⟨u, w5, hc, hf⟩ := bd_some hf
              refine q_callV0 (As := [.int x2, .int v2]) C hH (ci := 4) rfl (by omega) gk_X4_55 yd_X4_putByte (by omega) (by omega) kc_692 (c_X4_putByte z_v2 hc) hl.1 rfl (Nat.le_of_ble_eq_true rfl) dX4_readPieces_91 xv_00 (fun H locs hH hP => ?_)
              refine b_let hf (fun x6 he hf => ?_)
              refine lv_iinc (v := x6) (lv' := [(4, .int x6), (6, .int x2), (0, .ref (B + 692)), (2, .int v2), (3, .int v3), (5, .int v5)]) hx hb dX4_readPieces_94 hl (k := 4) rfl (by rw [← he]; rfl) (by decide) rfl (fun ls hl => ?_)
              refine lv_goto (tgt := 102) hx hb dX4_readPieces_97 (by decide) ?_
              refine b_let hf (fun x7 he hf => ?_)
              refine lv_iinc (v := x7) (lv' := [(5, .int x7), (4, .int x6), (6, .int x2), (0, .ref (B + 692)), (2, .int v2), (3, .int v3)]) hx hb dX4_readPieces_102 hl (k := 5) rfl (by rw [← he]; rfl) (by decide) rfl (fun ls hl => ?_)
              refine lv_goto (tgt := 6) hx hb dX4_readPieces_105 (by decide) ?_
              exact hr_6 v2 v3 x6 x7 w5 hf z_v2 _ _ _ hH (lv_sub hl [3, 4, 5, 1, 0] rfl)
          · refine lv_aload_n hx hb dX4_readPieces_55 rfl (lv_at hl 1 rfl) ?_
            refine lv_iload hx hb dX4_readPieces_56 (lv_at hl 4 rfl) ?_
            refine lv_iconst (v := (1 : Int32)) hx hb dX4_readPieces_58 (by decide) ?_
            refine lv_iadd hx hb dX4_readPieces_59 ?_
            refine lv_iload_n hx hb dX4_readPieces_60 rfl (lv_at hl 2 rfl) ?_
            refine lv_iload_n hx hb dX4_readPieces_61 rfl (lv_at hl 3 rfl) ?_
            obtain ⟨x9, w8, hc, hf⟩ := bd_some hf
            refine q_callV1 (v := .int x9) (As := [.int (v4 + (1 : Int32)), .int v2, .int v3]) C hH (ci := 4) rfl (by omega) gk_X4_48 yd_X4_readBraces (by omega) (by omega) kc_692 (c_X4_readBraces hp h0 rp hrp z_v2 hc) hl.1 rfl (Nat.le_of_ble_eq_true rfl) dX4_readPieces_62 xv_00 (fun H locs hH hP => ?_)
            refine lv_istore (lv' := [(4, .int x9), (6, .int x2), (0, .ref (B + 692)), (2, .int v2), (3, .int v3), (5, .int v5)]) hx hb dX4_readPieces_65 hl (by decide) rfl (fun ls hl => ?_)
            refine lv_iload hx hb dX4_readPieces_67 (lv_at hl 0 rfl) ?_
            refine lv_iconst (v := (-1 : Int32)) hx hb dX4_readPieces_69 (by decide) ?_
            refine b_icmp_ne (tgt := 102) hx hb hf dX4_readPieces_70 (by decide) (fun hf => ?_) (fun hf => ?_)
            · refine b_let hf (fun x10 he hf => ?_)
              refine lv_iinc (v := x10) (lv' := [(5, .int x10), (4, .int x9), (6, .int x2), (0, .ref (B + 692)), (2, .int v2), (3, .int v3)]) hx hb dX4_readPieces_102 hl (k := 5) rfl (by rw [← he]; rfl) (by decide) rfl (fun ls hl => ?_)
              refine lv_goto (tgt := 6) hx hb dX4_readPieces_105 (by decide) ?_
              exact hr_6 v2 v3 x9 x10 w8 hf z_v2 _ _ _ hH (lv_sub hl [3, 4, 5, 1, 0] rfl)
            · refine lv_iconst (v := (-1 : Int32)) hx hb dX4_readPieces_73 (by decide) ?_
              cases hf
              exact q_reti C hH trivial dX4_readPieces_74
        · refine lv_iload hx hb dX4_readPieces_45 (lv_at hl 4 rfl) ?_
          cases hf
          exact q_reti C hH trivial dX4_readPieces_47
set_option maxRecDepth 100000 in
set_option maxHeartbeats 4000000 in
theorem t_X4_readPieces_6 {D : va_G} {B : Nat} {Y : Nat → ClassId} {p : Program} {l : Launch} {e : Env} {s : State} {m : MethodId} {args : Array Value} {below : List Frame} {meth : Method} {c : Code} {z : (Int32 × Wd)} {H : Heap} {locs : List Loc} {ls : Array Slot} {w : Wd} {v2 : Int32} {v3 : Int32} {v4 : Int32} {v5 : Int32} (hp : Nat) (h0 : 3 ≤ hp) (rp : Int32 → Int32 → Int32 → Wd → Option (Int32 × Wd)) (hrp : ∀ (a b d : Int32) (w : Wd) (r : Int32) (w1 : Wd), isZ b → rp a b d w = some (r, w1) → CM l D B Y yX4_readPieces cX4_readPieces 7 (some .int) hp [.ref (B + 692), .int a, .int b, .int d] w (some (.int r)) w1 True) (C : CX D B Y p s m args meth c cX4_readPieces 7 RX4 (some .int))    (z_v2 : isZ v2) (hH : HS D B Y w s H locs) (hl : lv_has ls 7 [(0, .ref (B + 692)), (2, .int v2), (3, .int v3), (4, .int v4), (5, .int v5)]) (hf : f_X4_readPieces_6 rp v2 v3 v4 v5 w = some z) : W p l e (RM (hp + 3) 0 0) s m args below meth c H locs 0 0 (MQ below (QG D B Y (some (.int z.1)) z.2 True) args s 0 0 (AB B)) (F0 m 6 ls []) := by
  exact loopN_ind (z := z) (body := fun rc σ => g_X4_readPieces_6 rp rc  σ.1 σ.2.1 σ.2.2.1 σ.2.2.2.1 σ.2.2.2.2)
    (P := fun σ => isZ σ.1 → ∀ (H : Heap) (locs : List Loc) (ls : Array Slot), HS D B Y σ.2.2.2.2 s H locs → lv_has ls 7 [(0, .ref (B + 692)), (2, .int σ.1), (3, .int σ.2.1), (4, .int σ.2.2.1), (5, .int σ.2.2.2.1)] → W p l e (RM (hp + 3) 0 0) s m args below meth c H locs 0 0 (MQ below (QG D B Y (some (.int z.1)) z.2 True) args s 0 0 (AB B)) (F0 m 6 ls []))
    (fun rc hrec σ hf z_v2 H locs ls hH hl => tb_X4_readPieces_6 hp h0 rp hrp C (fun v2 v3 v4 v5 w hr z_v2 H locs ls hH hl => hrec (v2, v3, v4, v5, w) hr z_v2 H locs ls hH hl)  z_v2 hH hl hf) FU (v2, v3, v4, v5, w) hf z_v2 H locs ls hH hl
set_option maxRecDepth 100000 in
set_option maxHeartbeats 4000000 in
theorem t_X4_readPieces_0 {D : va_G} {B : Nat} {Y : Nat → ClassId} {p : Program} {l : Launch} {e : Env} {s : State} {m : MethodId} {args : Array Value} {below : List Frame} {meth : Method} {c : Code} {z : (Int32 × Wd)} {H : Heap} {locs : List Loc} {ls : Array Slot} {w : Wd} {v1 : Int32} {v2 : Int32} {v3 : Int32} (hp : Nat) (h0 : 3 ≤ hp) (rp : Int32 → Int32 → Int32 → Wd → Option (Int32 × Wd)) (hrp : ∀ (a b d : Int32) (w : Wd) (r : Int32) (w1 : Wd), isZ b → rp a b d w = some (r, w1) → CM l D B Y yX4_readPieces cX4_readPieces 7 (some .int) hp [.ref (B + 692), .int a, .int b, .int d] w (some (.int r)) w1 True) (C : CX D B Y p s m args meth c cX4_readPieces 7 RX4 (some .int))    (z_v2 : isZ v2) (hH : HS D B Y w s H locs) (hl : lv_has ls 7 [(0, .ref (B + 692)), (1, .int v1), (2, .int v2), (3, .int v3)]) (hf : f_X4_readPieces rp v1 v2 v3 w = some z) : W p l e (RM (hp + 3) 0 0) s m args below meth c H locs 0 0 (MQ below (QG D B Y (some (.int z.1)) z.2 True) args s 0 0 (AB B)) (F0 m 0 ls []) := by
  have hx := C.1
  have hb := C.2.1
  unfold f_X4_readPieces at hf
  refine lv_iload_n hx hb dX4_readPieces_0 rfl (lv_at hl 1 rfl) ?_
  refine lv_istore (lv' := [(4, .int v1), (0, .ref (B + 692)), (1, .int v1), (2, .int v2), (3, .int v3)]) hx hb dX4_readPieces_1 hl (by decide) rfl (fun ls hl => ?_)
  refine lv_iconst (v := (0 : Int32)) hx hb dX4_readPieces_3 (by decide) ?_
  refine lv_istore (lv' := [(5, .int (0 : Int32)), (4, .int v1), (0, .ref (B + 692)), (1, .int v1), (2, .int v2), (3, .int v3)]) hx hb dX4_readPieces_4 hl (by decide) rfl (fun ls hl => ?_)
  exact t_X4_readPieces_6 hp h0 rp hrp C z_v2 hH (lv_sub hl [2, 4, 5, 1, 0] rfl) hf
set_option maxRecDepth 100000 in
theorem cb_X4_readPieces {l : Launch} {D : va_G} {B : Nat} {Y : Nat → ClassId} {v1 : Int32} {v2 : Int32} {v3 : Int32} {w : Wd} {r : Int32} {w1 : Wd} (hp : Nat) (h0 : 3 ≤ hp) (rp : Int32 → Int32 → Int32 → Wd → Option (Int32 × Wd)) (hrp : ∀ (a b d : Int32) (w : Wd) (r : Int32) (w1 : Wd), isZ b → rp a b d w = some (r, w1) → CM l D B Y yX4_readPieces cX4_readPieces 7 (some .int) hp [.ref (B + 692), .int a, .int b, .int d] w (some (.int r)) w1 True)  (z_v2 : isZ v2) (hf : f_X4_readPieces rp v1 v2 v3 w = some (r, w1)) : CM l D B Y yX4_readPieces cX4_readPieces 7 (some .int) (hp + 3) [.ref (B + 692), .int v1, .int v2, .int v3] w (some (.int r)) w1 True :=
  CM_of (by decide +kernel) (Nat.le_of_ble_eq_true rfl) (fun p e s m args below meth c ls C hH hl => t_X4_readPieces_0 hp h0 rp hrp C z_v2 hH (lv_sub hl [0, 1, 2, 3] rfl) hf)
theorem loopN_s {S Z : Type} (body : (S → Option Z) → S → Option Z) (n : Nat) (s : S) : loopN body (n + 1) s = body (loopN body n) s := rfl
theorem crn_X4_readPieces {l : Launch} {D : va_G} {B : Nat} {Y : Nat → ClassId} : ∀ (n : Nat) (a b d : Int32) (w : Wd) (r : Int32) (w1 : Wd), isZ b → loopN (fun (rc : Int32 × Int32 × Int32 × Wd → Option (Int32 × Wd)) (σ : Int32 × Int32 × Int32 × Wd) => f_X4_readPieces (fun a b d w => rc (a, b, d, w)) σ.1 σ.2.1 σ.2.2.1 σ.2.2.2) n (a, b, d, w) = some (r, w1) →
    CM l D B Y yX4_readPieces cX4_readPieces 7 (some .int) (3 + 3 * n) [.ref (B + 692), .int a, .int b, .int d] w (some (.int r)) w1 True := by
  intro n
  induction n with
  | zero => intro a b d w r w1 _ h; cases h
  | succ n ih =>
    intro a b d w r w1 hz h
    rw [loopN_s] at h
    dsimp only at h
    rw [show 3 + 3 * (n + 1) = 3 + 3 * n + 3 by omega]
    exact cb_X4_readPieces (3 + 3 * n) (by omega) _ (fun a b d w r w1 hz h => ih a b d w r w1 hz h) hz h
theorem cr_X4_readPieces {l : Launch} {D : va_G} {B : Nat} {Y : Nat → ClassId} {a b d : Int32} {w : Wd} {r : Int32} {w1 : Wd} (hz : isZ b) (hf : fr_X4_readPieces a b d w = some (r, w1)) : CM l D B Y yX4_readPieces cX4_readPieces 7 (some .int) 30 [.ref (B + 692), .int a, .int b, .int d] w (some (.int r)) w1 True :=
  crn_X4_readPieces 9 a b d w r w1 hz hf
/-! LetterTables$MessageReader.readAll -/
set_option maxRecDepth 100000 in
set_option maxHeartbeats 4000000 in
theorem t_X4_readAll_0 {D : va_G} {B : Nat} {Y : Nat → ClassId} {p : Program} {l : Launch} {e : Env} {s : State} {m : MethodId} {args : Array Value} {below : List Frame} {meth : Method} {c : Code} {z : (Int32 × Wd)} {H : Heap} {locs : List Loc} {ls : Array Slot} {w : Wd}  (C : CX D B Y p s m args meth c cX4_readAll 1 RX4 (some .boolean))     (hH : HS D B Y w s H locs) (hl : lv_has ls 1 [(0, .ref (B + 692))]) (hf : f_X4_readAll w = some z) : W p l e (RM 31 0 0) s m args below meth c H locs 0 0 (MQ below (QG D B Y (some (.int z.1)) z.2 (isZ z.1)) args s 0 0 (AB B)) (F0 m 0 ls []) := by
  have hx := C.1
  have hb := C.2.1
  unfold f_X4_readAll at hf
  refine lv_aload_n hx hb dX4_readAll_0 rfl (lv_at hl 0 rfl) ?_
  refine lv_iconst (v := (0 : Int32)) hx hb dX4_readAll_1 (by decide) ?_
  refine lv_iconst (v := (1 : Int32)) hx hb dX4_readAll_2 (by decide) ?_
  refine lv_iconst (v := (0 : Int32)) hx hb dX4_readAll_3 (by decide) ?_
  obtain ⟨x2, w1, hc, hf⟩ := bd_some hf
  refine q_callV1 (v := .int x2) (As := [.int (0 : Int32), .int (1 : Int32), .int (0 : Int32)]) C hH (ci := 4) rfl (by omega) gk_X4_36 yd_X4_readPieces (by omega) (by omega) kc_692 (cr_X4_readPieces isZ_1 hc) hl.1 rfl (Nat.le_of_ble_eq_true rfl) dX4_readAll_4 xv_00 (fun H locs hH hP => ?_)
  refine lv_aload_n hx hb dX4_readAll_7 rfl (lv_at hl 0 rfl) ?_
  refine fg_X4_9 C hH dX4_readAll_8 ?_
  obtain ⟨x4, w3, hc, hf⟩ := bd_some hf
  refine q_callV1 (v := .int x4) (As := []) C hH (ci := 7) rfl (by omega) gk_X4_40 yd_X7_size (by omega) (by omega) kc_635 (c_X7_size kc_635 hc) hl.1 rfl (Nat.le_of_ble_eq_true rfl) dX4_readAll_11 xv_00 (fun H locs hH hP => ?_)
  refine b_icmp_ne (tgt := 21) hx hb hf dX4_readAll_14 (by decide) (fun hf => ?_) (fun hf => ?_)
  · refine lv_iconst (v := (0 : Int32)) hx hb dX4_readAll_21 (by decide) ?_
    cases hf
    exact q_retz C hH isZ_0 isZ_0 dX4_readAll_22
  · refine lv_iconst (v := (1 : Int32)) hx hb dX4_readAll_17 (by decide) ?_
    refine lv_goto (tgt := 22) hx hb dX4_readAll_18 (by decide) ?_
    cases hf
    exact q_retz C hH isZ_1 isZ_1 dX4_readAll_22
set_option maxRecDepth 100000 in
theorem c_X4_readAll {l : Launch} {D : va_G} {B : Nat} {Y : Nat → ClassId}  {w : Wd} {r : Int32} {w1 : Wd}   (hf : f_X4_readAll w = some (r, w1)) : CM l D B Y yX4_readAll cX4_readAll 1 (some .boolean) 31 [.ref (B + 692)] w (some (.int r)) w1 (isZ r) :=
  CM_of (by decide +kernel) (Nat.le_of_ble_eq_true rfl) (fun p e s m args below meth c ls C hH hl => t_X4_readAll_0 C  hH (lv_sub hl [0] rfl) hf)
/-! LetterTables$MessageReader.result -/
set_option maxRecDepth 100000 in
set_option maxHeartbeats 4000000 in
theorem t_X4_result_0 {D : va_G} {B : Nat} {Y : Nat → ClassId} {p : Program} {l : Launch} {e : Env} {s : State} {m : MethodId} {args : Array Value} {below : List Frame} {meth : Method} {c : Code} {z : (Nat × Wd)} {H : Heap} {locs : List Loc} {ls : Array Slot} {w : Wd}  (C : CX D B Y p s m args meth c cX4_result 1 RX4 (some (.object "LetterTables$Row")))     (hH : HS D B Y w s H locs) (hl : lv_has ls 1 [(0, .ref (B + 692))]) (hf : f_X4_result w = some z) : W p l e (RM 0 0 0) s m args below meth c H locs 0 0 (MQ below (QG D B Y (some (.ref (B + z.1))) z.2 (KD z.1 = 7)) args s 0 0 (AB B)) (F0 m 0 ls []) := by
  have hx := C.1
  have hb := C.2.1
  unfold f_X4_result at hf
  refine lv_aload_n hx hb dX4_result_0 rfl (lv_at hl 0 rfl) ?_
  refine fg_X4_26 C hH dX4_result_1 ?_
  cases hf
  exact q_retr C hH kc_697 dX4_result_4
set_option maxRecDepth 100000 in
theorem c_X4_result {l : Launch} {D : va_G} {B : Nat} {Y : Nat → ClassId}  {w : Wd} {r : Nat} {w1 : Wd}   (hf : f_X4_result w = some (r, w1)) : CM l D B Y yX4_result cX4_result 1 (some (.object "LetterTables$Row")) 0 [.ref (B + 692)] w (some (.ref (B + r))) w1 (KD r = 7) :=
  CM_of (by decide +kernel) (Nat.le_of_ble_eq_true rfl) (fun p e s m args below meth c ls C hH hl => t_X4_result_0 C  hH (lv_sub hl [0] rfl) hf)
/-! LetterTables.message -/
set_option maxRecDepth 100000 in
set_option maxHeartbeats 4000000 in
theorem t_X10_message_42 {D : va_G} {B : Nat} {Y : Nat → ClassId} {p : Program} {l : Launch} {e : Env} {s : State} {m : MethodId} {args : Array Value} {below : List Frame} {meth : Method} {c : Code} {z : ((Nat ⊕ Int32) × Wd)} {H : Heap} {locs : List Loc} {ls : Array Slot} {w : Wd} {v2 : Int32} {v3 : Int32} {v4 : Int32} {v5 : Int32} {v6 : Nat} {t0 : Int32} (C : CX D B Y p s m args meth c cX10_message 8 RX10 (some .int)) (hxt : ∀ x ∈ c.exceptionTable.toList, False) (htr : l.stackTraces = false)   (k_v6 : KD v6 = 2) (z_t0 : isZ t0) (hH : HS D B Y w s H locs) (hl : lv_has ls 8 [(0, .ref (B + 0)), (2, .int v2), (3, .int v3), (4, .int v4), (5, .int v5), (6, .ref (B + v6))]) (hf : f_X10_message_42 v2 v3 v4 v5 v6 t0 w = some z) : W p l e (RM 32 (xv (zoI z.1)) (6 * xv (zoI z.1))) s m args below meth c H locs 0 0 (vx_MQ below (QX D B Y (zoI z.1) z.2 True) (XX D B Y (zoI z.1) z.2) args s (xv (zoI z.1)) (6 * xv (zoI z.1)) (AB B)) (F0 m 42 ls [.int t0]) := by
  have hx := C.1
  have hb := C.2.1
  unfold f_X10_message_42 at hf
  rcases bdx_some hf with ⟨k, w1, hc, rfl⟩ | ⟨u, w1, hc, hf⟩
  · exact q_xrunX (k0 := k) (q_xS (As := [.int t0]) C hH gk_X10_103 yd_X10_checkArgument (by omega) (by omega) (c_X10_checkArgument (r := .inl k) htr z_t0 hc) hl.1 rfl (Nat.le_of_ble_eq_true rfl) dX10_message_42 (xv_le rfl)) hH (fun H locs ce q hH h1 h2 h3 => q_out C hH hxt h1 h2 h3 (xv_1 rfl) (xv_6 rfl))
  refine q_xrun (ov := none) (q_xS (As := [.int t0]) C hH gk_X10_103 yd_X10_checkArgument (by omega) (by omega) (c_X10_checkArgument (r := .inr u) htr z_t0 hc) hl.1 rfl (Nat.le_of_ble_eq_true rfl) dX10_message_42 (xv_0 rfl xv_00)) hH (fun H locs hH hP => ?_)
  refine lv_aload_n hx hb dX10_message_45 rfl (lv_at hl 0 rfl) ?_
  refine fg_X10_74 C hH dX10_message_46 ?_
  obtain ⟨u, w2, hc, hf⟩ := bd_some hf
  refine q_callV0 (As := []) C hH (ci := 4) rfl (by omega) gk_X10_342 yd_X4_begin (by omega) (by omega) kc_692 (c_X4_begin hc) hl.1 rfl (Nat.le_of_ble_eq_true rfl) dX10_message_49 xv_00 (fun H locs hH hP => ?_)
  refine lv_aload_n hx hb dX10_message_52 rfl (lv_at hl 0 rfl) ?_
  refine fg_X10_74 C hH dX10_message_53 ?_
  refine lv_iload_n hx hb dX10_message_56 rfl (lv_at hl 1 rfl) ?_
  refine lv_aload hx hb dX10_message_57 (lv_at hl 5 rfl) ?_
  refine lv_iload_n hx hb dX10_message_59 rfl (lv_at hl 1 rfl) ?_
  obtain ⟨x4, w3, hc, hf⟩ := bd_some hf
  refine q_callV1 (v := .int x4) (As := [.int v2]) C hH (ci := 2) rfl (by omega) gk_X10_339 yd_X2_classFor (by omega) (by omega) k_v6 (c_X2_classFor k_v6 hc) hl.1 rfl (Nat.le_of_ble_eq_true rfl) dX10_message_60 xv_00 (fun H locs hH hP => ?_)
  obtain ⟨u, w5, hc, hf⟩ := bd_some hf
  refine q_callV0 (As := [.int v2, .int x4]) C hH (ci := 4) rfl (by omega) gk_X10_345 yd_X4_tellNumber (by omega) (by omega) kc_692 (c_X4_tellNumber hc) hl.1 rfl (Nat.le_of_ble_eq_true rfl) dX10_message_63 xv_00 (fun H locs hH hP => ?_)
  refine lv_aload_n hx hb dX10_message_66 rfl (lv_at hl 0 rfl) ?_
  refine fg_X10_74 C hH dX10_message_67 ?_
  refine lv_iload_n hx hb dX10_message_70 rfl (lv_at hl 2 rfl) ?_
  refine lv_aload hx hb dX10_message_71 (lv_at hl 5 rfl) ?_
  refine lv_iload_n hx hb dX10_message_73 rfl (lv_at hl 2 rfl) ?_
  obtain ⟨x7, w6, hc, hf⟩ := bd_some hf
  refine q_callV1 (v := .int x7) (As := [.int v3]) C hH (ci := 2) rfl (by omega) gk_X10_339 yd_X2_classFor (by omega) (by omega) k_v6 (c_X2_classFor k_v6 hc) hl.1 rfl (Nat.le_of_ble_eq_true rfl) dX10_message_74 xv_00 (fun H locs hH hP => ?_)
  obtain ⟨u, w8, hc, hf⟩ := bd_some hf
  refine q_callV0 (As := [.int v3, .int x7]) C hH (ci := 4) rfl (by omega) gk_X10_345 yd_X4_tellNumber (by omega) (by omega) kc_692 (c_X4_tellNumber hc) hl.1 rfl (Nat.le_of_ble_eq_true rfl) dX10_message_77 xv_00 (fun H locs hH hP => ?_)
  refine lv_aload_n hx hb dX10_message_80 rfl (lv_at hl 0 rfl) ?_
  refine fg_X10_74 C hH dX10_message_81 ?_
  refine lv_iload hx hb dX10_message_84 (lv_at hl 3 rfl) ?_
  refine lv_aload hx hb dX10_message_86 (lv_at hl 5 rfl) ?_
  refine lv_iload hx hb dX10_message_88 (lv_at hl 3 rfl) ?_
  obtain ⟨x10, w9, hc, hf⟩ := bd_some hf
  refine q_callV1 (v := .int x10) (As := [.int v4]) C hH (ci := 2) rfl (by omega) gk_X10_339 yd_X2_classFor (by omega) (by omega) k_v6 (c_X2_classFor k_v6 hc) hl.1 rfl (Nat.le_of_ble_eq_true rfl) dX10_message_90 xv_00 (fun H locs hH hP => ?_)
  obtain ⟨u, w11, hc, hf⟩ := bd_some hf
  refine q_callV0 (As := [.int v4, .int x10]) C hH (ci := 4) rfl (by omega) gk_X10_345 yd_X4_tellNumber (by omega) (by omega) kc_692 (c_X4_tellNumber hc) hl.1 rfl (Nat.le_of_ble_eq_true rfl) dX10_message_93 xv_00 (fun H locs hH hP => ?_)
  refine lv_aload_n hx hb dX10_message_96 rfl (lv_at hl 0 rfl) ?_
  refine fg_X10_74 C hH dX10_message_97 ?_
  refine lv_iload hx hb dX10_message_100 (lv_at hl 4 rfl) ?_
  refine lv_aload hx hb dX10_message_102 (lv_at hl 5 rfl) ?_
  refine lv_iload hx hb dX10_message_104 (lv_at hl 4 rfl) ?_
  obtain ⟨x13, w12, hc, hf⟩ := bd_some hf
  refine q_callV1 (v := .int x13) (As := [.int v5]) C hH (ci := 2) rfl (by omega) gk_X10_339 yd_X2_classFor (by omega) (by omega) k_v6 (c_X2_classFor k_v6 hc) hl.1 rfl (Nat.le_of_ble_eq_true rfl) dX10_message_106 xv_00 (fun H locs hH hP => ?_)
  obtain ⟨u, w14, hc, hf⟩ := bd_some hf
  refine q_callV0 (As := [.int v5, .int x13]) C hH (ci := 4) rfl (by omega) gk_X10_345 yd_X4_tellNumber (by omega) (by omega) kc_692 (c_X4_tellNumber hc) hl.1 rfl (Nat.le_of_ble_eq_true rfl) dX10_message_109 xv_00 (fun H locs hH hP => ?_)
  refine lv_aload_n hx hb dX10_message_112 rfl (lv_at hl 0 rfl) ?_
  refine fg_X10_74 C hH dX10_message_113 ?_
  obtain ⟨x16, w15, hc, hf⟩ := bd_some hf
  refine q_callV1 (v := .int x16) (As := []) C hH (ci := 4) rfl (by omega) gk_X10_348 yd_X4_readAll (by omega) (by omega) kc_692 (c_X4_readAll hc) hl.1 rfl (Nat.le_of_ble_eq_true rfl) dX10_message_116 xv_00 (fun H locs hH z_x16 => ?_)
  refine lv_istore (lv' := [(7, .int x16), (0, .ref (B + 0)), (2, .int v2), (3, .int v3), (4, .int v4), (5, .int v5), (6, .ref (B + v6))]) hx hb dX10_message_119 hl (by decide) rfl (fun ls hl => ?_)
  refine lv_aload_n hx hb dX10_message_121 rfl (lv_at hl 1 rfl) ?_
  refine fg_X10_29 C hH dX10_message_122 ?_
  refine lv_iconst (v := (0 : Int32)) hx hb dX10_message_125 (by decide) ?_
  obtain ⟨u, w17, hc, hf⟩ := bd_some hf
  refine q_callV0 (As := [.int (0 : Int32)]) C hH (ci := 7) rfl (by omega) gk_X10_237 yd_X7_cutTo (by omega) (by omega) kc_635 (c_X7_cutTo kc_635 hc) hl.1 rfl (Nat.le_of_ble_eq_true rfl) dX10_message_126 xv_00 (fun H locs hH hP => ?_)
  refine lv_iload hx hb dX10_message_129 (lv_at hl 0 rfl) ?_
  refine b_if_ne (tgt := 145) hx hb hf dX10_message_131 (by decide) (fun hf => ?_) (fun hf => ?_)
  · refine lv_aload_n hx hb dX10_message_145 rfl (lv_at hl 1 rfl) ?_
    refine fg_X10_33 C hH dX10_message_146 ?_
    refine lv_aload_n hx hb dX10_message_149 rfl (lv_at hl 1 rfl) ?_
    refine fg_X10_74 C hH dX10_message_150 ?_
    obtain ⟨r19, w18, hc, hf⟩ := bd_some hf
    refine q_callV1 (v := .ref (B + r19)) (As := []) C hH (ci := 4) rfl (by omega) gk_X10_354 yd_X4_result (by omega) (by omega) kc_692 (c_X4_result hc) hl.1 rfl (Nat.le_of_ble_eq_true rfl) dX10_message_153 xv_00 (fun H locs hH k_r19 => ?_)
    obtain ⟨u, w20, hc, hf⟩ := bd_some hf
    refine q_callV0 (As := [.ref (B + r19)]) C hH (ci := 7) rfl (by omega) gk_X10_253 yd_X7_takeOver (by omega) (by omega) kc_637 (c_X7_takeOver kc_637 k_r19 hc) hl.1 rfl (Nat.le_of_ble_eq_true rfl) dX10_message_156 xv_00 (fun H locs hH hP => ?_)
    refine lv_aload_n hx hb dX10_message_159 rfl (lv_at hl 1 rfl) ?_
    refine fg_X10_33 C hH dX10_message_160 ?_
    obtain ⟨x22, w21, hc, hf⟩ := bd_some hf
    refine q_callV1 (v := .int x22) (As := []) C hH (ci := 7) rfl (by omega) gk_X10_107 yd_X7_size (by omega) (by omega) kc_637 (c_X7_size kc_637 hc) hl.1 rfl (Nat.le_of_ble_eq_true rfl) dX10_message_163 xv_00 (fun H locs hH hP => ?_)
    cases hf
    exact q_x0 rfl (q_reti C hH trivial dX10_message_166)
  · cases hf
    exact q_throwW C hH hxt htr (Or.inr (Or.inr rfl)) wd_574 wd_66 wd_584 (List.mem_of_getElem? (i := 15) rfl) hl.1 dX10_message_134 dX10_message_137 dX10_message_138 dX10_message_141 dX10_message_144 (Nat.le_of_ble_eq_true rfl) (xv_1 rfl) (xv_6 rfl)
set_option maxRecDepth 100000 in
set_option maxHeartbeats 4000000 in
theorem t_X10_message_41 {D : va_G} {B : Nat} {Y : Nat → ClassId} {p : Program} {l : Launch} {e : Env} {s : State} {m : MethodId} {args : Array Value} {below : List Frame} {meth : Method} {c : Code} {z : ((Nat ⊕ Int32) × Wd)} {H : Heap} {locs : List Loc} {ls : Array Slot} {w : Wd} {v2 : Int32} {v3 : Int32} {v4 : Int32} {v5 : Int32} {v6 : Nat} (C : CX D B Y p s m args meth c cX10_message 8 RX10 (some .int)) (hxt : ∀ x ∈ c.exceptionTable.toList, False) (htr : l.stackTraces = false)   (k_v6 : KD v6 = 2)  (hH : HS D B Y w s H locs) (hl : lv_has ls 8 [(0, .ref (B + 0)), (2, .int v2), (3, .int v3), (4, .int v4), (5, .int v5), (6, .ref (B + v6))]) (hf : f_X10_message_41 v2 v3 v4 v5 v6 w = some z) : W p l e (RM 32 (xv (zoI z.1)) (6 * xv (zoI z.1))) s m args below meth c H locs 0 0 (vx_MQ below (QX D B Y (zoI z.1) z.2 True) (XX D B Y (zoI z.1) z.2) args s (xv (zoI z.1)) (6 * xv (zoI z.1)) (AB B)) (F0 m 41 ls []) := by
  have hx := C.1
  have hb := C.2.1
  unfold f_X10_message_41 at hf
  refine lv_iconst (v := (0 : Int32)) hx hb dX10_message_41 (by decide) ?_
  exact t_X10_message_42 C hxt htr k_v6 isZ_0 hH (lv_sub hl [0, 1, 2, 3, 4, 5] rfl) hf
set_option maxRecDepth 100000 in
set_option maxHeartbeats 4000000 in
theorem t_X10_message_0 {D : va_G} {B : Nat} {Y : Nat → ClassId} {p : Program} {l : Launch} {e : Env} {s : State} {m : MethodId} {args : Array Value} {below : List Frame} {meth : Method} {c : Code} {z : ((Nat ⊕ Int32) × Wd)} {H : Heap} {locs : List Loc} {ls : Array Slot} {w : Wd} {v1 : Int32} {v2 : Int32} {v3 : Int32} {v4 : Int32} {v5 : Int32} (C : CX D B Y p s m args meth c cX10_message 8 RX10 (some .int)) (hxt : ∀ x ∈ c.exceptionTable.toList, False) (htr : l.stackTraces = false)     (hH : HS D B Y w s H locs) (hl : lv_has ls 8 [(0, .ref (B + 0)), (1, .int v1), (2, .int v2), (3, .int v3), (4, .int v4), (5, .int v5)]) (hf : f_X10_message v1 v2 v3 v4 v5 w = some z) : W p l e (RM 32 (xv (zoI z.1)) (6 * xv (zoI z.1))) s m args below meth c H locs 0 0 (vx_MQ below (QX D B Y (zoI z.1) z.2 True) (XX D B Y (zoI z.1) z.2) args s (xv (zoI z.1)) (6 * xv (zoI z.1)) (AB B)) (F0 m 0 ls []) := by
  have hx := C.1
  have hb := C.2.1
  unfold f_X10_message at hf
  refine lv_aload_n hx hb dX10_message_0 rfl (lv_at hl 0 rfl) ?_
  refine lv_iload_n hx hb dX10_message_1 rfl (lv_at hl 1 rfl) ?_
  rcases bdx_some hf with ⟨k, w1, hc, rfl⟩ | ⟨r2, w1, hc, hf⟩
  · exact q_xrunX (k0 := k) (q_xV (As := [.int v1]) C hH (ci := 10) rfl (by omega) gk_X10_151 yd_X10_languageOf (by omega) (by omega) kc_0 (c_X10_languageOf (r := .inl k) htr hc) hl.1 rfl (Nat.le_of_ble_eq_true rfl) dX10_message_2 (xv_le rfl)) hH (fun H locs ce q hH h1 h2 h3 => q_out C hH hxt h1 h2 h3 (xv_1 rfl) (xv_6 rfl))
  refine q_xrun (ov := some (.ref (B + r2))) (q_xV (As := [.int v1]) C hH (ci := 10) rfl (by omega) gk_X10_151 yd_X10_languageOf (by omega) (by omega) kc_0 (c_X10_languageOf (r := .inr r2) htr hc) hl.1 rfl (Nat.le_of_ble_eq_true rfl) dX10_message_2 (xv_0 rfl xv_00)) hH (fun H locs hH k_r2 => ?_)
  refine lv_astore (lv' := [(6, .ref (B + r2)), (0, .ref (B + 0)), (1, .int v1), (2, .int v2), (3, .int v3), (4, .int v4), (5, .int v5)]) hx hb dX10_message_5 hl (by decide) rfl (fun ls hl => ?_)
  refine lv_iload_n hx hb dX10_message_7 rfl (lv_at hl 3 rfl) ?_
  obtain ⟨x4, w3, hc, hf⟩ := bd_some hf
  refine q_callS1 (v := .int x4) (As := [.int v2]) C hH gk_X10_336 yd_X10_isNumber (by omega) (by omega) (c_X10_isNumber hc) hl.1 rfl (Nat.le_of_ble_eq_true rfl) dX10_message_8 xv_00 (fun H locs hH z_x4 => ?_)
  refine b_if_eq (tgt := 41) hx hb hf dX10_message_11 (by decide) (fun hf => ?_) (fun hf => ?_)
  · exact t_X10_message_41 C hxt htr k_r2 hH (lv_sub hl [1, 3, 4, 5, 6, 0] rfl) hf
  · refine lv_iload_n hx hb dX10_message_14 rfl (lv_at hl 4 rfl) ?_
    obtain ⟨x6, w5, hc, hf⟩ := bd_some hf
    refine q_callS1 (v := .int x6) (As := [.int v3]) C hH gk_X10_336 yd_X10_isNumber (by omega) (by omega) (c_X10_isNumber hc) hl.1 rfl (Nat.le_of_ble_eq_true rfl) dX10_message_15 xv_00 (fun H locs hH z_x6 => ?_)
    refine b_if_eq (tgt := 41) hx hb hf dX10_message_18 (by decide) (fun hf => ?_) (fun hf => ?_)
    · exact t_X10_message_41 C hxt htr k_r2 hH (lv_sub hl [1, 3, 4, 5, 6, 0] rfl) hf
    · refine lv_iload hx hb dX10_message_21 (lv_at hl 5 rfl) ?_
      obtain ⟨x8, w7, hc, hf⟩ := bd_some hf
      refine q_callS1 (v := .int x8) (As := [.int v4]) C hH gk_X10_336 yd_X10_isNumber (by omega) (by omega) (c_X10_isNumber hc) hl.1 rfl (Nat.le_of_ble_eq_true rfl) dX10_message_23 xv_00 (fun H locs hH z_x8 => ?_)
      refine b_if_eq (tgt := 41) hx hb hf dX10_message_26 (by decide) (fun hf => ?_) (fun hf => ?_)
      · exact t_X10_message_41 C hxt htr k_r2 hH (lv_sub hl [1, 3, 4, 5, 6, 0] rfl) hf
      · refine lv_iload hx hb dX10_message_29 (lv_at hl 6 rfl) ?_
        obtain ⟨x10, w9, hc, hf⟩ := bd_some hf
        refine q_callS1 (v := .int x10) (As := [.int v5]) C hH gk_X10_336 yd_X10_isNumber (by omega) (by omega) (c_X10_isNumber hc) hl.1 rfl (Nat.le_of_ble_eq_true rfl) dX10_message_31 xv_00 (fun H locs hH z_x10 => ?_)
        refine b_if_eq (tgt := 41) hx hb hf dX10_message_34 (by decide) (fun hf => ?_) (fun hf => ?_)
        · exact t_X10_message_41 C hxt htr k_r2 hH (lv_sub hl [1, 3, 4, 5, 6, 0] rfl) hf
        · refine lv_iconst (v := (1 : Int32)) hx hb dX10_message_37 (by decide) ?_
          refine lv_goto (tgt := 42) hx hb dX10_message_38 (by decide) ?_
          exact t_X10_message_42 C hxt htr k_r2 isZ_1 hH (lv_sub hl [1, 3, 4, 5, 6, 0] rfl) hf
set_option maxRecDepth 100000 in
theorem c_X10_message {l : Launch} {D : va_G} {B : Nat} {Y : Nat → ClassId} {v1 : Int32} {v2 : Int32} {v3 : Int32} {v4 : Int32} {v5 : Int32} {w : Wd} {r : (Nat ⊕ Int32)} {w1 : Wd} (htr : l.stackTraces = false)   (hf : f_X10_message v1 v2 v3 v4 v5 w = some (r, w1)) : XM l D B Y yX10_message cX10_message 8 (some .int) 32 [.ref (B + 0), .int v1, .int v2, .int v3, .int v4, .int v5] w (zoI r) w1 True :=
  XM_of (by decide +kernel) (Nat.le_of_ble_eq_true rfl) (fun p e s m args below meth c ls C hxt hH hl => t_X10_message_0 C hxt htr  hH (lv_sub hl [0, 1, 2, 3, 4, 5] rfl) hf)
/-! LetterTables.word -/
set_option maxRecDepth 100000 in
set_option maxHeartbeats 4000000 in
theorem t_X10_word_78 {D : va_G} {B : Nat} {Y : Nat → ClassId} {p : Program} {l : Launch} {e : Env} {s : State} {m : MethodId} {args : Array Value} {below : List Frame} {meth : Method} {c : Code} {z : (Int64 × Wd)} {H : Heap} {locs : List Loc} {ls : Array Slot} {w : Wd} {v1 : Int32} {v4 : Int32} {t0 : Int64} {t1 : Int32} (C : CX D B Y p s m args meth c cX10_word 8 RX10 (some .long))  {rc_6 : Int32 × Int64 × Int32 × Wd → Option (Int64 × Wd)} (hr_6 : ∀ (v1 : Int32) (v2 : Int64) (v4 : Int32) (w : Wd), rc_6 (v1, v2, v4, w) = some z → ∀ (H : Heap) (locs : List Loc) (ls : Array Slot), HS D B Y w s H locs → lv_has ls 8 [(0, .ref (B + 0)), (1, .int v1), (2, .long v2), (4, .int v4)] → W p l e (RM 1 0 0) s m args below meth c H locs 0 0 (MQ below (QG D B Y (some (.long z.1)) z.2 True) args s 0 0 (AB B)) (F0 m 6 ls []))    (hH : HS D B Y w s H locs) (hl : lv_has ls 8 [(0, .ref (B + 0)), (1, .int v1), (4, .int v4)]) (hf : f_X10_word_78 rc_6 v1 v4 t0 t1 w = some z) : W p l e (RM 1 0 0) s m args below meth c H locs 0 0 (MQ below (QG D B Y (some (.long z.1)) z.2 True) args s 0 0 (AB B)) (F0 m 78 ls [.int t1, .long t0]) := by
  have hx := C.1
  have hb := C.2.1
  unfold f_X10_word_78 at hf
  refine lv_i2l (v := t1.toInt64) hx hb dX10_word_78 rfl ?_
  refine lv_lor hx hb dX10_word_79 ?_
  refine b_letl hf (fun y1 hf => ?_)
  refine lv_lstore_n (lv' := [(2, .long y1), (0, .ref (B + 0)), (1, .int v1), (4, .int v4)]) hx hb dX10_word_80 rfl hl (by decide) rfl (fun ls hl => ?_)
  refine b_let hf (fun x2 he hf => ?_)
  refine lv_iinc (v := x2) (lv' := [(4, .int x2), (2, .long y1), (0, .ref (B + 0)), (1, .int v1)]) hx hb dX10_word_81 hl (k := 3) rfl (by rw [← he]; rfl) (by decide) rfl (fun ls hl => ?_)
  refine lv_goto (tgt := 6) hx hb dX10_word_84 (by decide) ?_
  exact hr_6 v1 y1 x2 w hf _ _ _ hH (lv_sub hl [2, 3, 1, 0] rfl)
set_option maxRecDepth 100000 in
set_option maxHeartbeats 4000000 in
theorem t_X10_word_49 {D : va_G} {B : Nat} {Y : Nat → ClassId} {p : Program} {l : Launch} {e : Env} {s : State} {m : MethodId} {args : Array Value} {below : List Frame} {meth : Method} {c : Code} {z : (Int64 × Wd)} {H : Heap} {locs : List Loc} {ls : Array Slot} {w : Wd} {v1 : Int32} {v2 : Int64} {v4 : Int32} {v5 : Int64} {t0 : Int32} (C : CX D B Y p s m args meth c cX10_word 8 RX10 (some .long))  {rc_6 : Int32 × Int64 × Int32 × Wd → Option (Int64 × Wd)} (hr_6 : ∀ (v1 : Int32) (v2 : Int64) (v4 : Int32) (w : Wd), rc_6 (v1, v2, v4, w) = some z → ∀ (H : Heap) (locs : List Loc) (ls : Array Slot), HS D B Y w s H locs → lv_has ls 8 [(0, .ref (B + 0)), (1, .int v1), (2, .long v2), (4, .int v4)] → W p l e (RM 1 0 0) s m args below meth c H locs 0 0 (MQ below (QG D B Y (some (.long z.1)) z.2 True) args s 0 0 (AB B)) (F0 m 6 ls []))   (z_t0 : isZ t0) (hH : HS D B Y w s H locs) (hl : lv_has ls 8 [(0, .ref (B + 0)), (1, .int v1), (2, .long v2), (4, .int v4), (5, .long v5)]) (hf : f_X10_word_49 rc_6 v1 v2 v4 v5 t0 w = some z) : W p l e (RM 1 0 0) s m args below meth c H locs 0 0 (MQ below (QG D B Y (some (.long z.1)) z.2 True) args s 0 0 (AB B)) (F0 m 49 ls [.int t0]) := by
  have hx := C.1
  have hb := C.2.1
  unfold f_X10_word_49 at hf
  refine lv_istore (lv' := [(7, .int t0), (0, .ref (B + 0)), (1, .int v1), (2, .long v2), (4, .int v4), (5, .long v5)]) hx hb dX10_word_49 hl (by decide) rfl (fun ls hl => ?_)
  refine lv_lload_n hx hb dX10_word_51 rfl (lv_at hl 3 rfl) ?_
  refine lv_bipush (v := (8 : Int32)) hx hb dX10_word_52 (by decide) ?_
  refine lv_lshl (v := v2 <<< ((8 : Int32).toInt64 &&& 63)) hx hb dX10_word_54 rfl ?_
  refine lv_iload hx hb dX10_word_55 (lv_at hl 0 rfl) ?_
  refine b_if_eq (tgt := 77) hx hb hf dX10_word_57 (by decide) (fun hf => ?_) (fun hf => ?_)
  · refine lv_iconst (v := (0 : Int32)) hx hb dX10_word_77 (by decide) ?_
    exact t_X10_word_78 C hr_6 hH (lv_sub hl [1, 2, 4] rfl) hf
  · refine lv_aload_n hx hb dX10_word_60 rfl (lv_at hl 1 rfl) ?_
    refine fg_X10_33 C hH dX10_word_61 ?_
    refine lv_lload hx hb dX10_word_64 (lv_at hl 5 rfl) ?_
    refine lv_l2i (v := v5.toInt32) hx hb dX10_word_66 rfl ?_
    obtain ⟨x2, w1, hc, hf⟩ := bd_some hf
    refine q_callV1 (v := .int x2) (As := [.int v5.toInt32]) C hH (ci := 7) rfl (by omega) gk_X10_243 yd_X7_get (by omega) (by omega) kc_637 (c_X7_get kc_637 hc) hl.1 rfl (Nat.le_of_ble_eq_true rfl) dX10_word_67 xv_00 (fun H locs hH hP => ?_)
    refine lv_sipush (v := (255 : Int32)) hx hb dX10_word_70 (by decide) ?_
    refine lv_iand hx hb dX10_word_73 ?_
    refine lv_goto (tgt := 78) hx hb dX10_word_74 (by decide) ?_
    exact t_X10_word_78 C hr_6 hH (lv_sub hl [1, 2, 4] rfl) hf
set_option maxRecDepth 100000 in
set_option maxHeartbeats 4000000 in
theorem t_X10_word_48 {D : va_G} {B : Nat} {Y : Nat → ClassId} {p : Program} {l : Launch} {e : Env} {s : State} {m : MethodId} {args : Array Value} {below : List Frame} {meth : Method} {c : Code} {z : (Int64 × Wd)} {H : Heap} {locs : List Loc} {ls : Array Slot} {w : Wd} {v1 : Int32} {v2 : Int64} {v4 : Int32} {v5 : Int64} (C : CX D B Y p s m args meth c cX10_word 8 RX10 (some .long))  {rc_6 : Int32 × Int64 × Int32 × Wd → Option (Int64 × Wd)} (hr_6 : ∀ (v1 : Int32) (v2 : Int64) (v4 : Int32) (w : Wd), rc_6 (v1, v2, v4, w) = some z → ∀ (H : Heap) (locs : List Loc) (ls : Array Slot), HS D B Y w s H locs → lv_has ls 8 [(0, .ref (B + 0)), (1, .int v1), (2, .long v2), (4, .int v4)] → W p l e (RM 1 0 0) s m args below meth c H locs 0 0 (MQ below (QG D B Y (some (.long z.1)) z.2 True) args s 0 0 (AB B)) (F0 m 6 ls []))    (hH : HS D B Y w s H locs) (hl : lv_has ls 8 [(0, .ref (B + 0)), (1, .int v1), (2, .long v2), (4, .int v4), (5, .long v5)]) (hf : f_X10_word_48 rc_6 v1 v2 v4 v5 w = some z) : W p l e (RM 1 0 0) s m args below meth c H locs 0 0 (MQ below (QG D B Y (some (.long z.1)) z.2 True) args s 0 0 (AB B)) (F0 m 48 ls []) := by
  have hx := C.1
  have hb := C.2.1
  unfold f_X10_word_48 at hf
  refine lv_iconst (v := (0 : Int32)) hx hb dX10_word_48 (by decide) ?_
  exact t_X10_word_49 C hr_6 isZ_0 hH (lv_sub hl [0, 1, 2, 3, 4] rfl) hf
set_option maxRecDepth 100000 in
set_option maxHeartbeats 4000000 in
theorem tb_X10_word_6 {D : va_G} {B : Nat} {Y : Nat → ClassId} {p : Program} {l : Launch} {e : Env} {s : State} {m : MethodId} {args : Array Value} {below : List Frame} {meth : Method} {c : Code} {z : (Int64 × Wd)} {H : Heap} {locs : List Loc} {ls : Array Slot} {w : Wd} {v1 : Int32} {v2 : Int64} {v4 : Int32} (C : CX D B Y p s m args meth c cX10_word 8 RX10 (some .long))  {rc_6 : Int32 × Int64 × Int32 × Wd → Option (Int64 × Wd)} (hr_6 : ∀ (v1 : Int32) (v2 : Int64) (v4 : Int32) (w : Wd), rc_6 (v1, v2, v4, w) = some z → ∀ (H : Heap) (locs : List Loc) (ls : Array Slot), HS D B Y w s H locs → lv_has ls 8 [(0, .ref (B + 0)), (1, .int v1), (2, .long v2), (4, .int v4)] → W p l e (RM 1 0 0) s m args below meth c H locs 0 0 (MQ below (QG D B Y (some (.long z.1)) z.2 True) args s 0 0 (AB B)) (F0 m 6 ls []))    (hH : HS D B Y w s H locs) (hl : lv_has ls 8 [(0, .ref (B + 0)), (1, .int v1), (2, .long v2), (4, .int v4)]) (hf : g_X10_word_6 rc_6 v1 v2 v4 w = some z) : W p l e (RM 1 0 0) s m args below meth c H locs 0 0 (MQ below (QG D B Y (some (.long z.1)) z.2 True) args s 0 0 (AB B)) (F0 m 6 ls []) := by
  have hx := C.1
  have hb := C.2.1
  unfold g_X10_word_6 at hf
  refine lv_iload hx hb dX10_word_6 (lv_at hl 3 rfl) ?_
  refine b_if_lt (tgt := 87) hx hb hf dX10_word_8 (by decide) (fun hf => ?_) (fun hf => ?_)
  · refine lv_lload_n hx hb dX10_word_87 rfl (lv_at hl 2 rfl) ?_
    cases hf
    exact q_retl C hH trivial dX10_word_88
  · refine lv_ldc2 (v := (8 : Int64)) hx hb C.2.2.2.1 (C.2.2.2.2.1 _ wd_1310) dX10_word_11 ?_
    refine lv_iload_n hx hb dX10_word_14 rfl (lv_at hl 1 rfl) ?_
    refine lv_i2l (v := v1.toInt64) hx hb dX10_word_15 rfl ?_
    refine lv_lmul hx hb dX10_word_16 ?_
    refine lv_iload hx hb dX10_word_17 (lv_at hl 3 rfl) ?_
    refine lv_i2l (v := v4.toInt64) hx hb dX10_word_19 rfl ?_
    refine lv_ladd hx hb dX10_word_20 ?_
    refine b_letl hf (fun y1 hf => ?_)
    refine lv_lstore (lv' := [(5, .long y1), (0, .ref (B + 0)), (1, .int v1), (2, .long v2), (4, .int v4)]) hx hb dX10_word_21 hl (by decide) rfl (fun ls hl => ?_)
    refine lv_lload hx hb dX10_word_23 (lv_at hl 0 rfl) ?_
    refine lv_lconst (v := (0 : Int64)) hx hb dX10_word_25 (by decide) ?_
    refine W.lcmp hx hb dX10_word_26 ?_
    refine b_if_lt (tgt := 48) hx hb hf dX10_word_27 (by decide) (fun hf => ?_) (fun hf => ?_)
    · exact t_X10_word_48 C hr_6 hH (lv_sub hl [1, 2, 3, 4, 0] rfl) hf
    · refine lv_lload hx hb dX10_word_30 (lv_at hl 0 rfl) ?_
      refine lv_aload_n hx hb dX10_word_32 rfl (lv_at hl 1 rfl) ?_
      refine fg_X10_33 C hH dX10_word_33 ?_
      obtain ⟨x3, w2, hc, hf⟩ := bd_some hf
      refine q_callV1 (v := .int x3) (As := []) C hH (ci := 7) rfl (by omega) gk_X10_107 yd_X7_size (by omega) (by omega) kc_637 (c_X7_size kc_637 hc) hl.1 rfl (Nat.le_of_ble_eq_true rfl) dX10_word_36 xv_00 (fun H locs hH hP => ?_)
      refine lv_i2l (v := x3.toInt64) hx hb dX10_word_39 rfl ?_
      refine W.lcmp hx hb dX10_word_40 ?_
      refine b_if_ge (tgt := 48) hx hb hf dX10_word_41 (by decide) (fun hf => ?_) (fun hf => ?_)
      · exact t_X10_word_48 C hr_6 hH (lv_sub hl [1, 2, 3, 4, 0] rfl) hf
      · refine lv_iconst (v := (1 : Int32)) hx hb dX10_word_44 (by decide) ?_
        refine lv_goto (tgt := 49) hx hb dX10_word_45 (by decide) ?_
        exact t_X10_word_49 C hr_6 isZ_1 hH (lv_sub hl [1, 2, 3, 4, 0] rfl) hf
set_option maxRecDepth 100000 in
set_option maxHeartbeats 4000000 in
theorem t_X10_word_6 {D : va_G} {B : Nat} {Y : Nat → ClassId} {p : Program} {l : Launch} {e : Env} {s : State} {m : MethodId} {args : Array Value} {below : List Frame} {meth : Method} {c : Code} {z : (Int64 × Wd)} {H : Heap} {locs : List Loc} {ls : Array Slot} {w : Wd} {v1 : Int32} {v2 : Int64} {v4 : Int32} (C : CX D B Y p s m args meth c cX10_word 8 RX10 (some .long))     (hH : HS D B Y w s H locs) (hl : lv_has ls 8 [(0, .ref (B + 0)), (1, .int v1), (2, .long v2), (4, .int v4)]) (hf : f_X10_word_6 v1 v2 v4 w = some z) : W p l e (RM 1 0 0) s m args below meth c H locs 0 0 (MQ below (QG D B Y (some (.long z.1)) z.2 True) args s 0 0 (AB B)) (F0 m 6 ls []) := by
  exact loopN_ind (z := z) (body := fun rc σ => g_X10_word_6 rc  σ.1 σ.2.1 σ.2.2.1 σ.2.2.2)
    (P := fun σ => ∀ (H : Heap) (locs : List Loc) (ls : Array Slot), HS D B Y σ.2.2.2 s H locs → lv_has ls 8 [(0, .ref (B + 0)), (1, .int σ.1), (2, .long σ.2.1), (4, .int σ.2.2.1)] → W p l e (RM 1 0 0) s m args below meth c H locs 0 0 (MQ below (QG D B Y (some (.long z.1)) z.2 True) args s 0 0 (AB B)) (F0 m 6 ls []))
    (fun rc hrec σ hf  H locs ls hH hl => tb_X10_word_6 C (fun v1 v2 v4 w hr  H locs ls hH hl => hrec (v1, v2, v4, w) hr  H locs ls hH hl)   hH hl hf) FU (v1, v2, v4, w) hf  H locs ls hH hl
set_option maxRecDepth 100000 in
set_option maxHeartbeats 4000000 in
theorem t_X10_word_0 {D : va_G} {B : Nat} {Y : Nat → ClassId} {p : Program} {l : Launch} {e : Env} {s : State} {m : MethodId} {args : Array Value} {below : List Frame} {meth : Method} {c : Code} {z : (Int64 × Wd)} {H : Heap} {locs : List Loc} {ls : Array Slot} {w : Wd} {v1 : Int32} (C : CX D B Y p s m args meth c cX10_word 8 RX10 (some .long))     (hH : HS D B Y w s H locs) (hl : lv_has ls 8 [(0, .ref (B + 0)), (1, .int v1)]) (hf : f_X10_word v1 w = some z) : W p l e (RM 1 0 0) s m args below meth c H locs 0 0 (MQ below (QG D B Y (some (.long z.1)) z.2 True) args s 0 0 (AB B)) (F0 m 0 ls []) := by
  have hx := C.1
  have hb := C.2.1
  unfold f_X10_word at hf
  refine lv_lconst (v := (0 : Int64)) hx hb dX10_word_0 (by decide) ?_
  refine lv_lstore_n (lv' := [(2, .long (0 : Int64)), (0, .ref (B + 0)), (1, .int v1)]) hx hb dX10_word_1 rfl hl (by decide) rfl (fun ls hl => ?_)
  refine lv_bipush (v := (7 : Int32)) hx hb dX10_word_2 (by decide) ?_
  refine lv_istore (lv' := [(4, .int (7 : Int32)), (2, .long (0 : Int64)), (0, .ref (B + 0)), (1, .int v1)]) hx hb dX10_word_4 hl (by decide) rfl (fun ls hl => ?_)
  exact t_X10_word_6 C hH (lv_sub hl [2, 3, 1, 0] rfl) hf
set_option maxRecDepth 100000 in
theorem c_X10_word {l : Launch} {D : va_G} {B : Nat} {Y : Nat → ClassId} {v1 : Int32} {w : Wd} {r : Int64} {w1 : Wd}   (hf : f_X10_word v1 w = some (r, w1)) : CM l D B Y yX10_word cX10_word 8 (some .long) 1 [.ref (B + 0), .int v1] w (some (.long r)) w1 True :=
  CM_of (by decide +kernel) (Nat.le_of_ble_eq_true rfl) (fun p e s m args below meth c ls C hH hl => t_X10_word_0 C  hH (lv_sub hl [0, 1] rfl) hf)
/-! LetterTables.encode -/
set_option maxRecDepth 100000 in
set_option maxHeartbeats 4000000 in
theorem t_X10_encode_120 {D : va_G} {B : Nat} {Y : Nat → ClassId} {p : Program} {l : Launch} {e : Env} {s : State} {m : MethodId} {args : Array Value} {below : List Frame} {meth : Method} {c : Code} {z : ((Nat ⊕ Int32) × Wd)} {H : Heap} {locs : List Loc} {ls : Array Slot} {w : Wd}  (C : CX D B Y p s m args meth c cX10_encode 7 RX10 (some .int)) (hxt : ∀ x ∈ c.exceptionTable.toList, False) (htr : l.stackTraces = false)     (hH : HS D B Y w s H locs) (hl : lv_has ls 7 [(0, .ref (B + 0))]) (hf : f_X10_encode_120 w = some z) : W p l e (RM 1 (xv (zoI z.1)) (6 * xv (zoI z.1))) s m args below meth c H locs 0 0 (vx_MQ below (QX D B Y (zoI z.1) z.2 True) (XX D B Y (zoI z.1) z.2) args s (xv (zoI z.1)) (6 * xv (zoI z.1)) (AB B)) (F0 m 120 ls []) := by
  have hx := C.1
  have hb := C.2.1
  unfold f_X10_encode_120 at hf
  refine lv_aload_n hx hb dX10_encode_120 rfl (lv_at hl 0 rfl) ?_
  refine fg_X10_33 C hH dX10_encode_121 ?_
  obtain ⟨x2, w1, hc, hf⟩ := bd_some hf
  refine q_callV1 (v := .int x2) (As := []) C hH (ci := 7) rfl (by omega) gk_X10_107 yd_X7_size (by omega) (by omega) kc_637 (c_X7_size kc_637 hc) hl.1 rfl (Nat.le_of_ble_eq_true rfl) dX10_encode_124 xv_00 (fun H locs hH hP => ?_)
  cases hf
  exact q_x0 rfl (q_reti C hH trivial dX10_encode_127)
set_option maxRecDepth 100000 in
set_option maxHeartbeats 4000000 in
theorem t_X10_encode_80 {D : va_G} {B : Nat} {Y : Nat → ClassId} {p : Program} {l : Launch} {e : Env} {s : State} {m : MethodId} {args : Array Value} {below : List Frame} {meth : Method} {c : Code} {z : ((Nat ⊕ Int32) × Wd)} {H : Heap} {locs : List Loc} {ls : Array Slot} {w : Wd} {v2 : Nat} {v3 : Int32} {v4 : Int32} {v5 : Int32} {v6 : Int32} (C : CX D B Y p s m args meth c cX10_encode 7 RX10 (some .int)) (hxt : ∀ x ∈ c.exceptionTable.toList, False) (htr : l.stackTraces = false)  {rc_19 : Nat × Int32 × Int32 × Wd → Option ((Nat ⊕ Int32) × Wd)} (hr_19 : ∀ (v2 : Nat) (v3 : Int32) (v4 : Int32) (w : Wd), rc_19 (v2, v3, v4, w) = some z → KD v2 = 7 → isZ v3 → ∀ (H : Heap) (locs : List Loc) (ls : Array Slot), HS D B Y w s H locs → lv_has ls 7 [(0, .ref (B + 0)), (2, .ref (B + v2)), (3, .int v3), (4, .int v4)] → W p l e (RM 1 (xv (zoI z.1)) (6 * xv (zoI z.1))) s m args below meth c H locs 0 0 (vx_MQ below (QX D B Y (zoI z.1) z.2 True) (XX D B Y (zoI z.1) z.2) args s (xv (zoI z.1)) (6 * xv (zoI z.1)) (AB B)) (F0 m 19 ls []))  (k_v2 : KD v2 = 7) (z_v3 : isZ v3) (z_v6 : isZ v6) (hH : HS D B Y w s H locs) (hl : lv_has ls 7 [(0, .ref (B + 0)), (2, .ref (B + v2)), (3, .int v3), (4, .int v4), (5, .int v5), (6, .int v6)]) (hf : f_X10_encode_80 rc_19 v2 v3 v4 v5 v6 w = some z) : W p l e (RM 1 (xv (zoI z.1)) (6 * xv (zoI z.1))) s m args below meth c H locs 0 0 (vx_MQ below (QX D B Y (zoI z.1) z.2 True) (XX D B Y (zoI z.1) z.2) args s (xv (zoI z.1)) (6 * xv (zoI z.1)) (AB B)) (F0 m 80 ls []) := by
  have hx := C.1
  have hb := C.2.1
  unfold f_X10_encode_80 at hf
  refine lv_aload_n hx hb dX10_encode_80 rfl (lv_at hl 0 rfl) ?_
  refine fg_X10_33 C hH dX10_encode_81 ?_
  refine lv_bipush (v := (32 : Int32)) hx hb dX10_encode_84 (by decide) ?_
  refine lv_iload hx hb dX10_encode_86 (lv_at hl 4 rfl) ?_
  refine lv_iadd hx hb dX10_encode_88 ?_
  refine lv_iload hx hb dX10_encode_89 (lv_at hl 5 rfl) ?_
  refine lv_bipush (v := (64 : Int32)) hx hb dX10_encode_91 (by decide) ?_
  refine lv_imul hx hb dX10_encode_93 ?_
  refine lv_isub hx hb dX10_encode_94 ?_
  obtain ⟨x2, w1, hc, hf⟩ := bd_some hf
  refine q_callV1 (v := .int x2) (As := [.int (((32 : Int32) + v5) - (v6 * (64 : Int32)))]) C hH (ci := 7) rfl (by omega) gk_X10_120 yd_X7_add (by omega) (by omega) kc_637 (c_X7_add kc_637 hc) hl.1 rfl (Nat.le_of_ble_eq_true rfl) dX10_encode_95 xv_00 (fun H locs hH z_x2 => ?_)
  refine lv_pop hx hb dX10_encode_98 rfl ?_
  refine b_let hf (fun x3 he hf => ?_)
  refine lv_iinc (v := x3) (lv' := [(4, .int x3), (0, .ref (B + 0)), (2, .ref (B + v2)), (3, .int v3), (5, .int v5), (6, .int v6)]) hx hb dX10_encode_99 hl (k := 3) rfl (by rw [← he]; rfl) (by decide) rfl (fun ls hl => ?_)
  refine lv_goto (tgt := 19) hx hb dX10_encode_102 (by decide) ?_
  exact hr_19 v2 v3 x3 w1 hf k_v2 z_v3 _ _ _ hH (lv_sub hl [1, 2, 3, 0] rfl)
set_option maxRecDepth 100000 in
set_option maxHeartbeats 4000000 in
theorem t_X10_encode_73 {D : va_G} {B : Nat} {Y : Nat → ClassId} {p : Program} {l : Launch} {e : Env} {s : State} {m : MethodId} {args : Array Value} {below : List Frame} {meth : Method} {c : Code} {z : ((Nat ⊕ Int32) × Wd)} {H : Heap} {locs : List Loc} {ls : Array Slot} {w : Wd} {v2 : Nat} {v4 : Int32} {v5 : Int32} {v6 : Int32} {t0 : Nat} {t1 : Int32} (C : CX D B Y p s m args meth c cX10_encode 7 RX10 (some .int)) (hxt : ∀ x ∈ c.exceptionTable.toList, False) (htr : l.stackTraces = false)  {rc_19 : Nat × Int32 × Int32 × Wd → Option ((Nat ⊕ Int32) × Wd)} (hr_19 : ∀ (v2 : Nat) (v3 : Int32) (v4 : Int32) (w : Wd), rc_19 (v2, v3, v4, w) = some z → KD v2 = 7 → isZ v3 → ∀ (H : Heap) (locs : List Loc) (ls : Array Slot), HS D B Y w s H locs → lv_has ls 7 [(0, .ref (B + 0)), (2, .ref (B + v2)), (3, .int v3), (4, .int v4)] → W p l e (RM 1 (xv (zoI z.1)) (6 * xv (zoI z.1))) s m args below meth c H locs 0 0 (vx_MQ below (QX D B Y (zoI z.1) z.2 True) (XX D B Y (zoI z.1) z.2) args s (xv (zoI z.1)) (6 * xv (zoI z.1)) (AB B)) (F0 m 19 ls []))  (k_v2 : KD v2 = 7) (k_t0 : KD t0 = 7) (z_v6 : isZ v6) (hH : HS D B Y w s H locs) (hl : lv_has ls 7 [(0, .ref (B + 0)), (2, .ref (B + v2)), (4, .int v4), (5, .int v5), (6, .int v6)]) (hf : f_X10_encode_73 rc_19 v2 v4 v5 v6 t0 t1 w = some z) : W p l e (RM 1 (xv (zoI z.1)) (6 * xv (zoI z.1))) s m args below meth c H locs 0 0 (vx_MQ below (QX D B Y (zoI z.1) z.2 True) (XX D B Y (zoI z.1) z.2) args s (xv (zoI z.1)) (6 * xv (zoI z.1)) (AB B)) (F0 m 73 ls [.int t1, .ref (B + t0)]) := by
  have hx := C.1
  have hb := C.2.1
  unfold f_X10_encode_73 at hf
  obtain ⟨x2, w1, hc, hf⟩ := bd_some hf
  refine q_callV1 (v := .int x2) (As := [.int t1]) C hH (ci := 7) rfl (by omega) gk_X10_120 yd_X7_add (by omega) (by omega) k_t0 (c_X7_add k_t0 hc) hl.1 rfl (Nat.le_of_ble_eq_true rfl) dX10_encode_73 xv_00 (fun H locs hH z_x2 => ?_)
  refine lv_pop hx hb dX10_encode_76 rfl ?_
  refine lv_iload hx hb dX10_encode_77 (lv_at hl 4 rfl) ?_
  refine lv_istore_n (lv' := [(3, .int v6), (0, .ref (B + 0)), (2, .ref (B + v2)), (4, .int v4), (5, .int v5), (6, .int v6)]) hx hb dX10_encode_79 rfl hl (by decide) rfl (fun ls hl => ?_)
  exact t_X10_encode_80 C hxt htr hr_19 k_v2 z_v6 z_v6 hH (lv_sub hl [1, 2, 0, 3, 4, 5] rfl) hf
set_option maxRecDepth 100000 in
set_option maxHeartbeats 4000000 in
theorem t_X10_encode_48 {D : va_G} {B : Nat} {Y : Nat → ClassId} {p : Program} {l : Launch} {e : Env} {s : State} {m : MethodId} {args : Array Value} {below : List Frame} {meth : Method} {c : Code} {z : ((Nat ⊕ Int32) × Wd)} {H : Heap} {locs : List Loc} {ls : Array Slot} {w : Wd} {v2 : Nat} {v3 : Int32} {v4 : Int32} {v5 : Int32} {t0 : Int32} (C : CX D B Y p s m args meth c cX10_encode 7 RX10 (some .int)) (hxt : ∀ x ∈ c.exceptionTable.toList, False) (htr : l.stackTraces = false)  {rc_19 : Nat × Int32 × Int32 × Wd → Option ((Nat ⊕ Int32) × Wd)} (hr_19 : ∀ (v2 : Nat) (v3 : Int32) (v4 : Int32) (w : Wd), rc_19 (v2, v3, v4, w) = some z → KD v2 = 7 → isZ v3 → ∀ (H : Heap) (locs : List Loc) (ls : Array Slot), HS D B Y w s H locs → lv_has ls 7 [(0, .ref (B + 0)), (2, .ref (B + v2)), (3, .int v3), (4, .int v4)] → W p l e (RM 1 (xv (zoI z.1)) (6 * xv (zoI z.1))) s m args below meth c H locs 0 0 (vx_MQ below (QX D B Y (zoI z.1) z.2 True) (XX D B Y (zoI z.1) z.2) args s (xv (zoI z.1)) (6 * xv (zoI z.1)) (AB B)) (F0 m 19 ls []))  (k_v2 : KD v2 = 7) (z_v3 : isZ v3) (z_t0 : isZ t0) (hH : HS D B Y w s H locs) (hl : lv_has ls 7 [(0, .ref (B + 0)), (2, .ref (B + v2)), (3, .int v3), (4, .int v4), (5, .int v5)]) (hf : f_X10_encode_48 rc_19 v2 v3 v4 v5 t0 w = some z) : W p l e (RM 1 (xv (zoI z.1)) (6 * xv (zoI z.1))) s m args below meth c H locs 0 0 (vx_MQ below (QX D B Y (zoI z.1) z.2 True) (XX D B Y (zoI z.1) z.2) args s (xv (zoI z.1)) (6 * xv (zoI z.1)) (AB B)) (F0 m 48 ls [.int t0]) := by
  have hx := C.1
  have hb := C.2.1
  unfold f_X10_encode_48 at hf
  refine lv_istore (lv' := [(6, .int t0), (0, .ref (B + 0)), (2, .ref (B + v2)), (3, .int v3), (4, .int v4), (5, .int v5)]) hx hb dX10_encode_48 hl (by decide) rfl (fun ls hl => ?_)
  refine lv_iload hx hb dX10_encode_50 (lv_at hl 0 rfl) ?_
  refine lv_iload_n hx hb dX10_encode_52 rfl (lv_at hl 3 rfl) ?_
  refine b_icmp_eq (tgt := 80) hx hb hf dX10_encode_53 (by decide) (fun hf => ?_) (fun hf => ?_)
  · exact t_X10_encode_80 C hxt htr hr_19 k_v2 z_v3 z_t0 hH (lv_sub hl [1, 2, 3, 4, 5, 0] rfl) hf
  · refine lv_aload_n hx hb dX10_encode_56 rfl (lv_at hl 1 rfl) ?_
    refine fg_X10_33 C hH dX10_encode_57 ?_
    refine lv_iload hx hb dX10_encode_60 (lv_at hl 0 rfl) ?_
    refine lv_iconst (v := (1 : Int32)) hx hb dX10_encode_62 (by decide) ?_
    refine b_icmp_ne (tgt := 71) hx hb hf dX10_encode_63 (by decide) (fun hf => ?_) (fun hf => ?_)
    · refine lv_bipush (v := (15 : Int32)) hx hb dX10_encode_71 (by decide) ?_
      exact t_X10_encode_73 C hxt htr hr_19 k_v2 kc_637 z_t0 hH (lv_sub hl [1, 2, 4, 5, 0] rfl) hf
    · refine lv_bipush (v := (14 : Int32)) hx hb dX10_encode_66 (by decide) ?_
      refine lv_goto (tgt := 73) hx hb dX10_encode_68 (by decide) ?_
      exact t_X10_encode_73 C hxt htr hr_19 k_v2 kc_637 z_t0 hH (lv_sub hl [1, 2, 4, 5, 0] rfl) hf
set_option maxRecDepth 100000 in
set_option maxHeartbeats 4000000 in
theorem tb_X10_encode_19 {D : va_G} {B : Nat} {Y : Nat → ClassId} {p : Program} {l : Launch} {e : Env} {s : State} {m : MethodId} {args : Array Value} {below : List Frame} {meth : Method} {c : Code} {z : ((Nat ⊕ Int32) × Wd)} {H : Heap} {locs : List Loc} {ls : Array Slot} {w : Wd} {v2 : Nat} {v3 : Int32} {v4 : Int32} (C : CX D B Y p s m args meth c cX10_encode 7 RX10 (some .int)) (hxt : ∀ x ∈ c.exceptionTable.toList, False) (htr : l.stackTraces = false)  {rc_19 : Nat × Int32 × Int32 × Wd → Option ((Nat ⊕ Int32) × Wd)} (hr_19 : ∀ (v2 : Nat) (v3 : Int32) (v4 : Int32) (w : Wd), rc_19 (v2, v3, v4, w) = some z → KD v2 = 7 → isZ v3 → ∀ (H : Heap) (locs : List Loc) (ls : Array Slot), HS D B Y w s H locs → lv_has ls 7 [(0, .ref (B + 0)), (2, .ref (B + v2)), (3, .int v3), (4, .int v4)] → W p l e (RM 1 (xv (zoI z.1)) (6 * xv (zoI z.1))) s m args below meth c H locs 0 0 (vx_MQ below (QX D B Y (zoI z.1) z.2 True) (XX D B Y (zoI z.1) z.2) args s (xv (zoI z.1)) (6 * xv (zoI z.1)) (AB B)) (F0 m 19 ls []))  (k_v2 : KD v2 = 7) (z_v3 : isZ v3) (hH : HS D B Y w s H locs) (hl : lv_has ls 7 [(0, .ref (B + 0)), (2, .ref (B + v2)), (3, .int v3), (4, .int v4)]) (hf : g_X10_encode_19 rc_19 v2 v3 v4 w = some z) : W p l e (RM 1 (xv (zoI z.1)) (6 * xv (zoI z.1))) s m args below meth c H locs 0 0 (vx_MQ below (QX D B Y (zoI z.1) z.2 True) (XX D B Y (zoI z.1) z.2) args s (xv (zoI z.1)) (6 * xv (zoI z.1)) (AB B)) (F0 m 19 ls []) := by
  have hx := C.1
  have hb := C.2.1
  unfold g_X10_encode_19 at hf
  refine lv_iload hx hb dX10_encode_19 (lv_at hl 3 rfl) ?_
  refine lv_aload_n hx hb dX10_encode_21 rfl (lv_at hl 1 rfl) ?_
  obtain ⟨x2, w1, hc, hf⟩ := bd_some hf
  refine q_callV1 (v := .int x2) (As := []) C hH (ci := 7) rfl (by omega) gk_X10_107 yd_X7_size (by omega) (by omega) k_v2 (c_X7_size k_v2 hc) hl.1 rfl (Nat.le_of_ble_eq_true rfl) dX10_encode_22 xv_00 (fun H locs hH hP => ?_)
  refine b_icmp_ge (tgt := 105) hx hb hf dX10_encode_25 (by decide) (fun hf => ?_) (fun hf => ?_)
  · refine lv_iload_n hx hb dX10_encode_105 rfl (lv_at hl 2 rfl) ?_
    refine lv_iconst (v := (1 : Int32)) hx hb dX10_encode_106 (by decide) ?_
    refine b_icmp_ne (tgt := 120) hx hb hf dX10_encode_107 (by decide) (fun hf => ?_) (fun hf => ?_)
    · exact t_X10_encode_120 C hxt htr hH (lv_sub hl [0] rfl) hf
    · refine lv_aload_n hx hb dX10_encode_110 rfl (lv_at hl 0 rfl) ?_
      refine fg_X10_33 C hH dX10_encode_111 ?_
      refine lv_bipush (v := (15 : Int32)) hx hb dX10_encode_114 (by decide) ?_
      obtain ⟨x4, w3, hc, hf⟩ := bd_some hf
      refine q_callV1 (v := .int x4) (As := [.int (15 : Int32)]) C hH (ci := 7) rfl (by omega) gk_X10_120 yd_X7_add (by omega) (by omega) kc_637 (c_X7_add kc_637 hc) hl.1 rfl (Nat.le_of_ble_eq_true rfl) dX10_encode_116 xv_00 (fun H locs hH z_x4 => ?_)
      refine lv_pop hx hb dX10_encode_119 rfl ?_
      exact t_X10_encode_120 C hxt htr hH (lv_sub hl [0] rfl) hf
  · refine lv_aload_n hx hb dX10_encode_28 rfl (lv_at hl 1 rfl) ?_
    refine lv_iload hx hb dX10_encode_29 (lv_at hl 3 rfl) ?_
    obtain ⟨x6, w5, hc, hf⟩ := bd_some hf
    refine q_callV1 (v := .int x6) (As := [.int v4]) C hH (ci := 7) rfl (by omega) gk_X10_243 yd_X7_get (by omega) (by omega) k_v2 (c_X7_get k_v2 hc) hl.1 rfl (Nat.le_of_ble_eq_true rfl) dX10_encode_31 xv_00 (fun H locs hH hP => ?_)
    refine lv_istore (lv' := [(5, .int x6), (0, .ref (B + 0)), (2, .ref (B + v2)), (3, .int v3), (4, .int v4)]) hx hb dX10_encode_34 hl (by decide) rfl (fun ls hl => ?_)
    refine lv_iload hx hb dX10_encode_36 (lv_at hl 0 rfl) ?_
    refine lv_bipush (v := (64 : Int32)) hx hb dX10_encode_38 (by decide) ?_
    refine b_icmp_ge (tgt := 47) hx hb hf dX10_encode_40 (by decide) (fun hf => ?_) (fun hf => ?_)
    · refine lv_iconst (v := (1 : Int32)) hx hb dX10_encode_47 (by decide) ?_
      exact t_X10_encode_48 C hxt htr hr_19 k_v2 z_v3 isZ_1 hH (lv_sub hl [1, 2, 3, 4, 0] rfl) hf
    · refine lv_iconst (v := (0 : Int32)) hx hb dX10_encode_43 (by decide) ?_
      refine lv_goto (tgt := 48) hx hb dX10_encode_44 (by decide) ?_
      exact t_X10_encode_48 C hxt htr hr_19 k_v2 z_v3 isZ_0 hH (lv_sub hl [1, 2, 3, 4, 0] rfl) hf
set_option maxRecDepth 100000 in
set_option maxHeartbeats 4000000 in
theorem t_X10_encode_19 {D : va_G} {B : Nat} {Y : Nat → ClassId} {p : Program} {l : Launch} {e : Env} {s : State} {m : MethodId} {args : Array Value} {below : List Frame} {meth : Method} {c : Code} {z : ((Nat ⊕ Int32) × Wd)} {H : Heap} {locs : List Loc} {ls : Array Slot} {w : Wd} {v2 : Nat} {v3 : Int32} {v4 : Int32} (C : CX D B Y p s m args meth c cX10_encode 7 RX10 (some .int)) (hxt : ∀ x ∈ c.exceptionTable.toList, False) (htr : l.stackTraces = false)   (k_v2 : KD v2 = 7) (z_v3 : isZ v3) (hH : HS D B Y w s H locs) (hl : lv_has ls 7 [(0, .ref (B + 0)), (2, .ref (B + v2)), (3, .int v3), (4, .int v4)]) (hf : f_X10_encode_19 v2 v3 v4 w = some z) : W p l e (RM 1 (xv (zoI z.1)) (6 * xv (zoI z.1))) s m args below meth c H locs 0 0 (vx_MQ below (QX D B Y (zoI z.1) z.2 True) (XX D B Y (zoI z.1) z.2) args s (xv (zoI z.1)) (6 * xv (zoI z.1)) (AB B)) (F0 m 19 ls []) := by
  exact loopN_ind (z := z) (body := fun rc σ => g_X10_encode_19 rc  σ.1 σ.2.1 σ.2.2.1 σ.2.2.2)
    (P := fun σ => KD σ.1 = 7 → isZ σ.2.1 → ∀ (H : Heap) (locs : List Loc) (ls : Array Slot), HS D B Y σ.2.2.2 s H locs → lv_has ls 7 [(0, .ref (B + 0)), (2, .ref (B + σ.1)), (3, .int σ.2.1), (4, .int σ.2.2.1)] → W p l e (RM 1 (xv (zoI z.1)) (6 * xv (zoI z.1))) s m args below meth c H locs 0 0 (vx_MQ below (QX D B Y (zoI z.1) z.2 True) (XX D B Y (zoI z.1) z.2) args s (xv (zoI z.1)) (6 * xv (zoI z.1)) (AB B)) (F0 m 19 ls []))
    (fun rc hrec σ hf k_v2 z_v3 H locs ls hH hl => tb_X10_encode_19 C hxt htr (fun v2 v3 v4 w hr k_v2 z_v3 H locs ls hH hl => hrec (v2, v3, v4, w) hr k_v2 z_v3 H locs ls hH hl)  k_v2 z_v3 hH hl hf) FU (v2, v3, v4, w) hf k_v2 z_v3 H locs ls hH hl
set_option maxRecDepth 100000 in
set_option maxHeartbeats 4000000 in
theorem t_X10_encode_0 {D : va_G} {B : Nat} {Y : Nat → ClassId} {p : Program} {l : Launch} {e : Env} {s : State} {m : MethodId} {args : Array Value} {below : List Frame} {meth : Method} {c : Code} {z : ((Nat ⊕ Int32) × Wd)} {H : Heap} {locs : List Loc} {ls : Array Slot} {w : Wd} {v1 : Int32} (C : CX D B Y p s m args meth c cX10_encode 7 RX10 (some .int)) (hxt : ∀ x ∈ c.exceptionTable.toList, False) (htr : l.stackTraces = false)     (hH : HS D B Y w s H locs) (hl : lv_has ls 7 [(0, .ref (B + 0)), (1, .int v1)]) (hf : f_X10_encode v1 w = some z) : W p l e (RM 1 (xv (zoI z.1)) (6 * xv (zoI z.1))) s m args below meth c H locs 0 0 (vx_MQ below (QX D B Y (zoI z.1) z.2 True) (XX D B Y (zoI z.1) z.2) args s (xv (zoI z.1)) (6 * xv (zoI z.1)) (AB B)) (F0 m 0 ls []) := by
  have hx := C.1
  have hb := C.2.1
  unfold f_X10_encode at hf
  refine lv_aload_n hx hb dX10_encode_0 rfl (lv_at hl 0 rfl) ?_
  refine lv_iload_n hx hb dX10_encode_1 rfl (lv_at hl 1 rfl) ?_
  rcases bdx_some hf with ⟨k, w1, hc, rfl⟩ | ⟨r2, w1, hc, hf⟩
  · exact q_xrunX (k0 := k) (q_xV (As := [.int v1]) C hH (ci := 10) rfl (by omega) gk_X10_194 yd_X10_textOf (by omega) (by omega) kc_0 (c_X10_textOf (r := .inl k) htr hc) hl.1 rfl (Nat.le_of_ble_eq_true rfl) dX10_encode_2 (xv_le rfl)) hH (fun H locs ce q hH h1 h2 h3 => q_out C hH hxt h1 h2 h3 (xv_1 rfl) (xv_6 rfl))
  refine q_xrun (ov := some (.ref (B + r2))) (q_xV (As := [.int v1]) C hH (ci := 10) rfl (by omega) gk_X10_194 yd_X10_textOf (by omega) (by omega) kc_0 (c_X10_textOf (r := .inr r2) htr hc) hl.1 rfl (Nat.le_of_ble_eq_true rfl) dX10_encode_2 (xv_0 rfl xv_00)) hH (fun H locs hH k_r2 => ?_)
  refine lv_astore_n (lv' := [(2, .ref (B + r2)), (0, .ref (B + 0)), (1, .int v1)]) hx hb dX10_encode_5 rfl hl (by decide) rfl (fun ls hl => ?_)
  refine lv_aload_n hx hb dX10_encode_6 rfl (lv_at hl 1 rfl) ?_
  refine fg_X10_33 C hH dX10_encode_7 ?_
  refine lv_iconst (v := (0 : Int32)) hx hb dX10_encode_10 (by decide) ?_
  obtain ⟨u, w3, hc, hf⟩ := bd_some hf
  refine q_callV0 (As := [.int (0 : Int32)]) C hH (ci := 7) rfl (by omega) gk_X10_237 yd_X7_cutTo (by omega) (by omega) kc_637 (c_X7_cutTo kc_637 hc) hl.1 rfl (Nat.le_of_ble_eq_true rfl) dX10_encode_11 xv_00 (fun H locs hH hP => ?_)
  refine lv_iconst (v := (0 : Int32)) hx hb dX10_encode_14 (by decide) ?_
  refine lv_istore_n (lv' := [(3, .int (0 : Int32)), (2, .ref (B + r2)), (0, .ref (B + 0)), (1, .int v1)]) hx hb dX10_encode_15 rfl hl (by decide) rfl (fun ls hl => ?_)
  refine lv_iconst (v := (0 : Int32)) hx hb dX10_encode_16 (by decide) ?_
  refine lv_istore (lv' := [(4, .int (0 : Int32)), (3, .int (0 : Int32)), (2, .ref (B + r2)), (0, .ref (B + 0)), (1, .int v1)]) hx hb dX10_encode_17 hl (by decide) rfl (fun ls hl => ?_)
  exact t_X10_encode_19 C hxt htr k_r2 isZ_0 hH (lv_sub hl [3, 2, 1, 0] rfl) hf
set_option maxRecDepth 100000 in
theorem c_X10_encode {l : Launch} {D : va_G} {B : Nat} {Y : Nat → ClassId} {v1 : Int32} {w : Wd} {r : (Nat ⊕ Int32)} {w1 : Wd} (htr : l.stackTraces = false)   (hf : f_X10_encode v1 w = some (r, w1)) : XM l D B Y yX10_encode cX10_encode 7 (some .int) 1 [.ref (B + 0), .int v1] w (zoI r) w1 True :=
  XM_of (by decide +kernel) (Nat.le_of_ble_eq_true rfl) (fun p e s m args below meth c ls C hxt hH hl => t_X10_encode_0 C hxt htr  hH (lv_sub hl [0, 1] rfl) hf)
/-! LetterTables.decodeInto -/
set_option maxRecDepth 100000 in
set_option maxHeartbeats 4000000 in
theorem t_X10_decodeInto_49 {D : va_G} {B : Nat} {Y : Nat → ClassId} {p : Program} {l : Launch} {e : Env} {s : State} {m : MethodId} {args : Array Value} {below : List Frame} {meth : Method} {c : Code} {z : (Int32 × Wd)} {H : Heap} {locs : List Loc} {ls : Array Slot} {w : Wd} {v1 : Nat} {v2 : Int32} {v4 : Int32} {v5 : Int32} (C : CX D B Y p s m args meth c cX10_decodeInto 8 RX10 (some .int))  {rc_12 : Nat × Int32 × Int32 × Int32 × Wd → Option (Int32 × Wd)} (hr_12 : ∀ (v1 : Nat) (v2 : Int32) (v3 : Int32) (v4 : Int32) (w : Wd), rc_12 (v1, v2, v3, v4, w) = some z → KD v1 = 7 → isZ v3 → ∀ (H : Heap) (locs : List Loc) (ls : Array Slot), HS D B Y w s H locs → lv_has ls 8 [(0, .ref (B + 0)), (1, .ref (B + v1)), (2, .int v2), (3, .int v3), (4, .int v4)] → W p l e (RM 1 0 0) s m args below meth c H locs 0 0 (MQ below (QG D B Y (some (.int z.1)) z.2 True) args s 0 0 (AB B)) (F0 m 12 ls []))  (k_v1 : KD v1 = 7)  (hH : HS D B Y w s H locs) (hl : lv_has ls 8 [(0, .ref (B + 0)), (1, .ref (B + v1)), (2, .int v2), (4, .int v4), (5, .int v5)]) (hf : f_X10_decodeInto_49 rc_12 v1 v2 v4 v5 w = some z) : W p l e (RM 1 0 0) s m args below meth c H locs 0 0 (MQ below (QG D B Y (some (.int z.1)) z.2 True) args s 0 0 (AB B)) (F0 m 49 ls []) := by
  have hx := C.1
  have hb := C.2.1
  unfold f_X10_decodeInto_49 at hf
  refine lv_iload hx hb dX10_decodeInto_49 (lv_at hl 4 rfl) ?_
  refine lv_bipush (v := (14 : Int32)) hx hb dX10_decodeInto_51 (by decide) ?_
  refine b_icmp_ne (tgt := 60) hx hb hf dX10_decodeInto_53 (by decide) (fun hf => ?_) (fun hf => ?_)
  · refine lv_iconst (v := (0 : Int32)) hx hb dX10_decodeInto_60 (by decide) ?_
    refine lv_istore_n (lv' := [(3, .int (0 : Int32)), (0, .ref (B + 0)), (1, .ref (B + v1)), (2, .int v2), (4, .int v4), (5, .int v5)]) hx hb dX10_decodeInto_61 rfl hl (by decide) rfl (fun ls hl => ?_)
    refine lv_goto (tgt := 140) hx hb dX10_decodeInto_62 (by decide) ?_
    refine b_let hf (fun x1 he hf => ?_)
    refine lv_iinc (v := x1) (lv' := [(4, .int x1), (3, .int (0 : Int32)), (0, .ref (B + 0)), (1, .ref (B + v1)), (2, .int v2), (5, .int v5)]) hx hb dX10_decodeInto_140 hl (k := 4) rfl (by rw [← he]; rfl) (by decide) rfl (fun ls hl => ?_)
    refine lv_goto (tgt := 12) hx hb dX10_decodeInto_143 (by decide) ?_
    exact hr_12 v1 v2 (0 : Int32) x1 w hf k_v1 isZ_0 _ _ _ hH (lv_sub hl [2, 3, 4, 1, 0] rfl)
  · refine lv_iconst (v := (1 : Int32)) hx hb dX10_decodeInto_56 (by decide) ?_
    refine lv_goto (tgt := 61) hx hb dX10_decodeInto_57 (by decide) ?_
    refine lv_istore_n (lv' := [(3, .int (1 : Int32)), (0, .ref (B + 0)), (1, .ref (B + v1)), (2, .int v2), (4, .int v4), (5, .int v5)]) hx hb dX10_decodeInto_61 rfl hl (by decide) rfl (fun ls hl => ?_)
    refine lv_goto (tgt := 140) hx hb dX10_decodeInto_62 (by decide) ?_
    refine b_let hf (fun x2 he hf => ?_)
    refine lv_iinc (v := x2) (lv' := [(4, .int x2), (3, .int (1 : Int32)), (0, .ref (B + 0)), (1, .ref (B + v1)), (2, .int v2), (5, .int v5)]) hx hb dX10_decodeInto_140 hl (k := 4) rfl (by rw [← he]; rfl) (by decide) rfl (fun ls hl => ?_)
    refine lv_goto (tgt := 12) hx hb dX10_decodeInto_143 (by decide) ?_
    exact hr_12 v1 v2 (1 : Int32) x2 w hf k_v1 isZ_1 _ _ _ hH (lv_sub hl [2, 3, 4, 1, 0] rfl)
set_option maxRecDepth 100000 in
set_option maxHeartbeats 4000000 in
theorem t_X10_decodeInto_132 {D : va_G} {B : Nat} {Y : Nat → ClassId} {p : Program} {l : Launch} {e : Env} {s : State} {m : MethodId} {args : Array Value} {below : List Frame} {meth : Method} {c : Code} {z : (Int32 × Wd)} {H : Heap} {locs : List Loc} {ls : Array Slot} {w : Wd} {v1 : Nat} {v2 : Int32} {v3 : Int32} {v4 : Int32} {t0 : Nat} {t1 : Int32} (C : CX D B Y p s m args meth c cX10_decodeInto 8 RX10 (some .int))  {rc_12 : Nat × Int32 × Int32 × Int32 × Wd → Option (Int32 × Wd)} (hr_12 : ∀ (v1 : Nat) (v2 : Int32) (v3 : Int32) (v4 : Int32) (w : Wd), rc_12 (v1, v2, v3, v4, w) = some z → KD v1 = 7 → isZ v3 → ∀ (H : Heap) (locs : List Loc) (ls : Array Slot), HS D B Y w s H locs → lv_has ls 8 [(0, .ref (B + 0)), (1, .ref (B + v1)), (2, .int v2), (3, .int v3), (4, .int v4)] → W p l e (RM 1 0 0) s m args below meth c H locs 0 0 (MQ below (QG D B Y (some (.int z.1)) z.2 True) args s 0 0 (AB B)) (F0 m 12 ls []))  (k_v1 : KD v1 = 7) (k_t0 : KD t0 = 7) (z_v3 : isZ v3) (hH : HS D B Y w s H locs) (hl : lv_has ls 8 [(0, .ref (B + 0)), (1, .ref (B + v1)), (2, .int v2), (3, .int v3), (4, .int v4)]) (hf : f_X10_decodeInto_132 rc_12 v1 v2 v3 v4 t0 t1 w = some z) : W p l e (RM 1 0 0) s m args below meth c H locs 0 0 (MQ below (QG D B Y (some (.int z.1)) z.2 True) args s 0 0 (AB B)) (F0 m 132 ls [.int t1, .ref (B + t0)]) := by
  have hx := C.1
  have hb := C.2.1
  unfold f_X10_decodeInto_132 at hf
  obtain ⟨x2, w1, hc, hf⟩ := bd_some hf
  refine q_callV1 (v := .int x2) (As := [.int t1]) C hH (ci := 7) rfl (by omega) gk_X10_120 yd_X7_add (by omega) (by omega) k_t0 (c_X7_add k_t0 hc) hl.1 rfl (Nat.le_of_ble_eq_true rfl) dX10_decodeInto_132 xv_00 (fun H locs hH z_x2 => ?_)
  refine b_if_ne (tgt := 140) hx hb hf dX10_decodeInto_135 (by decide) (fun hf => ?_) (fun hf => ?_)
  · refine b_let hf (fun x3 he hf => ?_)
    refine lv_iinc (v := x3) (lv' := [(4, .int x3), (0, .ref (B + 0)), (1, .ref (B + v1)), (2, .int v2), (3, .int v3)]) hx hb dX10_decodeInto_140 hl (k := 4) rfl (by rw [← he]; rfl) (by decide) rfl (fun ls hl => ?_)
    refine lv_goto (tgt := 12) hx hb dX10_decodeInto_143 (by decide) ?_
    exact hr_12 v1 v2 v3 x3 w1 hf k_v1 z_v3 _ _ _ hH (lv_sub hl [1, 2, 3, 4, 0] rfl)
  · refine lv_iconst (v := (-1 : Int32)) hx hb dX10_decodeInto_138 (by decide) ?_
    cases hf
    exact q_reti C hH trivial dX10_decodeInto_139
set_option maxRecDepth 100000 in
set_option maxHeartbeats 4000000 in
theorem t_X10_decodeInto_118 {D : va_G} {B : Nat} {Y : Nat → ClassId} {p : Program} {l : Launch} {e : Env} {s : State} {m : MethodId} {args : Array Value} {below : List Frame} {meth : Method} {c : Code} {z : (Int32 × Wd)} {H : Heap} {locs : List Loc} {ls : Array Slot} {w : Wd} {v1 : Nat} {v3 : Int32} {v4 : Int32} {v6 : Int32} {v7 : Int32} {t0 : Int32} {t1 : Int32} (C : CX D B Y p s m args meth c cX10_decodeInto 8 RX10 (some .int))  {rc_12 : Nat × Int32 × Int32 × Int32 × Wd → Option (Int32 × Wd)} (hr_12 : ∀ (v1 : Nat) (v2 : Int32) (v3 : Int32) (v4 : Int32) (w : Wd), rc_12 (v1, v2, v3, v4, w) = some z → KD v1 = 7 → isZ v3 → ∀ (H : Heap) (locs : List Loc) (ls : Array Slot), HS D B Y w s H locs → lv_has ls 8 [(0, .ref (B + 0)), (1, .ref (B + v1)), (2, .int v2), (3, .int v3), (4, .int v4)] → W p l e (RM 1 0 0) s m args below meth c H locs 0 0 (MQ below (QG D B Y (some (.int z.1)) z.2 True) args s 0 0 (AB B)) (F0 m 12 ls []))  (k_v1 : KD v1 = 7) (z_v3 : isZ v3) (z_v7 : isZ v7) (z_t1 : isZ t1) (hH : HS D B Y w s H locs) (hl : lv_has ls 8 [(0, .ref (B + 0)), (1, .ref (B + v1)), (3, .int v3), (4, .int v4), (6, .int v6), (7, .int v7)]) (hf : f_X10_decodeInto_118 rc_12 v1 v3 v4 v6 v7 t0 t1 w = some z) : W p l e (RM 1 0 0) s m args below meth c H locs 0 0 (MQ below (QG D B Y (some (.int z.1)) z.2 True) args s 0 0 (AB B)) (F0 m 118 ls [.int t1, .int t0]) := by
  have hx := C.1
  have hb := C.2.1
  unfold f_X10_decodeInto_118 at hf
  refine lv_iadd hx hb dX10_decodeInto_118 ?_
  refine b_leti hf (fun x1 hf => ?_)
  refine lv_istore_n (lv' := [(2, .int x1), (0, .ref (B + 0)), (1, .ref (B + v1)), (3, .int v3), (4, .int v4), (6, .int v6), (7, .int v7)]) hx hb dX10_decodeInto_119 rfl hl (by decide) rfl (fun ls hl => ?_)
  refine lv_aload_n hx hb dX10_decodeInto_120 rfl (lv_at hl 2 rfl) ?_
  refine lv_iload hx hb dX10_decodeInto_121 (lv_at hl 6 rfl) ?_
  refine b_if_eq (tgt := 131) hx hb hf dX10_decodeInto_123 (by decide) (fun hf => ?_) (fun hf => ?_)
  · refine lv_iconst (v := (0 : Int32)) hx hb dX10_decodeInto_131 (by decide) ?_
    exact t_X10_decodeInto_132 C hr_12 k_v1 k_v1 z_v3 hH (lv_sub hl [1, 2, 0, 3, 4] rfl) hf
  · refine lv_iload hx hb dX10_decodeInto_126 (lv_at hl 5 rfl) ?_
    refine lv_goto (tgt := 132) hx hb dX10_decodeInto_128 (by decide) ?_
    exact t_X10_decodeInto_132 C hr_12 k_v1 k_v1 z_v3 hH (lv_sub hl [1, 2, 0, 3, 4] rfl) hf
set_option maxRecDepth 100000 in
set_option maxHeartbeats 4000000 in
theorem t_X10_decodeInto_105 {D : va_G} {B : Nat} {Y : Nat → ClassId} {p : Program} {l : Launch} {e : Env} {s : State} {m : MethodId} {args : Array Value} {below : List Frame} {meth : Method} {c : Code} {z : (Int32 × Wd)} {H : Heap} {locs : List Loc} {ls : Array Slot} {w : Wd} {v1 : Nat} {v2 : Int32} {v3 : Int32} {v4 : Int32} {v6 : Int32} {t0 : Int32} (C : CX D B Y p s m args meth c cX10_decodeInto 8 RX10 (some .int))  {rc_12 : Nat × Int32 × Int32 × Int32 × Wd → Option (Int32 × Wd)} (hr_12 : ∀ (v1 : Nat) (v2 : Int32) (v3 : Int32) (v4 : Int32) (w : Wd), rc_12 (v1, v2, v3, v4, w) = some z → KD v1 = 7 → isZ v3 → ∀ (H : Heap) (locs : List Loc) (ls : Array Slot), HS D B Y w s H locs → lv_has ls 8 [(0, .ref (B + 0)), (1, .ref (B + v1)), (2, .int v2), (3, .int v3), (4, .int v4)] → W p l e (RM 1 0 0) s m args below meth c H locs 0 0 (MQ below (QG D B Y (some (.int z.1)) z.2 True) args s 0 0 (AB B)) (F0 m 12 ls []))  (k_v1 : KD v1 = 7) (z_v3 : isZ v3) (z_t0 : isZ t0) (hH : HS D B Y w s H locs) (hl : lv_has ls 8 [(0, .ref (B + 0)), (1, .ref (B + v1)), (2, .int v2), (3, .int v3), (4, .int v4), (6, .int v6)]) (hf : f_X10_decodeInto_105 rc_12 v1 v2 v3 v4 v6 t0 w = some z) : W p l e (RM 1 0 0) s m args below meth c H locs 0 0 (MQ below (QG D B Y (some (.int z.1)) z.2 True) args s 0 0 (AB B)) (F0 m 105 ls [.int t0]) := by
  have hx := C.1
  have hb := C.2.1
  unfold f_X10_decodeInto_105 at hf
  refine lv_istore (lv' := [(7, .int t0), (0, .ref (B + 0)), (1, .ref (B + v1)), (2, .int v2), (3, .int v3), (4, .int v4), (6, .int v6)]) hx hb dX10_decodeInto_105 hl (by decide) rfl (fun ls hl => ?_)
  refine lv_iload_n hx hb dX10_decodeInto_107 rfl (lv_at hl 3 rfl) ?_
  refine lv_iload hx hb dX10_decodeInto_108 (lv_at hl 0 rfl) ?_
  refine b_if_eq (tgt := 117) hx hb hf dX10_decodeInto_110 (by decide) (fun hf => ?_) (fun hf => ?_)
  · refine lv_iconst (v := (1 : Int32)) hx hb dX10_decodeInto_117 (by decide) ?_
    exact t_X10_decodeInto_118 C hr_12 k_v1 z_v3 z_t0 isZ_1 hH (lv_sub hl [1, 2, 4, 5, 6, 0] rfl) hf
  · refine lv_iconst (v := (0 : Int32)) hx hb dX10_decodeInto_113 (by decide) ?_
    refine lv_goto (tgt := 118) hx hb dX10_decodeInto_114 (by decide) ?_
    exact t_X10_decodeInto_118 C hr_12 k_v1 z_v3 z_t0 isZ_0 hH (lv_sub hl [1, 2, 4, 5, 6, 0] rfl) hf
set_option maxRecDepth 100000 in
set_option maxHeartbeats 4000000 in
theorem t_X10_decodeInto_104 {D : va_G} {B : Nat} {Y : Nat → ClassId} {p : Program} {l : Launch} {e : Env} {s : State} {m : MethodId} {args : Array Value} {below : List Frame} {meth : Method} {c : Code} {z : (Int32 × Wd)} {H : Heap} {locs : List Loc} {ls : Array Slot} {w : Wd} {v1 : Nat} {v2 : Int32} {v3 : Int32} {v4 : Int32} {v6 : Int32} (C : CX D B Y p s m args meth c cX10_decodeInto 8 RX10 (some .int))  {rc_12 : Nat × Int32 × Int32 × Int32 × Wd → Option (Int32 × Wd)} (hr_12 : ∀ (v1 : Nat) (v2 : Int32) (v3 : Int32) (v4 : Int32) (w : Wd), rc_12 (v1, v2, v3, v4, w) = some z → KD v1 = 7 → isZ v3 → ∀ (H : Heap) (locs : List Loc) (ls : Array Slot), HS D B Y w s H locs → lv_has ls 8 [(0, .ref (B + 0)), (1, .ref (B + v1)), (2, .int v2), (3, .int v3), (4, .int v4)] → W p l e (RM 1 0 0) s m args below meth c H locs 0 0 (MQ below (QG D B Y (some (.int z.1)) z.2 True) args s 0 0 (AB B)) (F0 m 12 ls []))  (k_v1 : KD v1 = 7) (z_v3 : isZ v3) (hH : HS D B Y w s H locs) (hl : lv_has ls 8 [(0, .ref (B + 0)), (1, .ref (B + v1)), (2, .int v2), (3, .int v3), (4, .int v4), (6, .int v6)]) (hf : f_X10_decodeInto_104 rc_12 v1 v2 v3 v4 v6 w = some z) : W p l e (RM 1 0 0) s m args below meth c H locs 0 0 (MQ below (QG D B Y (some (.int z.1)) z.2 True) args s 0 0 (AB B)) (F0 m 104 ls []) := by
  have hx := C.1
  have hb := C.2.1
  unfold f_X10_decodeInto_104 at hf
  refine lv_iconst (v := (0 : Int32)) hx hb dX10_decodeInto_104 (by decide) ?_
  exact t_X10_decodeInto_105 C hr_12 k_v1 z_v3 isZ_0 hH (lv_sub hl [0, 1, 2, 3, 4, 5] rfl) hf
set_option maxRecDepth 100000 in
set_option maxHeartbeats 4000000 in
theorem t_X10_decodeInto_97 {D : va_G} {B : Nat} {Y : Nat → ClassId} {p : Program} {l : Launch} {e : Env} {s : State} {m : MethodId} {args : Array Value} {below : List Frame} {meth : Method} {c : Code} {z : (Int32 × Wd)} {H : Heap} {locs : List Loc} {ls : Array Slot} {w : Wd} {v1 : Nat} {v2 : Int32} {v3 : Int32} {v4 : Int32} {v6 : Int32} {t0 : Int32} {t1 : Int32} (C : CX D B Y p s m args meth c cX10_decodeInto 8 RX10 (some .int))  {rc_12 : Nat × Int32 × Int32 × Int32 × Wd → Option (Int32 × Wd)} (hr_12 : ∀ (v1 : Nat) (v2 : Int32) (v3 : Int32) (v4 : Int32) (w : Wd), rc_12 (v1, v2, v3, v4, w) = some z → KD v1 = 7 → isZ v3 → ∀ (H : Heap) (locs : List Loc) (ls : Array Slot), HS D B Y w s H locs → lv_has ls 8 [(0, .ref (B + 0)), (1, .ref (B + v1)), (2, .int v2), (3, .int v3), (4, .int v4)] → W p l e (RM 1 0 0) s m args below meth c H locs 0 0 (MQ below (QG D B Y (some (.int z.1)) z.2 True) args s 0 0 (AB B)) (F0 m 12 ls []))  (k_v1 : KD v1 = 7) (z_v3 : isZ v3) (hH : HS D B Y w s H locs) (hl : lv_has ls 8 [(0, .ref (B + 0)), (1, .ref (B + v1)), (2, .int v2), (3, .int v3), (4, .int v4), (6, .int v6)]) (hf : f_X10_decodeInto_97 rc_12 v1 v2 v3 v4 v6 t0 t1 w = some z) : W p l e (RM 1 0 0) s m args below meth c H locs 0 0 (MQ below (QG D B Y (some (.int z.1)) z.2 True) args s 0 0 (AB B)) (F0 m 97 ls [.int t1, .int t0]) := by
  have hx := C.1
  have hb := C.2.1
  unfold f_X10_decodeInto_97 at hf
  refine b_icmp_ge (tgt := 104) hx hb hf dX10_decodeInto_97 (by decide) (fun hf => ?_) (fun hf => ?_)
  · exact t_X10_decodeInto_104 C hr_12 k_v1 z_v3 hH (lv_sub hl [0, 1, 2, 3, 4, 5] rfl) hf
  · refine lv_iconst (v := (1 : Int32)) hx hb dX10_decodeInto_100 (by decide) ?_
    refine lv_goto (tgt := 105) hx hb dX10_decodeInto_101 (by decide) ?_
    exact t_X10_decodeInto_105 C hr_12 k_v1 z_v3 isZ_1 hH (lv_sub hl [0, 1, 2, 3, 4, 5] rfl) hf
set_option maxRecDepth 100000 in
set_option maxHeartbeats 4000000 in
theorem tb_X10_decodeInto_12 {D : va_G} {B : Nat} {Y : Nat → ClassId} {p : Program} {l : Launch} {e : Env} {s : State} {m : MethodId} {args : Array Value} {below : List Frame} {meth : Method} {c : Code} {z : (Int32 × Wd)} {H : Heap} {locs : List Loc} {ls : Array Slot} {w : Wd} {v1 : Nat} {v2 : Int32} {v3 : Int32} {v4 : Int32} (C : CX D B Y p s m args meth c cX10_decodeInto 8 RX10 (some .int))  {rc_12 : Nat × Int32 × Int32 × Int32 × Wd → Option (Int32 × Wd)} (hr_12 : ∀ (v1 : Nat) (v2 : Int32) (v3 : Int32) (v4 : Int32) (w : Wd), rc_12 (v1, v2, v3, v4, w) = some z → KD v1 = 7 → isZ v3 → ∀ (H : Heap) (locs : List Loc) (ls : Array Slot), HS D B Y w s H locs → lv_has ls 8 [(0, .ref (B + 0)), (1, .ref (B + v1)), (2, .int v2), (3, .int v3), (4, .int v4)] → W p l e (RM 1 0 0) s m args below meth c H locs 0 0 (MQ below (QG D B Y (some (.int z.1)) z.2 True) args s 0 0 (AB B)) (F0 m 12 ls []))  (k_v1 : KD v1 = 7) (z_v3 : isZ v3) (hH : HS D B Y w s H locs) (hl : lv_has ls 8 [(0, .ref (B + 0)), (1, .ref (B + v1)), (2, .int v2), (3, .int v3), (4, .int v4)]) (hf : g_X10_decodeInto_12 rc_12 v1 v2 v3 v4 w = some z) : W p l e (RM 1 0 0) s m args below meth c H locs 0 0 (MQ below (QG D B Y (some (.int z.1)) z.2 True) args s 0 0 (AB B)) (F0 m 12 ls []) := by
  have hx := C.1
  have hb := C.2.1
  unfold g_X10_decodeInto_12 at hf
  refine lv_iload hx hb dX10_decodeInto_12 (lv_at hl 4 rfl) ?_
  refine lv_aload_n hx hb dX10_decodeInto_14 rfl (lv_at hl 0 rfl) ?_
  refine fg_X10_29 C hH dX10_decodeInto_15 ?_
  obtain ⟨x2, w1, hc, hf⟩ := bd_some hf
  refine q_callV1 (v := .int x2) (As := []) C hH (ci := 7) rfl (by omega) gk_X10_107 yd_X7_size (by omega) (by omega) kc_635 (c_X7_size kc_635 hc) hl.1 rfl (Nat.le_of_ble_eq_true rfl) dX10_decodeInto_18 xv_00 (fun H locs hH hP => ?_)
  refine b_icmp_ge (tgt := 146) hx hb hf dX10_decodeInto_21 (by decide) (fun hf => ?_) (fun hf => ?_)
  · refine lv_iload_n hx hb dX10_decodeInto_146 rfl (lv_at hl 2 rfl) ?_
    refine lv_iload_n hx hb dX10_decodeInto_147 rfl (lv_at hl 3 rfl) ?_
    refine lv_iadd hx hb dX10_decodeInto_148 ?_
    cases hf
    exact q_reti C hH trivial dX10_decodeInto_149
  · refine lv_aload_n hx hb dX10_decodeInto_24 rfl (lv_at hl 0 rfl) ?_
    refine fg_X10_29 C hH dX10_decodeInto_25 ?_
    refine lv_iload hx hb dX10_decodeInto_28 (lv_at hl 4 rfl) ?_
    obtain ⟨x4, w3, hc, hf⟩ := bd_some hf
    refine q_callV1 (v := .int x4) (As := [.int v4]) C hH (ci := 7) rfl (by omega) gk_X10_243 yd_X7_get (by omega) (by omega) kc_635 (c_X7_get kc_635 hc) hl.1 rfl (Nat.le_of_ble_eq_true rfl) dX10_decodeInto_30 xv_00 (fun H locs hH hP => ?_)
    refine lv_istore (lv' := [(5, .int x4), (0, .ref (B + 0)), (1, .ref (B + v1)), (2, .int v2), (3, .int v3), (4, .int v4)]) hx hb dX10_decodeInto_33 hl (by decide) rfl (fun ls hl => ?_)
    refine lv_iload hx hb dX10_decodeInto_35 (lv_at hl 0 rfl) ?_
    refine lv_bipush (v := (14 : Int32)) hx hb dX10_decodeInto_37 (by decide) ?_
    refine b_icmp_eq (tgt := 49) hx hb hf dX10_decodeInto_39 (by decide) (fun hf => ?_) (fun hf => ?_)
    · exact t_X10_decodeInto_49 C hr_12 k_v1 hH (lv_sub hl [1, 2, 3, 5, 0] rfl) hf
    · refine lv_iload hx hb dX10_decodeInto_42 (lv_at hl 0 rfl) ?_
      refine lv_bipush (v := (15 : Int32)) hx hb dX10_decodeInto_44 (by decide) ?_
      refine b_icmp_ne (tgt := 65) hx hb hf dX10_decodeInto_46 (by decide) (fun hf => ?_) (fun hf => ?_)
      · refine lv_iload hx hb dX10_decodeInto_65 (lv_at hl 0 rfl) ?_
        refine lv_bipush (v := (32 : Int32)) hx hb dX10_decodeInto_67 (by decide) ?_
        refine lv_isub hx hb dX10_decodeInto_69 ?_
        refine lv_iload_n hx hb dX10_decodeInto_70 rfl (lv_at hl 4 rfl) ?_
        refine lv_bipush (v := (64 : Int32)) hx hb dX10_decodeInto_71 (by decide) ?_
        refine lv_imul hx hb dX10_decodeInto_73 ?_
        refine lv_iadd hx hb dX10_decodeInto_74 ?_
        refine b_leti hf (fun x5 hf => ?_)
        refine lv_istore (lv' := [(6, .int x5), (5, .int x4), (0, .ref (B + 0)), (1, .ref (B + v1)), (2, .int v2), (3, .int v3), (4, .int v4)]) hx hb dX10_decodeInto_75 hl (by decide) rfl (fun ls hl => ?_)
        refine lv_iload hx hb dX10_decodeInto_77 (lv_at hl 1 rfl) ?_
        refine lv_bipush (v := (32 : Int32)) hx hb dX10_decodeInto_79 (by decide) ?_
        refine b_icmp_lt (tgt := 104) hx hb hf dX10_decodeInto_81 (by decide) (fun hf => ?_) (fun hf => ?_)
        · exact t_X10_decodeInto_104 C hr_12 k_v1 z_v3 hH (lv_sub hl [2, 3, 4, 5, 6, 0] rfl) hf
        · refine lv_iload hx hb dX10_decodeInto_84 (lv_at hl 0 rfl) ?_
          refine lv_iload_n hx hb dX10_decodeInto_86 rfl (lv_at hl 5 rfl) ?_
          refine b_if_ne (tgt := 95) hx hb hf dX10_decodeInto_87 (by decide) (fun hf => ?_) (fun hf => ?_)
          · refine lv_bipush (v := (96 : Int32)) hx hb dX10_decodeInto_95 (by decide) ?_
            exact t_X10_decodeInto_97 C hr_12 k_v1 z_v3 hH (lv_sub hl [2, 3, 4, 5, 6, 0] rfl) hf
          · refine lv_bipush (v := (64 : Int32)) hx hb dX10_decodeInto_90 (by decide) ?_
            refine lv_goto (tgt := 97) hx hb dX10_decodeInto_92 (by decide) ?_
            exact t_X10_decodeInto_97 C hr_12 k_v1 z_v3 hH (lv_sub hl [2, 3, 4, 5, 6, 0] rfl) hf
      · exact t_X10_decodeInto_49 C hr_12 k_v1 hH (lv_sub hl [1, 2, 3, 5, 0] rfl) hf
set_option maxRecDepth 100000 in
set_option maxHeartbeats 4000000 in
theorem t_X10_decodeInto_12 {D : va_G} {B : Nat} {Y : Nat → ClassId} {p : Program} {l : Launch} {e : Env} {s : State} {m : MethodId} {args : Array Value} {below : List Frame} {meth : Method} {c : Code} {z : (Int32 × Wd)} {H : Heap} {locs : List Loc} {ls : Array Slot} {w : Wd} {v1 : Nat} {v2 : Int32} {v3 : Int32} {v4 : Int32} (C : CX D B Y p s m args meth c cX10_decodeInto 8 RX10 (some .int))   (k_v1 : KD v1 = 7) (z_v3 : isZ v3) (hH : HS D B Y w s H locs) (hl : lv_has ls 8 [(0, .ref (B + 0)), (1, .ref (B + v1)), (2, .int v2), (3, .int v3), (4, .int v4)]) (hf : f_X10_decodeInto_12 v1 v2 v3 v4 w = some z) : W p l e (RM 1 0 0) s m args below meth c H locs 0 0 (MQ below (QG D B Y (some (.int z.1)) z.2 True) args s 0 0 (AB B)) (F0 m 12 ls []) := by
  exact loopN_ind (z := z) (body := fun rc σ => g_X10_decodeInto_12 rc  σ.1 σ.2.1 σ.2.2.1 σ.2.2.2.1 σ.2.2.2.2)
    (P := fun σ => KD σ.1 = 7 → isZ σ.2.2.1 → ∀ (H : Heap) (locs : List Loc) (ls : Array Slot), HS D B Y σ.2.2.2.2 s H locs → lv_has ls 8 [(0, .ref (B + 0)), (1, .ref (B + σ.1)), (2, .int σ.2.1), (3, .int σ.2.2.1), (4, .int σ.2.2.2.1)] → W p l e (RM 1 0 0) s m args below meth c H locs 0 0 (MQ below (QG D B Y (some (.int z.1)) z.2 True) args s 0 0 (AB B)) (F0 m 12 ls []))
    (fun rc hrec σ hf k_v1 z_v3 H locs ls hH hl => tb_X10_decodeInto_12 C (fun v1 v2 v3 v4 w hr k_v1 z_v3 H locs ls hH hl => hrec (v1, v2, v3, v4, w) hr k_v1 z_v3 H locs ls hH hl)  k_v1 z_v3 hH hl hf) FU (v1, v2, v3, v4, w) hf k_v1 z_v3 H locs ls hH hl
set_option maxRecDepth 100000 in
set_option maxHeartbeats 4000000 in
theorem t_X10_decodeInto_0 {D : va_G} {B : Nat} {Y : Nat → ClassId} {p : Program} {l : Launch} {e : Env} {s : State} {m : MethodId} {args : Array Value} {below : List Frame} {meth : Method} {c : Code} {z : (Int32 × Wd)} {H : Heap} {locs : List Loc} {ls : Array Slot} {w : Wd} {v1 : Nat} (C : CX D B Y p s m args meth c cX10_decodeInto 8 RX10 (some .int))   (k_v1 : KD v1 = 7)  (hH : HS D B Y w s H locs) (hl : lv_has ls 8 [(0, .ref (B + 0)), (1, .ref (B + v1))]) (hf : f_X10_decodeInto v1 w = some z) : W p l e (RM 1 0 0) s m args below meth c H locs 0 0 (MQ below (QG D B Y (some (.int z.1)) z.2 True) args s 0 0 (AB B)) (F0 m 0 ls []) := by
  have hx := C.1
  have hb := C.2.1
  unfold f_X10_decodeInto at hf
  refine lv_aload_n hx hb dX10_decodeInto_0 rfl (lv_at hl 1 rfl) ?_
  refine lv_iconst (v := (0 : Int32)) hx hb dX10_decodeInto_1 (by decide) ?_
  obtain ⟨u, w1, hc, hf⟩ := bd_some hf
  refine q_callV0 (As := [.int (0 : Int32)]) C hH (ci := 7) rfl (by omega) gk_X10_237 yd_X7_cutTo (by omega) (by omega) k_v1 (c_X7_cutTo k_v1 hc) hl.1 rfl (Nat.le_of_ble_eq_true rfl) dX10_decodeInto_2 xv_00 (fun H locs hH hP => ?_)
  refine lv_iconst (v := (0 : Int32)) hx hb dX10_decodeInto_5 (by decide) ?_
  refine lv_istore_n (lv' := [(2, .int (0 : Int32)), (0, .ref (B + 0)), (1, .ref (B + v1))]) hx hb dX10_decodeInto_6 rfl hl (by decide) rfl (fun ls hl => ?_)
  refine lv_iconst (v := (0 : Int32)) hx hb dX10_decodeInto_7 (by decide) ?_
  refine lv_istore_n (lv' := [(3, .int (0 : Int32)), (2, .int (0 : Int32)), (0, .ref (B + 0)), (1, .ref (B + v1))]) hx hb dX10_decodeInto_8 rfl hl (by decide) rfl (fun ls hl => ?_)
  refine lv_iconst (v := (0 : Int32)) hx hb dX10_decodeInto_9 (by decide) ?_
  refine lv_istore (lv' := [(4, .int (0 : Int32)), (3, .int (0 : Int32)), (2, .int (0 : Int32)), (0, .ref (B + 0)), (1, .ref (B + v1))]) hx hb dX10_decodeInto_10 hl (by decide) rfl (fun ls hl => ?_)
  exact t_X10_decodeInto_12 C k_v1 isZ_0 hH (lv_sub hl [3, 4, 2, 1, 0] rfl) hf
set_option maxRecDepth 100000 in
theorem c_X10_decodeInto {l : Launch} {D : va_G} {B : Nat} {Y : Nat → ClassId} {v1 : Nat} {w : Wd} {r : Int32} {w1 : Wd} (k_v1 : KD v1 = 7)  (hf : f_X10_decodeInto v1 w = some (r, w1)) : CM l D B Y yX10_decodeInto cX10_decodeInto 8 (some .int) 1 [.ref (B + 0), .ref (B + v1)] w (some (.int r)) w1 True :=
  CM_of (by decide +kernel) (Nat.le_of_ble_eq_true rfl) (fun p e s m args below meth c ls C hH hl => t_X10_decodeInto_0 C k_v1 hH (lv_sub hl [0, 1] rfl) hf)
