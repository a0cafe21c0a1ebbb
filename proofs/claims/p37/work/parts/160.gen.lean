/-! LetterTables.isWithin -/
set_option maxRecDepth 100000 in
set_option maxHeartbeats 4000000 in
theorem t_X10_isWithin_0 {D : va_G} {B : Nat} {Y : Nat → ClassId} {p : Program} {l : Launch} {e : Env} {s : State} {m : MethodId} {args : Array Value} {below : List Frame} {meth : Method} {c : Code} {z : (Int32 × Wd)} {H : Heap} {locs : List Loc} {ls : Array Slot} {w : Wd} {v0 : Int32} {v1 : Int32} {v2 : Int32} (C : CX D B Y p s m args meth c cX10_isWithin 3 RX10 (some .boolean))     (hH : HS D B Y w s H locs) (hl : lv_has ls 3 [(0, .int v0), (1, .int v1), (2, .int v2)]) (hf : f_X10_isWithin v0 v1 v2 w = some z) : W p l e (RM 0 0 0) s m args below meth c H locs 0 0 (MQ below (QG D B Y (some (.int z.1)) z.2 (isZ z.1)) args s 0 0 (AB B)) (F0 m 0 ls []) := by
  have hx := C.1
  have hb := C.2.1
  unfold f_X10_isWithin at hf
  refine lv_iload_n hx hb dX10_isWithin_0 rfl (lv_at hl 0 rfl) ?_
  refine lv_iload_n hx hb dX10_isWithin_1 rfl (lv_at hl 1 rfl) ?_
  refine b_icmp_lt (tgt := 14) hx hb hf dX10_isWithin_2 (by decide) (fun hf => ?_) (fun hf => ?_)
  · refine lv_iconst (v := (0 : Int32)) hx hb dX10_isWithin_14 (by decide) ?_
    cases hf
    exact q_retz C hH isZ_0 isZ_0 dX10_isWithin_15
  · refine lv_iload_n hx hb dX10_isWithin_5 rfl (lv_at hl 0 rfl) ?_
    refine lv_iload_n hx hb dX10_isWithin_6 rfl (lv_at hl 2 rfl) ?_
    refine b_icmp_gt (tgt := 14) hx hb hf dX10_isWithin_7 (by decide) (fun hf => ?_) (fun hf => ?_)
    · refine lv_iconst (v := (0 : Int32)) hx hb dX10_isWithin_14 (by decide) ?_
      cases hf
      exact q_retz C hH isZ_0 isZ_0 dX10_isWithin_15
    · refine lv_iconst (v := (1 : Int32)) hx hb dX10_isWithin_10 (by decide) ?_
      refine lv_goto (tgt := 15) hx hb dX10_isWithin_11 (by decide) ?_
      cases hf
      exact q_retz C hH isZ_1 isZ_1 dX10_isWithin_15
set_option maxRecDepth 100000 in
theorem c_X10_isWithin {l : Launch} {D : va_G} {B : Nat} {Y : Nat → ClassId} {v0 : Int32} {v1 : Int32} {v2 : Int32} {w : Wd} {r : Int32} {w1 : Wd}   (hf : f_X10_isWithin v0 v1 v2 w = some (r, w1)) : CM l D B Y yX10_isWithin cX10_isWithin 3 (some .boolean) 0 [.int v0, .int v1, .int v2] w (some (.int r)) w1 (isZ r) :=
  CM_of (by decide +kernel) (Nat.le_of_ble_eq_true rfl) (fun p e s m args below meth c ls C hH hl => t_X10_isWithin_0 C  hH (lv_sub hl [0, 1, 2] rfl) hf)
/-! LetterTables.checkArgument -/
set_option maxRecDepth 100000 in
set_option maxHeartbeats 4000000 in
theorem t_X10_checkArgument_0 {D : va_G} {B : Nat} {Y : Nat → ClassId} {p : Program} {l : Launch} {e : Env} {s : State} {m : MethodId} {args : Array Value} {below : List Frame} {meth : Method} {c : Code} {z : ((Nat ⊕ Unit) × Wd)} {H : Heap} {locs : List Loc} {ls : Array Slot} {w : Wd} {v0 : Int32} (C : CX D B Y p s m args meth c cX10_checkArgument 1 RX10 none) (hxt : ∀ x ∈ c.exceptionTable.toList, False) (htr : l.stackTraces = false)    (z_v0 : isZ v0) (hH : HS D B Y w s H locs) (hl : lv_has ls 1 [(0, .int v0)]) (hf : f_X10_checkArgument v0 w = some z) : W p l e (RM 0 (xv (zoV z.1)) (6 * xv (zoV z.1))) s m args below meth c H locs 0 0 (vx_MQ below (QX D B Y (zoV z.1) z.2 True) (XX D B Y (zoV z.1) z.2) args s (xv (zoV z.1)) (6 * xv (zoV z.1)) (AB B)) (F0 m 0 ls []) := by
  have hx := C.1
  have hb := C.2.1
  unfold f_X10_checkArgument at hf
  refine lv_iload_n hx hb dX10_checkArgument_0 rfl (lv_at hl 0 rfl) ?_
  refine b_if_ne (tgt := 15) hx hb hf dX10_checkArgument_1 (by decide) (fun hf => ?_) (fun hf => ?_)
  · cases hf
    exact q_x0 rfl (q_retv C hH trivial dX10_checkArgument_15)
  · cases hf
    exact q_throwW C hH hxt htr (Or.inr (Or.inl rfl)) wd_524 wd_65 wd_534 (List.mem_of_getElem? (i := 1) rfl) hl.1 dX10_checkArgument_4 dX10_checkArgument_7 dX10_checkArgument_8 dX10_checkArgument_11 dX10_checkArgument_14 (Nat.le_of_ble_eq_true rfl) (xv_1 rfl) (xv_6 rfl)
set_option maxRecDepth 100000 in
theorem c_X10_checkArgument {l : Launch} {D : va_G} {B : Nat} {Y : Nat → ClassId} {v0 : Int32} {w : Wd} {r : (Nat ⊕ Unit)} {w1 : Wd} (htr : l.stackTraces = false)  (z_v0 : isZ v0) (hf : f_X10_checkArgument v0 w = some (r, w1)) : XM l D B Y yX10_checkArgument cX10_checkArgument 1 none 0 [.int v0] w (zoV r) w1 True :=
  XM_of (by decide +kernel) (Nat.le_of_ble_eq_true rfl) (fun p e s m args below meth c ls C hxt hH hl => t_X10_checkArgument_0 C hxt htr z_v0 hH (lv_sub hl [0] rfl) hf)
/-! LetterTables$Row.size -/
set_option maxRecDepth 100000 in
set_option maxHeartbeats 4000000 in
theorem t_X7_size_0 {D : va_G} {B : Nat} {Y : Nat → ClassId} {p : Program} {l : Launch} {e : Env} {s : State} {m : MethodId} {args : Array Value} {below : List Frame} {meth : Method} {c : Code} {z : (Int32 × Wd)} {H : Heap} {locs : List Loc} {ls : Array Slot} {w : Wd} {v0 : Nat} (C : CX D B Y p s m args meth c cX7_size 1 RX7 (some .int))   (k_v0 : KD v0 = 7)  (hH : HS D B Y w s H locs) (hl : lv_has ls 1 [(0, .ref (B + v0))]) (hf : f_X7_size v0 w = some z) : W p l e (RM 0 0 0) s m args below meth c H locs 0 0 (MQ below (QG D B Y (some (.int z.1)) z.2 True) args s 0 0 (AB B)) (F0 m 0 ls []) := by
  have hx := C.1
  have hb := C.2.1
  unfold f_X7_size at hf
  refine lv_aload_n hx hb dX7_size_0 rfl (lv_at hl 0 rfl) ?_
  refine fg_X7_15 C hH k_v0 dX7_size_1 ?_
  cases hf
  exact q_reti C hH trivial dX7_size_4
set_option maxRecDepth 100000 in
theorem c_X7_size {l : Launch} {D : va_G} {B : Nat} {Y : Nat → ClassId} {v0 : Nat} {w : Wd} {r : Int32} {w1 : Wd} (k_v0 : KD v0 = 7)  (hf : f_X7_size v0 w = some (r, w1)) : CM l D B Y yX7_size cX7_size 1 (some .int) 0 [.ref (B + v0)] w (some (.int r)) w1 True :=
  CM_of (by decide +kernel) (Nat.le_of_ble_eq_true rfl) (fun p e s m args below meth c ls C hH hl => t_X7_size_0 C k_v0 hH (lv_sub hl [0] rfl) hf)
/-! LetterTables$Row.add -/
set_option maxRecDepth 100000 in
set_option maxHeartbeats 4000000 in
theorem t_X7_add_0 {D : va_G} {B : Nat} {Y : Nat → ClassId} {p : Program} {l : Launch} {e : Env} {s : State} {m : MethodId} {args : Array Value} {below : List Frame} {meth : Method} {c : Code} {z : (Int32 × Wd)} {H : Heap} {locs : List Loc} {ls : Array Slot} {w : Wd} {v0 : Nat} {v1 : Int32} (C : CX D B Y p s m args meth c cX7_add 2 RX7 (some .boolean))   (k_v0 : KD v0 = 7)  (hH : HS D B Y w s H locs) (hl : lv_has ls 2 [(0, .ref (B + v0)), (1, .int v1)]) (hf : f_X7_add v0 v1 w = some z) : W p l e (RM 0 0 0) s m args below meth c H locs 0 0 (MQ below (QG D B Y (some (.int z.1)) z.2 (isZ z.1)) args s 0 0 (AB B)) (F0 m 0 ls []) := by
  have hx := C.1
  have hb := C.2.1
  unfold f_X7_add at hf
  refine lv_aload_n hx hb dX7_add_0 rfl (lv_at hl 0 rfl) ?_
  refine fg_X7_15 C hH k_v0 dX7_add_1 ?_
  refine b_if_lt (tgt := 19) hx hb hf dX7_add_4 (by decide) (fun hf => ?_) (fun hf => ?_)
  · refine lv_iconst (v := (0 : Int32)) hx hb dX7_add_19 (by decide) ?_
    cases hf
    exact q_retz C hH isZ_0 isZ_0 dX7_add_20
  · refine lv_aload_n hx hb dX7_add_7 rfl (lv_at hl 0 rfl) ?_
    refine fg_X7_15 C hH k_v0 dX7_add_8 ?_
    refine lv_aload_n hx hb dX7_add_11 rfl (lv_at hl 0 rfl) ?_
    refine fg_X7_9 C hH k_v0 dX7_add_12 ?_
    refine q_alen C hH (t0 := 0) (ci := 20) rfl (by omega) (ko_7_0 k_v0) dX7_add_15 ?_
    refine b_icmp_lt (tgt := 21) hx hb hf dX7_add_16 (by decide) (fun hf => ?_) (fun hf => ?_)
    · refine lv_aload_n hx hb dX7_add_21 rfl (lv_at hl 0 rfl) ?_
      refine fg_X7_9 C hH k_v0 dX7_add_22 ?_
      refine lv_aload_n hx hb dX7_add_25 rfl (lv_at hl 0 rfl) ?_
      refine fg_X7_15 C hH k_v0 dX7_add_26 ?_
      refine lv_iload_n hx hb dX7_add_29 rfl (lv_at hl 1 rfl) ?_
      refine g_iast C hH (ko_7_0 k_v0) hf dX7_add_30 (fun w1 H locs hf hH => ?_)
      refine lv_aload_n hx hb dX7_add_31 rfl (lv_at hl 0 rfl) ?_
      refine lv_dup hx hb dX7_add_32 rfl ?_
      refine fg_X7_15 C hH k_v0 dX7_add_33 ?_
      refine lv_iconst (v := (1 : Int32)) hx hb dX7_add_36 (by decide) ?_
      refine lv_iadd hx hb dX7_add_37 ?_
      refine fp_X7_15 C hH k_v0 dX7_add_38 (fun H locs hH => ?_)
      refine b_w hf hH (fun w2 hf hH => ?_)
      refine lv_iconst (v := (1 : Int32)) hx hb dX7_add_41 (by decide) ?_
      cases hf
      exact q_retz C hH isZ_1 isZ_1 dX7_add_42
    · refine lv_iconst (v := (0 : Int32)) hx hb dX7_add_19 (by decide) ?_
      cases hf
      exact q_retz C hH isZ_0 isZ_0 dX7_add_20
set_option maxRecDepth 100000 in
theorem c_X7_add {l : Launch} {D : va_G} {B : Nat} {Y : Nat → ClassId} {v0 : Nat} {v1 : Int32} {w : Wd} {r : Int32} {w1 : Wd} (k_v0 : KD v0 = 7)  (hf : f_X7_add v0 v1 w = some (r, w1)) : CM l D B Y yX7_add cX7_add 2 (some .boolean) 0 [.ref (B + v0), .int v1] w (some (.int r)) w1 (isZ r) :=
  CM_of (by decide +kernel) (Nat.le_of_ble_eq_true rfl) (fun p e s m args below meth c ls C hH hl => t_X7_add_0 C k_v0 hH (lv_sub hl [0, 1] rfl) hf)
/-! LetterTables.feed -/
set_option maxRecDepth 100000 in
set_option maxHeartbeats 4000000 in
theorem tb_X10_feed_38 {D : va_G} {B : Nat} {Y : Nat → ClassId} {p : Program} {l : Launch} {e : Env} {s : State} {m : MethodId} {args : Array Value} {below : List Frame} {meth : Method} {c : Code} {z : ((Nat ⊕ Int32) × Wd)} {H : Heap} {locs : List Loc} {ls : Array Slot} {w : Wd} {v1 : Int64} {v3 : Int32} {v4 : Int32} (C : CX D B Y p s m args meth c cX10_feed 5 RX10 (some .int)) (hxt : ∀ x ∈ c.exceptionTable.toList, False) (htr : l.stackTraces = false)  {rc_38 : Int64 × Int32 × Int32 × Wd → Option ((Nat ⊕ Int32) × Wd)} (hr_38 : ∀ (v1 : Int64) (v3 : Int32) (v4 : Int32) (w : Wd), rc_38 (v1, v3, v4, w) = some z → ∀ (H : Heap) (locs : List Loc) (ls : Array Slot), HS D B Y w s H locs → lv_has ls 5 [(0, .ref (B + 0)), (1, .long v1), (3, .int v3), (4, .int v4)] → W p l e (RM 1 (xv (zoI z.1)) (6 * xv (zoI z.1))) s m args below meth c H locs 0 0 (vx_MQ below (QX D B Y (zoI z.1) z.2 True) (XX D B Y (zoI z.1) z.2) args s (xv (zoI z.1)) (6 * xv (zoI z.1)) (AB B)) (F0 m 38 ls []))    (hH : HS D B Y w s H locs) (hl : lv_has ls 5 [(0, .ref (B + 0)), (1, .long v1), (3, .int v3), (4, .int v4)]) (hf : g_X10_feed_38 rc_38 v1 v3 v4 w = some z) : W p l e (RM 1 (xv (zoI z.1)) (6 * xv (zoI z.1))) s m args below meth c H locs 0 0 (vx_MQ below (QX D B Y (zoI z.1) z.2 True) (XX D B Y (zoI z.1) z.2) args s (xv (zoI z.1)) (6 * xv (zoI z.1)) (AB B)) (F0 m 38 ls []) := by
  have hx := C.1
  have hb := C.2.1
  unfold g_X10_feed_38 at hf
  refine lv_iload hx hb dX10_feed_38 (lv_at hl 3 rfl) ?_
  refine lv_iload_n hx hb dX10_feed_40 rfl (lv_at hl 2 rfl) ?_
  refine b_icmp_ge (tgt := 70) hx hb hf dX10_feed_41 (by decide) (fun hf => ?_) (fun hf => ?_)
  · refine lv_aload_n hx hb dX10_feed_70 rfl (lv_at hl 0 rfl) ?_
    refine fg_X10_29 C hH dX10_feed_71 ?_
    obtain ⟨x2, w1, hc, hf⟩ := bd_some hf
    refine q_callV1 (v := .int x2) (As := []) C hH (ci := 7) rfl (by omega) gk_X10_107 yd_X7_size (by omega) (by omega) kc_635 (c_X7_size kc_635 hc) hl.1 rfl (Nat.le_of_ble_eq_true rfl) dX10_feed_74 xv_00 (fun H locs hH hP => ?_)
    cases hf
    exact q_x0 rfl (q_reti C hH trivial dX10_feed_77)
  · refine lv_aload_n hx hb dX10_feed_44 rfl (lv_at hl 0 rfl) ?_
    refine fg_X10_29 C hH dX10_feed_45 ?_
    refine lv_lload_n hx hb dX10_feed_48 rfl (lv_at hl 1 rfl) ?_
    refine lv_bipush (v := (8 : Int32)) hx hb dX10_feed_49 (by decide) ?_
    refine lv_iload hx hb dX10_feed_51 (lv_at hl 3 rfl) ?_
    refine lv_imul hx hb dX10_feed_53 ?_
    refine lv_lushr (v := (v1.toUInt64 >>> (((8 : Int32) * v4).toInt64.toUInt64 &&& Int64.toUInt64 63)).toInt64) hx hb dX10_feed_54 rfl ?_
    refine lv_ldc2 (v := (255 : Int64)) hx hb C.2.2.2.1 (C.2.2.2.2.1 _ wd_1301) dX10_feed_55 ?_
    refine lv_land hx hb dX10_feed_58 ?_
    refine lv_l2i (v := (((v1.toUInt64 >>> (((8 : Int32) * v4).toInt64.toUInt64 &&& Int64.toUInt64 63)).toInt64) &&& (255 : Int64)).toInt32) hx hb dX10_feed_59 rfl ?_
    obtain ⟨x4, w3, hc, hf⟩ := bd_some hf
    refine q_callV1 (v := .int x4) (As := [.int ((((v1.toUInt64 >>> (((8 : Int32) * v4).toInt64.toUInt64 &&& Int64.toUInt64 63)).toInt64) &&& (255 : Int64)).toInt32)]) C hH (ci := 7) rfl (by omega) gk_X10_120 yd_X7_add (by omega) (by omega) kc_635 (c_X7_add kc_635 hc) hl.1 rfl (Nat.le_of_ble_eq_true rfl) dX10_feed_60 xv_00 (fun H locs hH z_x4 => ?_)
    refine lv_pop hx hb dX10_feed_63 rfl ?_
    refine b_let hf (fun x5 he hf => ?_)
    refine lv_iinc (v := x5) (lv' := [(4, .int x5), (0, .ref (B + 0)), (1, .long v1), (3, .int v3)]) hx hb dX10_feed_64 hl (k := 3) rfl (by rw [← he]; rfl) (by decide) rfl (fun ls hl => ?_)
    refine lv_goto (tgt := 38) hx hb dX10_feed_67 (by decide) ?_
    exact hr_38 v1 v3 x5 w3 hf _ _ _ hH (lv_sub hl [1, 2, 3, 0] rfl)
set_option maxRecDepth 100000 in
set_option maxHeartbeats 4000000 in
theorem t_X10_feed_38 {D : va_G} {B : Nat} {Y : Nat → ClassId} {p : Program} {l : Launch} {e : Env} {s : State} {m : MethodId} {args : Array Value} {below : List Frame} {meth : Method} {c : Code} {z : ((Nat ⊕ Int32) × Wd)} {H : Heap} {locs : List Loc} {ls : Array Slot} {w : Wd} {v1 : Int64} {v3 : Int32} {v4 : Int32} (C : CX D B Y p s m args meth c cX10_feed 5 RX10 (some .int)) (hxt : ∀ x ∈ c.exceptionTable.toList, False) (htr : l.stackTraces = false)     (hH : HS D B Y w s H locs) (hl : lv_has ls 5 [(0, .ref (B + 0)), (1, .long v1), (3, .int v3), (4, .int v4)]) (hf : f_X10_feed_38 v1 v3 v4 w = some z) : W p l e (RM 1 (xv (zoI z.1)) (6 * xv (zoI z.1))) s m args below meth c H locs 0 0 (vx_MQ below (QX D B Y (zoI z.1) z.2 True) (XX D B Y (zoI z.1) z.2) args s (xv (zoI z.1)) (6 * xv (zoI z.1)) (AB B)) (F0 m 38 ls []) := by
  exact loopN_ind (z := z) (body := fun rc σ => g_X10_feed_38 rc  σ.1 σ.2.1 σ.2.2.1 σ.2.2.2)
    (P := fun σ => ∀ (H : Heap) (locs : List Loc) (ls : Array Slot), HS D B Y σ.2.2.2 s H locs → lv_has ls 5 [(0, .ref (B + 0)), (1, .long σ.1), (3, .int σ.2.1), (4, .int σ.2.2.1)] → W p l e (RM 1 (xv (zoI z.1)) (6 * xv (zoI z.1))) s m args below meth c H locs 0 0 (vx_MQ below (QX D B Y (zoI z.1) z.2 True) (XX D B Y (zoI z.1) z.2) args s (xv (zoI z.1)) (6 * xv (zoI z.1)) (AB B)) (F0 m 38 ls []))
    (fun rc hrec σ hf  H locs ls hH hl => tb_X10_feed_38 C hxt htr (fun v1 v3 v4 w hr  H locs ls hH hl => hrec (v1, v3, v4, w) hr  H locs ls hH hl)   hH hl hf) FU (v1, v3, v4, w) hf  H locs ls hH hl
set_option maxRecDepth 100000 in
set_option maxHeartbeats 4000000 in
theorem t_X10_feed_0 {D : va_G} {B : Nat} {Y : Nat → ClassId} {p : Program} {l : Launch} {e : Env} {s : State} {m : MethodId} {args : Array Value} {below : List Frame} {meth : Method} {c : Code} {z : ((Nat ⊕ Int32) × Wd)} {H : Heap} {locs : List Loc} {ls : Array Slot} {w : Wd} {v1 : Int64} {v3 : Int32} (C : CX D B Y p s m args meth c cX10_feed 5 RX10 (some .int)) (hxt : ∀ x ∈ c.exceptionTable.toList, False) (htr : l.stackTraces = false)     (hH : HS D B Y w s H locs) (hl : lv_has ls 5 [(0, .ref (B + 0)), (1, .long v1), (3, .int v3)]) (hf : f_X10_feed v1 v3 w = some z) : W p l e (RM 1 (xv (zoI z.1)) (6 * xv (zoI z.1))) s m args below meth c H locs 0 0 (vx_MQ below (QX D B Y (zoI z.1) z.2 True) (XX D B Y (zoI z.1) z.2) args s (xv (zoI z.1)) (6 * xv (zoI z.1)) (AB B)) (F0 m 0 ls []) := by
  have hx := C.1
  have hb := C.2.1
  unfold f_X10_feed at hf
  refine lv_iload_n hx hb dX10_feed_0 rfl (lv_at hl 2 rfl) ?_
  refine lv_iconst (v := (1 : Int32)) hx hb dX10_feed_1 (by decide) ?_
  refine lv_bipush (v := (8 : Int32)) hx hb dX10_feed_2 (by decide) ?_
  obtain ⟨x2, w1, hc, hf⟩ := bd_some hf
  refine q_callS1 (v := .int x2) (As := [.int v3, .int (1 : Int32), .int (8 : Int32)]) C hH gk_X10_99 yd_X10_isWithin (by omega) (by omega) (c_X10_isWithin hc) hl.1 rfl (Nat.le_of_ble_eq_true rfl) dX10_feed_4 xv_00 (fun H locs hH z_x2 => ?_)
  rcases bdx_some hf with ⟨k, w3, hc, rfl⟩ | ⟨u, w3, hc, hf⟩
  · exact q_xrunX (k0 := k) (q_xS (As := [.int x2]) C hH gk_X10_103 yd_X10_checkArgument (by omega) (by omega) (c_X10_checkArgument (r := .inl k) htr z_x2 hc) hl.1 rfl (Nat.le_of_ble_eq_true rfl) dX10_feed_7 (xv_le rfl)) hH (fun H locs ce q hH h1 h2 h3 => q_out C hH hxt h1 h2 h3 (xv_1 rfl) (xv_6 rfl))
  refine q_xrun (ov := none) (q_xS (As := [.int x2]) C hH gk_X10_103 yd_X10_checkArgument (by omega) (by omega) (c_X10_checkArgument (r := .inr u) htr z_x2 hc) hl.1 rfl (Nat.le_of_ble_eq_true rfl) dX10_feed_7 (xv_0 rfl xv_00)) hH (fun H locs hH hP => ?_)
  refine lv_aload_n hx hb dX10_feed_10 rfl (lv_at hl 0 rfl) ?_
  refine fg_X10_29 C hH dX10_feed_11 ?_
  obtain ⟨x5, w4, hc, hf⟩ := bd_some hf
  refine q_callV1 (v := .int x5) (As := []) C hH (ci := 7) rfl (by omega) gk_X10_107 yd_X7_size (by omega) (by omega) kc_635 (c_X7_size kc_635 hc) hl.1 rfl (Nat.le_of_ble_eq_true rfl) dX10_feed_14 xv_00 (fun H locs hH hP => ?_)
  refine lv_iload_n hx hb dX10_feed_17 rfl (lv_at hl 2 rfl) ?_
  refine lv_iadd hx hb dX10_feed_18 ?_
  refine lv_sipush (v := (160 : Int32)) hx hb dX10_feed_19 (by decide) ?_
  refine b_icmp_le (tgt := 35) hx hb hf dX10_feed_22 (by decide) (fun hf => ?_) (fun hf => ?_)
  · refine lv_iconst (v := (0 : Int32)) hx hb dX10_feed_35 (by decide) ?_
    refine lv_istore (lv' := [(4, .int (0 : Int32)), (0, .ref (B + 0)), (1, .long v1), (3, .int v3)]) hx hb dX10_feed_36 hl (by decide) rfl (fun ls hl => ?_)
    exact t_X10_feed_38 C hxt htr hH (lv_sub hl [1, 2, 3, 0] rfl) hf
  · cases hf
    exact q_throw C hH hxt htr (Or.inr (Or.inr rfl)) wd_574 wd_66 wd_584 (List.mem_of_getElem? (i := 19) rfl) hl.1 dX10_feed_25 dX10_feed_28 dX10_feed_29 dX10_feed_31 dX10_feed_34 (Nat.le_of_ble_eq_true rfl) (xv_1 rfl) (xv_6 rfl)
set_option maxRecDepth 100000 in
theorem c_X10_feed {l : Launch} {D : va_G} {B : Nat} {Y : Nat → ClassId} {v1 : Int64} {v3 : Int32} {w : Wd} {r : (Nat ⊕ Int32)} {w1 : Wd} (htr : l.stackTraces = false)   (hf : f_X10_feed v1 v3 w = some (r, w1)) : XM l D B Y yX10_feed cX10_feed 5 (some .int) 1 [.ref (B + 0), .long v1, .int v3] w (zoI r) w1 True :=
  XM_of (by decide +kernel) (Nat.le_of_ble_eq_true rfl) (fun p e s m args below meth c ls C hxt hH hl => t_X10_feed_0 C hxt htr  hH (lv_sub hl [0, 1, 2] rfl) hf)
/-! LetterTables.isLetter -/
set_option maxRecDepth 100000 in
set_option maxHeartbeats 4000000 in
theorem t_X10_isLetter_0 {D : va_G} {B : Nat} {Y : Nat → ClassId} {p : Program} {l : Launch} {e : Env} {s : State} {m : MethodId} {args : Array Value} {below : List Frame} {meth : Method} {c : Code} {z : (Int32 × Wd)} {H : Heap} {locs : List Loc} {ls : Array Slot} {w : Wd} {v0 : Int32} (C : CX D B Y p s m args meth c cX10_isLetter 1 RX10 (some .boolean))     (hH : HS D B Y w s H locs) (hl : lv_has ls 1 [(0, .int v0)]) (hf : f_X10_isLetter v0 w = some z) : W p l e (RM 1 0 0) s m args below meth c H locs 0 0 (MQ below (QG D B Y (some (.int z.1)) z.2 (isZ z.1)) args s 0 0 (AB B)) (F0 m 0 ls []) := by
  have hx := C.1
  have hb := C.2.1
  unfold f_X10_isLetter at hf
  refine lv_iload_n hx hb dX10_isLetter_0 rfl (lv_at hl 0 rfl) ?_
  refine lv_iconst (v := (0 : Int32)) hx hb dX10_isLetter_1 (by decide) ?_
  refine lv_bipush (v := (95 : Int32)) hx hb dX10_isLetter_2 (by decide) ?_
  obtain ⟨x2, w1, hc, hf⟩ := bd_some hf
  refine q_callS1 (v := .int x2) (As := [.int v0, .int (0 : Int32), .int (95 : Int32)]) C hH gk_X10_99 yd_X10_isWithin (by omega) (by omega) (c_X10_isWithin hc) hl.1 rfl (Nat.le_of_ble_eq_true rfl) dX10_isLetter_4 xv_00 (fun H locs hH z_x2 => ?_)
  cases hf
  exact q_retz C hH z_x2 z_x2 dX10_isLetter_7
set_option maxRecDepth 100000 in
theorem c_X10_isLetter {l : Launch} {D : va_G} {B : Nat} {Y : Nat → ClassId} {v0 : Int32} {w : Wd} {r : Int32} {w1 : Wd}   (hf : f_X10_isLetter v0 w = some (r, w1)) : CM l D B Y yX10_isLetter cX10_isLetter 1 (some .boolean) 1 [.int v0] w (some (.int r)) w1 (isZ r) :=
  CM_of (by decide +kernel) (Nat.le_of_ble_eq_true rfl) (fun p e s m args below meth c ls C hH hl => t_X10_isLetter_0 C  hH (lv_sub hl [0] rfl) hf)
/-! LetterTables.checkLetter -/
set_option maxRecDepth 100000 in
set_option maxHeartbeats 4000000 in
theorem t_X10_checkLetter_0 {D : va_G} {B : Nat} {Y : Nat → ClassId} {p : Program} {l : Launch} {e : Env} {s : State} {m : MethodId} {args : Array Value} {below : List Frame} {meth : Method} {c : Code} {z : ((Nat ⊕ Unit) × Wd)} {H : Heap} {locs : List Loc} {ls : Array Slot} {w : Wd} {v0 : Int32} (C : CX D B Y p s m args meth c cX10_checkLetter 1 RX10 none) (hxt : ∀ x ∈ c.exceptionTable.toList, False) (htr : l.stackTraces = false)     (hH : HS D B Y w s H locs) (hl : lv_has ls 1 [(0, .int v0)]) (hf : f_X10_checkLetter v0 w = some z) : W p l e (RM 2 (xv (zoV z.1)) (6 * xv (zoV z.1))) s m args below meth c H locs 0 0 (vx_MQ below (QX D B Y (zoV z.1) z.2 True) (XX D B Y (zoV z.1) z.2) args s (xv (zoV z.1)) (6 * xv (zoV z.1)) (AB B)) (F0 m 0 ls []) := by
  have hx := C.1
  have hb := C.2.1
  unfold f_X10_checkLetter at hf
  refine lv_iload_n hx hb dX10_checkLetter_0 rfl (lv_at hl 0 rfl) ?_
  obtain ⟨x2, w1, hc, hf⟩ := bd_some hf
  refine q_callS1 (v := .int x2) (As := [.int v0]) C hH gk_X10_127 yd_X10_isLetter (by omega) (by omega) (c_X10_isLetter hc) hl.1 rfl (Nat.le_of_ble_eq_true rfl) dX10_checkLetter_1 xv_00 (fun H locs hH z_x2 => ?_)
  refine b_if_ne (tgt := 18) hx hb hf dX10_checkLetter_4 (by decide) (fun hf => ?_) (fun hf => ?_)
  · cases hf
    exact q_x0 rfl (q_retv C hH trivial dX10_checkLetter_18)
  · cases hf
    exact q_throwW C hH hxt htr (Or.inl rfl) wd_453 wd_64 wd_495 (List.mem_of_getElem? (i := 0) rfl) hl.1 dX10_checkLetter_7 dX10_checkLetter_10 dX10_checkLetter_11 dX10_checkLetter_14 dX10_checkLetter_17 (Nat.le_of_ble_eq_true rfl) (xv_1 rfl) (xv_6 rfl)
set_option maxRecDepth 100000 in
theorem c_X10_checkLetter {l : Launch} {D : va_G} {B : Nat} {Y : Nat → ClassId} {v0 : Int32} {w : Wd} {r : (Nat ⊕ Unit)} {w1 : Wd} (htr : l.stackTraces = false)   (hf : f_X10_checkLetter v0 w = some (r, w1)) : XM l D B Y yX10_checkLetter cX10_checkLetter 1 none 2 [.int v0] w (zoV r) w1 True :=
  XM_of (by decide +kernel) (Nat.le_of_ble_eq_true rfl) (fun p e s m args below meth c ls C hxt hH hl => t_X10_checkLetter_0 C hxt htr  hH (lv_sub hl [0] rfl) hf)
/-! LetterTables.setCell -/
set_option maxRecDepth 100000 in
set_option maxHeartbeats 4000000 in
theorem t_X10_setCell_0 {D : va_G} {B : Nat} {Y : Nat → ClassId} {p : Program} {l : Launch} {e : Env} {s : State} {m : MethodId} {args : Array Value} {below : List Frame} {meth : Method} {c : Code} {z : (Unit × Wd)} {H : Heap} {locs : List Loc} {ls : Array Slot} {w : Wd} {v0 : Nat} {v1 : Int32} {v2 : Int32} (C : CX D B Y p s m args meth c cX10_setCell 3 RX10 none)   (k_v0 : KD v0 = 20)  (hH : HS D B Y w s H locs) (hl : lv_has ls 3 [(0, .ref (B + v0)), (1, .int v1), (2, .int v2)]) (hf : f_X10_setCell v0 v1 v2 w = some z) : W p l e (RM 0 0 0) s m args below meth c H locs 0 0 (MQ below (QG D B Y none z.2 True) args s 0 0 (AB B)) (F0 m 0 ls []) := by
  have hx := C.1
  have hb := C.2.1
  unfold f_X10_setCell at hf
  refine lv_iload_n hx hb dX10_setCell_0 rfl (lv_at hl 1 rfl) ?_
  refine b_if_lt (tgt := 14) hx hb hf dX10_setCell_1 (by decide) (fun hf => ?_) (fun hf => ?_)
  · cases hf
    exact q_retv C hH trivial dX10_setCell_14
  · refine lv_iload_n hx hb dX10_setCell_4 rfl (lv_at hl 1 rfl) ?_
    refine lv_aload_n hx hb dX10_setCell_5 rfl (lv_at hl 0 rfl) ?_
    refine q_alen C hH (t0 := 0) (ci := 20) rfl (by omega) k_v0 dX10_setCell_6 ?_
    refine b_icmp_ge (tgt := 14) hx hb hf dX10_setCell_7 (by decide) (fun hf => ?_) (fun hf => ?_)
    · cases hf
      exact q_retv C hH trivial dX10_setCell_14
    · refine lv_aload_n hx hb dX10_setCell_10 rfl (lv_at hl 0 rfl) ?_
      refine lv_iload_n hx hb dX10_setCell_11 rfl (lv_at hl 1 rfl) ?_
      refine lv_iload_n hx hb dX10_setCell_12 rfl (lv_at hl 2 rfl) ?_
      refine g_iast C hH k_v0 hf dX10_setCell_13 (fun w1 H locs hf hH => ?_)
      cases hf
      exact q_retv C hH trivial dX10_setCell_14
set_option maxRecDepth 100000 in
theorem c_X10_setCell {l : Launch} {D : va_G} {B : Nat} {Y : Nat → ClassId} {v0 : Nat} {v1 : Int32} {v2 : Int32} {w : Wd} {r : Unit} {w1 : Wd} (k_v0 : KD v0 = 20)  (hf : f_X10_setCell v0 v1 v2 w = some (r, w1)) : CM l D B Y yX10_setCell cX10_setCell 3 none 0 [.ref (B + v0), .int v1, .int v2] w none w1 True :=
  CM_of (by decide +kernel) (Nat.le_of_ble_eq_true rfl) (fun p e s m args below meth c ls C hH hl => t_X10_setCell_0 C k_v0 hH (lv_sub hl [0, 1, 2] rfl) hf)
/-! LetterTables$Tables.tell -/
set_option maxRecDepth 100000 in
set_option maxHeartbeats 4000000 in
theorem t_X9_tell_0 {D : va_G} {B : Nat} {Y : Nat → ClassId} {p : Program} {l : Launch} {e : Env} {s : State} {m : MethodId} {args : Array Value} {below : List Frame} {meth : Method} {c : Code} {z : (Unit × Wd)} {H : Heap} {locs : List Loc} {ls : Array Slot} {w : Wd} {v0 : Nat} {v1 : Int32} {v2 : Int32} {v3 : Int32} {v4 : Int32} {v5 : Int32} (C : CX D B Y p s m args meth c cX9_tell 6 RX9 none)   (k_v0 : KD v0 = 9)  (hH : HS D B Y w s H locs) (hl : lv_has ls 6 [(0, .ref (B + v0)), (1, .int v1), (2, .int v2), (3, .int v3), (4, .int v4), (5, .int v5)]) (hf : f_X9_tell v0 v1 v2 v3 v4 v5 w = some z) : W p l e (RM 1 0 0) s m args below meth c H locs 0 0 (MQ below (QG D B Y none z.2 True) args s 0 0 (AB B)) (F0 m 0 ls []) := by
  have hx := C.1
  have hb := C.2.1
  unfold f_X9_tell at hf
  refine lv_aload_n hx hb dX9_tell_0 rfl (lv_at hl 0 rfl) ?_
  refine fg_X9_9 C hH k_v0 dX9_tell_1 ?_
  refine lv_iload_n hx hb dX9_tell_4 rfl (lv_at hl 1 rfl) ?_
  refine lv_iload_n hx hb dX9_tell_5 rfl (lv_at hl 2 rfl) ?_
  obtain ⟨u, w1, hc, hf⟩ := bd_some hf
  refine q_callN0 (As := [.ref (B + (v0 + 1)), .int v1, .int v2]) C hH (List.mem_of_getElem? (i := 1) rfl) wd_546 wd_50 wd_545 yd_X10_setCell (by omega) (by omega) (c_X10_setCell (ko_9_0 k_v0) hc) hl.1 rfl (Nat.le_of_ble_eq_true rfl) dX9_tell_6 xv_00 (fun H locs hH hP => ?_)
  refine lv_aload_n hx hb dX9_tell_9 rfl (lv_at hl 0 rfl) ?_
  refine fg_X9_15 C hH k_v0 dX9_tell_10 ?_
  refine lv_iload_n hx hb dX9_tell_13 rfl (lv_at hl 1 rfl) ?_
  refine lv_iload_n hx hb dX9_tell_14 rfl (lv_at hl 3 rfl) ?_
  obtain ⟨u, w2, hc, hf⟩ := bd_some hf
  refine q_callN0 (As := [.ref (B + (v0 + 2)), .int v1, .int v3]) C hH (List.mem_of_getElem? (i := 1) rfl) wd_546 wd_50 wd_545 yd_X10_setCell (by omega) (by omega) (c_X10_setCell (ko_9_1 k_v0) hc) hl.1 rfl (Nat.le_of_ble_eq_true rfl) dX9_tell_15 xv_00 (fun H locs hH hP => ?_)
  refine lv_aload_n hx hb dX9_tell_18 rfl (lv_at hl 0 rfl) ?_
  refine fg_X9_18 C hH k_v0 dX9_tell_19 ?_
  refine lv_iload_n hx hb dX9_tell_22 rfl (lv_at hl 1 rfl) ?_
  refine lv_iload hx hb dX9_tell_23 (lv_at hl 4 rfl) ?_
  obtain ⟨u, w3, hc, hf⟩ := bd_some hf
  refine q_callN0 (As := [.ref (B + (v0 + 3)), .int v1, .int v4]) C hH (List.mem_of_getElem? (i := 1) rfl) wd_546 wd_50 wd_545 yd_X10_setCell (by omega) (by omega) (c_X10_setCell (ko_9_2 k_v0) hc) hl.1 rfl (Nat.le_of_ble_eq_true rfl) dX9_tell_25 xv_00 (fun H locs hH hP => ?_)
  refine lv_aload_n hx hb dX9_tell_28 rfl (lv_at hl 0 rfl) ?_
  refine fg_X9_21 C hH k_v0 dX9_tell_29 ?_
  refine lv_iload_n hx hb dX9_tell_32 rfl (lv_at hl 1 rfl) ?_
  refine lv_iload hx hb dX9_tell_33 (lv_at hl 5 rfl) ?_
  obtain ⟨u, w4, hc, hf⟩ := bd_some hf
  refine q_callN0 (As := [.ref (B + (v0 + 4)), .int v1, .int v5]) C hH (List.mem_of_getElem? (i := 1) rfl) wd_546 wd_50 wd_545 yd_X10_setCell (by omega) (by omega) (c_X10_setCell (ko_9_3 k_v0) hc) hl.1 rfl (Nat.le_of_ble_eq_true rfl) dX9_tell_35 xv_00 (fun H locs hH hP => ?_)
  cases hf
  exact q_retv C hH trivial dX9_tell_38
set_option maxRecDepth 100000 in
theorem c_X9_tell {l : Launch} {D : va_G} {B : Nat} {Y : Nat → ClassId} {v0 : Nat} {v1 : Int32} {v2 : Int32} {v3 : Int32} {v4 : Int32} {v5 : Int32} {w : Wd} {r : Unit} {w1 : Wd} (k_v0 : KD v0 = 9)  (hf : f_X9_tell v0 v1 v2 v3 v4 v5 w = some (r, w1)) : CM l D B Y yX9_tell cX9_tell 6 none 1 [.ref (B + v0), .int v1, .int v2, .int v3, .int v4, .int v5] w none w1 True :=
  CM_of (by decide +kernel) (Nat.le_of_ble_eq_true rfl) (fun p e s m args below meth c ls C hH hl => t_X9_tell_0 C k_v0 hH (lv_sub hl [0, 1, 2, 3, 4, 5] rfl) hf)
/-! LetterTables.letter -/
set_option maxRecDepth 100000 in
set_option maxHeartbeats 4000000 in
theorem t_X10_letter_48 {D : va_G} {B : Nat} {Y : Nat → ClassId} {p : Program} {l : Launch} {e : Env} {s : State} {m : MethodId} {args : Array Value} {below : List Frame} {meth : Method} {c : Code} {z : ((Nat ⊕ Unit) × Wd)} {H : Heap} {locs : List Loc} {ls : Array Slot} {w : Wd} {v1 : Int32} {v2 : Int32} {v3 : Int32} {v4 : Int32} {v5 : Int32} {t0 : Int32} (C : CX D B Y p s m args meth c cX10_letter 6 RX10 none) (hxt : ∀ x ∈ c.exceptionTable.toList, False) (htr : l.stackTraces = false)    (z_t0 : isZ t0) (hH : HS D B Y w s H locs) (hl : lv_has ls 6 [(0, .ref (B + 0)), (1, .int v1), (2, .int v2), (3, .int v3), (4, .int v4), (5, .int v5)]) (hf : f_X10_letter_48 v1 v2 v3 v4 v5 t0 w = some z) : W p l e (RM 3 (xv (zoV z.1)) (6 * xv (zoV z.1))) s m args below meth c H locs 0 0 (vx_MQ below (QX D B Y (zoV z.1) z.2 True) (XX D B Y (zoV z.1) z.2) args s (xv (zoV z.1)) (6 * xv (zoV z.1)) (AB B)) (F0 m 48 ls [.int t0]) := by
  have hx := C.1
  have hb := C.2.1
  unfold f_X10_letter_48 at hf
  rcases bdx_some hf with ⟨k, w1, hc, rfl⟩ | ⟨u, w1, hc, hf⟩
  · exact q_xrunX (k0 := k) (q_xS (As := [.int t0]) C hH gk_X10_103 yd_X10_checkArgument (by omega) (by omega) (c_X10_checkArgument (r := .inl k) htr z_t0 hc) hl.1 rfl (Nat.le_of_ble_eq_true rfl) dX10_letter_48 (xv_le rfl)) hH (fun H locs ce q hH h1 h2 h3 => q_out C hH hxt h1 h2 h3 (xv_1 rfl) (xv_6 rfl))
  refine q_xrun (ov := none) (q_xS (As := [.int t0]) C hH gk_X10_103 yd_X10_checkArgument (by omega) (by omega) (c_X10_checkArgument (r := .inr u) htr z_t0 hc) hl.1 rfl (Nat.le_of_ble_eq_true rfl) dX10_letter_48 (xv_0 rfl xv_00)) hH (fun H locs hH hP => ?_)
  refine lv_aload_n hx hb dX10_letter_51 rfl (lv_at hl 0 rfl) ?_
  refine fg_X10_12 C hH dX10_letter_52 ?_
  refine lv_iload_n hx hb dX10_letter_55 rfl (lv_at hl 1 rfl) ?_
  refine lv_iload_n hx hb dX10_letter_56 rfl (lv_at hl 2 rfl) ?_
  refine lv_iload_n hx hb dX10_letter_57 rfl (lv_at hl 3 rfl) ?_
  refine lv_iload hx hb dX10_letter_58 (lv_at hl 4 rfl) ?_
  refine lv_iload hx hb dX10_letter_60 (lv_at hl 5 rfl) ?_
  obtain ⟨u, w2, hc, hf⟩ := bd_some hf
  refine q_callV0 (As := [.int v1, .int v2, .int v3, .int v4, .int v5]) C hH (ci := 9) rfl (by omega) gk_X10_130 yd_X9_tell (by omega) (by omega) kc_1 (c_X9_tell kc_1 hc) hl.1 rfl (Nat.le_of_ble_eq_true rfl) dX10_letter_62 xv_00 (fun H locs hH hP => ?_)
  cases hf
  exact q_x0 rfl (q_retv C hH trivial dX10_letter_65)
set_option maxRecDepth 100000 in
set_option maxHeartbeats 4000000 in
theorem t_X10_letter_47 {D : va_G} {B : Nat} {Y : Nat → ClassId} {p : Program} {l : Launch} {e : Env} {s : State} {m : MethodId} {args : Array Value} {below : List Frame} {meth : Method} {c : Code} {z : ((Nat ⊕ Unit) × Wd)} {H : Heap} {locs : List Loc} {ls : Array Slot} {w : Wd} {v1 : Int32} {v2 : Int32} {v3 : Int32} {v4 : Int32} {v5 : Int32} (C : CX D B Y p s m args meth c cX10_letter 6 RX10 none) (hxt : ∀ x ∈ c.exceptionTable.toList, False) (htr : l.stackTraces = false)     (hH : HS D B Y w s H locs) (hl : lv_has ls 6 [(0, .ref (B + 0)), (1, .int v1), (2, .int v2), (3, .int v3), (4, .int v4), (5, .int v5)]) (hf : f_X10_letter_47 v1 v2 v3 v4 v5 w = some z) : W p l e (RM 3 (xv (zoV z.1)) (6 * xv (zoV z.1))) s m args below meth c H locs 0 0 (vx_MQ below (QX D B Y (zoV z.1) z.2 True) (XX D B Y (zoV z.1) z.2) args s (xv (zoV z.1)) (6 * xv (zoV z.1)) (AB B)) (F0 m 47 ls []) := by
  have hx := C.1
  have hb := C.2.1
  unfold f_X10_letter_47 at hf
  refine lv_iconst (v := (0 : Int32)) hx hb dX10_letter_47 (by decide) ?_
  exact t_X10_letter_48 C hxt htr isZ_0 hH (lv_sub hl [0, 1, 2, 3, 4, 5] rfl) hf
set_option maxRecDepth 100000 in
set_option maxHeartbeats 4000000 in
theorem t_X10_letter_0 {D : va_G} {B : Nat} {Y : Nat → ClassId} {p : Program} {l : Launch} {e : Env} {s : State} {m : MethodId} {args : Array Value} {below : List Frame} {meth : Method} {c : Code} {z : ((Nat ⊕ Unit) × Wd)} {H : Heap} {locs : List Loc} {ls : Array Slot} {w : Wd} {v1 : Int32} {v2 : Int32} {v3 : Int32} {v4 : Int32} {v5 : Int32} (C : CX D B Y p s m args meth c cX10_letter 6 RX10 none) (hxt : ∀ x ∈ c.exceptionTable.toList, False) (htr : l.stackTraces = false)     (hH : HS D B Y w s H locs) (hl : lv_has ls 6 [(0, .ref (B + 0)), (1, .int v1), (2, .int v2), (3, .int v3), (4, .int v4), (5, .int v5)]) (hf : f_X10_letter v1 v2 v3 v4 v5 w = some z) : W p l e (RM 3 (xv (zoV z.1)) (6 * xv (zoV z.1))) s m args below meth c H locs 0 0 (vx_MQ below (QX D B Y (zoV z.1) z.2 True) (XX D B Y (zoV z.1) z.2) args s (xv (zoV z.1)) (6 * xv (zoV z.1)) (AB B)) (F0 m 0 ls []) := by
  have hx := C.1
  have hb := C.2.1
  unfold f_X10_letter at hf
  refine lv_iload_n hx hb dX10_letter_0 rfl (lv_at hl 1 rfl) ?_
  rcases bdx_some hf with ⟨k, w1, hc, rfl⟩ | ⟨u, w1, hc, hf⟩
  · exact q_xrunX (k0 := k) (q_xS (As := [.int v1]) C hH gk_X10_124 yd_X10_checkLetter (by omega) (by omega) (c_X10_checkLetter (r := .inl k) htr hc) hl.1 rfl (Nat.le_of_ble_eq_true rfl) dX10_letter_1 (xv_le rfl)) hH (fun H locs ce q hH h1 h2 h3 => q_out C hH hxt h1 h2 h3 (xv_1 rfl) (xv_6 rfl))
  refine q_xrun (ov := none) (q_xS (As := [.int v1]) C hH gk_X10_124 yd_X10_checkLetter (by omega) (by omega) (c_X10_checkLetter (r := .inr u) htr hc) hl.1 rfl (Nat.le_of_ble_eq_true rfl) dX10_letter_1 (xv_0 rfl xv_00)) hH (fun H locs hH hP => ?_)
  refine lv_iload_n hx hb dX10_letter_4 rfl (lv_at hl 2 rfl) ?_
  refine lv_iconst (v := (0 : Int32)) hx hb dX10_letter_5 (by decide) ?_
  refine lv_bipush (v := (9 : Int32)) hx hb dX10_letter_6 (by decide) ?_
  obtain ⟨x3, w2, hc, hf⟩ := bd_some hf
  refine q_callS1 (v := .int x3) (As := [.int v2, .int (0 : Int32), .int (9 : Int32)]) C hH gk_X10_99 yd_X10_isWithin (by omega) (by omega) (c_X10_isWithin hc) hl.1 rfl (Nat.le_of_ble_eq_true rfl) dX10_letter_8 xv_00 (fun H locs hH z_x3 => ?_)
  refine b_if_eq (tgt := 47) hx hb hf dX10_letter_11 (by decide) (fun hf => ?_) (fun hf => ?_)
  · exact t_X10_letter_47 C hxt htr hH (lv_sub hl [0, 1, 2, 3, 4, 5] rfl) hf
  · refine lv_iload_n hx hb dX10_letter_14 rfl (lv_at hl 3 rfl) ?_
    refine lv_iconst (v := (0 : Int32)) hx hb dX10_letter_15 (by decide) ?_
    refine lv_bipush (v := (10 : Int32)) hx hb dX10_letter_16 (by decide) ?_
    obtain ⟨x5, w4, hc, hf⟩ := bd_some hf
    refine q_callS1 (v := .int x5) (As := [.int v3, .int (0 : Int32), .int (10 : Int32)]) C hH gk_X10_99 yd_X10_isWithin (by omega) (by omega) (c_X10_isWithin hc) hl.1 rfl (Nat.le_of_ble_eq_true rfl) dX10_letter_18 xv_00 (fun H locs hH z_x5 => ?_)
    refine b_if_eq (tgt := 47) hx hb hf dX10_letter_21 (by decide) (fun hf => ?_) (fun hf => ?_)
    · exact t_X10_letter_47 C hxt htr hH (lv_sub hl [0, 1, 2, 3, 4, 5] rfl) hf
    · refine lv_iload hx hb dX10_letter_24 (lv_at hl 4 rfl) ?_
      refine lv_iconst (v := (0 : Int32)) hx hb dX10_letter_26 (by decide) ?_
      refine lv_bipush (v := (6 : Int32)) hx hb dX10_letter_27 (by decide) ?_
      obtain ⟨x7, w6, hc, hf⟩ := bd_some hf
      refine q_callS1 (v := .int x7) (As := [.int v4, .int (0 : Int32), .int (6 : Int32)]) C hH gk_X10_99 yd_X10_isWithin (by omega) (by omega) (c_X10_isWithin hc) hl.1 rfl (Nat.le_of_ble_eq_true rfl) dX10_letter_29 xv_00 (fun H locs hH z_x7 => ?_)
      refine b_if_eq (tgt := 47) hx hb hf dX10_letter_32 (by decide) (fun hf => ?_) (fun hf => ?_)
      · exact t_X10_letter_47 C hxt htr hH (lv_sub hl [0, 1, 2, 3, 4, 5] rfl) hf
      · refine lv_iload hx hb dX10_letter_35 (lv_at hl 5 rfl) ?_
        obtain ⟨x9, w8, hc, hf⟩ := bd_some hf
        refine q_callS1 (v := .int x9) (As := [.int v5]) C hH gk_X10_127 yd_X10_isLetter (by omega) (by omega) (c_X10_isLetter hc) hl.1 rfl (Nat.le_of_ble_eq_true rfl) dX10_letter_37 xv_00 (fun H locs hH z_x9 => ?_)
        refine b_if_eq (tgt := 47) hx hb hf dX10_letter_40 (by decide) (fun hf => ?_) (fun hf => ?_)
        · exact t_X10_letter_47 C hxt htr hH (lv_sub hl [0, 1, 2, 3, 4, 5] rfl) hf
        · refine lv_iconst (v := (1 : Int32)) hx hb dX10_letter_43 (by decide) ?_
          refine lv_goto (tgt := 48) hx hb dX10_letter_44 (by decide) ?_
          exact t_X10_letter_48 C hxt htr isZ_1 hH (lv_sub hl [0, 1, 2, 3, 4, 5] rfl) hf
set_option maxRecDepth 100000 in
theorem c_X10_letter {l : Launch} {D : va_G} {B : Nat} {Y : Nat → ClassId} {v1 : Int32} {v2 : Int32} {v3 : Int32} {v4 : Int32} {v5 : Int32} {w : Wd} {r : (Nat ⊕ Unit)} {w1 : Wd} (htr : l.stackTraces = false)   (hf : f_X10_letter v1 v2 v3 v4 v5 w = some (r, w1)) : XM l D B Y yX10_letter cX10_letter 6 none 3 [.ref (B + 0), .int v1, .int v2, .int v3, .int v4, .int v5] w (zoV r) w1 True :=
  XM_of (by decide +kernel) (Nat.le_of_ble_eq_true rfl) (fun p e s m args below meth c ls C hxt hH hl => t_X10_letter_0 C hxt htr  hH (lv_sub hl [0, 1, 2, 3, 4, 5] rfl) hf)
/-! LetterTables$Tables.tellSplit -/
set_option maxRecDepth 100000 in
set_option maxHeartbeats 4000000 in
theorem t_X9_tellSplit_0 {D : va_G} {B : Nat} {Y : Nat → ClassId} {p : Program} {l : Launch} {e : Env} {s : State} {m : MethodId} {args : Array Value} {below : List Frame} {meth : Method} {c : Code} {z : (Unit × Wd)} {H : Heap} {locs : List Loc} {ls : Array Slot} {w : Wd} {v0 : Nat} {v1 : Int32} {v2 : Int32} {v3 : Int32} (C : CX D B Y p s m args meth c cX9_tellSplit 4 RX9 none)   (k_v0 : KD v0 = 9)  (hH : HS D B Y w s H locs) (hl : lv_has ls 4 [(0, .ref (B + v0)), (1, .int v1), (2, .int v2), (3, .int v3)]) (hf : f_X9_tellSplit v0 v1 v2 v3 w = some z) : W p l e (RM 1 0 0) s m args below meth c H locs 0 0 (MQ below (QG D B Y none z.2 True) args s 0 0 (AB B)) (F0 m 0 ls []) := by
  have hx := C.1
  have hb := C.2.1
  unfold f_X9_tellSplit at hf
  refine lv_aload_n hx hb dX9_tellSplit_0 rfl (lv_at hl 0 rfl) ?_
  refine fg_X9_24 C hH k_v0 dX9_tellSplit_1 ?_
  refine lv_iload_n hx hb dX9_tellSplit_4 rfl (lv_at hl 1 rfl) ?_
  refine lv_iload_n hx hb dX9_tellSplit_5 rfl (lv_at hl 2 rfl) ?_
  obtain ⟨u, w1, hc, hf⟩ := bd_some hf
  refine q_callN0 (As := [.ref (B + (v0 + 5)), .int v1, .int v2]) C hH (List.mem_of_getElem? (i := 1) rfl) wd_546 wd_50 wd_545 yd_X10_setCell (by omega) (by omega) (c_X10_setCell (ko_9_4 k_v0) hc) hl.1 rfl (Nat.le_of_ble_eq_true rfl) dX9_tellSplit_6 xv_00 (fun H locs hH hP => ?_)
  refine lv_aload_n hx hb dX9_tellSplit_9 rfl (lv_at hl 0 rfl) ?_
  refine fg_X9_27 C hH k_v0 dX9_tellSplit_10 ?_
  refine lv_iload_n hx hb dX9_tellSplit_13 rfl (lv_at hl 1 rfl) ?_
  refine lv_iload_n hx hb dX9_tellSplit_14 rfl (lv_at hl 3 rfl) ?_
  obtain ⟨u, w2, hc, hf⟩ := bd_some hf
  refine q_callN0 (As := [.ref (B + (v0 + 6)), .int v1, .int v3]) C hH (List.mem_of_getElem? (i := 1) rfl) wd_546 wd_50 wd_545 yd_X10_setCell (by omega) (by omega) (c_X10_setCell (ko_9_5 k_v0) hc) hl.1 rfl (Nat.le_of_ble_eq_true rfl) dX9_tellSplit_15 xv_00 (fun H locs hH hP => ?_)
  cases hf
  exact q_retv C hH trivial dX9_tellSplit_18
set_option maxRecDepth 100000 in
theorem c_X9_tellSplit {l : Launch} {D : va_G} {B : Nat} {Y : Nat → ClassId} {v0 : Nat} {v1 : Int32} {v2 : Int32} {v3 : Int32} {w : Wd} {r : Unit} {w1 : Wd} (k_v0 : KD v0 = 9)  (hf : f_X9_tellSplit v0 v1 v2 v3 w = some (r, w1)) : CM l D B Y yX9_tellSplit cX9_tellSplit 4 none 1 [.ref (B + v0), .int v1, .int v2, .int v3] w none w1 True :=
  CM_of (by decide +kernel) (Nat.le_of_ble_eq_true rfl) (fun p e s m args below meth c ls C hH hl => t_X9_tellSplit_0 C k_v0 hH (lv_sub hl [0, 1, 2, 3] rfl) hf)
/-! LetterTables.split -/
set_option maxRecDepth 100000 in
set_option maxHeartbeats 4000000 in
theorem t_X10_split_53 {D : va_G} {B : Nat} {Y : Nat → ClassId} {p : Program} {l : Launch} {e : Env} {s : State} {m : MethodId} {args : Array Value} {below : List Frame} {meth : Method} {c : Code} {z : ((Nat ⊕ Unit) × Wd)} {H : Heap} {locs : List Loc} {ls : Array Slot} {w : Wd} {v1 : Int32} {v2 : Int32} {v3 : Int32} {t0 : Int32} (C : CX D B Y p s m args meth c cX10_split 5 RX10 none) (hxt : ∀ x ∈ c.exceptionTable.toList, False) (htr : l.stackTraces = false)    (z_t0 : isZ t0) (hH : HS D B Y w s H locs) (hl : lv_has ls 5 [(0, .ref (B + 0)), (1, .int v1), (2, .int v2), (3, .int v3)]) (hf : f_X10_split_53 v1 v2 v3 t0 w = some z) : W p l e (RM 3 (xv (zoV z.1)) (6 * xv (zoV z.1))) s m args below meth c H locs 0 0 (vx_MQ below (QX D B Y (zoV z.1) z.2 True) (XX D B Y (zoV z.1) z.2) args s (xv (zoV z.1)) (6 * xv (zoV z.1)) (AB B)) (F0 m 53 ls [.int t0]) := by
  have hx := C.1
  have hb := C.2.1
  unfold f_X10_split_53 at hf
  rcases bdx_some hf with ⟨k, w1, hc, rfl⟩ | ⟨u, w1, hc, hf⟩
  · exact q_xrunX (k0 := k) (q_xS (As := [.int t0]) C hH gk_X10_103 yd_X10_checkArgument (by omega) (by omega) (c_X10_checkArgument (r := .inl k) htr z_t0 hc) hl.1 rfl (Nat.le_of_ble_eq_true rfl) dX10_split_53 (xv_le rfl)) hH (fun H locs ce q hH h1 h2 h3 => q_out C hH hxt h1 h2 h3 (xv_1 rfl) (xv_6 rfl))
  refine q_xrun (ov := none) (q_xS (As := [.int t0]) C hH gk_X10_103 yd_X10_checkArgument (by omega) (by omega) (c_X10_checkArgument (r := .inr u) htr z_t0 hc) hl.1 rfl (Nat.le_of_ble_eq_true rfl) dX10_split_53 (xv_0 rfl xv_00)) hH (fun H locs hH hP => ?_)
  refine lv_aload_n hx hb dX10_split_56 rfl (lv_at hl 0 rfl) ?_
  refine fg_X10_12 C hH dX10_split_57 ?_
  refine lv_iload_n hx hb dX10_split_60 rfl (lv_at hl 1 rfl) ?_
  refine lv_iload_n hx hb dX10_split_61 rfl (lv_at hl 2 rfl) ?_
  refine lv_iload_n hx hb dX10_split_62 rfl (lv_at hl 3 rfl) ?_
  obtain ⟨u, w2, hc, hf⟩ := bd_some hf
  refine q_callV0 (As := [.int v1, .int v2, .int v3]) C hH (ci := 9) rfl (by omega) gk_X10_134 yd_X9_tellSplit (by omega) (by omega) kc_1 (c_X9_tellSplit kc_1 hc) hl.1 rfl (Nat.le_of_ble_eq_true rfl) dX10_split_63 xv_00 (fun H locs hH hP => ?_)
  cases hf
  exact q_x0 rfl (q_retv C hH trivial dX10_split_66)
set_option maxRecDepth 100000 in
set_option maxHeartbeats 4000000 in
theorem t_X10_split_52 {D : va_G} {B : Nat} {Y : Nat → ClassId} {p : Program} {l : Launch} {e : Env} {s : State} {m : MethodId} {args : Array Value} {below : List Frame} {meth : Method} {c : Code} {z : ((Nat ⊕ Unit) × Wd)} {H : Heap} {locs : List Loc} {ls : Array Slot} {w : Wd} {v1 : Int32} {v2 : Int32} {v3 : Int32} (C : CX D B Y p s m args meth c cX10_split 5 RX10 none) (hxt : ∀ x ∈ c.exceptionTable.toList, False) (htr : l.stackTraces = false)     (hH : HS D B Y w s H locs) (hl : lv_has ls 5 [(0, .ref (B + 0)), (1, .int v1), (2, .int v2), (3, .int v3)]) (hf : f_X10_split_52 v1 v2 v3 w = some z) : W p l e (RM 3 (xv (zoV z.1)) (6 * xv (zoV z.1))) s m args below meth c H locs 0 0 (vx_MQ below (QX D B Y (zoV z.1) z.2 True) (XX D B Y (zoV z.1) z.2) args s (xv (zoV z.1)) (6 * xv (zoV z.1)) (AB B)) (F0 m 52 ls []) := by
  have hx := C.1
  have hb := C.2.1
  unfold f_X10_split_52 at hf
  refine lv_iconst (v := (0 : Int32)) hx hb dX10_split_52 (by decide) ?_
  exact t_X10_split_53 C hxt htr isZ_0 hH (lv_sub hl [0, 1, 2, 3] rfl) hf
set_option maxRecDepth 100000 in
set_option maxHeartbeats 4000000 in
theorem t_X10_split_19 {D : va_G} {B : Nat} {Y : Nat → ClassId} {p : Program} {l : Launch} {e : Env} {s : State} {m : MethodId} {args : Array Value} {below : List Frame} {meth : Method} {c : Code} {z : ((Nat ⊕ Unit) × Wd)} {H : Heap} {locs : List Loc} {ls : Array Slot} {w : Wd} {v1 : Int32} {v2 : Int32} {v3 : Int32} {t0 : Int32} (C : CX D B Y p s m args meth c cX10_split 5 RX10 none) (hxt : ∀ x ∈ c.exceptionTable.toList, False) (htr : l.stackTraces = false)    (z_t0 : isZ t0) (hH : HS D B Y w s H locs) (hl : lv_has ls 5 [(0, .ref (B + 0)), (1, .int v1), (2, .int v2), (3, .int v3)]) (hf : f_X10_split_19 v1 v2 v3 t0 w = some z) : W p l e (RM 3 (xv (zoV z.1)) (6 * xv (zoV z.1))) s m args below meth c H locs 0 0 (vx_MQ below (QX D B Y (zoV z.1) z.2 True) (XX D B Y (zoV z.1) z.2) args s (xv (zoV z.1)) (6 * xv (zoV z.1)) (AB B)) (F0 m 19 ls [.int t0]) := by
  have hx := C.1
  have hb := C.2.1
  unfold f_X10_split_19 at hf
  refine lv_istore (lv' := [(4, .int t0), (0, .ref (B + 0)), (1, .int v1), (2, .int v2), (3, .int v3)]) hx hb dX10_split_19 hl (by decide) rfl (fun ls hl => ?_)
  refine lv_iload hx hb dX10_split_21 (lv_at hl 0 rfl) ?_
  refine b_if_ne (tgt := 48) hx hb hf dX10_split_23 (by decide) (fun hf => ?_) (fun hf => ?_)
  · refine lv_iconst (v := (1 : Int32)) hx hb dX10_split_48 (by decide) ?_
    refine lv_goto (tgt := 53) hx hb dX10_split_49 (by decide) ?_
    exact t_X10_split_53 C hxt htr isZ_1 hH (lv_sub hl [1, 2, 3, 4] rfl) hf
  · refine lv_iload_n hx hb dX10_split_26 rfl (lv_at hl 3 rfl) ?_
    refine lv_iconst (v := (0 : Int32)) hx hb dX10_split_27 (by decide) ?_
    refine lv_iload_n hx hb dX10_split_28 rfl (lv_at hl 2 rfl) ?_
    refine lv_iconst (v := (1 : Int32)) hx hb dX10_split_29 (by decide) ?_
    refine lv_isub hx hb dX10_split_30 ?_
    obtain ⟨x2, w1, hc, hf⟩ := bd_some hf
    refine q_callS1 (v := .int x2) (As := [.int v2, .int (0 : Int32), .int (v1 - (1 : Int32))]) C hH gk_X10_99 yd_X10_isWithin (by omega) (by omega) (c_X10_isWithin hc) hl.1 rfl (Nat.le_of_ble_eq_true rfl) dX10_split_31 xv_00 (fun H locs hH z_x2 => ?_)
    refine b_if_eq (tgt := 52) hx hb hf dX10_split_34 (by decide) (fun hf => ?_) (fun hf => ?_)
    · exact t_X10_split_52 C hxt htr hH (lv_sub hl [1, 2, 3, 4] rfl) hf
    · refine lv_iload_n hx hb dX10_split_37 rfl (lv_at hl 4 rfl) ?_
      refine lv_iconst (v := (0 : Int32)) hx hb dX10_split_38 (by decide) ?_
      refine lv_iload_n hx hb dX10_split_39 rfl (lv_at hl 2 rfl) ?_
      refine lv_iconst (v := (1 : Int32)) hx hb dX10_split_40 (by decide) ?_
      refine lv_isub hx hb dX10_split_41 ?_
      obtain ⟨x4, w3, hc, hf⟩ := bd_some hf
      refine q_callS1 (v := .int x4) (As := [.int v3, .int (0 : Int32), .int (v1 - (1 : Int32))]) C hH gk_X10_99 yd_X10_isWithin (by omega) (by omega) (c_X10_isWithin hc) hl.1 rfl (Nat.le_of_ble_eq_true rfl) dX10_split_42 xv_00 (fun H locs hH z_x4 => ?_)
      refine b_if_eq (tgt := 52) hx hb hf dX10_split_45 (by decide) (fun hf => ?_) (fun hf => ?_)
      · exact t_X10_split_52 C hxt htr hH (lv_sub hl [1, 2, 3, 4] rfl) hf
      · refine lv_iconst (v := (1 : Int32)) hx hb dX10_split_48 (by decide) ?_
        refine lv_goto (tgt := 53) hx hb dX10_split_49 (by decide) ?_
        exact t_X10_split_53 C hxt htr isZ_1 hH (lv_sub hl [1, 2, 3, 4] rfl) hf
set_option maxRecDepth 100000 in
set_option maxHeartbeats 4000000 in
theorem t_X10_split_18 {D : va_G} {B : Nat} {Y : Nat → ClassId} {p : Program} {l : Launch} {e : Env} {s : State} {m : MethodId} {args : Array Value} {below : List Frame} {meth : Method} {c : Code} {z : ((Nat ⊕ Unit) × Wd)} {H : Heap} {locs : List Loc} {ls : Array Slot} {w : Wd} {v1 : Int32} {v2 : Int32} {v3 : Int32} (C : CX D B Y p s m args meth c cX10_split 5 RX10 none) (hxt : ∀ x ∈ c.exceptionTable.toList, False) (htr : l.stackTraces = false)     (hH : HS D B Y w s H locs) (hl : lv_has ls 5 [(0, .ref (B + 0)), (1, .int v1), (2, .int v2), (3, .int v3)]) (hf : f_X10_split_18 v1 v2 v3 w = some z) : W p l e (RM 3 (xv (zoV z.1)) (6 * xv (zoV z.1))) s m args below meth c H locs 0 0 (vx_MQ below (QX D B Y (zoV z.1) z.2 True) (XX D B Y (zoV z.1) z.2) args s (xv (zoV z.1)) (6 * xv (zoV z.1)) (AB B)) (F0 m 18 ls []) := by
  have hx := C.1
  have hb := C.2.1
  unfold f_X10_split_18 at hf
  refine lv_iconst (v := (0 : Int32)) hx hb dX10_split_18 (by decide) ?_
  exact t_X10_split_19 C hxt htr isZ_0 hH (lv_sub hl [0, 1, 2, 3] rfl) hf
set_option maxRecDepth 100000 in
set_option maxHeartbeats 4000000 in
theorem t_X10_split_0 {D : va_G} {B : Nat} {Y : Nat → ClassId} {p : Program} {l : Launch} {e : Env} {s : State} {m : MethodId} {args : Array Value} {below : List Frame} {meth : Method} {c : Code} {z : ((Nat ⊕ Unit) × Wd)} {H : Heap} {locs : List Loc} {ls : Array Slot} {w : Wd} {v1 : Int32} {v2 : Int32} {v3 : Int32} (C : CX D B Y p s m args meth c cX10_split 5 RX10 none) (hxt : ∀ x ∈ c.exceptionTable.toList, False) (htr : l.stackTraces = false)     (hH : HS D B Y w s H locs) (hl : lv_has ls 5 [(0, .ref (B + 0)), (1, .int v1), (2, .int v2), (3, .int v3)]) (hf : f_X10_split v1 v2 v3 w = some z) : W p l e (RM 3 (xv (zoV z.1)) (6 * xv (zoV z.1))) s m args below meth c H locs 0 0 (vx_MQ below (QX D B Y (zoV z.1) z.2 True) (XX D B Y (zoV z.1) z.2) args s (xv (zoV z.1)) (6 * xv (zoV z.1)) (AB B)) (F0 m 0 ls []) := by
  have hx := C.1
  have hb := C.2.1
  unfold f_X10_split at hf
  refine lv_iload_n hx hb dX10_split_0 rfl (lv_at hl 1 rfl) ?_
  rcases bdx_some hf with ⟨k, w1, hc, rfl⟩ | ⟨u, w1, hc, hf⟩
  · exact q_xrunX (k0 := k) (q_xS (As := [.int v1]) C hH gk_X10_124 yd_X10_checkLetter (by omega) (by omega) (c_X10_checkLetter (r := .inl k) htr hc) hl.1 rfl (Nat.le_of_ble_eq_true rfl) dX10_split_1 (xv_le rfl)) hH (fun H locs ce q hH h1 h2 h3 => q_out C hH hxt h1 h2 h3 (xv_1 rfl) (xv_6 rfl))
  refine q_xrun (ov := none) (q_xS (As := [.int v1]) C hH gk_X10_124 yd_X10_checkLetter (by omega) (by omega) (c_X10_checkLetter (r := .inr u) htr hc) hl.1 rfl (Nat.le_of_ble_eq_true rfl) dX10_split_1 (xv_0 rfl xv_00)) hH (fun H locs hH hP => ?_)
  refine lv_iload_n hx hb dX10_split_4 rfl (lv_at hl 2 rfl) ?_
  refine lv_iconst (v := (-1 : Int32)) hx hb dX10_split_5 (by decide) ?_
  refine b_icmp_ne (tgt := 18) hx hb hf dX10_split_6 (by decide) (fun hf => ?_) (fun hf => ?_)
  · exact t_X10_split_18 C hxt htr hH (lv_sub hl [0, 1, 2, 3] rfl) hf
  · refine lv_iload_n hx hb dX10_split_9 rfl (lv_at hl 3 rfl) ?_
    refine lv_iconst (v := (-1 : Int32)) hx hb dX10_split_10 (by decide) ?_
    refine b_icmp_ne (tgt := 18) hx hb hf dX10_split_11 (by decide) (fun hf => ?_) (fun hf => ?_)
    · exact t_X10_split_18 C hxt htr hH (lv_sub hl [0, 1, 2, 3] rfl) hf
    · refine lv_iconst (v := (1 : Int32)) hx hb dX10_split_14 (by decide) ?_
      refine lv_goto (tgt := 19) hx hb dX10_split_15 (by decide) ?_
      exact t_X10_split_19 C hxt htr isZ_1 hH (lv_sub hl [0, 1, 2, 3] rfl) hf
set_option maxRecDepth 100000 in
theorem c_X10_split {l : Launch} {D : va_G} {B : Nat} {Y : Nat → ClassId} {v1 : Int32} {v2 : Int32} {v3 : Int32} {w : Wd} {r : (Nat ⊕ Unit)} {w1 : Wd} (htr : l.stackTraces = false)   (hf : f_X10_split v1 v2 v3 w = some (r, w1)) : XM l D B Y yX10_split cX10_split 5 none 3 [.ref (B + 0), .int v1, .int v2, .int v3] w (zoV r) w1 True :=
  XM_of (by decide +kernel) (Nat.le_of_ble_eq_true rfl) (fun p e s m args below meth c ls C hxt hH hl => t_X10_split_0 C hxt htr  hH (lv_sub hl [0, 1, 2, 3] rfl) hf)
/-! LetterTables$Tables.tellCapital -/
set_option maxRecDepth 100000 in
set_option maxHeartbeats 4000000 in
theorem t_X9_tellCapital_0 {D : va_G} {B : Nat} {Y : Nat → ClassId} {p : Program} {l : Launch} {e : Env} {s : State} {m : MethodId} {args : Array Value} {below : List Frame} {meth : Method} {c : Code} {z : (Unit × Wd)} {H : Heap} {locs : List Loc} {ls : Array Slot} {w : Wd} {v0 : Nat} {v1 : Int32} {v2 : Int32} {v3 : Int32} (C : CX D B Y p s m args meth c cX9_tellCapital 4 RX9 none)   (k_v0 : KD v0 = 9)  (hH : HS D B Y w s H locs) (hl : lv_has ls 4 [(0, .ref (B + v0)), (1, .int v1), (2, .int v2), (3, .int v3)]) (hf : f_X9_tellCapital v0 v1 v2 v3 w = some z) : W p l e (RM 1 0 0) s m args below meth c H locs 0 0 (MQ below (QG D B Y none z.2 True) args s 0 0 (AB B)) (F0 m 0 ls []) := by
  have hx := C.1
  have hb := C.2.1
  unfold f_X9_tellCapital at hf
  refine lv_aload_n hx hb dX9_tellCapital_0 rfl (lv_at hl 0 rfl) ?_
  refine fg_X9_30 C hH k_v0 dX9_tellCapital_1 ?_
  refine lv_iload_n hx hb dX9_tellCapital_4 rfl (lv_at hl 1 rfl) ?_
  refine lv_iload_n hx hb dX9_tellCapital_5 rfl (lv_at hl 2 rfl) ?_
  obtain ⟨u, w1, hc, hf⟩ := bd_some hf
  refine q_callN0 (As := [.ref (B + (v0 + 7)), .int v1, .int v2]) C hH (List.mem_of_getElem? (i := 1) rfl) wd_546 wd_50 wd_545 yd_X10_setCell (by omega) (by omega) (c_X10_setCell (ko_9_6 k_v0) hc) hl.1 rfl (Nat.le_of_ble_eq_true rfl) dX9_tellCapital_6 xv_00 (fun H locs hH hP => ?_)
  refine lv_aload_n hx hb dX9_tellCapital_9 rfl (lv_at hl 0 rfl) ?_
  refine fg_X9_33 C hH k_v0 dX9_tellCapital_10 ?_
  refine lv_iload_n hx hb dX9_tellCapital_13 rfl (lv_at hl 1 rfl) ?_
  refine lv_iload_n hx hb dX9_tellCapital_14 rfl (lv_at hl 3 rfl) ?_
  obtain ⟨u, w2, hc, hf⟩ := bd_some hf
  refine q_callN0 (As := [.ref (B + (v0 + 8)), .int v1, .int v3]) C hH (List.mem_of_getElem? (i := 1) rfl) wd_546 wd_50 wd_545 yd_X10_setCell (by omega) (by omega) (c_X10_setCell (ko_9_7 k_v0) hc) hl.1 rfl (Nat.le_of_ble_eq_true rfl) dX9_tellCapital_15 xv_00 (fun H locs hH hP => ?_)
  cases hf
  exact q_retv C hH trivial dX9_tellCapital_18
set_option maxRecDepth 100000 in
theorem c_X9_tellCapital {l : Launch} {D : va_G} {B : Nat} {Y : Nat → ClassId} {v0 : Nat} {v1 : Int32} {v2 : Int32} {v3 : Int32} {w : Wd} {r : Unit} {w1 : Wd} (k_v0 : KD v0 = 9)  (hf : f_X9_tellCapital v0 v1 v2 v3 w = some (r, w1)) : CM l D B Y yX9_tellCapital cX9_tellCapital 4 none 1 [.ref (B + v0), .int v1, .int v2, .int v3] w none w1 True :=
  CM_of (by decide +kernel) (Nat.le_of_ble_eq_true rfl) (fun p e s m args below meth c ls C hH hl => t_X9_tellCapital_0 C k_v0 hH (lv_sub hl [0, 1, 2, 3] rfl) hf)
/-! LetterTables.capital -/
set_option maxRecDepth 100000 in
set_option maxHeartbeats 4000000 in
theorem t_X10_capital_50 {D : va_G} {B : Nat} {Y : Nat → ClassId} {p : Program} {l : Launch} {e : Env} {s : State} {m : MethodId} {args : Array Value} {below : List Frame} {meth : Method} {c : Code} {z : ((Nat ⊕ Unit) × Wd)} {H : Heap} {locs : List Loc} {ls : Array Slot} {w : Wd} {v1 : Int32} {v2 : Int32} {v3 : Int32} {t0 : Int32} (C : CX D B Y p s m args meth c cX10_capital 5 RX10 none) (hxt : ∀ x ∈ c.exceptionTable.toList, False) (htr : l.stackTraces = false)    (z_t0 : isZ t0) (hH : HS D B Y w s H locs) (hl : lv_has ls 5 [(0, .ref (B + 0)), (1, .int v1), (2, .int v2), (3, .int v3)]) (hf : f_X10_capital_50 v1 v2 v3 t0 w = some z) : W p l e (RM 3 (xv (zoV z.1)) (6 * xv (zoV z.1))) s m args below meth c H locs 0 0 (vx_MQ below (QX D B Y (zoV z.1) z.2 True) (XX D B Y (zoV z.1) z.2) args s (xv (zoV z.1)) (6 * xv (zoV z.1)) (AB B)) (F0 m 50 ls [.int t0]) := by
  have hx := C.1
  have hb := C.2.1
  unfold f_X10_capital_50 at hf
  rcases bdx_some hf with ⟨k, w1, hc, rfl⟩ | ⟨u, w1, hc, hf⟩
  · exact q_xrunX (k0 := k) (q_xS (As := [.int t0]) C hH gk_X10_103 yd_X10_checkArgument (by omega) (by omega) (c_X10_checkArgument (r := .inl k) htr z_t0 hc) hl.1 rfl (Nat.le_of_ble_eq_true rfl) dX10_capital_50 (xv_le rfl)) hH (fun H locs ce q hH h1 h2 h3 => q_out C hH hxt h1 h2 h3 (xv_1 rfl) (xv_6 rfl))
  refine q_xrun (ov := none) (q_xS (As := [.int t0]) C hH gk_X10_103 yd_X10_checkArgument (by omega) (by omega) (c_X10_checkArgument (r := .inr u) htr z_t0 hc) hl.1 rfl (Nat.le_of_ble_eq_true rfl) dX10_capital_50 (xv_0 rfl xv_00)) hH (fun H locs hH hP => ?_)
  refine lv_aload_n hx hb dX10_capital_53 rfl (lv_at hl 0 rfl) ?_
  refine fg_X10_12 C hH dX10_capital_54 ?_
  refine lv_iload_n hx hb dX10_capital_57 rfl (lv_at hl 1 rfl) ?_
  refine lv_iload_n hx hb dX10_capital_58 rfl (lv_at hl 2 rfl) ?_
  refine lv_iload_n hx hb dX10_capital_59 rfl (lv_at hl 3 rfl) ?_
  obtain ⟨u, w2, hc, hf⟩ := bd_some hf
  refine q_callV0 (As := [.int v1, .int v2, .int v3]) C hH (ci := 9) rfl (by omega) gk_X10_138 yd_X9_tellCapital (by omega) (by omega) kc_1 (c_X9_tellCapital kc_1 hc) hl.1 rfl (Nat.le_of_ble_eq_true rfl) dX10_capital_60 xv_00 (fun H locs hH hP => ?_)
  cases hf
  exact q_x0 rfl (q_retv C hH trivial dX10_capital_63)
set_option maxRecDepth 100000 in
set_option maxHeartbeats 4000000 in
theorem t_X10_capital_49 {D : va_G} {B : Nat} {Y : Nat → ClassId} {p : Program} {l : Launch} {e : Env} {s : State} {m : MethodId} {args : Array Value} {below : List Frame} {meth : Method} {c : Code} {z : ((Nat ⊕ Unit) × Wd)} {H : Heap} {locs : List Loc} {ls : Array Slot} {w : Wd} {v1 : Int32} {v2 : Int32} {v3 : Int32} (C : CX D B Y p s m args meth c cX10_capital 5 RX10 none) (hxt : ∀ x ∈ c.exceptionTable.toList, False) (htr : l.stackTraces = false)     (hH : HS D B Y w s H locs) (hl : lv_has ls 5 [(0, .ref (B + 0)), (1, .int v1), (2, .int v2), (3, .int v3)]) (hf : f_X10_capital_49 v1 v2 v3 w = some z) : W p l e (RM 3 (xv (zoV z.1)) (6 * xv (zoV z.1))) s m args below meth c H locs 0 0 (vx_MQ below (QX D B Y (zoV z.1) z.2 True) (XX D B Y (zoV z.1) z.2) args s (xv (zoV z.1)) (6 * xv (zoV z.1)) (AB B)) (F0 m 49 ls []) := by
  have hx := C.1
  have hb := C.2.1
  unfold f_X10_capital_49 at hf
  refine lv_iconst (v := (0 : Int32)) hx hb dX10_capital_49 (by decide) ?_
  exact t_X10_capital_50 C hxt htr isZ_0 hH (lv_sub hl [0, 1, 2, 3] rfl) hf
set_option maxRecDepth 100000 in
set_option maxHeartbeats 4000000 in
theorem t_X10_capital_19 {D : va_G} {B : Nat} {Y : Nat → ClassId} {p : Program} {l : Launch} {e : Env} {s : State} {m : MethodId} {args : Array Value} {below : List Frame} {meth : Method} {c : Code} {z : ((Nat ⊕ Unit) × Wd)} {H : Heap} {locs : List Loc} {ls : Array Slot} {w : Wd} {v1 : Int32} {v2 : Int32} {v3 : Int32} {t0 : Int32} (C : CX D B Y p s m args meth c cX10_capital 5 RX10 none) (hxt : ∀ x ∈ c.exceptionTable.toList, False) (htr : l.stackTraces = false)    (z_t0 : isZ t0) (hH : HS D B Y w s H locs) (hl : lv_has ls 5 [(0, .ref (B + 0)), (1, .int v1), (2, .int v2), (3, .int v3)]) (hf : f_X10_capital_19 v1 v2 v3 t0 w = some z) : W p l e (RM 3 (xv (zoV z.1)) (6 * xv (zoV z.1))) s m args below meth c H locs 0 0 (vx_MQ below (QX D B Y (zoV z.1) z.2 True) (XX D B Y (zoV z.1) z.2) args s (xv (zoV z.1)) (6 * xv (zoV z.1)) (AB B)) (F0 m 19 ls [.int t0]) := by
  have hx := C.1
  have hb := C.2.1
  unfold f_X10_capital_19 at hf
  refine lv_istore (lv' := [(4, .int t0), (0, .ref (B + 0)), (1, .int v1), (2, .int v2), (3, .int v3)]) hx hb dX10_capital_19 hl (by decide) rfl (fun ls hl => ?_)
  refine lv_iload hx hb dX10_capital_21 (lv_at hl 0 rfl) ?_
  refine b_if_ne (tgt := 45) hx hb hf dX10_capital_23 (by decide) (fun hf => ?_) (fun hf => ?_)
  · refine lv_iconst (v := (1 : Int32)) hx hb dX10_capital_45 (by decide) ?_
    refine lv_goto (tgt := 50) hx hb dX10_capital_46 (by decide) ?_
    exact t_X10_capital_50 C hxt htr isZ_1 hH (lv_sub hl [1, 2, 3, 4] rfl) hf
  · refine lv_iload_n hx hb dX10_capital_26 rfl (lv_at hl 3 rfl) ?_
    obtain ⟨x2, w1, hc, hf⟩ := bd_some hf
    refine q_callS1 (v := .int x2) (As := [.int v2]) C hH gk_X10_127 yd_X10_isLetter (by omega) (by omega) (c_X10_isLetter hc) hl.1 rfl (Nat.le_of_ble_eq_true rfl) dX10_capital_27 xv_00 (fun H locs hH z_x2 => ?_)
    refine b_if_eq (tgt := 49) hx hb hf dX10_capital_30 (by decide) (fun hf => ?_) (fun hf => ?_)
    · exact t_X10_capital_49 C hxt htr hH (lv_sub hl [1, 2, 3, 4] rfl) hf
    · refine lv_iload_n hx hb dX10_capital_33 rfl (lv_at hl 4 rfl) ?_
      refine lv_iconst (v := (-1 : Int32)) hx hb dX10_capital_34 (by decide) ?_
      refine b_icmp_eq (tgt := 45) hx hb hf dX10_capital_35 (by decide) (fun hf => ?_) (fun hf => ?_)
      · refine lv_iconst (v := (1 : Int32)) hx hb dX10_capital_45 (by decide) ?_
        refine lv_goto (tgt := 50) hx hb dX10_capital_46 (by decide) ?_
        exact t_X10_capital_50 C hxt htr isZ_1 hH (lv_sub hl [1, 2, 3, 4] rfl) hf
      · refine lv_iload_n hx hb dX10_capital_38 rfl (lv_at hl 4 rfl) ?_
        obtain ⟨x4, w3, hc, hf⟩ := bd_some hf
        refine q_callS1 (v := .int x4) (As := [.int v3]) C hH gk_X10_127 yd_X10_isLetter (by omega) (by omega) (c_X10_isLetter hc) hl.1 rfl (Nat.le_of_ble_eq_true rfl) dX10_capital_39 xv_00 (fun H locs hH z_x4 => ?_)
        refine b_if_eq (tgt := 49) hx hb hf dX10_capital_42 (by decide) (fun hf => ?_) (fun hf => ?_)
        · exact t_X10_capital_49 C hxt htr hH (lv_sub hl [1, 2, 3, 4] rfl) hf
        · refine lv_iconst (v := (1 : Int32)) hx hb dX10_capital_45 (by decide) ?_
          refine lv_goto (tgt := 50) hx hb dX10_capital_46 (by decide) ?_
          exact t_X10_capital_50 C hxt htr isZ_1 hH (lv_sub hl [1, 2, 3, 4] rfl) hf
set_option maxRecDepth 100000 in
set_option maxHeartbeats 4000000 in
theorem t_X10_capital_18 {D : va_G} {B : Nat} {Y : Nat → ClassId} {p : Program} {l : Launch} {e : Env} {s : State} {m : MethodId} {args : Array Value} {below : List Frame} {meth : Method} {c : Code} {z : ((Nat ⊕ Unit) × Wd)} {H : Heap} {locs : List Loc} {ls : Array Slot} {w : Wd} {v1 : Int32} {v2 : Int32} {v3 : Int32} (C : CX D B Y p s m args meth c cX10_capital 5 RX10 none) (hxt : ∀ x ∈ c.exceptionTable.toList, False) (htr : l.stackTraces = false)     (hH : HS D B Y w s H locs) (hl : lv_has ls 5 [(0, .ref (B + 0)), (1, .int v1), (2, .int v2), (3, .int v3)]) (hf : f_X10_capital_18 v1 v2 v3 w = some z) : W p l e (RM 3 (xv (zoV z.1)) (6 * xv (zoV z.1))) s m args below meth c H locs 0 0 (vx_MQ below (QX D B Y (zoV z.1) z.2 True) (XX D B Y (zoV z.1) z.2) args s (xv (zoV z.1)) (6 * xv (zoV z.1)) (AB B)) (F0 m 18 ls []) := by
  have hx := C.1
  have hb := C.2.1
  unfold f_X10_capital_18 at hf
  refine lv_iconst (v := (0 : Int32)) hx hb dX10_capital_18 (by decide) ?_
  exact t_X10_capital_19 C hxt htr isZ_0 hH (lv_sub hl [0, 1, 2, 3] rfl) hf
set_option maxRecDepth 100000 in
set_option maxHeartbeats 4000000 in
theorem t_X10_capital_0 {D : va_G} {B : Nat} {Y : Nat → ClassId} {p : Program} {l : Launch} {e : Env} {s : State} {m : MethodId} {args : Array Value} {below : List Frame} {meth : Method} {c : Code} {z : ((Nat ⊕ Unit) × Wd)} {H : Heap} {locs : List Loc} {ls : Array Slot} {w : Wd} {v1 : Int32} {v2 : Int32} {v3 : Int32} (C : CX D B Y p s m args meth c cX10_capital 5 RX10 none) (hxt : ∀ x ∈ c.exceptionTable.toList, False) (htr : l.stackTraces = false)     (hH : HS D B Y w s H locs) (hl : lv_has ls 5 [(0, .ref (B + 0)), (1, .int v1), (2, .int v2), (3, .int v3)]) (hf : f_X10_capital v1 v2 v3 w = some z) : W p l e (RM 3 (xv (zoV z.1)) (6 * xv (zoV z.1))) s m args below meth c H locs 0 0 (vx_MQ below (QX D B Y (zoV z.1) z.2 True) (XX D B Y (zoV z.1) z.2) args s (xv (zoV z.1)) (6 * xv (zoV z.1)) (AB B)) (F0 m 0 ls []) := by
  have hx := C.1
  have hb := C.2.1
  unfold f_X10_capital at hf
  refine lv_iload_n hx hb dX10_capital_0 rfl (lv_at hl 1 rfl) ?_
  rcases bdx_some hf with ⟨k, w1, hc, rfl⟩ | ⟨u, w1, hc, hf⟩
  · exact q_xrunX (k0 := k) (q_xS (As := [.int v1]) C hH gk_X10_124 yd_X10_checkLetter (by omega) (by omega) (c_X10_checkLetter (r := .inl k) htr hc) hl.1 rfl (Nat.le_of_ble_eq_true rfl) dX10_capital_1 (xv_le rfl)) hH (fun H locs ce q hH h1 h2 h3 => q_out C hH hxt h1 h2 h3 (xv_1 rfl) (xv_6 rfl))
  refine q_xrun (ov := none) (q_xS (As := [.int v1]) C hH gk_X10_124 yd_X10_checkLetter (by omega) (by omega) (c_X10_checkLetter (r := .inr u) htr hc) hl.1 rfl (Nat.le_of_ble_eq_true rfl) dX10_capital_1 (xv_0 rfl xv_00)) hH (fun H locs hH hP => ?_)
  refine lv_iload_n hx hb dX10_capital_4 rfl (lv_at hl 2 rfl) ?_
  refine lv_iconst (v := (-1 : Int32)) hx hb dX10_capital_5 (by decide) ?_
  refine b_icmp_ne (tgt := 18) hx hb hf dX10_capital_6 (by decide) (fun hf => ?_) (fun hf => ?_)
  · exact t_X10_capital_18 C hxt htr hH (lv_sub hl [0, 1, 2, 3] rfl) hf
  · refine lv_iload_n hx hb dX10_capital_9 rfl (lv_at hl 3 rfl) ?_
    refine lv_iconst (v := (-1 : Int32)) hx hb dX10_capital_10 (by decide) ?_
    refine b_icmp_ne (tgt := 18) hx hb hf dX10_capital_11 (by decide) (fun hf => ?_) (fun hf => ?_)
    · exact t_X10_capital_18 C hxt htr hH (lv_sub hl [0, 1, 2, 3] rfl) hf
    · refine lv_iconst (v := (1 : Int32)) hx hb dX10_capital_14 (by decide) ?_
      refine lv_goto (tgt := 19) hx hb dX10_capital_15 (by decide) ?_
      exact t_X10_capital_19 C hxt htr isZ_1 hH (lv_sub hl [0, 1, 2, 3] rfl) hf
set_option maxRecDepth 100000 in
theorem c_X10_capital {l : Launch} {D : va_G} {B : Nat} {Y : Nat → ClassId} {v1 : Int32} {v2 : Int32} {v3 : Int32} {w : Wd} {r : (Nat ⊕ Unit)} {w1 : Wd} (htr : l.stackTraces = false)   (hf : f_X10_capital v1 v2 v3 w = some (r, w1)) : XM l D B Y yX10_capital cX10_capital 5 none 3 [.ref (B + 0), .int v1, .int v2, .int v3] w (zoV r) w1 True :=
  XM_of (by decide +kernel) (Nat.le_of_ble_eq_true rfl) (fun p e s m args below meth c ls C hxt hH hl => t_X10_capital_0 C hxt htr  hH (lv_sub hl [0, 1, 2, 3] rfl) hf)
/-! LetterTables.cellOf -/
set_option maxRecDepth 100000 in
set_option maxHeartbeats 4000000 in
theorem t_X10_cellOf_0 {D : va_G} {B : Nat} {Y : Nat → ClassId} {p : Program} {l : Launch} {e : Env} {s : State} {m : MethodId} {args : Array Value} {below : List Frame} {meth : Method} {c : Code} {z : (Int32 × Wd)} {H : Heap} {locs : List Loc} {ls : Array Slot} {w : Wd} {v0 : Nat} {v1 : Int32} {v2 : Int32} (C : CX D B Y p s m args meth c cX10_cellOf 3 RX10 (some .int))   (k_v0 : KD v0 = 20)  (hH : HS D B Y w s H locs) (hl : lv_has ls 3 [(0, .ref (B + v0)), (1, .int v1), (2, .int v2)]) (hf : f_X10_cellOf v0 v1 v2 w = some z) : W p l e (RM 0 0 0) s m args below meth c H locs 0 0 (MQ below (QG D B Y (some (.int z.1)) z.2 True) args s 0 0 (AB B)) (F0 m 0 ls []) := by
  have hx := C.1
  have hb := C.2.1
  unfold f_X10_cellOf at hf
  refine lv_iload_n hx hb dX10_cellOf_0 rfl (lv_at hl 1 rfl) ?_
  refine b_if_lt (tgt := 10) hx hb hf dX10_cellOf_1 (by decide) (fun hf => ?_) (fun hf => ?_)
  · refine lv_iload_n hx hb dX10_cellOf_10 rfl (lv_at hl 2 rfl) ?_
    refine lv_goto (tgt := 17) hx hb dX10_cellOf_11 (by decide) ?_
    cases hf
    exact q_reti C hH trivial dX10_cellOf_17
  · refine lv_iload_n hx hb dX10_cellOf_4 rfl (lv_at hl 1 rfl) ?_
    refine lv_aload_n hx hb dX10_cellOf_5 rfl (lv_at hl 0 rfl) ?_
    refine q_alen C hH (t0 := 0) (ci := 20) rfl (by omega) k_v0 dX10_cellOf_6 ?_
    refine b_icmp_lt (tgt := 14) hx hb hf dX10_cellOf_7 (by decide) (fun hf => ?_) (fun hf => ?_)
    · refine lv_aload_n hx hb dX10_cellOf_14 rfl (lv_at hl 0 rfl) ?_
      refine lv_iload_n hx hb dX10_cellOf_15 rfl (lv_at hl 1 rfl) ?_
      refine g_iald C hH k_v0 hf dX10_cellOf_16 (fun x1 hf => ?_)
      cases hf
      exact q_reti C hH trivial dX10_cellOf_17
    · refine lv_iload_n hx hb dX10_cellOf_10 rfl (lv_at hl 2 rfl) ?_
      refine lv_goto (tgt := 17) hx hb dX10_cellOf_11 (by decide) ?_
      cases hf
      exact q_reti C hH trivial dX10_cellOf_17
set_option maxRecDepth 100000 in
theorem c_X10_cellOf {l : Launch} {D : va_G} {B : Nat} {Y : Nat → ClassId} {v0 : Nat} {v1 : Int32} {v2 : Int32} {w : Wd} {r : Int32} {w1 : Wd} (k_v0 : KD v0 = 20)  (hf : f_X10_cellOf v0 v1 v2 w = some (r, w1)) : CM l D B Y yX10_cellOf cX10_cellOf 3 (some .int) 0 [.ref (B + v0), .int v1, .int v2] w (some (.int r)) w1 True :=
  CM_of (by decide +kernel) (Nat.le_of_ble_eq_true rfl) (fun p e s m args below meth c ls C hH hl => t_X10_cellOf_0 C k_v0 hH (lv_sub hl [0, 1, 2] rfl) hf)
/-! LetterTables$Tables.partnerOf -/
set_option maxRecDepth 100000 in
set_option maxHeartbeats 4000000 in
theorem t_X9_partnerOf_0 {D : va_G} {B : Nat} {Y : Nat → ClassId} {p : Program} {l : Launch} {e : Env} {s : State} {m : MethodId} {args : Array Value} {below : List Frame} {meth : Method} {c : Code} {z : (Int32 × Wd)} {H : Heap} {locs : List Loc} {ls : Array Slot} {w : Wd} {v0 : Nat} {v1 : Int32} (C : CX D B Y p s m args meth c cX9_partnerOf 2 RX9 (some .int))   (k_v0 : KD v0 = 9)  (hH : HS D B Y w s H locs) (hl : lv_has ls 2 [(0, .ref (B + v0)), (1, .int v1)]) (hf : f_X9_partnerOf v0 v1 w = some z) : W p l e (RM 1 0 0) s m args below meth c H locs 0 0 (MQ below (QG D B Y (some (.int z.1)) z.2 True) args s 0 0 (AB B)) (F0 m 0 ls []) := by
  have hx := C.1
  have hb := C.2.1
  unfold f_X9_partnerOf at hf
  refine lv_aload_n hx hb dX9_partnerOf_0 rfl (lv_at hl 0 rfl) ?_
  refine fg_X9_36 C hH k_v0 dX9_partnerOf_1 ?_
  refine lv_iload_n hx hb dX9_partnerOf_4 rfl (lv_at hl 1 rfl) ?_
  refine lv_iconst (v := (-1 : Int32)) hx hb dX9_partnerOf_5 (by decide) ?_
  obtain ⟨x2, w1, hc, hf⟩ := bd_some hf
  refine q_callN1 (v := .int x2) (As := [.ref (B + (v0 + 9)), .int v1, .int (-1 : Int32)]) C hH (List.mem_of_getElem? (i := 2) rfl) wd_573 wd_50 wd_572 yd_X10_cellOf (by omega) (by omega) (c_X10_cellOf (ko_9_8 k_v0) hc) hl.1 rfl (Nat.le_of_ble_eq_true rfl) dX9_partnerOf_6 xv_00 (fun H locs hH hP => ?_)
  cases hf
  exact q_reti C hH trivial dX9_partnerOf_9
set_option maxRecDepth 100000 in
theorem c_X9_partnerOf {l : Launch} {D : va_G} {B : Nat} {Y : Nat → ClassId} {v0 : Nat} {v1 : Int32} {w : Wd} {r : Int32} {w1 : Wd} (k_v0 : KD v0 = 9)  (hf : f_X9_partnerOf v0 v1 w = some (r, w1)) : CM l D B Y yX9_partnerOf cX9_partnerOf 2 (some .int) 1 [.ref (B + v0), .int v1] w (some (.int r)) w1 True :=
  CM_of (by decide +kernel) (Nat.le_of_ble_eq_true rfl) (fun p e s m args below meth c ls C hH hl => t_X9_partnerOf_0 C k_v0 hH (lv_sub hl [0, 1] rfl) hf)
/-! LetterTables$Tables.tellPartners -/
set_option maxRecDepth 100000 in
set_option maxHeartbeats 4000000 in
theorem t_X9_tellPartners_0 {D : va_G} {B : Nat} {Y : Nat → ClassId} {p : Program} {l : Launch} {e : Env} {s : State} {m : MethodId} {args : Array Value} {below : List Frame} {meth : Method} {c : Code} {z : (Unit × Wd)} {H : Heap} {locs : List Loc} {ls : Array Slot} {w : Wd} {v0 : Nat} {v1 : Int32} {v2 : Int32} (C : CX D B Y p s m args meth c cX9_tellPartners 3 RX9 none)   (k_v0 : KD v0 = 9)  (hH : HS D B Y w s H locs) (hl : lv_has ls 3 [(0, .ref (B + v0)), (1, .int v1), (2, .int v2)]) (hf : f_X9_tellPartners v0 v1 v2 w = some z) : W p l e (RM 1 0 0) s m args below meth c H locs 0 0 (MQ below (QG D B Y none z.2 True) args s 0 0 (AB B)) (F0 m 0 ls []) := by
  have hx := C.1
  have hb := C.2.1
  unfold f_X9_tellPartners at hf
  refine lv_aload_n hx hb dX9_tellPartners_0 rfl (lv_at hl 0 rfl) ?_
  refine fg_X9_36 C hH k_v0 dX9_tellPartners_1 ?_
  refine lv_iload_n hx hb dX9_tellPartners_4 rfl (lv_at hl 1 rfl) ?_
  refine lv_iload_n hx hb dX9_tellPartners_5 rfl (lv_at hl 2 rfl) ?_
  obtain ⟨u, w1, hc, hf⟩ := bd_some hf
  refine q_callN0 (As := [.ref (B + (v0 + 9)), .int v1, .int v2]) C hH (List.mem_of_getElem? (i := 1) rfl) wd_546 wd_50 wd_545 yd_X10_setCell (by omega) (by omega) (c_X10_setCell (ko_9_8 k_v0) hc) hl.1 rfl (Nat.le_of_ble_eq_true rfl) dX9_tellPartners_6 xv_00 (fun H locs hH hP => ?_)
  refine lv_aload_n hx hb dX9_tellPartners_9 rfl (lv_at hl 0 rfl) ?_
  refine fg_X9_36 C hH k_v0 dX9_tellPartners_10 ?_
  refine lv_iload_n hx hb dX9_tellPartners_13 rfl (lv_at hl 2 rfl) ?_
  refine lv_iload_n hx hb dX9_tellPartners_14 rfl (lv_at hl 1 rfl) ?_
  obtain ⟨u, w2, hc, hf⟩ := bd_some hf
  refine q_callN0 (As := [.ref (B + (v0 + 9)), .int v2, .int v1]) C hH (List.mem_of_getElem? (i := 1) rfl) wd_546 wd_50 wd_545 yd_X10_setCell (by omega) (by omega) (c_X10_setCell (ko_9_8 k_v0) hc) hl.1 rfl (Nat.le_of_ble_eq_true rfl) dX9_tellPartners_15 xv_00 (fun H locs hH hP => ?_)
  refine lv_aload_n hx hb dX9_tellPartners_18 rfl (lv_at hl 0 rfl) ?_
  refine fg_X9_39 C hH k_v0 dX9_tellPartners_19 ?_
  refine lv_iload_n hx hb dX9_tellPartners_22 rfl (lv_at hl 1 rfl) ?_
  refine lv_iconst (v := (1 : Int32)) hx hb dX9_tellPartners_23 (by decide) ?_
  obtain ⟨u, w3, hc, hf⟩ := bd_some hf
  refine q_callN0 (As := [.ref (B + (v0 + 10)), .int v1, .int (1 : Int32)]) C hH (List.mem_of_getElem? (i := 1) rfl) wd_546 wd_50 wd_545 yd_X10_setCell (by omega) (by omega) (c_X10_setCell (ko_9_9 k_v0) hc) hl.1 rfl (Nat.le_of_ble_eq_true rfl) dX9_tellPartners_24 xv_00 (fun H locs hH hP => ?_)
  refine lv_aload_n hx hb dX9_tellPartners_27 rfl (lv_at hl 0 rfl) ?_
  refine fg_X9_39 C hH k_v0 dX9_tellPartners_28 ?_
  refine lv_iload_n hx hb dX9_tellPartners_31 rfl (lv_at hl 2 rfl) ?_
  refine lv_iconst (v := (0 : Int32)) hx hb dX9_tellPartners_32 (by decide) ?_
  obtain ⟨u, w4, hc, hf⟩ := bd_some hf
  refine q_callN0 (As := [.ref (B + (v0 + 10)), .int v2, .int (0 : Int32)]) C hH (List.mem_of_getElem? (i := 1) rfl) wd_546 wd_50 wd_545 yd_X10_setCell (by omega) (by omega) (c_X10_setCell (ko_9_9 k_v0) hc) hl.1 rfl (Nat.le_of_ble_eq_true rfl) dX9_tellPartners_33 xv_00 (fun H locs hH hP => ?_)
  cases hf
  exact q_retv C hH trivial dX9_tellPartners_36
set_option maxRecDepth 100000 in
theorem c_X9_tellPartners {l : Launch} {D : va_G} {B : Nat} {Y : Nat → ClassId} {v0 : Nat} {v1 : Int32} {v2 : Int32} {w : Wd} {r : Unit} {w1 : Wd} (k_v0 : KD v0 = 9)  (hf : f_X9_tellPartners v0 v1 v2 w = some (r, w1)) : CM l D B Y yX9_tellPartners cX9_tellPartners 3 none 1 [.ref (B + v0), .int v1, .int v2] w none w1 True :=
  CM_of (by decide +kernel) (Nat.le_of_ble_eq_true rfl) (fun p e s m args below meth c ls C hH hl => t_X9_tellPartners_0 C k_v0 hH (lv_sub hl [0, 1, 2] rfl) hf)
/-! LetterTables.partners -/
set_option maxRecDepth 100000 in
set_option maxHeartbeats 4000000 in
theorem t_X10_partners_37 {D : va_G} {B : Nat} {Y : Nat → ClassId} {p : Program} {l : Launch} {e : Env} {s : State} {m : MethodId} {args : Array Value} {below : List Frame} {meth : Method} {c : Code} {z : ((Nat ⊕ Unit) × Wd)} {H : Heap} {locs : List Loc} {ls : Array Slot} {w : Wd}  (C : CX D B Y p s m args meth c cX10_partners 3 RX10 none) (hxt : ∀ x ∈ c.exceptionTable.toList, False) (htr : l.stackTraces = false)     (hH : HS D B Y w s H locs) (hl : lv_has ls 3 []) (hf : f_X10_partners_37 w = some z) : W p l e (RM 3 (xv (zoV z.1)) (6 * xv (zoV z.1))) s m args below meth c H locs 0 0 (vx_MQ below (QX D B Y (zoV z.1) z.2 True) (XX D B Y (zoV z.1) z.2) args s (xv (zoV z.1)) (6 * xv (zoV z.1)) (AB B)) (F0 m 37 ls []) := by
  have hx := C.1
  have hb := C.2.1
  unfold f_X10_partners_37 at hf
  cases hf
  exact q_throw C hH hxt htr (Or.inr (Or.inr rfl)) wd_574 wd_66 wd_584 (List.mem_of_getElem? (i := 2) rfl) hl.1 dX10_partners_37 dX10_partners_40 dX10_partners_41 dX10_partners_43 dX10_partners_46 (Nat.le_of_ble_eq_true rfl) (xv_1 rfl) (xv_6 rfl)
set_option maxRecDepth 100000 in
set_option maxHeartbeats 4000000 in
theorem t_X10_partners_0 {D : va_G} {B : Nat} {Y : Nat → ClassId} {p : Program} {l : Launch} {e : Env} {s : State} {m : MethodId} {args : Array Value} {below : List Frame} {meth : Method} {c : Code} {z : ((Nat ⊕ Unit) × Wd)} {H : Heap} {locs : List Loc} {ls : Array Slot} {w : Wd} {v1 : Int32} {v2 : Int32} (C : CX D B Y p s m args meth c cX10_partners 3 RX10 none) (hxt : ∀ x ∈ c.exceptionTable.toList, False) (htr : l.stackTraces = false)     (hH : HS D B Y w s H locs) (hl : lv_has ls 3 [(0, .ref (B + 0)), (1, .int v1), (2, .int v2)]) (hf : f_X10_partners v1 v2 w = some z) : W p l e (RM 3 (xv (zoV z.1)) (6 * xv (zoV z.1))) s m args below meth c H locs 0 0 (vx_MQ below (QX D B Y (zoV z.1) z.2 True) (XX D B Y (zoV z.1) z.2) args s (xv (zoV z.1)) (6 * xv (zoV z.1)) (AB B)) (F0 m 0 ls []) := by
  have hx := C.1
  have hb := C.2.1
  unfold f_X10_partners at hf
  refine lv_iload_n hx hb dX10_partners_0 rfl (lv_at hl 1 rfl) ?_
  rcases bdx_some hf with ⟨k, w1, hc, rfl⟩ | ⟨u, w1, hc, hf⟩
  · exact q_xrunX (k0 := k) (q_xS (As := [.int v1]) C hH gk_X10_124 yd_X10_checkLetter (by omega) (by omega) (c_X10_checkLetter (r := .inl k) htr hc) hl.1 rfl (Nat.le_of_ble_eq_true rfl) dX10_partners_1 (xv_le rfl)) hH (fun H locs ce q hH h1 h2 h3 => q_out C hH hxt h1 h2 h3 (xv_1 rfl) (xv_6 rfl))
  refine q_xrun (ov := none) (q_xS (As := [.int v1]) C hH gk_X10_124 yd_X10_checkLetter (by omega) (by omega) (c_X10_checkLetter (r := .inr u) htr hc) hl.1 rfl (Nat.le_of_ble_eq_true rfl) dX10_partners_1 (xv_0 rfl xv_00)) hH (fun H locs hH hP => ?_)
  refine lv_iload_n hx hb dX10_partners_4 rfl (lv_at hl 2 rfl) ?_
  rcases bdx_some hf with ⟨k, w2, hc, rfl⟩ | ⟨u, w2, hc, hf⟩
  · exact q_xrunX (k0 := k) (q_xS (As := [.int v2]) C hH gk_X10_124 yd_X10_checkLetter (by omega) (by omega) (c_X10_checkLetter (r := .inl k) htr hc) hl.1 rfl (Nat.le_of_ble_eq_true rfl) dX10_partners_5 (xv_le rfl)) hH (fun H locs ce q hH h1 h2 h3 => q_out C hH hxt h1 h2 h3 (xv_1 rfl) (xv_6 rfl))
  refine q_xrun (ov := none) (q_xS (As := [.int v2]) C hH gk_X10_124 yd_X10_checkLetter (by omega) (by omega) (c_X10_checkLetter (r := .inr u) htr hc) hl.1 rfl (Nat.le_of_ble_eq_true rfl) dX10_partners_5 (xv_0 rfl xv_00)) hH (fun H locs hH hP => ?_)
  refine lv_iload_n hx hb dX10_partners_8 rfl (lv_at hl 1 rfl) ?_
  refine lv_iload_n hx hb dX10_partners_9 rfl (lv_at hl 2 rfl) ?_
  refine b_icmp_eq (tgt := 37) hx hb hf dX10_partners_10 (by decide) (fun hf => ?_) (fun hf => ?_)
  · exact t_X10_partners_37 C hxt htr hH (lv_sub hl [] rfl) hf
  · refine lv_aload_n hx hb dX10_partners_13 rfl (lv_at hl 0 rfl) ?_
    refine fg_X10_12 C hH dX10_partners_14 ?_
    refine lv_iload_n hx hb dX10_partners_17 rfl (lv_at hl 1 rfl) ?_
    obtain ⟨x4, w3, hc, hf⟩ := bd_some hf
    refine q_callV1 (v := .int x4) (As := [.int v1]) C hH (ci := 9) rfl (by omega) gk_X10_141 yd_X9_partnerOf (by omega) (by omega) kc_1 (c_X9_partnerOf kc_1 hc) hl.1 rfl (Nat.le_of_ble_eq_true rfl) dX10_partners_18 xv_00 (fun H locs hH hP => ?_)
    refine lv_iconst (v := (-1 : Int32)) hx hb dX10_partners_21 (by decide) ?_
    refine b_icmp_ne (tgt := 37) hx hb hf dX10_partners_22 (by decide) (fun hf => ?_) (fun hf => ?_)
    · exact t_X10_partners_37 C hxt htr hH (lv_sub hl [] rfl) hf
    · refine lv_aload_n hx hb dX10_partners_25 rfl (lv_at hl 0 rfl) ?_
      refine fg_X10_12 C hH dX10_partners_26 ?_
      refine lv_iload_n hx hb dX10_partners_29 rfl (lv_at hl 2 rfl) ?_
      obtain ⟨x6, w5, hc, hf⟩ := bd_some hf
      refine q_callV1 (v := .int x6) (As := [.int v2]) C hH (ci := 9) rfl (by omega) gk_X10_141 yd_X9_partnerOf (by omega) (by omega) kc_1 (c_X9_partnerOf kc_1 hc) hl.1 rfl (Nat.le_of_ble_eq_true rfl) dX10_partners_30 xv_00 (fun H locs hH hP => ?_)
      refine lv_iconst (v := (-1 : Int32)) hx hb dX10_partners_33 (by decide) ?_
      refine b_icmp_eq (tgt := 47) hx hb hf dX10_partners_34 (by decide) (fun hf => ?_) (fun hf => ?_)
      · refine lv_aload_n hx hb dX10_partners_47 rfl (lv_at hl 0 rfl) ?_
        refine fg_X10_12 C hH dX10_partners_48 ?_
        refine lv_iload_n hx hb dX10_partners_51 rfl (lv_at hl 1 rfl) ?_
        refine lv_iload_n hx hb dX10_partners_52 rfl (lv_at hl 2 rfl) ?_
        obtain ⟨u, w7, hc, hf⟩ := bd_some hf
        refine q_callV0 (As := [.int v1, .int v2]) C hH (ci := 9) rfl (by omega) gk_X10_147 yd_X9_tellPartners (by omega) (by omega) kc_1 (c_X9_tellPartners kc_1 hc) hl.1 rfl (Nat.le_of_ble_eq_true rfl) dX10_partners_53 xv_00 (fun H locs hH hP => ?_)
        cases hf
        exact q_x0 rfl (q_retv C hH trivial dX10_partners_56)
      · exact t_X10_partners_37 C hxt htr hH (lv_sub hl [] rfl) hf
set_option maxRecDepth 100000 in
theorem c_X10_partners {l : Launch} {D : va_G} {B : Nat} {Y : Nat → ClassId} {v1 : Int32} {v2 : Int32} {w : Wd} {r : (Nat ⊕ Unit)} {w1 : Wd} (htr : l.stackTraces = false)   (hf : f_X10_partners v1 v2 w = some (r, w1)) : XM l D B Y yX10_partners cX10_partners 3 none 3 [.ref (B + 0), .int v1, .int v2] w (zoV r) w1 True :=
  XM_of (by decide +kernel) (Nat.le_of_ble_eq_true rfl) (fun p e s m args below meth c ls C hxt hH hl => t_X10_partners_0 C hxt htr  hH (lv_sub hl [0, 1, 2] rfl) hf)
/-! LetterTables$Tables.languageAt -/
set_option maxRecDepth 100000 in
set_option maxHeartbeats 4000000 in
theorem t_X9_languageAt_0 {D : va_G} {B : Nat} {Y : Nat → ClassId} {p : Program} {l : Launch} {e : Env} {s : State} {m : MethodId} {args : Array Value} {below : List Frame} {meth : Method} {c : Code} {z : (Option Nat × Wd)} {H : Heap} {locs : List Loc} {ls : Array Slot} {w : Wd} {v0 : Nat} {v1 : Int32} (C : CX D B Y p s m args meth c cX9_languageAt 2 RX9 (some (.object "LetterTables$Language")))   (k_v0 : KD v0 = 9)  (hH : HS D B Y w s H locs) (hl : lv_has ls 2 [(0, .ref (B + v0)), (1, .int v1)]) (hf : f_X9_languageAt v0 v1 w = some z) : W p l e (RM 0 0 0) s m args below meth c H locs 0 0 (MQ below (QG D B Y (some (vq B z.1)) z.2 (pQ 2 z.1)) args s 0 0 (AB B)) (F0 m 0 ls []) := by
  have hx := C.1
  have hb := C.2.1
  unfold f_X9_languageAt at hf
  refine lv_iload_n hx hb dX9_languageAt_0 rfl (lv_at hl 1 rfl) ?_
  refine b_if_lt (tgt := 13) hx hb hf dX9_languageAt_1 (by decide) (fun hf => ?_) (fun hf => ?_)
  · refine lv_null hx hb dX9_languageAt_13 ?_
    refine lv_goto (tgt := 23) hx hb dX9_languageAt_14 (by decide) ?_
    cases hf
    exact q_retn C hH trivial dX9_languageAt_23
  · refine lv_iload_n hx hb dX9_languageAt_4 rfl (lv_at hl 1 rfl) ?_
    refine lv_aload_n hx hb dX9_languageAt_5 rfl (lv_at hl 0 rfl) ?_
    refine fg_X9_48 C hH k_v0 dX9_languageAt_6 ?_
    refine q_alen C hH (t0 := 4) (ci := 24) rfl (by omega) (ko_9_10 k_v0) dX9_languageAt_9 ?_
    refine b_icmp_lt (tgt := 17) hx hb hf dX9_languageAt_10 (by decide) (fun hf => ?_) (fun hf => ?_)
    · refine lv_aload_n hx hb dX9_languageAt_17 rfl (lv_at hl 0 rfl) ?_
      refine fg_X9_48 C hH k_v0 dX9_languageAt_18 ?_
      refine lv_iload_n hx hb dX9_languageAt_21 rfl (lv_at hl 1 rfl) ?_
      refine g_aald C hH (t0 := 4) (ci := 24) (K := 2) rfl (by omega) (fun _ h => ka_24 (ko_9_10 k_v0) h) (ko_9_10 k_v0) hf dX9_languageAt_22 (fun r1 k_r1 hf => ?_)
      cases hf
      exact q_retr C hH k_r1 dX9_languageAt_23
    · refine lv_null hx hb dX9_languageAt_13 ?_
      refine lv_goto (tgt := 23) hx hb dX9_languageAt_14 (by decide) ?_
      cases hf
      exact q_retn C hH trivial dX9_languageAt_23
set_option maxRecDepth 100000 in
theorem c_X9_languageAt {l : Launch} {D : va_G} {B : Nat} {Y : Nat → ClassId} {v0 : Nat} {v1 : Int32} {w : Wd} {r : Option Nat} {w1 : Wd} (k_v0 : KD v0 = 9)  (hf : f_X9_languageAt v0 v1 w = some (r, w1)) : CM l D B Y yX9_languageAt cX9_languageAt 2 (some (.object "LetterTables$Language")) 0 [.ref (B + v0), .int v1] w (some (vq B r)) w1 (pQ 2 r) :=
  CM_of (by decide +kernel) (Nat.le_of_ble_eq_true rfl) (fun p e s m args below meth c ls C hH hl => t_X9_languageAt_0 C k_v0 hH (lv_sub hl [0, 1] rfl) hf)
/-! LetterTables.languageOf -/
set_option maxRecDepth 100000 in
set_option maxHeartbeats 4000000 in
theorem t_X10_languageOf_0 {D : va_G} {B : Nat} {Y : Nat → ClassId} {p : Program} {l : Launch} {e : Env} {s : State} {m : MethodId} {args : Array Value} {below : List Frame} {meth : Method} {c : Code} {z : ((Nat ⊕ Nat) × Wd)} {H : Heap} {locs : List Loc} {ls : Array Slot} {w : Wd} {v1 : Int32} (C : CX D B Y p s m args meth c cX10_languageOf 3 RX10 (some (.object "LetterTables$Language"))) (hxt : ∀ x ∈ c.exceptionTable.toList, False) (htr : l.stackTraces = false)     (hH : HS D B Y w s H locs) (hl : lv_has ls 3 [(0, .ref (B + 0)), (1, .int v1)]) (hf : f_X10_languageOf v1 w = some z) : W p l e (RM 1 (xv (zoR B z.1)) (6 * xv (zoR B z.1))) s m args below meth c H locs 0 0 (vx_MQ below (QX D B Y (zoR B z.1) z.2 (pK 2 z.1)) (XX D B Y (zoR B z.1) z.2) args s (xv (zoR B z.1)) (6 * xv (zoR B z.1)) (AB B)) (F0 m 0 ls []) := by
  have hx := C.1
  have hb := C.2.1
  unfold f_X10_languageOf at hf
  refine lv_aload_n hx hb dX10_languageOf_0 rfl (lv_at hl 0 rfl) ?_
  refine fg_X10_12 C hH dX10_languageOf_1 ?_
  refine lv_iload_n hx hb dX10_languageOf_4 rfl (lv_at hl 1 rfl) ?_
  rcases bdq_some hf with ⟨w2, hc, hf⟩ | ⟨r1, w3, hc, hf⟩
  · refine q_callV1 (v := .null) (As := [.int v1]) C hH (ci := 9) rfl (by omega) gk_X10_379 yd_X9_languageAt (by omega) (by omega) kc_1 (c_X9_languageAt kc_1 hc) hl.1 rfl (Nat.le_of_ble_eq_true rfl) dX10_languageOf_5 xv_00 (fun H locs hH hP => ?_)
    refine lv_astore_nN (lv' := [(2, .null), (0, .ref (B + 0)), (1, .int v1)]) hx hb dX10_languageOf_8 rfl hl (by decide) rfl (fun ls hl => ?_)
    refine lv_aload_nN hx hb dX10_languageOf_9 rfl (lv_at hl 0 rfl) ?_
    refine lv_ifnonnullN hx hb dX10_languageOf_10 ?_
    cases hf
    exact q_throwW C hH hxt htr (Or.inl rfl) wd_453 wd_64 wd_495 (List.mem_of_getElem? (i := 3) rfl) hl.1 dX10_languageOf_13 dX10_languageOf_16 dX10_languageOf_17 dX10_languageOf_20 dX10_languageOf_23 (Nat.le_of_ble_eq_true rfl) (xv_1 rfl) (xv_6 rfl)
  · refine q_callV1 (v := .ref (B + r1)) (As := [.int v1]) C hH (ci := 9) rfl (by omega) gk_X10_379 yd_X9_languageAt (by omega) (by omega) kc_1 (c_X9_languageAt kc_1 hc) hl.1 rfl (Nat.le_of_ble_eq_true rfl) dX10_languageOf_5 xv_00 (fun H locs hH k_r1 => ?_)
    refine lv_astore_n (lv' := [(2, .ref (B + r1)), (0, .ref (B + 0)), (1, .int v1)]) hx hb dX10_languageOf_8 rfl hl (by decide) rfl (fun ls hl => ?_)
    refine lv_aload_n hx hb dX10_languageOf_9 rfl (lv_at hl 0 rfl) ?_
    refine lv_ifnonnull (tgt := 24) hx hb dX10_languageOf_10 (by decide) ?_
    refine lv_aload_n hx hb dX10_languageOf_24 rfl (lv_at hl 0 rfl) ?_
    cases hf
    exact q_x0 rfl (q_retr C hH k_r1 dX10_languageOf_25)
set_option maxRecDepth 100000 in
theorem c_X10_languageOf {l : Launch} {D : va_G} {B : Nat} {Y : Nat → ClassId} {v1 : Int32} {w : Wd} {r : (Nat ⊕ Nat)} {w1 : Wd} (htr : l.stackTraces = false)   (hf : f_X10_languageOf v1 w = some (r, w1)) : XM l D B Y yX10_languageOf cX10_languageOf 3 (some (.object "LetterTables$Language")) 1 [.ref (B + 0), .int v1] w (zoR B r) w1 (pK 2 r) :=
  XM_of (by decide +kernel) (Nat.le_of_ble_eq_true rfl) (fun p e s m args below meth c ls C hxt hH hl => t_X10_languageOf_0 C hxt htr  hH (lv_sub hl [0, 1] rfl) hf)
/-! LetterTables.checkWeights -/
set_option maxRecDepth 100000 in
set_option maxHeartbeats 4000000 in
theorem t_X10_checkWeights_35 {D : va_G} {B : Nat} {Y : Nat → ClassId} {p : Program} {l : Launch} {e : Env} {s : State} {m : MethodId} {args : Array Value} {below : List Frame} {meth : Method} {c : Code} {z : ((Nat ⊕ Unit) × Wd)} {H : Heap} {locs : List Loc} {ls : Array Slot} {w : Wd} {t0 : Int32} (C : CX D B Y p s m args meth c cX10_checkWeights 3 RX10 none) (hxt : ∀ x ∈ c.exceptionTable.toList, False) (htr : l.stackTraces = false)    (z_t0 : isZ t0) (hH : HS D B Y w s H locs) (hl : lv_has ls 3 []) (hf : f_X10_checkWeights_35 t0 w = some z) : W p l e (RM 1 (xv (zoV z.1)) (6 * xv (zoV z.1))) s m args below meth c H locs 0 0 (vx_MQ below (QX D B Y (zoV z.1) z.2 True) (XX D B Y (zoV z.1) z.2) args s (xv (zoV z.1)) (6 * xv (zoV z.1)) (AB B)) (F0 m 35 ls [.int t0]) := by
  have hx := C.1
  have hb := C.2.1
  unfold f_X10_checkWeights_35 at hf
  rcases bdx_some hf with ⟨k, w1, hc, rfl⟩ | ⟨u, w1, hc, hf⟩
  · exact q_xrunX (k0 := k) (q_xS (As := [.int t0]) C hH gk_X10_103 yd_X10_checkArgument (by omega) (by omega) (c_X10_checkArgument (r := .inl k) htr z_t0 hc) hl.1 rfl (Nat.le_of_ble_eq_true rfl) dX10_checkWeights_35 (xv_le rfl)) hH (fun H locs ce q hH h1 h2 h3 => q_out C hH hxt h1 h2 h3 (xv_1 rfl) (xv_6 rfl))
  refine q_xrun (ov := none) (q_xS (As := [.int t0]) C hH gk_X10_103 yd_X10_checkArgument (by omega) (by omega) (c_X10_checkArgument (r := .inr u) htr z_t0 hc) hl.1 rfl (Nat.le_of_ble_eq_true rfl) dX10_checkWeights_35 (xv_0 rfl xv_00)) hH (fun H locs hH hP => ?_)
  cases hf
  exact q_x0 rfl (q_retv C hH trivial dX10_checkWeights_38)
set_option maxRecDepth 100000 in
set_option maxHeartbeats 4000000 in
theorem t_X10_checkWeights_34 {D : va_G} {B : Nat} {Y : Nat → ClassId} {p : Program} {l : Launch} {e : Env} {s : State} {m : MethodId} {args : Array Value} {below : List Frame} {meth : Method} {c : Code} {z : ((Nat ⊕ Unit) × Wd)} {H : Heap} {locs : List Loc} {ls : Array Slot} {w : Wd}  (C : CX D B Y p s m args meth c cX10_checkWeights 3 RX10 none) (hxt : ∀ x ∈ c.exceptionTable.toList, False) (htr : l.stackTraces = false)     (hH : HS D B Y w s H locs) (hl : lv_has ls 3 []) (hf : f_X10_checkWeights_34 w = some z) : W p l e (RM 1 (xv (zoV z.1)) (6 * xv (zoV z.1))) s m args below meth c H locs 0 0 (vx_MQ below (QX D B Y (zoV z.1) z.2 True) (XX D B Y (zoV z.1) z.2) args s (xv (zoV z.1)) (6 * xv (zoV z.1)) (AB B)) (F0 m 34 ls []) := by
  have hx := C.1
  have hb := C.2.1
  unfold f_X10_checkWeights_34 at hf
  refine lv_iconst (v := (0 : Int32)) hx hb dX10_checkWeights_34 (by decide) ?_
  exact t_X10_checkWeights_35 C hxt htr isZ_0 hH (lv_sub hl [] rfl) hf
set_option maxRecDepth 100000 in
set_option maxHeartbeats 4000000 in
theorem t_X10_checkWeights_0 {D : va_G} {B : Nat} {Y : Nat → ClassId} {p : Program} {l : Launch} {e : Env} {s : State} {m : MethodId} {args : Array Value} {below : List Frame} {meth : Method} {c : Code} {z : ((Nat ⊕ Unit) × Wd)} {H : Heap} {locs : List Loc} {ls : Array Slot} {w : Wd} {v0 : Int32} {v1 : Int32} {v2 : Int32} (C : CX D B Y p s m args meth c cX10_checkWeights 3 RX10 none) (hxt : ∀ x ∈ c.exceptionTable.toList, False) (htr : l.stackTraces = false)     (hH : HS D B Y w s H locs) (hl : lv_has ls 3 [(0, .int v0), (1, .int v1), (2, .int v2)]) (hf : f_X10_checkWeights v0 v1 v2 w = some z) : W p l e (RM 1 (xv (zoV z.1)) (6 * xv (zoV z.1))) s m args below meth c H locs 0 0 (vx_MQ below (QX D B Y (zoV z.1) z.2 True) (XX D B Y (zoV z.1) z.2) args s (xv (zoV z.1)) (6 * xv (zoV z.1)) (AB B)) (F0 m 0 ls []) := by
  have hx := C.1
  have hb := C.2.1
  unfold f_X10_checkWeights at hf
  refine lv_iload_n hx hb dX10_checkWeights_0 rfl (lv_at hl 0 rfl) ?_
  refine lv_iconst (v := (0 : Int32)) hx hb dX10_checkWeights_1 (by decide) ?_
  refine lv_bipush (v := (99 : Int32)) hx hb dX10_checkWeights_2 (by decide) ?_
  obtain ⟨x2, w1, hc, hf⟩ := bd_some hf
  refine q_callS1 (v := .int x2) (As := [.int v0, .int (0 : Int32), .int (99 : Int32)]) C hH gk_X10_99 yd_X10_isWithin (by omega) (by omega) (c_X10_isWithin hc) hl.1 rfl (Nat.le_of_ble_eq_true rfl) dX10_checkWeights_4 xv_00 (fun H locs hH z_x2 => ?_)
  refine b_if_eq (tgt := 34) hx hb hf dX10_checkWeights_7 (by decide) (fun hf => ?_) (fun hf => ?_)
  · exact t_X10_checkWeights_34 C hxt htr hH (lv_sub hl [] rfl) hf
  · refine lv_iload_n hx hb dX10_checkWeights_10 rfl (lv_at hl 1 rfl) ?_
    refine lv_iconst (v := (0 : Int32)) hx hb dX10_checkWeights_11 (by decide) ?_
    refine lv_bipush (v := (9 : Int32)) hx hb dX10_checkWeights_12 (by decide) ?_
    obtain ⟨x4, w3, hc, hf⟩ := bd_some hf
    refine q_callS1 (v := .int x4) (As := [.int v1, .int (0 : Int32), .int (9 : Int32)]) C hH gk_X10_99 yd_X10_isWithin (by omega) (by omega) (c_X10_isWithin hc) hl.1 rfl (Nat.le_of_ble_eq_true rfl) dX10_checkWeights_14 xv_00 (fun H locs hH z_x4 => ?_)
    refine b_if_eq (tgt := 34) hx hb hf dX10_checkWeights_17 (by decide) (fun hf => ?_) (fun hf => ?_)
    · exact t_X10_checkWeights_34 C hxt htr hH (lv_sub hl [] rfl) hf
    · refine lv_iload_n hx hb dX10_checkWeights_20 rfl (lv_at hl 2 rfl) ?_
      refine lv_iconst (v := (0 : Int32)) hx hb dX10_checkWeights_21 (by decide) ?_
      refine lv_bipush (v := (9 : Int32)) hx hb dX10_checkWeights_22 (by decide) ?_
      obtain ⟨x6, w5, hc, hf⟩ := bd_some hf
      refine q_callS1 (v := .int x6) (As := [.int v2, .int (0 : Int32), .int (9 : Int32)]) C hH gk_X10_99 yd_X10_isWithin (by omega) (by omega) (c_X10_isWithin hc) hl.1 rfl (Nat.le_of_ble_eq_true rfl) dX10_checkWeights_24 xv_00 (fun H locs hH z_x6 => ?_)
      refine b_if_eq (tgt := 34) hx hb hf dX10_checkWeights_27 (by decide) (fun hf => ?_) (fun hf => ?_)
      · exact t_X10_checkWeights_34 C hxt htr hH (lv_sub hl [] rfl) hf
      · refine lv_iconst (v := (1 : Int32)) hx hb dX10_checkWeights_30 (by decide) ?_
        refine lv_goto (tgt := 35) hx hb dX10_checkWeights_31 (by decide) ?_
        exact t_X10_checkWeights_35 C hxt htr isZ_1 hH (lv_sub hl [] rfl) hf
set_option maxRecDepth 100000 in
theorem c_X10_checkWeights {l : Launch} {D : va_G} {B : Nat} {Y : Nat → ClassId} {v0 : Int32} {v1 : Int32} {v2 : Int32} {w : Wd} {r : (Nat ⊕ Unit)} {w1 : Wd} (htr : l.stackTraces = false)   (hf : f_X10_checkWeights v0 v1 v2 w = some (r, w1)) : XM l D B Y yX10_checkWeights cX10_checkWeights 3 none 1 [.int v0, .int v1, .int v2] w (zoV r) w1 True :=
  XM_of (by decide +kernel) (Nat.le_of_ble_eq_true rfl) (fun p e s m args below meth c ls C hxt hH hl => t_X10_checkWeights_0 C hxt htr  hH (lv_sub hl [0, 1, 2] rfl) hf)
/-! LetterTables$Language.weighUnit -/
set_option maxRecDepth 100000 in
set_option maxHeartbeats 4000000 in
theorem t_X2_weighUnit_0 {D : va_G} {B : Nat} {Y : Nat → ClassId} {p : Program} {l : Launch} {e : Env} {s : State} {m : MethodId} {args : Array Value} {below : List Frame} {meth : Method} {c : Code} {z : (Unit × Wd)} {H : Heap} {locs : List Loc} {ls : Array Slot} {w : Wd} {v0 : Nat} {v1 : Int32} {v2 : Int32} {v3 : Int32} {v4 : Int32} (C : CX D B Y p s m args meth c cX2_weighUnit 5 RX2 none)   (k_v0 : KD v0 = 2)  (hH : HS D B Y w s H locs) (hl : lv_has ls 5 [(0, .ref (B + v0)), (1, .int v1), (2, .int v2), (3, .int v3), (4, .int v4)]) (hf : f_X2_weighUnit v0 v1 v2 v3 v4 w = some z) : W p l e (RM 1 0 0) s m args below meth c H locs 0 0 (MQ below (QG D B Y none z.2 True) args s 0 0 (AB B)) (F0 m 0 ls []) := by
  have hx := C.1
  have hb := C.2.1
  unfold f_X2_weighUnit at hf
  refine lv_aload_n hx hb dX2_weighUnit_0 rfl (lv_at hl 0 rfl) ?_
  refine fg_X2_9 C hH k_v0 dX2_weighUnit_1 ?_
  refine lv_iload_n hx hb dX2_weighUnit_4 rfl (lv_at hl 1 rfl) ?_
  refine lv_iload_n hx hb dX2_weighUnit_5 rfl (lv_at hl 2 rfl) ?_
  obtain ⟨u, w1, hc, hf⟩ := bd_some hf
  refine q_callN0 (As := [.ref (B + (v0 + 1)), .int v1, .int v2]) C hH (List.mem_of_getElem? (i := 3) rfl) wd_546 wd_50 wd_545 yd_X10_setCell (by omega) (by omega) (c_X10_setCell (ko_2_0 k_v0) hc) hl.1 rfl (Nat.le_of_ble_eq_true rfl) dX2_weighUnit_6 xv_00 (fun H locs hH hP => ?_)
  refine lv_aload_n hx hb dX2_weighUnit_9 rfl (lv_at hl 0 rfl) ?_
  refine fg_X2_15 C hH k_v0 dX2_weighUnit_10 ?_
  refine lv_iload_n hx hb dX2_weighUnit_13 rfl (lv_at hl 1 rfl) ?_
  refine lv_iload_n hx hb dX2_weighUnit_14 rfl (lv_at hl 3 rfl) ?_
  obtain ⟨u, w2, hc, hf⟩ := bd_some hf
  refine q_callN0 (As := [.ref (B + (v0 + 2)), .int v1, .int v3]) C hH (List.mem_of_getElem? (i := 3) rfl) wd_546 wd_50 wd_545 yd_X10_setCell (by omega) (by omega) (c_X10_setCell (ko_2_1 k_v0) hc) hl.1 rfl (Nat.le_of_ble_eq_true rfl) dX2_weighUnit_15 xv_00 (fun H locs hH hP => ?_)
  refine lv_aload_n hx hb dX2_weighUnit_18 rfl (lv_at hl 0 rfl) ?_
  refine fg_X2_18 C hH k_v0 dX2_weighUnit_19 ?_
  refine lv_iload_n hx hb dX2_weighUnit_22 rfl (lv_at hl 1 rfl) ?_
  refine lv_iload hx hb dX2_weighUnit_23 (lv_at hl 4 rfl) ?_
  obtain ⟨u, w3, hc, hf⟩ := bd_some hf
  refine q_callN0 (As := [.ref (B + (v0 + 3)), .int v1, .int v4]) C hH (List.mem_of_getElem? (i := 3) rfl) wd_546 wd_50 wd_545 yd_X10_setCell (by omega) (by omega) (c_X10_setCell (ko_2_2 k_v0) hc) hl.1 rfl (Nat.le_of_ble_eq_true rfl) dX2_weighUnit_25 xv_00 (fun H locs hH hP => ?_)
  cases hf
  exact q_retv C hH trivial dX2_weighUnit_28
set_option maxRecDepth 100000 in
theorem c_X2_weighUnit {l : Launch} {D : va_G} {B : Nat} {Y : Nat → ClassId} {v0 : Nat} {v1 : Int32} {v2 : Int32} {v3 : Int32} {v4 : Int32} {w : Wd} {r : Unit} {w1 : Wd} (k_v0 : KD v0 = 2)  (hf : f_X2_weighUnit v0 v1 v2 v3 v4 w = some (r, w1)) : CM l D B Y yX2_weighUnit cX2_weighUnit 5 none 1 [.ref (B + v0), .int v1, .int v2, .int v3, .int v4] w none w1 True :=
  CM_of (by decide +kernel) (Nat.le_of_ble_eq_true rfl) (fun p e s m args below meth c ls C hH hl => t_X2_weighUnit_0 C k_v0 hH (lv_sub hl [0, 1, 2, 3, 4] rfl) hf)
/-! LetterTables.weigh -/
set_option maxRecDepth 100000 in
set_option maxHeartbeats 4000000 in
theorem t_X10_weigh_0 {D : va_G} {B : Nat} {Y : Nat → ClassId} {p : Program} {l : Launch} {e : Env} {s : State} {m : MethodId} {args : Array Value} {below : List Frame} {meth : Method} {c : Code} {z : ((Nat ⊕ Unit) × Wd)} {H : Heap} {locs : List Loc} {ls : Array Slot} {w : Wd} {v1 : Int32} {v2 : Int32} {v3 : Int32} {v4 : Int32} {v5 : Int32} (C : CX D B Y p s m args meth c cX10_weigh 7 RX10 none) (hxt : ∀ x ∈ c.exceptionTable.toList, False) (htr : l.stackTraces = false)     (hH : HS D B Y w s H locs) (hl : lv_has ls 7 [(0, .ref (B + 0)), (1, .int v1), (2, .int v2), (3, .int v3), (4, .int v4), (5, .int v5)]) (hf : f_X10_weigh v1 v2 v3 v4 v5 w = some z) : W p l e (RM 3 (xv (zoV z.1)) (6 * xv (zoV z.1))) s m args below meth c H locs 0 0 (vx_MQ below (QX D B Y (zoV z.1) z.2 True) (XX D B Y (zoV z.1) z.2) args s (xv (zoV z.1)) (6 * xv (zoV z.1)) (AB B)) (F0 m 0 ls []) := by
  have hx := C.1
  have hb := C.2.1
  unfold f_X10_weigh at hf
  refine lv_aload_n hx hb dX10_weigh_0 rfl (lv_at hl 0 rfl) ?_
  refine lv_iload_n hx hb dX10_weigh_1 rfl (lv_at hl 1 rfl) ?_
  rcases bdx_some hf with ⟨k, w1, hc, rfl⟩ | ⟨r2, w1, hc, hf⟩
  · exact q_xrunX (k0 := k) (q_xV (As := [.int v1]) C hH (ci := 10) rfl (by omega) gk_X10_151 yd_X10_languageOf (by omega) (by omega) kc_0 (c_X10_languageOf (r := .inl k) htr hc) hl.1 rfl (Nat.le_of_ble_eq_true rfl) dX10_weigh_2 (xv_le rfl)) hH (fun H locs ce q hH h1 h2 h3 => q_out C hH hxt h1 h2 h3 (xv_1 rfl) (xv_6 rfl))
  refine q_xrun (ov := some (.ref (B + r2))) (q_xV (As := [.int v1]) C hH (ci := 10) rfl (by omega) gk_X10_151 yd_X10_languageOf (by omega) (by omega) kc_0 (c_X10_languageOf (r := .inr r2) htr hc) hl.1 rfl (Nat.le_of_ble_eq_true rfl) dX10_weigh_2 (xv_0 rfl xv_00)) hH (fun H locs hH k_r2 => ?_)
  refine lv_astore (lv' := [(6, .ref (B + r2)), (0, .ref (B + 0)), (1, .int v1), (2, .int v2), (3, .int v3), (4, .int v4), (5, .int v5)]) hx hb dX10_weigh_5 hl (by decide) rfl (fun ls hl => ?_)
  refine lv_iload_n hx hb dX10_weigh_7 rfl (lv_at hl 3 rfl) ?_
  rcases bdx_some hf with ⟨k, w3, hc, rfl⟩ | ⟨u, w3, hc, hf⟩
  · exact q_xrunX (k0 := k) (q_xS (As := [.int v2]) C hH gk_X10_124 yd_X10_checkLetter (by omega) (by omega) (c_X10_checkLetter (r := .inl k) htr hc) hl.1 rfl (Nat.le_of_ble_eq_true rfl) dX10_weigh_8 (xv_le rfl)) hH (fun H locs ce q hH h1 h2 h3 => q_out C hH hxt h1 h2 h3 (xv_1 rfl) (xv_6 rfl))
  refine q_xrun (ov := none) (q_xS (As := [.int v2]) C hH gk_X10_124 yd_X10_checkLetter (by omega) (by omega) (c_X10_checkLetter (r := .inr u) htr hc) hl.1 rfl (Nat.le_of_ble_eq_true rfl) dX10_weigh_8 (xv_0 rfl xv_00)) hH (fun H locs hH hP => ?_)
  refine lv_iload_n hx hb dX10_weigh_11 rfl (lv_at hl 4 rfl) ?_
  refine lv_iload hx hb dX10_weigh_12 (lv_at hl 5 rfl) ?_
  refine lv_iload hx hb dX10_weigh_14 (lv_at hl 6 rfl) ?_
  rcases bdx_some hf with ⟨k, w4, hc, rfl⟩ | ⟨u, w4, hc, hf⟩
  · exact q_xrunX (k0 := k) (q_xS (As := [.int v3, .int v4, .int v5]) C hH gk_X10_155 yd_X10_checkWeights (by omega) (by omega) (c_X10_checkWeights (r := .inl k) htr hc) hl.1 rfl (Nat.le_of_ble_eq_true rfl) dX10_weigh_16 (xv_le rfl)) hH (fun H locs ce q hH h1 h2 h3 => q_out C hH hxt h1 h2 h3 (xv_1 rfl) (xv_6 rfl))
  refine q_xrun (ov := none) (q_xS (As := [.int v3, .int v4, .int v5]) C hH gk_X10_155 yd_X10_checkWeights (by omega) (by omega) (c_X10_checkWeights (r := .inr u) htr hc) hl.1 rfl (Nat.le_of_ble_eq_true rfl) dX10_weigh_16 (xv_0 rfl xv_00)) hH (fun H locs hH hP => ?_)
  refine lv_aload hx hb dX10_weigh_19 (lv_at hl 0 rfl) ?_
  refine lv_iload_n hx hb dX10_weigh_21 rfl (lv_at hl 3 rfl) ?_
  refine lv_iload_n hx hb dX10_weigh_22 rfl (lv_at hl 4 rfl) ?_
  refine lv_iload hx hb dX10_weigh_23 (lv_at hl 5 rfl) ?_
  refine lv_iload hx hb dX10_weigh_25 (lv_at hl 6 rfl) ?_
  obtain ⟨u, w5, hc, hf⟩ := bd_some hf
  refine q_callV0 (As := [.int v2, .int v3, .int v4, .int v5]) C hH (ci := 2) rfl (by omega) gk_X10_158 yd_X2_weighUnit (by omega) (by omega) k_r2 (c_X2_weighUnit k_r2 hc) hl.1 rfl (Nat.le_of_ble_eq_true rfl) dX10_weigh_27 xv_00 (fun H locs hH hP => ?_)
  cases hf
  exact q_x0 rfl (q_retv C hH trivial dX10_weigh_30)
set_option maxRecDepth 100000 in
theorem c_X10_weigh {l : Launch} {D : va_G} {B : Nat} {Y : Nat → ClassId} {v1 : Int32} {v2 : Int32} {v3 : Int32} {v4 : Int32} {v5 : Int32} {w : Wd} {r : (Nat ⊕ Unit)} {w1 : Wd} (htr : l.stackTraces = false)   (hf : f_X10_weigh v1 v2 v3 v4 v5 w = some (r, w1)) : XM l D B Y yX10_weigh cX10_weigh 7 none 3 [.ref (B + 0), .int v1, .int v2, .int v3, .int v4, .int v5] w (zoV r) w1 True :=
  XM_of (by decide +kernel) (Nat.le_of_ble_eq_true rfl) (fun p e s m args below meth c ls C hxt hH hl => t_X10_weigh_0 C hxt htr  hH (lv_sub hl [0, 1, 2, 3, 4, 5] rfl) hf)
/-! LetterTables$Row.get -/
set_option maxRecDepth 100000 in
set_option maxHeartbeats 4000000 in
theorem t_X7_get_0 {D : va_G} {B : Nat} {Y : Nat → ClassId} {p : Program} {l : Launch} {e : Env} {s : State} {m : MethodId} {args : Array Value} {below : List Frame} {meth : Method} {c : Code} {z : (Int32 × Wd)} {H : Heap} {locs : List Loc} {ls : Array Slot} {w : Wd} {v0 : Nat} {v1 : Int32} (C : CX D B Y p s m args meth c cX7_get 2 RX7 (some .int))   (k_v0 : KD v0 = 7)  (hH : HS D B Y w s H locs) (hl : lv_has ls 2 [(0, .ref (B + v0)), (1, .int v1)]) (hf : f_X7_get v0 v1 w = some z) : W p l e (RM 0 0 0) s m args below meth c H locs 0 0 (MQ below (QG D B Y (some (.int z.1)) z.2 True) args s 0 0 (AB B)) (F0 m 0 ls []) := by
  have hx := C.1
  have hb := C.2.1
  unfold f_X7_get at hf
  refine lv_iload_n hx hb dX7_get_0 rfl (lv_at hl 1 rfl) ?_
  refine b_if_lt (tgt := 21) hx hb hf dX7_get_1 (by decide) (fun hf => ?_) (fun hf => ?_)
  · refine lv_iconst (v := (-1 : Int32)) hx hb dX7_get_21 (by decide) ?_
    refine lv_goto (tgt := 31) hx hb dX7_get_22 (by decide) ?_
    cases hf
    exact q_reti C hH trivial dX7_get_31
  · refine lv_iload_n hx hb dX7_get_4 rfl (lv_at hl 1 rfl) ?_
    refine lv_aload_n hx hb dX7_get_5 rfl (lv_at hl 0 rfl) ?_
    refine fg_X7_15 C hH k_v0 dX7_get_6 ?_
    refine b_icmp_ge (tgt := 21) hx hb hf dX7_get_9 (by decide) (fun hf => ?_) (fun hf => ?_)
    · refine lv_iconst (v := (-1 : Int32)) hx hb dX7_get_21 (by decide) ?_
      refine lv_goto (tgt := 31) hx hb dX7_get_22 (by decide) ?_
      cases hf
      exact q_reti C hH trivial dX7_get_31
    · refine lv_iload_n hx hb dX7_get_12 rfl (lv_at hl 1 rfl) ?_
      refine lv_aload_n hx hb dX7_get_13 rfl (lv_at hl 0 rfl) ?_
      refine fg_X7_9 C hH k_v0 dX7_get_14 ?_
      refine q_alen C hH (t0 := 0) (ci := 20) rfl (by omega) (ko_7_0 k_v0) dX7_get_17 ?_
      refine b_icmp_lt (tgt := 25) hx hb hf dX7_get_18 (by decide) (fun hf => ?_) (fun hf => ?_)
      · refine lv_aload_n hx hb dX7_get_25 rfl (lv_at hl 0 rfl) ?_
        refine fg_X7_9 C hH k_v0 dX7_get_26 ?_
        refine lv_iload_n hx hb dX7_get_29 rfl (lv_at hl 1 rfl) ?_
        refine g_iald C hH (ko_7_0 k_v0) hf dX7_get_30 (fun x1 hf => ?_)
        cases hf
        exact q_reti C hH trivial dX7_get_31
      · refine lv_iconst (v := (-1 : Int32)) hx hb dX7_get_21 (by decide) ?_
        refine lv_goto (tgt := 31) hx hb dX7_get_22 (by decide) ?_
        cases hf
        exact q_reti C hH trivial dX7_get_31
set_option maxRecDepth 100000 in
theorem c_X7_get {l : Launch} {D : va_G} {B : Nat} {Y : Nat → ClassId} {v0 : Nat} {v1 : Int32} {w : Wd} {r : Int32} {w1 : Wd} (k_v0 : KD v0 = 7)  (hf : f_X7_get v0 v1 w = some (r, w1)) : CM l D B Y yX7_get cX7_get 2 (some .int) 0 [.ref (B + v0), .int v1] w (some (.int r)) w1 True :=
  CM_of (by decide +kernel) (Nat.le_of_ble_eq_true rfl) (fun p e s m args below meth c ls C hH hl => t_X7_get_0 C k_v0 hH (lv_sub hl [0, 1] rfl) hf)
/-! LetterTables$Language.contractionOf -/
set_option maxRecDepth 100000 in
set_option maxHeartbeats 4000000 in
theorem tb_X2_contractionOf_2 {D : va_G} {B : Nat} {Y : Nat → ClassId} {p : Program} {l : Launch} {e : Env} {s : State} {m : MethodId} {args : Array Value} {below : List Frame} {meth : Method} {c : Code} {z : (Int32 × Wd)} {H : Heap} {locs : List Loc} {ls : Array Slot} {w : Wd} {v0 : Nat} {v1 : Int32} {v2 : Int32} {v3 : Int32} (C : CX D B Y p s m args meth c cX2_contractionOf 4 RX2 (some .int))  {rc_2 : Nat × Int32 × Int32 × Int32 × Wd → Option (Int32 × Wd)} (hr_2 : ∀ (v0 : Nat) (v1 : Int32) (v2 : Int32) (v3 : Int32) (w : Wd), rc_2 (v0, v1, v2, v3, w) = some z → KD v0 = 2 → ∀ (H : Heap) (locs : List Loc) (ls : Array Slot), HS D B Y w s H locs → lv_has ls 4 [(0, .ref (B + v0)), (1, .int v1), (2, .int v2), (3, .int v3)] → W p l e (RM 1 0 0) s m args below meth c H locs 0 0 (MQ below (QG D B Y (some (.int z.1)) z.2 True) args s 0 0 (AB B)) (F0 m 2 ls []))  (k_v0 : KD v0 = 2)  (hH : HS D B Y w s H locs) (hl : lv_has ls 4 [(0, .ref (B + v0)), (1, .int v1), (2, .int v2), (3, .int v3)]) (hf : g_X2_contractionOf_2 rc_2 v0 v1 v2 v3 w = some z) : W p l e (RM 1 0 0) s m args below meth c H locs 0 0 (MQ below (QG D B Y (some (.int z.1)) z.2 True) args s 0 0 (AB B)) (F0 m 2 ls []) := by
  have hx := C.1
  have hb := C.2.1
  unfold g_X2_contractionOf_2 at hf
  refine lv_iload_n hx hb dX2_contractionOf_2 rfl (lv_at hl 3 rfl) ?_
  refine lv_aload_n hx hb dX2_contractionOf_3 rfl (lv_at hl 0 rfl) ?_
  refine fg_X2_26 C hH k_v0 dX2_contractionOf_4 ?_
  obtain ⟨x2, w1, hc, hf⟩ := bd_some hf
  refine q_callV1 (v := .int x2) (As := []) C hH (ci := 7) rfl (by omega) gk_X2_60 yd_X7_size (by omega) (by omega) (ko_2_3 k_v0) (c_X7_size (ko_2_3 k_v0) hc) hl.1 rfl (Nat.le_of_ble_eq_true rfl) dX2_contractionOf_7 xv_00 (fun H locs hH hP => ?_)
  refine b_icmp_ge (tgt := 48) hx hb hf dX2_contractionOf_10 (by decide) (fun hf => ?_) (fun hf => ?_)
  · refine lv_iconst (v := (-1 : Int32)) hx hb dX2_contractionOf_48 (by decide) ?_
    cases hf
    exact q_reti C hH trivial dX2_contractionOf_49
  · refine lv_aload_n hx hb dX2_contractionOf_13 rfl (lv_at hl 0 rfl) ?_
    refine fg_X2_26 C hH k_v0 dX2_contractionOf_14 ?_
    refine lv_iload_n hx hb dX2_contractionOf_17 rfl (lv_at hl 3 rfl) ?_
    obtain ⟨x4, w3, hc, hf⟩ := bd_some hf
    refine q_callV1 (v := .int x4) (As := [.int v3]) C hH (ci := 7) rfl (by omega) gk_X2_64 yd_X7_get (by omega) (by omega) (ko_2_3 k_v0) (c_X7_get (ko_2_3 k_v0) hc) hl.1 rfl (Nat.le_of_ble_eq_true rfl) dX2_contractionOf_18 xv_00 (fun H locs hH hP => ?_)
    refine lv_iload_n hx hb dX2_contractionOf_21 rfl (lv_at hl 1 rfl) ?_
    refine b_icmp_ne (tgt := 42) hx hb hf dX2_contractionOf_22 (by decide) (fun hf => ?_) (fun hf => ?_)
    · refine b_let hf (fun x5 he hf => ?_)
      refine lv_iinc (v := x5) (lv' := [(3, .int x5), (0, .ref (B + v0)), (1, .int v1), (2, .int v2)]) hx hb dX2_contractionOf_42 hl (k := 3) rfl (by rw [← he]; rfl) (by decide) rfl (fun ls hl => ?_)
      refine lv_goto (tgt := 2) hx hb dX2_contractionOf_45 (by decide) ?_
      exact hr_2 v0 v1 v2 x5 w3 hf k_v0 _ _ _ hH (lv_sub hl [1, 2, 3, 0] rfl)
    · refine lv_aload_n hx hb dX2_contractionOf_25 rfl (lv_at hl 0 rfl) ?_
      refine fg_X2_30 C hH k_v0 dX2_contractionOf_26 ?_
      refine lv_iload_n hx hb dX2_contractionOf_29 rfl (lv_at hl 3 rfl) ?_
      obtain ⟨x7, w6, hc, hf⟩ := bd_some hf
      refine q_callV1 (v := .int x7) (As := [.int v3]) C hH (ci := 7) rfl (by omega) gk_X2_64 yd_X7_get (by omega) (by omega) (ko_2_4 k_v0) (c_X7_get (ko_2_4 k_v0) hc) hl.1 rfl (Nat.le_of_ble_eq_true rfl) dX2_contractionOf_30 xv_00 (fun H locs hH hP => ?_)
      refine lv_iload_n hx hb dX2_contractionOf_33 rfl (lv_at hl 2 rfl) ?_
      refine b_icmp_ne (tgt := 42) hx hb hf dX2_contractionOf_34 (by decide) (fun hf => ?_) (fun hf => ?_)
      · refine b_let hf (fun x8 he hf => ?_)
        refine lv_iinc (v := x8) (lv' := [(3, .int x8), (0, .ref (B + v0)), (1, .int v1), (2, .int v2)]) hx hb dX2_contractionOf_42 hl (k := 3) rfl (by rw [← he]; rfl) (by decide) rfl (fun ls hl => ?_)
        refine lv_goto (tgt := 2) hx hb dX2_contractionOf_45 (by decide) ?_
        exact hr_2 v0 v1 v2 x8 w6 hf k_v0 _ _ _ hH (lv_sub hl [1, 2, 3, 0] rfl)
      · refine lv_bipush (v := (96 : Int32)) hx hb dX2_contractionOf_37 (by decide) ?_
        refine lv_iload_n hx hb dX2_contractionOf_39 rfl (lv_at hl 3 rfl) ?_
        refine lv_iadd hx hb dX2_contractionOf_40 ?_
        cases hf
        exact q_reti C hH trivial dX2_contractionOf_41
set_option maxRecDepth 100000 in
set_option maxHeartbeats 4000000 in
theorem t_X2_contractionOf_2 {D : va_G} {B : Nat} {Y : Nat → ClassId} {p : Program} {l : Launch} {e : Env} {s : State} {m : MethodId} {args : Array Value} {below : List Frame} {meth : Method} {c : Code} {z : (Int32 × Wd)} {H : Heap} {locs : List Loc} {ls : Array Slot} {w : Wd} {v0 : Nat} {v1 : Int32} {v2 : Int32} {v3 : Int32} (C : CX D B Y p s m args meth c cX2_contractionOf 4 RX2 (some .int))   (k_v0 : KD v0 = 2)  (hH : HS D B Y w s H locs) (hl : lv_has ls 4 [(0, .ref (B + v0)), (1, .int v1), (2, .int v2), (3, .int v3)]) (hf : f_X2_contractionOf_2 v0 v1 v2 v3 w = some z) : W p l e (RM 1 0 0) s m args below meth c H locs 0 0 (MQ below (QG D B Y (some (.int z.1)) z.2 True) args s 0 0 (AB B)) (F0 m 2 ls []) := by
  exact loopN_ind (z := z) (body := fun rc σ => g_X2_contractionOf_2 rc  σ.1 σ.2.1 σ.2.2.1 σ.2.2.2.1 σ.2.2.2.2)
    (P := fun σ => KD σ.1 = 2 → ∀ (H : Heap) (locs : List Loc) (ls : Array Slot), HS D B Y σ.2.2.2.2 s H locs → lv_has ls 4 [(0, .ref (B + σ.1)), (1, .int σ.2.1), (2, .int σ.2.2.1), (3, .int σ.2.2.2.1)] → W p l e (RM 1 0 0) s m args below meth c H locs 0 0 (MQ below (QG D B Y (some (.int z.1)) z.2 True) args s 0 0 (AB B)) (F0 m 2 ls []))
    (fun rc hrec σ hf k_v0 H locs ls hH hl => tb_X2_contractionOf_2 C (fun v0 v1 v2 v3 w hr k_v0 H locs ls hH hl => hrec (v0, v1, v2, v3, w) hr k_v0 H locs ls hH hl)  k_v0 hH hl hf) FU (v0, v1, v2, v3, w) hf k_v0 H locs ls hH hl
set_option maxRecDepth 100000 in
set_option maxHeartbeats 4000000 in
theorem t_X2_contractionOf_0 {D : va_G} {B : Nat} {Y : Nat → ClassId} {p : Program} {l : Launch} {e : Env} {s : State} {m : MethodId} {args : Array Value} {below : List Frame} {meth : Method} {c : Code} {z : (Int32 × Wd)} {H : Heap} {locs : List Loc} {ls : Array Slot} {w : Wd} {v0 : Nat} {v1 : Int32} {v2 : Int32} (C : CX D B Y p s m args meth c cX2_contractionOf 4 RX2 (some .int))   (k_v0 : KD v0 = 2)  (hH : HS D B Y w s H locs) (hl : lv_has ls 4 [(0, .ref (B + v0)), (1, .int v1), (2, .int v2)]) (hf : f_X2_contractionOf v0 v1 v2 w = some z) : W p l e (RM 1 0 0) s m args below meth c H locs 0 0 (MQ below (QG D B Y (some (.int z.1)) z.2 True) args s 0 0 (AB B)) (F0 m 0 ls []) := by
  have hx := C.1
  have hb := C.2.1
  unfold f_X2_contractionOf at hf
  refine lv_iconst (v := (0 : Int32)) hx hb dX2_contractionOf_0 (by decide) ?_
  refine lv_istore_n (lv' := [(3, .int (0 : Int32)), (0, .ref (B + v0)), (1, .int v1), (2, .int v2)]) hx hb dX2_contractionOf_1 rfl hl (by decide) rfl (fun ls hl => ?_)
  exact t_X2_contractionOf_2 C k_v0 hH (lv_sub hl [1, 2, 3, 0] rfl) hf
set_option maxRecDepth 100000 in
theorem c_X2_contractionOf {l : Launch} {D : va_G} {B : Nat} {Y : Nat → ClassId} {v0 : Nat} {v1 : Int32} {v2 : Int32} {w : Wd} {r : Int32} {w1 : Wd} (k_v0 : KD v0 = 2)  (hf : f_X2_contractionOf v0 v1 v2 w = some (r, w1)) : CM l D B Y yX2_contractionOf cX2_contractionOf 4 (some .int) 1 [.ref (B + v0), .int v1, .int v2] w (some (.int r)) w1 True :=
  CM_of (by decide +kernel) (Nat.le_of_ble_eq_true rfl) (fun p e s m args below meth c ls C hH hl => t_X2_contractionOf_0 C k_v0 hH (lv_sub hl [0, 1, 2] rfl) hf)
/-! LetterTables$Language.addContraction -/
set_option maxRecDepth 100000 in
set_option maxHeartbeats 4000000 in
theorem t_X2_addContraction_0 {D : va_G} {B : Nat} {Y : Nat → ClassId} {p : Program} {l : Launch} {e : Env} {s : State} {m : MethodId} {args : Array Value} {below : List Frame} {meth : Method} {c : Code} {z : (Int32 × Wd)} {H : Heap} {locs : List Loc} {ls : Array Slot} {w : Wd} {v0 : Nat} {v1 : Int32} {v2 : Int32} (C : CX D B Y p s m args meth c cX2_addContraction 3 RX2 (some .int))   (k_v0 : KD v0 = 2)  (hH : HS D B Y w s H locs) (hl : lv_has ls 3 [(0, .ref (B + v0)), (1, .int v1), (2, .int v2)]) (hf : f_X2_addContraction v0 v1 v2 w = some z) : W p l e (RM 1 0 0) s m args below meth c H locs 0 0 (MQ below (QG D B Y (some (.int z.1)) z.2 True) args s 0 0 (AB B)) (F0 m 0 ls []) := by
  have hx := C.1
  have hb := C.2.1
  unfold f_X2_addContraction at hf
  refine lv_aload_n hx hb dX2_addContraction_0 rfl (lv_at hl 0 rfl) ?_
  refine fg_X2_26 C hH k_v0 dX2_addContraction_1 ?_
  refine lv_iload_n hx hb dX2_addContraction_4 rfl (lv_at hl 1 rfl) ?_
  obtain ⟨x2, w1, hc, hf⟩ := bd_some hf
  refine q_callV1 (v := .int x2) (As := [.int v1]) C hH (ci := 7) rfl (by omega) gk_X2_68 yd_X7_add (by omega) (by omega) (ko_2_3 k_v0) (c_X7_add (ko_2_3 k_v0) hc) hl.1 rfl (Nat.le_of_ble_eq_true rfl) dX2_addContraction_5 xv_00 (fun H locs hH z_x2 => ?_)
  refine b_if_eq (tgt := 22) hx hb hf dX2_addContraction_8 (by decide) (fun hf => ?_) (fun hf => ?_)
  · refine lv_iconst (v := (-1 : Int32)) hx hb dX2_addContraction_22 (by decide) ?_
    cases hf
    exact q_reti C hH trivial dX2_addContraction_23
  · refine lv_aload_n hx hb dX2_addContraction_11 rfl (lv_at hl 0 rfl) ?_
    refine fg_X2_30 C hH k_v0 dX2_addContraction_12 ?_
    refine lv_iload_n hx hb dX2_addContraction_15 rfl (lv_at hl 2 rfl) ?_
    obtain ⟨x4, w3, hc, hf⟩ := bd_some hf
    refine q_callV1 (v := .int x4) (As := [.int v2]) C hH (ci := 7) rfl (by omega) gk_X2_68 yd_X7_add (by omega) (by omega) (ko_2_4 k_v0) (c_X7_add (ko_2_4 k_v0) hc) hl.1 rfl (Nat.le_of_ble_eq_true rfl) dX2_addContraction_16 xv_00 (fun H locs hH z_x4 => ?_)
    refine b_if_ne (tgt := 24) hx hb hf dX2_addContraction_19 (by decide) (fun hf => ?_) (fun hf => ?_)
    · refine lv_bipush (v := (96 : Int32)) hx hb dX2_addContraction_24 (by decide) ?_
      refine lv_aload_n hx hb dX2_addContraction_26 rfl (lv_at hl 0 rfl) ?_
      refine fg_X2_26 C hH k_v0 dX2_addContraction_27 ?_
      obtain ⟨x6, w5, hc, hf⟩ := bd_some hf
      refine q_callV1 (v := .int x6) (As := []) C hH (ci := 7) rfl (by omega) gk_X2_60 yd_X7_size (by omega) (by omega) (ko_2_3 k_v0) (c_X7_size (ko_2_3 k_v0) hc) hl.1 rfl (Nat.le_of_ble_eq_true rfl) dX2_addContraction_30 xv_00 (fun H locs hH hP => ?_)
      refine lv_iadd hx hb dX2_addContraction_33 ?_
      refine lv_iconst (v := (1 : Int32)) hx hb dX2_addContraction_34 (by decide) ?_
      refine lv_isub hx hb dX2_addContraction_35 ?_
      cases hf
      exact q_reti C hH trivial dX2_addContraction_36
    · refine lv_iconst (v := (-1 : Int32)) hx hb dX2_addContraction_22 (by decide) ?_
      cases hf
      exact q_reti C hH trivial dX2_addContraction_23
set_option maxRecDepth 100000 in
theorem c_X2_addContraction {l : Launch} {D : va_G} {B : Nat} {Y : Nat → ClassId} {v0 : Nat} {v1 : Int32} {v2 : Int32} {w : Wd} {r : Int32} {w1 : Wd} (k_v0 : KD v0 = 2)  (hf : f_X2_addContraction v0 v1 v2 w = some (r, w1)) : CM l D B Y yX2_addContraction cX2_addContraction 3 (some .int) 1 [.ref (B + v0), .int v1, .int v2] w (some (.int r)) w1 True :=
  CM_of (by decide +kernel) (Nat.le_of_ble_eq_true rfl) (fun p e s m args below meth c ls C hH hl => t_X2_addContraction_0 C k_v0 hH (lv_sub hl [0, 1, 2] rfl) hf)
/-! LetterTables$Language.contractionCount -/
set_option maxRecDepth 100000 in
set_option maxHeartbeats 4000000 in
theorem t_X2_contractionCount_0 {D : va_G} {B : Nat} {Y : Nat → ClassId} {p : Program} {l : Launch} {e : Env} {s : State} {m : MethodId} {args : Array Value} {below : List Frame} {meth : Method} {c : Code} {z : (Int32 × Wd)} {H : Heap} {locs : List Loc} {ls : Array Slot} {w : Wd} {v0 : Nat} (C : CX D B Y p s m args meth c cX2_contractionCount 1 RX2 (some .int))   (k_v0 : KD v0 = 2)  (hH : HS D B Y w s H locs) (hl : lv_has ls 1 [(0, .ref (B + v0))]) (hf : f_X2_contractionCount v0 w = some z) : W p l e (RM 1 0 0) s m args below meth c H locs 0 0 (MQ below (QG D B Y (some (.int z.1)) z.2 True) args s 0 0 (AB B)) (F0 m 0 ls []) := by
  have hx := C.1
  have hb := C.2.1
  unfold f_X2_contractionCount at hf
  refine lv_aload_n hx hb dX2_contractionCount_0 rfl (lv_at hl 0 rfl) ?_
  refine fg_X2_26 C hH k_v0 dX2_contractionCount_1 ?_
  obtain ⟨x2, w1, hc, hf⟩ := bd_some hf
  refine q_callV1 (v := .int x2) (As := []) C hH (ci := 7) rfl (by omega) gk_X2_60 yd_X7_size (by omega) (by omega) (ko_2_3 k_v0) (c_X7_size (ko_2_3 k_v0) hc) hl.1 rfl (Nat.le_of_ble_eq_true rfl) dX2_contractionCount_4 xv_00 (fun H locs hH hP => ?_)
  cases hf
  exact q_reti C hH trivial dX2_contractionCount_7
set_option maxRecDepth 100000 in
theorem c_X2_contractionCount {l : Launch} {D : va_G} {B : Nat} {Y : Nat → ClassId} {v0 : Nat} {w : Wd} {r : Int32} {w1 : Wd} (k_v0 : KD v0 = 2)  (hf : f_X2_contractionCount v0 w = some (r, w1)) : CM l D B Y yX2_contractionCount cX2_contractionCount 1 (some .int) 1 [.ref (B + v0)] w (some (.int r)) w1 True :=
  CM_of (by decide +kernel) (Nat.le_of_ble_eq_true rfl) (fun p e s m args below meth c ls C hH hl => t_X2_contractionCount_0 C k_v0 hH (lv_sub hl [0] rfl) hf)
/-! LetterTables.contract -/
set_option maxRecDepth 100000 in
set_option maxHeartbeats 4000000 in
theorem t_X10_contract_48 {D : va_G} {B : Nat} {Y : Nat → ClassId} {p : Program} {l : Launch} {e : Env} {s : State} {m : MethodId} {args : Array Value} {below : List Frame} {meth : Method} {c : Code} {z : ((Nat ⊕ Int32) × Wd)} {H : Heap} {locs : List Loc} {ls : Array Slot} {w : Wd} {v4 : Int32} {v5 : Int32} {v6 : Int32} {v7 : Nat} {v8 : Int32} (C : CX D B Y p s m args meth c cX10_contract 9 RX10 (some .int)) (hxt : ∀ x ∈ c.exceptionTable.toList, False) (htr : l.stackTraces = false)   (k_v7 : KD v7 = 2)  (hH : HS D B Y w s H locs) (hl : lv_has ls 9 [(4, .int v4), (5, .int v5), (6, .int v6), (7, .ref (B + v7)), (8, .int v8)]) (hf : f_X10_contract_48 v4 v5 v6 v7 v8 w = some z) : W p l e (RM 3 (xv (zoI z.1)) (6 * xv (zoI z.1))) s m args below meth c H locs 0 0 (vx_MQ below (QX D B Y (zoI z.1) z.2 True) (XX D B Y (zoI z.1) z.2) args s (xv (zoI z.1)) (6 * xv (zoI z.1)) (AB B)) (F0 m 48 ls []) := by
  have hx := C.1
  have hb := C.2.1
  unfold f_X10_contract_48 at hf
  refine lv_iload hx hb dX10_contract_48 (lv_at hl 4 rfl) ?_
  refine lv_iconst (v := (-1 : Int32)) hx hb dX10_contract_50 (by decide) ?_
  refine b_icmp_ne (tgt := 64) hx hb hf dX10_contract_51 (by decide) (fun hf => ?_) (fun hf => ?_)
  · refine lv_aload hx hb dX10_contract_64 (lv_at hl 3 rfl) ?_
    refine lv_iload hx hb dX10_contract_66 (lv_at hl 4 rfl) ?_
    refine lv_iload hx hb dX10_contract_68 (lv_at hl 0 rfl) ?_
    refine lv_iload hx hb dX10_contract_70 (lv_at hl 1 rfl) ?_
    refine lv_iload hx hb dX10_contract_72 (lv_at hl 2 rfl) ?_
    obtain ⟨u, w1, hc, hf⟩ := bd_some hf
    refine q_callV0 (As := [.int v8, .int v4, .int v5, .int v6]) C hH (ci := 2) rfl (by omega) gk_X10_158 yd_X2_weighUnit (by omega) (by omega) k_v7 (c_X2_weighUnit k_v7 hc) hl.1 rfl (Nat.le_of_ble_eq_true rfl) dX10_contract_74 xv_00 (fun H locs hH hP => ?_)
    refine lv_aload hx hb dX10_contract_77 (lv_at hl 3 rfl) ?_
    obtain ⟨x3, w2, hc, hf⟩ := bd_some hf
    refine q_callV1 (v := .int x3) (As := []) C hH (ci := 2) rfl (by omega) gk_X10_173 yd_X2_contractionCount (by omega) (by omega) k_v7 (c_X2_contractionCount k_v7 hc) hl.1 rfl (Nat.le_of_ble_eq_true rfl) dX10_contract_79 xv_00 (fun H locs hH hP => ?_)
    cases hf
    exact q_x0 rfl (q_reti C hH trivial dX10_contract_82)
  · cases hf
    exact q_throw C hH hxt htr (Or.inr (Or.inr rfl)) wd_574 wd_66 wd_584 (List.mem_of_getElem? (i := 17) rfl) hl.1 dX10_contract_54 dX10_contract_57 dX10_contract_58 dX10_contract_60 dX10_contract_63 (Nat.le_of_ble_eq_true rfl) (xv_1 rfl) (xv_6 rfl)
set_option maxRecDepth 100000 in
set_option maxHeartbeats 4000000 in
theorem t_X10_contract_0 {D : va_G} {B : Nat} {Y : Nat → ClassId} {p : Program} {l : Launch} {e : Env} {s : State} {m : MethodId} {args : Array Value} {below : List Frame} {meth : Method} {c : Code} {z : ((Nat ⊕ Int32) × Wd)} {H : Heap} {locs : List Loc} {ls : Array Slot} {w : Wd} {v1 : Int32} {v2 : Int32} {v3 : Int32} {v4 : Int32} {v5 : Int32} {v6 : Int32} (C : CX D B Y p s m args meth c cX10_contract 9 RX10 (some .int)) (hxt : ∀ x ∈ c.exceptionTable.toList, False) (htr : l.stackTraces = false)     (hH : HS D B Y w s H locs) (hl : lv_has ls 9 [(0, .ref (B + 0)), (1, .int v1), (2, .int v2), (3, .int v3), (4, .int v4), (5, .int v5), (6, .int v6)]) (hf : f_X10_contract v1 v2 v3 v4 v5 v6 w = some z) : W p l e (RM 3 (xv (zoI z.1)) (6 * xv (zoI z.1))) s m args below meth c H locs 0 0 (vx_MQ below (QX D B Y (zoI z.1) z.2 True) (XX D B Y (zoI z.1) z.2) args s (xv (zoI z.1)) (6 * xv (zoI z.1)) (AB B)) (F0 m 0 ls []) := by
  have hx := C.1
  have hb := C.2.1
  unfold f_X10_contract at hf
  refine lv_aload_n hx hb dX10_contract_0 rfl (lv_at hl 0 rfl) ?_
  refine lv_iload_n hx hb dX10_contract_1 rfl (lv_at hl 1 rfl) ?_
  rcases bdx_some hf with ⟨k, w1, hc, rfl⟩ | ⟨r2, w1, hc, hf⟩
  · exact q_xrunX (k0 := k) (q_xV (As := [.int v1]) C hH (ci := 10) rfl (by omega) gk_X10_151 yd_X10_languageOf (by omega) (by omega) kc_0 (c_X10_languageOf (r := .inl k) htr hc) hl.1 rfl (Nat.le_of_ble_eq_true rfl) dX10_contract_2 (xv_le rfl)) hH (fun H locs ce q hH h1 h2 h3 => q_out C hH hxt h1 h2 h3 (xv_1 rfl) (xv_6 rfl))
  refine q_xrun (ov := some (.ref (B + r2))) (q_xV (As := [.int v1]) C hH (ci := 10) rfl (by omega) gk_X10_151 yd_X10_languageOf (by omega) (by omega) kc_0 (c_X10_languageOf (r := .inr r2) htr hc) hl.1 rfl (Nat.le_of_ble_eq_true rfl) dX10_contract_2 (xv_0 rfl xv_00)) hH (fun H locs hH k_r2 => ?_)
  refine lv_astore (lv' := [(7, .ref (B + r2)), (0, .ref (B + 0)), (1, .int v1), (2, .int v2), (3, .int v3), (4, .int v4), (5, .int v5), (6, .int v6)]) hx hb dX10_contract_5 hl (by decide) rfl (fun ls hl => ?_)
  refine lv_iload_n hx hb dX10_contract_7 rfl (lv_at hl 3 rfl) ?_
  rcases bdx_some hf with ⟨k, w3, hc, rfl⟩ | ⟨u, w3, hc, hf⟩
  · exact q_xrunX (k0 := k) (q_xS (As := [.int v2]) C hH gk_X10_124 yd_X10_checkLetter (by omega) (by omega) (c_X10_checkLetter (r := .inl k) htr hc) hl.1 rfl (Nat.le_of_ble_eq_true rfl) dX10_contract_8 (xv_le rfl)) hH (fun H locs ce q hH h1 h2 h3 => q_out C hH hxt h1 h2 h3 (xv_1 rfl) (xv_6 rfl))
  refine q_xrun (ov := none) (q_xS (As := [.int v2]) C hH gk_X10_124 yd_X10_checkLetter (by omega) (by omega) (c_X10_checkLetter (r := .inr u) htr hc) hl.1 rfl (Nat.le_of_ble_eq_true rfl) dX10_contract_8 (xv_0 rfl xv_00)) hH (fun H locs hH hP => ?_)
  refine lv_iload_n hx hb dX10_contract_11 rfl (lv_at hl 4 rfl) ?_
  rcases bdx_some hf with ⟨k, w4, hc, rfl⟩ | ⟨u, w4, hc, hf⟩
  · exact q_xrunX (k0 := k) (q_xS (As := [.int v3]) C hH gk_X10_124 yd_X10_checkLetter (by omega) (by omega) (c_X10_checkLetter (r := .inl k) htr hc) hl.1 rfl (Nat.le_of_ble_eq_true rfl) dX10_contract_12 (xv_le rfl)) hH (fun H locs ce q hH h1 h2 h3 => q_out C hH hxt h1 h2 h3 (xv_1 rfl) (xv_6 rfl))
  refine q_xrun (ov := none) (q_xS (As := [.int v3]) C hH gk_X10_124 yd_X10_checkLetter (by omega) (by omega) (c_X10_checkLetter (r := .inr u) htr hc) hl.1 rfl (Nat.le_of_ble_eq_true rfl) dX10_contract_12 (xv_0 rfl xv_00)) hH (fun H locs hH hP => ?_)
  refine lv_iload hx hb dX10_contract_15 (lv_at hl 5 rfl) ?_
  refine lv_iload hx hb dX10_contract_17 (lv_at hl 6 rfl) ?_
  refine lv_iload hx hb dX10_contract_19 (lv_at hl 7 rfl) ?_
  rcases bdx_some hf with ⟨k, w5, hc, rfl⟩ | ⟨u, w5, hc, hf⟩
  · exact q_xrunX (k0 := k) (q_xS (As := [.int v4, .int v5, .int v6]) C hH gk_X10_155 yd_X10_checkWeights (by omega) (by omega) (c_X10_checkWeights (r := .inl k) htr hc) hl.1 rfl (Nat.le_of_ble_eq_true rfl) dX10_contract_21 (xv_le rfl)) hH (fun H locs ce q hH h1 h2 h3 => q_out C hH hxt h1 h2 h3 (xv_1 rfl) (xv_6 rfl))
  refine q_xrun (ov := none) (q_xS (As := [.int v4, .int v5, .int v6]) C hH gk_X10_155 yd_X10_checkWeights (by omega) (by omega) (c_X10_checkWeights (r := .inr u) htr hc) hl.1 rfl (Nat.le_of_ble_eq_true rfl) dX10_contract_21 (xv_0 rfl xv_00)) hH (fun H locs hH hP => ?_)
  refine lv_aload hx hb dX10_contract_24 (lv_at hl 0 rfl) ?_
  refine lv_iload_n hx hb dX10_contract_26 rfl (lv_at hl 3 rfl) ?_
  refine lv_iload_n hx hb dX10_contract_27 rfl (lv_at hl 4 rfl) ?_
  obtain ⟨x7, w6, hc, hf⟩ := bd_some hf
  refine q_callV1 (v := .int x7) (As := [.int v2, .int v3]) C hH (ci := 2) rfl (by omega) gk_X10_164 yd_X2_contractionOf (by omega) (by omega) k_r2 (c_X2_contractionOf k_r2 hc) hl.1 rfl (Nat.le_of_ble_eq_true rfl) dX10_contract_28 xv_00 (fun H locs hH hP => ?_)
  refine lv_istore (lv' := [(8, .int x7), (7, .ref (B + r2)), (0, .ref (B + 0)), (1, .int v1), (2, .int v2), (3, .int v3), (4, .int v4), (5, .int v5), (6, .int v6)]) hx hb dX10_contract_31 hl (by decide) rfl (fun ls hl => ?_)
  refine lv_iload hx hb dX10_contract_33 (lv_at hl 0 rfl) ?_
  refine lv_iconst (v := (-1 : Int32)) hx hb dX10_contract_35 (by decide) ?_
  refine b_icmp_ne (tgt := 48) hx hb hf dX10_contract_36 (by decide) (fun hf => ?_) (fun hf => ?_)
  · exact t_X10_contract_48 C hxt htr k_r2 hH (lv_sub hl [6, 7, 8, 1, 0] rfl) hf
  · refine lv_aload hx hb dX10_contract_39 (lv_at hl 1 rfl) ?_
    refine lv_iload_n hx hb dX10_contract_41 rfl (lv_at hl 4 rfl) ?_
    refine lv_iload_n hx hb dX10_contract_42 rfl (lv_at hl 5 rfl) ?_
    obtain ⟨x9, w8, hc, hf⟩ := bd_some hf
    refine q_callV1 (v := .int x9) (As := [.int v2, .int v3]) C hH (ci := 2) rfl (by omega) gk_X10_168 yd_X2_addContraction (by omega) (by omega) k_r2 (c_X2_addContraction k_r2 hc) hl.1 rfl (Nat.le_of_ble_eq_true rfl) dX10_contract_43 xv_00 (fun H locs hH hP => ?_)
    refine lv_istore (lv' := [(8, .int x9), (7, .ref (B + r2)), (0, .ref (B + 0)), (1, .int v1), (2, .int v2), (3, .int v3), (4, .int v4), (5, .int v5), (6, .int v6)]) hx hb dX10_contract_46 hl (by decide) rfl (fun ls hl => ?_)
    exact t_X10_contract_48 C hxt htr k_r2 hH (lv_sub hl [6, 7, 8, 1, 0] rfl) hf
set_option maxRecDepth 100000 in
theorem c_X10_contract {l : Launch} {D : va_G} {B : Nat} {Y : Nat → ClassId} {v1 : Int32} {v2 : Int32} {v3 : Int32} {v4 : Int32} {v5 : Int32} {v6 : Int32} {w : Wd} {r : (Nat ⊕ Int32)} {w1 : Wd} (htr : l.stackTraces = false)   (hf : f_X10_contract v1 v2 v3 v4 v5 v6 w = some (r, w1)) : XM l D B Y yX10_contract cX10_contract 9 (some .int) 3 [.ref (B + 0), .int v1, .int v2, .int v3, .int v4, .int v5, .int v6] w (zoI r) w1 True :=
  XM_of (by decide +kernel) (Nat.le_of_ble_eq_true rfl) (fun p e s m args below meth c ls C hxt hH hl => t_X10_contract_0 C hxt htr  hH (lv_sub hl [0, 1, 2, 3, 4, 5, 6] rfl) hf)
/-! LetterTables.isRange -/
set_option maxRecDepth 100000 in
set_option maxHeartbeats 4000000 in
theorem t_X10_isRange_0 {D : va_G} {B : Nat} {Y : Nat → ClassId} {p : Program} {l : Launch} {e : Env} {s : State} {m : MethodId} {args : Array Value} {below : List Frame} {meth : Method} {c : Code} {z : (Int32 × Wd)} {H : Heap} {locs : List Loc} {ls : Array Slot} {w : Wd} {v0 : Int32} {v1 : Int32} (C : CX D B Y p s m args meth c cX10_isRange 2 RX10 (some .boolean))     (hH : HS D B Y w s H locs) (hl : lv_has ls 2 [(0, .int v0), (1, .int v1)]) (hf : f_X10_isRange v0 v1 w = some z) : W p l e (RM 1 0 0) s m args below meth c H locs 0 0 (MQ below (QG D B Y (some (.int z.1)) z.2 (isZ z.1)) args s 0 0 (AB B)) (F0 m 0 ls []) := by
  have hx := C.1
  have hb := C.2.1
  unfold f_X10_isRange at hf
  refine lv_iload_n hx hb dX10_isRange_0 rfl (lv_at hl 0 rfl) ?_
  refine lv_iconst (v := (0 : Int32)) hx hb dX10_isRange_1 (by decide) ?_
  refine lv_bipush (v := (99 : Int32)) hx hb dX10_isRange_2 (by decide) ?_
  obtain ⟨x2, w1, hc, hf⟩ := bd_some hf
  refine q_callS1 (v := .int x2) (As := [.int v0, .int (0 : Int32), .int (99 : Int32)]) C hH gk_X10_99 yd_X10_isWithin (by omega) (by omega) (c_X10_isWithin hc) hl.1 rfl (Nat.le_of_ble_eq_true rfl) dX10_isRange_4 xv_00 (fun H locs hH z_x2 => ?_)
  refine b_if_eq (tgt := 24) hx hb hf dX10_isRange_7 (by decide) (fun hf => ?_) (fun hf => ?_)
  · refine lv_iconst (v := (0 : Int32)) hx hb dX10_isRange_24 (by decide) ?_
    cases hf
    exact q_retz C hH isZ_0 isZ_0 dX10_isRange_25
  · refine lv_iload_n hx hb dX10_isRange_10 rfl (lv_at hl 1 rfl) ?_
    refine lv_iload_n hx hb dX10_isRange_11 rfl (lv_at hl 0 rfl) ?_
    refine lv_bipush (v := (99 : Int32)) hx hb dX10_isRange_12 (by decide) ?_
    obtain ⟨x4, w3, hc, hf⟩ := bd_some hf
    refine q_callS1 (v := .int x4) (As := [.int v1, .int v0, .int (99 : Int32)]) C hH gk_X10_99 yd_X10_isWithin (by omega) (by omega) (c_X10_isWithin hc) hl.1 rfl (Nat.le_of_ble_eq_true rfl) dX10_isRange_14 xv_00 (fun H locs hH z_x4 => ?_)
    refine b_if_eq (tgt := 24) hx hb hf dX10_isRange_17 (by decide) (fun hf => ?_) (fun hf => ?_)
    · refine lv_iconst (v := (0 : Int32)) hx hb dX10_isRange_24 (by decide) ?_
      cases hf
      exact q_retz C hH isZ_0 isZ_0 dX10_isRange_25
    · refine lv_iconst (v := (1 : Int32)) hx hb dX10_isRange_20 (by decide) ?_
      refine lv_goto (tgt := 25) hx hb dX10_isRange_21 (by decide) ?_
      cases hf
      exact q_retz C hH isZ_1 isZ_1 dX10_isRange_25
set_option maxRecDepth 100000 in
theorem c_X10_isRange {l : Launch} {D : va_G} {B : Nat} {Y : Nat → ClassId} {v0 : Int32} {v1 : Int32} {w : Wd} {r : Int32} {w1 : Wd}   (hf : f_X10_isRange v0 v1 w = some (r, w1)) : CM l D B Y yX10_isRange cX10_isRange 2 (some .boolean) 1 [.int v0, .int v1] w (some (.int r)) w1 (isZ r) :=
  CM_of (by decide +kernel) (Nat.le_of_ble_eq_true rfl) (fun p e s m args below meth c ls C hH hl => t_X10_isRange_0 C  hH (lv_sub hl [0, 1] rfl) hf)
/-! LetterTables$Language.nextPlural -/
set_option maxRecDepth 100000 in
set_option maxHeartbeats 4000000 in
theorem t_X2_nextPlural_0 {D : va_G} {B : Nat} {Y : Nat → ClassId} {p : Program} {l : Launch} {e : Env} {s : State} {m : MethodId} {args : Array Value} {below : List Frame} {meth : Method} {c : Code} {z : (Option Nat × Wd)} {H : Heap} {locs : List Loc} {ls : Array Slot} {w : Wd} {v0 : Nat} (C : CX D B Y p s m args meth c cX2_nextPlural 1 RX2 (some (.object "LetterTables$PluralRule")))   (k_v0 : KD v0 = 2)  (hH : HS D B Y w s H locs) (hl : lv_has ls 1 [(0, .ref (B + v0))]) (hf : f_X2_nextPlural v0 w = some z) : W p l e (RM 0 0 0) s m args below meth c H locs 0 0 (MQ below (QG D B Y (some (vq B z.1)) z.2 (pQ 6 z.1)) args s 0 0 (AB B)) (F0 m 0 ls []) := by
  have hx := C.1
  have hb := C.2.1
  unfold f_X2_nextPlural at hf
  refine lv_aload_n hx hb dX2_nextPlural_0 rfl (lv_at hl 0 rfl) ?_
  refine fg_X2_52 C hH k_v0 dX2_nextPlural_1 ?_
  refine b_if_lt (tgt := 19) hx hb hf dX2_nextPlural_4 (by decide) (fun hf => ?_) (fun hf => ?_)
  · refine lv_null hx hb dX2_nextPlural_19 ?_
    refine lv_goto (tgt := 32) hx hb dX2_nextPlural_20 (by decide) ?_
    cases hf
    exact q_retn C hH trivial dX2_nextPlural_32
  · refine lv_aload_n hx hb dX2_nextPlural_7 rfl (lv_at hl 0 rfl) ?_
    refine fg_X2_52 C hH k_v0 dX2_nextPlural_8 ?_
    refine lv_aload_n hx hb dX2_nextPlural_11 rfl (lv_at hl 0 rfl) ?_
    refine fg_X2_35 C hH k_v0 dX2_nextPlural_12 ?_
    refine q_alen C hH (t0 := 7) (ci := 27) rfl (by omega) (ko_2_5 k_v0) dX2_nextPlural_15 ?_
    refine b_icmp_lt (tgt := 23) hx hb hf dX2_nextPlural_16 (by decide) (fun hf => ?_) (fun hf => ?_)
    · refine lv_aload_n hx hb dX2_nextPlural_23 rfl (lv_at hl 0 rfl) ?_
      refine fg_X2_35 C hH k_v0 dX2_nextPlural_24 ?_
      refine lv_aload_n hx hb dX2_nextPlural_27 rfl (lv_at hl 0 rfl) ?_
      refine fg_X2_52 C hH k_v0 dX2_nextPlural_28 ?_
      refine g_aald C hH (t0 := 7) (ci := 27) (K := 6) rfl (by omega) (fun _ h => ka_27 (ko_2_5 k_v0) h) (ko_2_5 k_v0) hf dX2_nextPlural_31 (fun r1 k_r1 hf => ?_)
      cases hf
      exact q_retr C hH k_r1 dX2_nextPlural_32
    · refine lv_null hx hb dX2_nextPlural_19 ?_
      refine lv_goto (tgt := 32) hx hb dX2_nextPlural_20 (by decide) ?_
      cases hf
      exact q_retn C hH trivial dX2_nextPlural_32
set_option maxRecDepth 100000 in
theorem c_X2_nextPlural {l : Launch} {D : va_G} {B : Nat} {Y : Nat → ClassId} {v0 : Nat} {w : Wd} {r : Option Nat} {w1 : Wd} (k_v0 : KD v0 = 2)  (hf : f_X2_nextPlural v0 w = some (r, w1)) : CM l D B Y yX2_nextPlural cX2_nextPlural 1 (some (.object "LetterTables$PluralRule")) 0 [.ref (B + v0)] w (some (vq B r)) w1 (pQ 6 r) :=
  CM_of (by decide +kernel) (Nat.le_of_ble_eq_true rfl) (fun p e s m args below meth c ls C hH hl => t_X2_nextPlural_0 C k_v0 hH (lv_sub hl [0] rfl) hf)
/-! LetterTables$PluralRule.tell -/
set_option maxRecDepth 100000 in
set_option maxHeartbeats 4000000 in
theorem t_X6_tell_0 {D : va_G} {B : Nat} {Y : Nat → ClassId} {p : Program} {l : Launch} {e : Env} {s : State} {m : MethodId} {args : Array Value} {below : List Frame} {meth : Method} {c : Code} {z : (Unit × Wd)} {H : Heap} {locs : List Loc} {ls : Array Slot} {w : Wd} {v0 : Nat} {v1 : Int32} {v2 : Int32} {v3 : Int32} {v4 : Int32} {v5 : Int32} {v6 : Int32} {v7 : Int32} (C : CX D B Y p s m args meth c cX6_tell 8 RX6 none)   (k_v0 : KD v0 = 6)  (hH : HS D B Y w s H locs) (hl : lv_has ls 8 [(0, .ref (B + v0)), (1, .int v1), (2, .int v2), (3, .int v3), (4, .int v4), (5, .int v5), (6, .int v6), (7, .int v7)]) (hf : f_X6_tell v0 v1 v2 v3 v4 v5 v6 v7 w = some z) : W p l e (RM 0 0 0) s m args below meth c H locs 0 0 (MQ below (QG D B Y none z.2 True) args s 0 0 (AB B)) (F0 m 0 ls []) := by
  have hx := C.1
  have hb := C.2.1
  unfold f_X6_tell at hf
  refine lv_aload_n hx hb dX6_tell_0 rfl (lv_at hl 0 rfl) ?_
  refine lv_iload_n hx hb dX6_tell_1 rfl (lv_at hl 1 rfl) ?_
  refine fp_X6_13 C hH k_v0 dX6_tell_2 (fun H locs hH => ?_)
  refine b_w hf hH (fun w1 hf hH => ?_)
  refine lv_aload_n hx hb dX6_tell_5 rfl (lv_at hl 0 rfl) ?_
  refine lv_iload_n hx hb dX6_tell_6 rfl (lv_at hl 2 rfl) ?_
  refine fp_X6_7 C hH k_v0 dX6_tell_7 (fun H locs hH => ?_)
  refine b_w hf hH (fun w2 hf hH => ?_)
  refine lv_aload_n hx hb dX6_tell_10 rfl (lv_at hl 0 rfl) ?_
  refine lv_iload_n hx hb dX6_tell_11 rfl (lv_at hl 3 rfl) ?_
  refine fp_X6_16 C hH k_v0 dX6_tell_12 (fun H locs hH => ?_)
  refine b_w hf hH (fun w3 hf hH => ?_)
  refine lv_aload_n hx hb dX6_tell_15 rfl (lv_at hl 0 rfl) ?_
  refine lv_iload hx hb dX6_tell_16 (lv_at hl 4 rfl) ?_
  refine fp_X6_19 C hH k_v0 dX6_tell_18 (fun H locs hH => ?_)
  refine b_w hf hH (fun w4 hf hH => ?_)
  refine lv_aload_n hx hb dX6_tell_21 rfl (lv_at hl 0 rfl) ?_
  refine lv_iload hx hb dX6_tell_22 (lv_at hl 5 rfl) ?_
  refine fp_X6_22 C hH k_v0 dX6_tell_24 (fun H locs hH => ?_)
  refine b_w hf hH (fun w5 hf hH => ?_)
  refine lv_aload_n hx hb dX6_tell_27 rfl (lv_at hl 0 rfl) ?_
  refine lv_iload hx hb dX6_tell_28 (lv_at hl 6 rfl) ?_
  refine fp_X6_25 C hH k_v0 dX6_tell_30 (fun H locs hH => ?_)
  refine b_w hf hH (fun w6 hf hH => ?_)
  refine lv_aload_n hx hb dX6_tell_33 rfl (lv_at hl 0 rfl) ?_
  refine lv_iload hx hb dX6_tell_34 (lv_at hl 7 rfl) ?_
  refine fp_X6_28 C hH k_v0 dX6_tell_36 (fun H locs hH => ?_)
  refine b_w hf hH (fun w7 hf hH => ?_)
  cases hf
  exact q_retv C hH trivial dX6_tell_39
set_option maxRecDepth 100000 in
theorem c_X6_tell {l : Launch} {D : va_G} {B : Nat} {Y : Nat → ClassId} {v0 : Nat} {v1 : Int32} {v2 : Int32} {v3 : Int32} {v4 : Int32} {v5 : Int32} {v6 : Int32} {v7 : Int32} {w : Wd} {r : Unit} {w1 : Wd} (k_v0 : KD v0 = 6)  (hf : f_X6_tell v0 v1 v2 v3 v4 v5 v6 v7 w = some (r, w1)) : CM l D B Y yX6_tell cX6_tell 8 none 0 [.ref (B + v0), .int v1, .int v2, .int v3, .int v4, .int v5, .int v6, .int v7] w none w1 True :=
  CM_of (by decide +kernel) (Nat.le_of_ble_eq_true rfl) (fun p e s m args below meth c ls C hH hl => t_X6_tell_0 C k_v0 hH (lv_sub hl [0, 1, 2, 3, 4, 5, 6, 7] rfl) hf)
/-! LetterTables$Language.countPlural -/
set_option maxRecDepth 100000 in
set_option maxHeartbeats 4000000 in
theorem t_X2_countPlural_0 {D : va_G} {B : Nat} {Y : Nat → ClassId} {p : Program} {l : Launch} {e : Env} {s : State} {m : MethodId} {args : Array Value} {below : List Frame} {meth : Method} {c : Code} {z : (Int32 × Wd)} {H : Heap} {locs : List Loc} {ls : Array Slot} {w : Wd} {v0 : Nat} (C : CX D B Y p s m args meth c cX2_countPlural 1 RX2 (some .int))   (k_v0 : KD v0 = 2)  (hH : HS D B Y w s H locs) (hl : lv_has ls 1 [(0, .ref (B + v0))]) (hf : f_X2_countPlural v0 w = some z) : W p l e (RM 0 0 0) s m args below meth c H locs 0 0 (MQ below (QG D B Y (some (.int z.1)) z.2 True) args s 0 0 (AB B)) (F0 m 0 ls []) := by
  have hx := C.1
  have hb := C.2.1
  unfold f_X2_countPlural at hf
  refine lv_aload_n hx hb dX2_countPlural_0 rfl (lv_at hl 0 rfl) ?_
  refine lv_dup hx hb dX2_countPlural_1 rfl ?_
  refine fg_X2_52 C hH k_v0 dX2_countPlural_2 ?_
  refine lv_iconst (v := (1 : Int32)) hx hb dX2_countPlural_5 (by decide) ?_
  refine lv_iadd hx hb dX2_countPlural_6 ?_
  refine fp_X2_52 C hH k_v0 dX2_countPlural_7 (fun H locs hH => ?_)
  refine b_w hf hH (fun w1 hf hH => ?_)
  refine lv_aload_n hx hb dX2_countPlural_10 rfl (lv_at hl 0 rfl) ?_
  refine fg_X2_52 C hH k_v0 dX2_countPlural_11 ?_
  cases hf
  exact q_reti C hH trivial dX2_countPlural_14
set_option maxRecDepth 100000 in
theorem c_X2_countPlural {l : Launch} {D : va_G} {B : Nat} {Y : Nat → ClassId} {v0 : Nat} {w : Wd} {r : Int32} {w1 : Wd} (k_v0 : KD v0 = 2)  (hf : f_X2_countPlural v0 w = some (r, w1)) : CM l D B Y yX2_countPlural cX2_countPlural 1 (some .int) 0 [.ref (B + v0)] w (some (.int r)) w1 True :=
  CM_of (by decide +kernel) (Nat.le_of_ble_eq_true rfl) (fun p e s m args below meth c ls C hH hl => t_X2_countPlural_0 C k_v0 hH (lv_sub hl [0] rfl) hf)
/-! LetterTables.plural -/
set_option maxRecDepth 100000 in
set_option maxHeartbeats 4000000 in
theorem t_X10_plural_97 {D : va_G} {B : Nat} {Y : Nat → ClassId} {p : Program} {l : Launch} {e : Env} {s : State} {m : MethodId} {args : Array Value} {below : List Frame} {meth : Method} {c : Code} {z : ((Nat ⊕ Int32) × Wd)} {H : Heap} {locs : List Loc} {ls : Array Slot} {w : Wd} {v2 : Int32} {v3 : Int32} {v4 : Int32} {v5 : Int32} {v6 : Int32} {v7 : Int32} {v8 : Int32} {v9 : Nat} {t0 : Int32} (C : CX D B Y p s m args meth c cX10_plural 12 RX10 (some .int)) (hxt : ∀ x ∈ c.exceptionTable.toList, False) (htr : l.stackTraces = false)   (k_v9 : KD v9 = 2) (z_t0 : isZ t0) (hH : HS D B Y w s H locs) (hl : lv_has ls 12 [(2, .int v2), (3, .int v3), (4, .int v4), (5, .int v5), (6, .int v6), (7, .int v7), (8, .int v8), (9, .ref (B + v9))]) (hf : f_X10_plural_97 v2 v3 v4 v5 v6 v7 v8 v9 t0 w = some z) : W p l e (RM 2 (xv (zoI z.1)) (6 * xv (zoI z.1))) s m args below meth c H locs 0 0 (vx_MQ below (QX D B Y (zoI z.1) z.2 True) (XX D B Y (zoI z.1) z.2) args s (xv (zoI z.1)) (6 * xv (zoI z.1)) (AB B)) (F0 m 97 ls [.int t0]) := by
  have hx := C.1
  have hb := C.2.1
  unfold f_X10_plural_97 at hf
  rcases bdx_some hf with ⟨k, w1, hc, rfl⟩ | ⟨u, w1, hc, hf⟩
  · exact q_xrunX (k0 := k) (q_xS (As := [.int t0]) C hH gk_X10_103 yd_X10_checkArgument (by omega) (by omega) (c_X10_checkArgument (r := .inl k) htr z_t0 hc) hl.1 rfl (Nat.le_of_ble_eq_true rfl) dX10_plural_97 (xv_le rfl)) hH (fun H locs ce q hH h1 h2 h3 => q_out C hH hxt h1 h2 h3 (xv_1 rfl) (xv_6 rfl))
  refine q_xrun (ov := none) (q_xS (As := [.int t0]) C hH gk_X10_103 yd_X10_checkArgument (by omega) (by omega) (c_X10_checkArgument (r := .inr u) htr z_t0 hc) hl.1 rfl (Nat.le_of_ble_eq_true rfl) dX10_plural_97 (xv_0 rfl xv_00)) hH (fun H locs hH hP => ?_)
  refine lv_aload hx hb dX10_plural_100 (lv_at hl 7 rfl) ?_
  rcases bdq_some hf with ⟨w3, hc, hf⟩ | ⟨r2, w4, hc, hf⟩
  · refine q_callV1 (v := .null) (As := []) C hH (ci := 2) rfl (by omega) gk_X10_180 yd_X2_nextPlural (by omega) (by omega) k_v9 (c_X2_nextPlural k_v9 hc) hl.1 rfl (Nat.le_of_ble_eq_true rfl) dX10_plural_102 xv_00 (fun H locs hH hP => ?_)
    refine lv_astoreN (lv' := [(11, .null), (2, .int v2), (3, .int v3), (4, .int v4), (5, .int v5), (6, .int v6), (7, .int v7), (8, .int v8), (9, .ref (B + v9))]) hx hb dX10_plural_105 hl (by decide) rfl (fun ls hl => ?_)
    refine lv_aloadN hx hb dX10_plural_107 (lv_at hl 0 rfl) ?_
    refine lv_ifnonnullN hx hb dX10_plural_109 ?_
    cases hf
    exact q_throw C hH hxt htr (Or.inr (Or.inr rfl)) wd_574 wd_66 wd_584 (List.mem_of_getElem? (i := 18) rfl) hl.1 dX10_plural_112 dX10_plural_115 dX10_plural_116 dX10_plural_118 dX10_plural_121 (Nat.le_of_ble_eq_true rfl) (xv_1 rfl) (xv_6 rfl)
  · refine q_callV1 (v := .ref (B + r2)) (As := []) C hH (ci := 2) rfl (by omega) gk_X10_180 yd_X2_nextPlural (by omega) (by omega) k_v9 (c_X2_nextPlural k_v9 hc) hl.1 rfl (Nat.le_of_ble_eq_true rfl) dX10_plural_102 xv_00 (fun H locs hH k_r2 => ?_)
    refine lv_astore (lv' := [(11, .ref (B + r2)), (2, .int v2), (3, .int v3), (4, .int v4), (5, .int v5), (6, .int v6), (7, .int v7), (8, .int v8), (9, .ref (B + v9))]) hx hb dX10_plural_105 hl (by decide) rfl (fun ls hl => ?_)
    refine lv_aload hx hb dX10_plural_107 (lv_at hl 0 rfl) ?_
    refine lv_ifnonnull (tgt := 122) hx hb dX10_plural_109 (by decide) ?_
    refine lv_aload hx hb dX10_plural_122 (lv_at hl 0 rfl) ?_
    refine lv_iload_n hx hb dX10_plural_124 rfl (lv_at hl 1 rfl) ?_
    refine lv_iload_n hx hb dX10_plural_125 rfl (lv_at hl 2 rfl) ?_
    refine lv_iload hx hb dX10_plural_126 (lv_at hl 3 rfl) ?_
    refine lv_iload hx hb dX10_plural_128 (lv_at hl 4 rfl) ?_
    refine lv_iload hx hb dX10_plural_130 (lv_at hl 5 rfl) ?_
    refine lv_iload hx hb dX10_plural_132 (lv_at hl 6 rfl) ?_
    refine lv_iload hx hb dX10_plural_134 (lv_at hl 7 rfl) ?_
    obtain ⟨u, w5, hc, hf⟩ := bd_some hf
    refine q_callV0 (As := [.int v2, .int v3, .int v4, .int v5, .int v6, .int v7, .int v8]) C hH (ci := 6) rfl (by omega) gk_X10_186 yd_X6_tell (by omega) (by omega) k_r2 (c_X6_tell k_r2 hc) hl.1 rfl (Nat.le_of_ble_eq_true rfl) dX10_plural_136 xv_00 (fun H locs hH hP => ?_)
    refine lv_aload hx hb dX10_plural_139 (lv_at hl 8 rfl) ?_
    obtain ⟨x7, w6, hc, hf⟩ := bd_some hf
    refine q_callV1 (v := .int x7) (As := []) C hH (ci := 2) rfl (by omega) gk_X10_191 yd_X2_countPlural (by omega) (by omega) k_v9 (c_X2_countPlural k_v9 hc) hl.1 rfl (Nat.le_of_ble_eq_true rfl) dX10_plural_141 xv_00 (fun H locs hH hP => ?_)
    cases hf
    exact q_x0 rfl (q_reti C hH trivial dX10_plural_144)
set_option maxRecDepth 100000 in
set_option maxHeartbeats 4000000 in
theorem t_X10_plural_96 {D : va_G} {B : Nat} {Y : Nat → ClassId} {p : Program} {l : Launch} {e : Env} {s : State} {m : MethodId} {args : Array Value} {below : List Frame} {meth : Method} {c : Code} {z : ((Nat ⊕ Int32) × Wd)} {H : Heap} {locs : List Loc} {ls : Array Slot} {w : Wd} {v2 : Int32} {v3 : Int32} {v4 : Int32} {v5 : Int32} {v6 : Int32} {v7 : Int32} {v8 : Int32} {v9 : Nat} (C : CX D B Y p s m args meth c cX10_plural 12 RX10 (some .int)) (hxt : ∀ x ∈ c.exceptionTable.toList, False) (htr : l.stackTraces = false)   (k_v9 : KD v9 = 2)  (hH : HS D B Y w s H locs) (hl : lv_has ls 12 [(2, .int v2), (3, .int v3), (4, .int v4), (5, .int v5), (6, .int v6), (7, .int v7), (8, .int v8), (9, .ref (B + v9))]) (hf : f_X10_plural_96 v2 v3 v4 v5 v6 v7 v8 v9 w = some z) : W p l e (RM 2 (xv (zoI z.1)) (6 * xv (zoI z.1))) s m args below meth c H locs 0 0 (vx_MQ below (QX D B Y (zoI z.1) z.2 True) (XX D B Y (zoI z.1) z.2) args s (xv (zoI z.1)) (6 * xv (zoI z.1)) (AB B)) (F0 m 96 ls []) := by
  have hx := C.1
  have hb := C.2.1
  unfold f_X10_plural_96 at hf
  refine lv_iconst (v := (0 : Int32)) hx hb dX10_plural_96 (by decide) ?_
  exact t_X10_plural_97 C hxt htr k_v9 isZ_0 hH (lv_sub hl [0, 1, 2, 3, 4, 5, 6, 7] rfl) hf
set_option maxRecDepth 100000 in
set_option maxHeartbeats 4000000 in
theorem t_X10_plural_64 {D : va_G} {B : Nat} {Y : Nat → ClassId} {p : Program} {l : Launch} {e : Env} {s : State} {m : MethodId} {args : Array Value} {below : List Frame} {meth : Method} {c : Code} {z : ((Nat ⊕ Int32) × Wd)} {H : Heap} {locs : List Loc} {ls : Array Slot} {w : Wd} {v2 : Int32} {v3 : Int32} {v4 : Int32} {v5 : Int32} {v6 : Int32} {v7 : Int32} {v8 : Int32} {v9 : Nat} {t0 : Int32} (C : CX D B Y p s m args meth c cX10_plural 12 RX10 (some .int)) (hxt : ∀ x ∈ c.exceptionTable.toList, False) (htr : l.stackTraces = false)   (k_v9 : KD v9 = 2) (z_t0 : isZ t0) (hH : HS D B Y w s H locs) (hl : lv_has ls 12 [(2, .int v2), (3, .int v3), (4, .int v4), (5, .int v5), (6, .int v6), (7, .int v7), (8, .int v8), (9, .ref (B + v9))]) (hf : f_X10_plural_64 v2 v3 v4 v5 v6 v7 v8 v9 t0 w = some z) : W p l e (RM 2 (xv (zoI z.1)) (6 * xv (zoI z.1))) s m args below meth c H locs 0 0 (vx_MQ below (QX D B Y (zoI z.1) z.2 True) (XX D B Y (zoI z.1) z.2) args s (xv (zoI z.1)) (6 * xv (zoI z.1)) (AB B)) (F0 m 64 ls [.int t0]) := by
  have hx := C.1
  have hb := C.2.1
  unfold f_X10_plural_64 at hf
  refine lv_istore (lv' := [(10, .int t0), (2, .int v2), (3, .int v3), (4, .int v4), (5, .int v5), (6, .int v6), (7, .int v7), (8, .int v8), (9, .ref (B + v9))]) hx hb dX10_plural_64 hl (by decide) rfl (fun ls hl => ?_)
  refine lv_iload hx hb dX10_plural_66 (lv_at hl 0 rfl) ?_
  refine b_if_ne (tgt := 92) hx hb hf dX10_plural_68 (by decide) (fun hf => ?_) (fun hf => ?_)
  · refine lv_iconst (v := (1 : Int32)) hx hb dX10_plural_92 (by decide) ?_
    refine lv_goto (tgt := 97) hx hb dX10_plural_93 (by decide) ?_
    exact t_X10_plural_97 C hxt htr k_v9 isZ_1 hH (lv_sub hl [1, 2, 3, 4, 5, 6, 7, 8] rfl) hf
  · refine lv_iload hx hb dX10_plural_71 (lv_at hl 5 rfl) ?_
    refine lv_iconst (v := (1 : Int32)) hx hb dX10_plural_73 (by decide) ?_
    refine lv_bipush (v := (100 : Int32)) hx hb dX10_plural_74 (by decide) ?_
    obtain ⟨x2, w1, hc, hf⟩ := bd_some hf
    refine q_callS1 (v := .int x2) (As := [.int v6, .int (1 : Int32), .int (100 : Int32)]) C hH gk_X10_99 yd_X10_isWithin (by omega) (by omega) (c_X10_isWithin hc) hl.1 rfl (Nat.le_of_ble_eq_true rfl) dX10_plural_76 xv_00 (fun H locs hH z_x2 => ?_)
    refine b_if_eq (tgt := 96) hx hb hf dX10_plural_79 (by decide) (fun hf => ?_) (fun hf => ?_)
    · exact t_X10_plural_96 C hxt htr k_v9 hH (lv_sub hl [1, 2, 3, 4, 5, 6, 7, 8] rfl) hf
    · refine lv_iload hx hb dX10_plural_82 (lv_at hl 6 rfl) ?_
      refine lv_iload hx hb dX10_plural_84 (lv_at hl 7 rfl) ?_
      obtain ⟨x4, w3, hc, hf⟩ := bd_some hf
      refine q_callS1 (v := .int x4) (As := [.int v7, .int v8]) C hH gk_X10_176 yd_X10_isRange (by omega) (by omega) (c_X10_isRange hc) hl.1 rfl (Nat.le_of_ble_eq_true rfl) dX10_plural_86 xv_00 (fun H locs hH z_x4 => ?_)
      refine b_if_eq (tgt := 96) hx hb hf dX10_plural_89 (by decide) (fun hf => ?_) (fun hf => ?_)
      · exact t_X10_plural_96 C hxt htr k_v9 hH (lv_sub hl [1, 2, 3, 4, 5, 6, 7, 8] rfl) hf
      · refine lv_iconst (v := (1 : Int32)) hx hb dX10_plural_92 (by decide) ?_
        refine lv_goto (tgt := 97) hx hb dX10_plural_93 (by decide) ?_
        exact t_X10_plural_97 C hxt htr k_v9 isZ_1 hH (lv_sub hl [1, 2, 3, 4, 5, 6, 7, 8] rfl) hf
set_option maxRecDepth 100000 in
set_option maxHeartbeats 4000000 in
theorem t_X10_plural_63 {D : va_G} {B : Nat} {Y : Nat → ClassId} {p : Program} {l : Launch} {e : Env} {s : State} {m : MethodId} {args : Array Value} {below : List Frame} {meth : Method} {c : Code} {z : ((Nat ⊕ Int32) × Wd)} {H : Heap} {locs : List Loc} {ls : Array Slot} {w : Wd} {v2 : Int32} {v3 : Int32} {v4 : Int32} {v5 : Int32} {v6 : Int32} {v7 : Int32} {v8 : Int32} {v9 : Nat} (C : CX D B Y p s m args meth c cX10_plural 12 RX10 (some .int)) (hxt : ∀ x ∈ c.exceptionTable.toList, False) (htr : l.stackTraces = false)   (k_v9 : KD v9 = 2)  (hH : HS D B Y w s H locs) (hl : lv_has ls 12 [(2, .int v2), (3, .int v3), (4, .int v4), (5, .int v5), (6, .int v6), (7, .int v7), (8, .int v8), (9, .ref (B + v9))]) (hf : f_X10_plural_63 v2 v3 v4 v5 v6 v7 v8 v9 w = some z) : W p l e (RM 2 (xv (zoI z.1)) (6 * xv (zoI z.1))) s m args below meth c H locs 0 0 (vx_MQ below (QX D B Y (zoI z.1) z.2 True) (XX D B Y (zoI z.1) z.2) args s (xv (zoI z.1)) (6 * xv (zoI z.1)) (AB B)) (F0 m 63 ls []) := by
  have hx := C.1
  have hb := C.2.1
  unfold f_X10_plural_63 at hf
  refine lv_iconst (v := (0 : Int32)) hx hb dX10_plural_63 (by decide) ?_
  exact t_X10_plural_64 C hxt htr k_v9 isZ_0 hH (lv_sub hl [0, 1, 2, 3, 4, 5, 6, 7] rfl) hf
set_option maxRecDepth 100000 in
set_option maxHeartbeats 4000000 in
theorem t_X10_plural_41 {D : va_G} {B : Nat} {Y : Nat → ClassId} {p : Program} {l : Launch} {e : Env} {s : State} {m : MethodId} {args : Array Value} {below : List Frame} {meth : Method} {c : Code} {z : ((Nat ⊕ Int32) × Wd)} {H : Heap} {locs : List Loc} {ls : Array Slot} {w : Wd} {v2 : Int32} {v3 : Int32} {v4 : Int32} {v5 : Int32} {v6 : Int32} {v7 : Int32} {v8 : Int32} {v9 : Nat} {t0 : Int32} (C : CX D B Y p s m args meth c cX10_plural 12 RX10 (some .int)) (hxt : ∀ x ∈ c.exceptionTable.toList, False) (htr : l.stackTraces = false)   (k_v9 : KD v9 = 2) (z_t0 : isZ t0) (hH : HS D B Y w s H locs) (hl : lv_has ls 12 [(2, .int v2), (3, .int v3), (4, .int v4), (5, .int v5), (6, .int v6), (7, .int v7), (8, .int v8), (9, .ref (B + v9))]) (hf : f_X10_plural_41 v2 v3 v4 v5 v6 v7 v8 v9 t0 w = some z) : W p l e (RM 2 (xv (zoI z.1)) (6 * xv (zoI z.1))) s m args below meth c H locs 0 0 (vx_MQ below (QX D B Y (zoI z.1) z.2 True) (XX D B Y (zoI z.1) z.2) args s (xv (zoI z.1)) (6 * xv (zoI z.1)) (AB B)) (F0 m 41 ls [.int t0]) := by
  have hx := C.1
  have hb := C.2.1
  unfold f_X10_plural_41 at hf
  rcases bdx_some hf with ⟨k, w1, hc, rfl⟩ | ⟨u, w1, hc, hf⟩
  · exact q_xrunX (k0 := k) (q_xS (As := [.int t0]) C hH gk_X10_103 yd_X10_checkArgument (by omega) (by omega) (c_X10_checkArgument (r := .inl k) htr z_t0 hc) hl.1 rfl (Nat.le_of_ble_eq_true rfl) dX10_plural_41 (xv_le rfl)) hH (fun H locs ce q hH h1 h2 h3 => q_out C hH hxt h1 h2 h3 (xv_1 rfl) (xv_6 rfl))
  refine q_xrun (ov := none) (q_xS (As := [.int t0]) C hH gk_X10_103 yd_X10_checkArgument (by omega) (by omega) (c_X10_checkArgument (r := .inr u) htr z_t0 hc) hl.1 rfl (Nat.le_of_ble_eq_true rfl) dX10_plural_41 (xv_0 rfl xv_00)) hH (fun H locs hH hP => ?_)
  refine lv_iload hx hb dX10_plural_44 (lv_at hl 4 rfl) ?_
  refine b_if_ne (tgt := 63) hx hb hf dX10_plural_46 (by decide) (fun hf => ?_) (fun hf => ?_)
  · exact t_X10_plural_63 C hxt htr k_v9 hH (lv_sub hl [0, 1, 2, 3, 4, 5, 6, 7] rfl) hf
  · refine lv_iload hx hb dX10_plural_49 (lv_at hl 5 rfl) ?_
    refine b_if_ne (tgt := 63) hx hb hf dX10_plural_51 (by decide) (fun hf => ?_) (fun hf => ?_)
    · exact t_X10_plural_63 C hxt htr k_v9 hH (lv_sub hl [0, 1, 2, 3, 4, 5, 6, 7] rfl) hf
    · refine lv_iload hx hb dX10_plural_54 (lv_at hl 6 rfl) ?_
      refine b_if_ne (tgt := 63) hx hb hf dX10_plural_56 (by decide) (fun hf => ?_) (fun hf => ?_)
      · exact t_X10_plural_63 C hxt htr k_v9 hH (lv_sub hl [0, 1, 2, 3, 4, 5, 6, 7] rfl) hf
      · refine lv_iconst (v := (1 : Int32)) hx hb dX10_plural_59 (by decide) ?_
        refine lv_goto (tgt := 64) hx hb dX10_plural_60 (by decide) ?_
        exact t_X10_plural_64 C hxt htr k_v9 isZ_1 hH (lv_sub hl [0, 1, 2, 3, 4, 5, 6, 7] rfl) hf
set_option maxRecDepth 100000 in
set_option maxHeartbeats 4000000 in
theorem t_X10_plural_40 {D : va_G} {B : Nat} {Y : Nat → ClassId} {p : Program} {l : Launch} {e : Env} {s : State} {m : MethodId} {args : Array Value} {below : List Frame} {meth : Method} {c : Code} {z : ((Nat ⊕ Int32) × Wd)} {H : Heap} {locs : List Loc} {ls : Array Slot} {w : Wd} {v2 : Int32} {v3 : Int32} {v4 : Int32} {v5 : Int32} {v6 : Int32} {v7 : Int32} {v8 : Int32} {v9 : Nat} (C : CX D B Y p s m args meth c cX10_plural 12 RX10 (some .int)) (hxt : ∀ x ∈ c.exceptionTable.toList, False) (htr : l.stackTraces = false)   (k_v9 : KD v9 = 2)  (hH : HS D B Y w s H locs) (hl : lv_has ls 12 [(2, .int v2), (3, .int v3), (4, .int v4), (5, .int v5), (6, .int v6), (7, .int v7), (8, .int v8), (9, .ref (B + v9))]) (hf : f_X10_plural_40 v2 v3 v4 v5 v6 v7 v8 v9 w = some z) : W p l e (RM 2 (xv (zoI z.1)) (6 * xv (zoI z.1))) s m args below meth c H locs 0 0 (vx_MQ below (QX D B Y (zoI z.1) z.2 True) (XX D B Y (zoI z.1) z.2) args s (xv (zoI z.1)) (6 * xv (zoI z.1)) (AB B)) (F0 m 40 ls []) := by
  have hx := C.1
  have hb := C.2.1
  unfold f_X10_plural_40 at hf
  refine lv_iconst (v := (0 : Int32)) hx hb dX10_plural_40 (by decide) ?_
  exact t_X10_plural_41 C hxt htr k_v9 isZ_0 hH (lv_sub hl [0, 1, 2, 3, 4, 5, 6, 7] rfl) hf
set_option maxRecDepth 100000 in
set_option maxHeartbeats 4000000 in
theorem t_X10_plural_0 {D : va_G} {B : Nat} {Y : Nat → ClassId} {p : Program} {l : Launch} {e : Env} {s : State} {m : MethodId} {args : Array Value} {below : List Frame} {meth : Method} {c : Code} {z : ((Nat ⊕ Int32) × Wd)} {H : Heap} {locs : List Loc} {ls : Array Slot} {w : Wd} {v1 : Int32} {v2 : Int32} {v3 : Int32} {v4 : Int32} {v5 : Int32} {v6 : Int32} {v7 : Int32} {v8 : Int32} (C : CX D B Y p s m args meth c cX10_plural 12 RX10 (some .int)) (hxt : ∀ x ∈ c.exceptionTable.toList, False) (htr : l.stackTraces = false)     (hH : HS D B Y w s H locs) (hl : lv_has ls 12 [(0, .ref (B + 0)), (1, .int v1), (2, .int v2), (3, .int v3), (4, .int v4), (5, .int v5), (6, .int v6), (7, .int v7), (8, .int v8)]) (hf : f_X10_plural v1 v2 v3 v4 v5 v6 v7 v8 w = some z) : W p l e (RM 2 (xv (zoI z.1)) (6 * xv (zoI z.1))) s m args below meth c H locs 0 0 (vx_MQ below (QX D B Y (zoI z.1) z.2 True) (XX D B Y (zoI z.1) z.2) args s (xv (zoI z.1)) (6 * xv (zoI z.1)) (AB B)) (F0 m 0 ls []) := by
  have hx := C.1
  have hb := C.2.1
  unfold f_X10_plural at hf
  refine lv_aload_n hx hb dX10_plural_0 rfl (lv_at hl 0 rfl) ?_
  refine lv_iload_n hx hb dX10_plural_1 rfl (lv_at hl 1 rfl) ?_
  rcases bdx_some hf with ⟨k, w1, hc, rfl⟩ | ⟨r2, w1, hc, hf⟩
  · exact q_xrunX (k0 := k) (q_xV (As := [.int v1]) C hH (ci := 10) rfl (by omega) gk_X10_151 yd_X10_languageOf (by omega) (by omega) kc_0 (c_X10_languageOf (r := .inl k) htr hc) hl.1 rfl (Nat.le_of_ble_eq_true rfl) dX10_plural_2 (xv_le rfl)) hH (fun H locs ce q hH h1 h2 h3 => q_out C hH hxt h1 h2 h3 (xv_1 rfl) (xv_6 rfl))
  refine q_xrun (ov := some (.ref (B + r2))) (q_xV (As := [.int v1]) C hH (ci := 10) rfl (by omega) gk_X10_151 yd_X10_languageOf (by omega) (by omega) kc_0 (c_X10_languageOf (r := .inr r2) htr hc) hl.1 rfl (Nat.le_of_ble_eq_true rfl) dX10_plural_2 (xv_0 rfl xv_00)) hH (fun H locs hH k_r2 => ?_)
  refine lv_astore (lv' := [(9, .ref (B + r2)), (0, .ref (B + 0)), (1, .int v1), (2, .int v2), (3, .int v3), (4, .int v4), (5, .int v5), (6, .int v6), (7, .int v7), (8, .int v8)]) hx hb dX10_plural_5 hl (by decide) rfl (fun ls hl => ?_)
  refine lv_iload_n hx hb dX10_plural_7 rfl (lv_at hl 3 rfl) ?_
  refine lv_iconst (v := (0 : Int32)) hx hb dX10_plural_8 (by decide) ?_
  refine lv_iconst (v := (2 : Int32)) hx hb dX10_plural_9 (by decide) ?_
  obtain ⟨x4, w3, hc, hf⟩ := bd_some hf
  refine q_callS1 (v := .int x4) (As := [.int v2, .int (0 : Int32), .int (2 : Int32)]) C hH gk_X10_99 yd_X10_isWithin (by omega) (by omega) (c_X10_isWithin hc) hl.1 rfl (Nat.le_of_ble_eq_true rfl) dX10_plural_10 xv_00 (fun H locs hH z_x4 => ?_)
  refine b_if_eq (tgt := 40) hx hb hf dX10_plural_13 (by decide) (fun hf => ?_) (fun hf => ?_)
  · exact t_X10_plural_40 C hxt htr k_r2 hH (lv_sub hl [3, 4, 5, 6, 7, 8, 9, 0] rfl) hf
  · refine lv_iload_n hx hb dX10_plural_16 rfl (lv_at hl 4 rfl) ?_
    refine lv_iconst (v := (1 : Int32)) hx hb dX10_plural_17 (by decide) ?_
    refine lv_bipush (v := (100 : Int32)) hx hb dX10_plural_18 (by decide) ?_
    obtain ⟨x6, w5, hc, hf⟩ := bd_some hf
    refine q_callS1 (v := .int x6) (As := [.int v3, .int (1 : Int32), .int (100 : Int32)]) C hH gk_X10_99 yd_X10_isWithin (by omega) (by omega) (c_X10_isWithin hc) hl.1 rfl (Nat.le_of_ble_eq_true rfl) dX10_plural_20 xv_00 (fun H locs hH z_x6 => ?_)
    refine b_if_eq (tgt := 40) hx hb hf dX10_plural_23 (by decide) (fun hf => ?_) (fun hf => ?_)
    · exact t_X10_plural_40 C hxt htr k_r2 hH (lv_sub hl [3, 4, 5, 6, 7, 8, 9, 0] rfl) hf
    · refine lv_iload hx hb dX10_plural_26 (lv_at hl 5 rfl) ?_
      refine lv_iload hx hb dX10_plural_28 (lv_at hl 6 rfl) ?_
      obtain ⟨x8, w7, hc, hf⟩ := bd_some hf
      refine q_callS1 (v := .int x8) (As := [.int v4, .int v5]) C hH gk_X10_176 yd_X10_isRange (by omega) (by omega) (c_X10_isRange hc) hl.1 rfl (Nat.le_of_ble_eq_true rfl) dX10_plural_30 xv_00 (fun H locs hH z_x8 => ?_)
      refine b_if_eq (tgt := 40) hx hb hf dX10_plural_33 (by decide) (fun hf => ?_) (fun hf => ?_)
      · exact t_X10_plural_40 C hxt htr k_r2 hH (lv_sub hl [3, 4, 5, 6, 7, 8, 9, 0] rfl) hf
      · refine lv_iconst (v := (1 : Int32)) hx hb dX10_plural_36 (by decide) ?_
        refine lv_goto (tgt := 41) hx hb dX10_plural_37 (by decide) ?_
        exact t_X10_plural_41 C hxt htr k_r2 isZ_1 hH (lv_sub hl [3, 4, 5, 6, 7, 8, 9, 0] rfl) hf
set_option maxRecDepth 100000 in
theorem c_X10_plural {l : Launch} {D : va_G} {B : Nat} {Y : Nat → ClassId} {v1 : Int32} {v2 : Int32} {v3 : Int32} {v4 : Int32} {v5 : Int32} {v6 : Int32} {v7 : Int32} {v8 : Int32} {w : Wd} {r : (Nat ⊕ Int32)} {w1 : Wd} (htr : l.stackTraces = false)   (hf : f_X10_plural v1 v2 v3 v4 v5 v6 v7 v8 w = some (r, w1)) : XM l D B Y yX10_plural cX10_plural 12 (some .int) 2 [.ref (B + 0), .int v1, .int v2, .int v3, .int v4, .int v5, .int v6, .int v7, .int v8] w (zoI r) w1 True :=
  XM_of (by decide +kernel) (Nat.le_of_ble_eq_true rfl) (fun p e s m args below meth c ls C hxt hH hl => t_X10_plural_0 C hxt htr  hH (lv_sub hl [0, 1, 2, 3, 4, 5, 6, 7, 8] rfl) hf)
