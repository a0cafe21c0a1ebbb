/-! LetterTables.decode -/
set_option maxRecDepth 100000 in
set_option maxHeartbeats 4000000 in
theorem t_X10_decode_0 {D : va_G} {B : Nat} {Y : Nat → ClassId} {p : Program} {l : Launch} {e : Env} {s : State} {m : MethodId} {args : Array Value} {below : List Frame} {meth : Method} {c : Code} {z : ((Nat ⊕ Int32) × Wd)} {H : Heap} {locs : List Loc} {ls : Array Slot} {w : Wd} {v1 : Int32} (C : CX D B Y p s m args meth c cX10_decode 4 RX10 (some .int)) (hxt : ∀ x ∈ c.exceptionTable.toList, False) (htr : l.stackTraces = false)     (hH : HS D B Y w s H locs) (hl : lv_has ls 4 [(0, .ref (B + 0)), (1, .int v1)]) (hf : f_X10_decode v1 w = some z) : W p l e (RM 2 2 (6 * 2)) s m args below meth c H locs 0 0 (vx_MQ below (QX D B Y (zoI z.1) z.2 True) (XX D B Y (zoI z.1) z.2) args s 2 (6 * 2) (AB B)) (F0 m 0 ls []) := by
  have hx := C.1
  have hb := C.2.1
  unfold f_X10_decode at hf
  refine lv_aload_n hx hb dX10_decode_0 rfl (lv_at hl 0 rfl) ?_
  refine lv_iload_n hx hb dX10_decode_1 rfl (lv_at hl 1 rfl) ?_
  rcases bdx_some hf with ⟨k, w1, hc, rfl⟩ | ⟨r2, w1, hc, hf⟩
  · exact q_xrunX (q_xV (As := [.int v1]) C hH (ci := 10) rfl (by omega) gk_X10_194 yd_X10_textOf (by omega) (by omega) kc_0 (c_X10_textOf htr hc) hl.1 rfl (Nat.le_of_ble_eq_true rfl) dX10_decode_2 ⟨by decide, by decide⟩) hH (fun H locs ce q hH h1 h2 h3 => q_out C hH hxt h1 h2 h3 (by decide) (by decide))
  refine q_xrun (ov := some (.ref (B + r2))) (q_xV (As := [.int v1]) C hH (ci := 10) rfl (by omega) gk_X10_194 yd_X10_textOf (by omega) (by omega) kc_0 (c_X10_textOf htr hc) hl.1 rfl (Nat.le_of_ble_eq_true rfl) dX10_decode_2 ⟨by decide, by decide⟩) hH (fun H locs hH k_r2 => ?_)
  refine lv_astore_n (lv' := [(2, .ref (B + r2)), (0, .ref (B + 0)), (1, .int v1)]) hx hb dX10_decode_5 rfl hl (by decide) rfl (fun ls hl => ?_)
  refine lv_aload_n hx hb dX10_decode_6 rfl (lv_at hl 1 rfl) ?_
  refine lv_aload_n hx hb dX10_decode_7 rfl (lv_at hl 1 rfl) ?_
  refine fg_X10_93 C hH dX10_decode_8 ?_
  obtain ⟨x4, w3, hc, hf⟩ := bd_some hf
  refine q_callV1 (v := .int x4) (As := [.ref (B + 709)]) C hH (ci := 10) rfl (by omega) gk_X10_359 yd_X10_decodeInto (by omega) (by omega) kc_0 (c_X10_decodeInto kc_709 hc) hl.1 rfl (Nat.le_of_ble_eq_true rfl) dX10_decode_11 ⟨by decide, by decide⟩ (fun H locs hH hP => ?_)
  refine lv_istore_n (lv' := [(3, .int x4), (2, .ref (B + r2)), (0, .ref (B + 0)), (1, .int v1)]) hx hb dX10_decode_14 rfl hl (by decide) rfl (fun ls hl => ?_)
  refine lv_aload_n hx hb dX10_decode_15 rfl (lv_at hl 2 rfl) ?_
  refine fg_X10_29 C hH dX10_decode_16 ?_
  refine lv_iconst (v := (0 : Int32)) hx hb dX10_decode_19 (by decide) ?_
  obtain ⟨u, w5, hc, hf⟩ := bd_some hf
  refine q_callV0 (As := [.int (0 : Int32)]) C hH (ci := 7) rfl (by omega) gk_X10_237 yd_X7_cutTo (by omega) (by omega) kc_635 (c_X7_cutTo kc_635 hc) hl.1 rfl (Nat.le_of_ble_eq_true rfl) dX10_decode_20 ⟨by decide, by decide⟩ (fun H locs hH hP => ?_)
  refine lv_iload_n hx hb dX10_decode_23 rfl (lv_at hl 0 rfl) ?_
  refine lv_iconst (v := (-1 : Int32)) hx hb dX10_decode_24 (by decide) ?_
  refine b_icmp_ne (tgt := 39) hx hb hf dX10_decode_25 (by decide) (fun hf => ?_) (fun hf => ?_)
  · refine lv_aload_n hx hb dX10_decode_39 rfl (lv_at hl 1 rfl) ?_
    refine lv_aload_n hx hb dX10_decode_40 rfl (lv_at hl 2 rfl) ?_
    refine fg_X10_93 C hH dX10_decode_41 ?_
    obtain ⟨u, w6, hc, hf⟩ := bd_some hf
    refine q_callV0 (As := [.ref (B + 709)]) C hH (ci := 7) rfl (by omega) gk_X10_253 yd_X7_takeOver (by omega) (by omega) k_r2 (c_X7_takeOver k_r2 kc_709 hc) hl.1 rfl (Nat.le_of_ble_eq_true rfl) dX10_decode_44 ⟨by decide, by decide⟩ (fun H locs hH hP => ?_)
    refine lv_iload_n hx hb dX10_decode_47 rfl (lv_at hl 0 rfl) ?_
    cases hf
    exact q_x (W.widen (k := 2) (n := 6 * 2) (by decide) (by decide) (q_reti C hH trivial dX10_decode_48))
  · cases hf
    exact q_throwW C hH hxt htr (Or.inr (Or.inr rfl)) wd_577 wd_125 wd_587 (List.mem_of_getElem? (i := 19) rfl) hl.1 dX10_decode_28 dX10_decode_31 dX10_decode_32 dX10_decode_35 dX10_decode_38 (Nat.le_of_ble_eq_true rfl) (by decide) (by decide)
set_option maxRecDepth 100000 in
theorem c_X10_decode {l : Launch} {D : va_G} {B : Nat} {Y : Nat → ClassId} {v1 : Int32} {w : Wd} {r : (Nat ⊕ Int32)} {w1 : Wd} (htr : l.stackTraces = false)   (hf : f_X10_decode v1 w = some (r, w1)) : XM l D B Y yX10_decode cX10_decode 4 (some .int) 2 2 [.ref (B + 0), .int v1] w (zoI r) w1 True :=
  XM_of (by decide +kernel) (Nat.le_of_ble_eq_true rfl) (fun p e s m args below meth c ls C hxt hH hl => t_X10_decode_0 C hxt htr  hH (lv_sub hl [0, 1] rfl) hf)
/-! LetterTablesModel.thrown -/
set_option maxRecDepth 100000 in
set_option maxHeartbeats 4000000 in
theorem t_X11_thrown_0 {D : va_G} {B : Nat} {Y : Nat → ClassId} {p : Program} {l : Launch} {e : Env} {s : State} {m : MethodId} {args : Array Value} {below : List Frame} {meth : Method} {c : Code} {z : (Int32 × Wd)} {H : Heap} {locs : List Loc} {ls : Array Slot} {w : Wd}  (C : CX D B Y p s m args meth c cX11_thrown 1 RX11 (some .int))     (hH : HS D B Y w s H locs) (hl : lv_has ls 1 [(0, .ref (B + 713))]) (hf : f_X11_thrown w = some z) : W p l e (RM 0 0 0) s m args below meth c H locs 0 0 (MQ below (QG D B Y (some (.int z.1)) z.2 True) args s 0 0 (AB B)) (F0 m 0 ls []) := by
  have hx := C.1
  have hb := C.2.1
  unfold f_X11_thrown at hf
  refine lv_aload_n hx hb dX11_thrown_0 rfl (lv_at hl 0 rfl) ?_
  refine fg_X11_107 C hH dX11_thrown_1 ?_
  cases hf
  exact q_reti C hH trivial dX11_thrown_4
set_option maxRecDepth 100000 in
theorem c_X11_thrown {l : Launch} {D : va_G} {B : Nat} {Y : Nat → ClassId}  {w : Wd} {r : Int32} {w1 : Wd}   (hf : f_X11_thrown w = some (r, w1)) : CM l D B Y yX11_thrown cX11_thrown 1 (some .int) 0 [.ref (B + 713)] w (some (.int r)) w1 True :=
  CM_of (by decide +kernel) (Nat.le_of_ble_eq_true rfl) (fun p e s m args below meth c ls C hH hl => t_X11_thrown_0 C  hH (lv_sub hl [0] rfl) hf)
/-! LetterTablesModel.holds -/
set_option maxRecDepth 100000 in
set_option maxHeartbeats 4000000 in
theorem t_X11_holds_0 {D : va_G} {B : Nat} {Y : Nat → ClassId} {p : Program} {l : Launch} {e : Env} {s : State} {m : MethodId} {args : Array Value} {below : List Frame} {meth : Method} {c : Code} {z : (Int32 × Wd)} {H : Heap} {locs : List Loc} {ls : Array Slot} {w : Wd} {v1 : Int32} (C : CX D B Y p s m args meth c cX11_holds 2 RX11 (some .boolean))     (hH : HS D B Y w s H locs) (hl : lv_has ls 2 [(0, .ref (B + 713)), (1, .int v1)]) (hf : f_X11_holds v1 w = some z) : W p l e (RM 0 0 0) s m args below meth c H locs 0 0 (MQ below (QG D B Y (some (.int z.1)) z.2 (isZ z.1)) args s 0 0 (AB B)) (F0 m 0 ls []) := by
  have hx := C.1
  have hb := C.2.1
  unfold f_X11_holds at hf
  refine lv_aload_n hx hb dX11_holds_0 rfl (lv_at hl 0 rfl) ?_
  refine lv_iload_n hx hb dX11_holds_1 rfl (lv_at hl 1 rfl) ?_
  refine fp_X11_107 C hH dX11_holds_2 (fun H locs hH => ?_)
  refine b_w hf hH (fun w1 hf hH => ?_)
  refine lv_iload_n hx hb dX11_holds_5 rfl (lv_at hl 1 rfl) ?_
  refine b_if_ne (tgt := 13) hx hb hf dX11_holds_6 (by decide) (fun hf => ?_) (fun hf => ?_)
  · refine lv_iconst (v := (0 : Int32)) hx hb dX11_holds_13 (by decide) ?_
    cases hf
    exact q_retz C hH isZ_0 isZ_0 dX11_holds_14
  · refine lv_iconst (v := (1 : Int32)) hx hb dX11_holds_9 (by decide) ?_
    refine lv_goto (tgt := 14) hx hb dX11_holds_10 (by decide) ?_
    cases hf
    exact q_retz C hH isZ_1 isZ_1 dX11_holds_14
set_option maxRecDepth 100000 in
theorem c_X11_holds {l : Launch} {D : va_G} {B : Nat} {Y : Nat → ClassId} {v1 : Int32} {w : Wd} {r : Int32} {w1 : Wd}   (hf : f_X11_holds v1 w = some (r, w1)) : CM l D B Y yX11_holds cX11_holds 2 (some .boolean) 0 [.ref (B + 713), .int v1] w (some (.int r)) w1 (isZ r) :=
  CM_of (by decide +kernel) (Nat.le_of_ble_eq_true rfl) (fun p e s m args below meth c ls C hH hl => t_X11_holds_0 C  hH (lv_sub hl [0, 1] rfl) hf)
/-! LetterTablesModel.in -/
set_option maxRecDepth 100000 in
set_option maxHeartbeats 4000000 in
theorem t_X11_in_0 {D : va_G} {B : Nat} {Y : Nat → ClassId} {p : Program} {l : Launch} {e : Env} {s : State} {m : MethodId} {args : Array Value} {below : List Frame} {meth : Method} {c : Code} {z : (Int32 × Wd)} {H : Heap} {locs : List Loc} {ls : Array Slot} {w : Wd} {v0 : Int32} {v1 : Int32} {v2 : Int32} (C : CX D B Y p s m args meth c cX11_in 3 RX11 (some .boolean))     (hH : HS D B Y w s H locs) (hl : lv_has ls 3 [(0, .int v0), (1, .int v1), (2, .int v2)]) (hf : f_X11_in v0 v1 v2 w = some z) : W p l e (RM 0 0 0) s m args below meth c H locs 0 0 (MQ below (QG D B Y (some (.int z.1)) z.2 (isZ z.1)) args s 0 0 (AB B)) (F0 m 0 ls []) := by
  have hx := C.1
  have hb := C.2.1
  unfold f_X11_in at hf
  refine lv_iload_n hx hb dX11_in_0 rfl (lv_at hl 0 rfl) ?_
  refine lv_iload_n hx hb dX11_in_1 rfl (lv_at hl 1 rfl) ?_
  refine b_icmp_lt (tgt := 14) hx hb hf dX11_in_2 (by decide) (fun hf => ?_) (fun hf => ?_)
  · refine lv_iconst (v := (0 : Int32)) hx hb dX11_in_14 (by decide) ?_
    cases hf
    exact q_retz C hH isZ_0 isZ_0 dX11_in_15
  · refine lv_iload_n hx hb dX11_in_5 rfl (lv_at hl 0 rfl) ?_
    refine lv_iload_n hx hb dX11_in_6 rfl (lv_at hl 2 rfl) ?_
    refine b_icmp_gt (tgt := 14) hx hb hf dX11_in_7 (by decide) (fun hf => ?_) (fun hf => ?_)
    · refine lv_iconst (v := (0 : Int32)) hx hb dX11_in_14 (by decide) ?_
      cases hf
      exact q_retz C hH isZ_0 isZ_0 dX11_in_15
    · refine lv_iconst (v := (1 : Int32)) hx hb dX11_in_10 (by decide) ?_
      refine lv_goto (tgt := 15) hx hb dX11_in_11 (by decide) ?_
      cases hf
      exact q_retz C hH isZ_1 isZ_1 dX11_in_15
set_option maxRecDepth 100000 in
theorem c_X11_in {l : Launch} {D : va_G} {B : Nat} {Y : Nat → ClassId} {v0 : Int32} {v1 : Int32} {v2 : Int32} {w : Wd} {r : Int32} {w1 : Wd}   (hf : f_X11_in v0 v1 v2 w = some (r, w1)) : CM l D B Y yX11_in cX11_in 3 (some .boolean) 0 [.int v0, .int v1, .int v2] w (some (.int r)) w1 (isZ r) :=
  CM_of (by decide +kernel) (Nat.le_of_ble_eq_true rfl) (fun p e s m args below meth c ls C hH hl => t_X11_in_0 C  hH (lv_sub hl [0, 1, 2] rfl) hf)
/-! LetterTablesModel.isLetter -/
set_option maxRecDepth 100000 in
set_option maxHeartbeats 4000000 in
theorem t_X11_isLetter_0 {D : va_G} {B : Nat} {Y : Nat → ClassId} {p : Program} {l : Launch} {e : Env} {s : State} {m : MethodId} {args : Array Value} {below : List Frame} {meth : Method} {c : Code} {z : (Int32 × Wd)} {H : Heap} {locs : List Loc} {ls : Array Slot} {w : Wd} {v0 : Int32} (C : CX D B Y p s m args meth c cX11_isLetter 1 RX11 (some .boolean))     (hH : HS D B Y w s H locs) (hl : lv_has ls 1 [(0, .int v0)]) (hf : f_X11_isLetter v0 w = some z) : W p l e (RM 1 0 0) s m args below meth c H locs 0 0 (MQ below (QG D B Y (some (.int z.1)) z.2 (isZ z.1)) args s 0 0 (AB B)) (F0 m 0 ls []) := by
  have hx := C.1
  have hb := C.2.1
  unfold f_X11_isLetter at hf
  refine lv_iload_n hx hb dX11_isLetter_0 rfl (lv_at hl 0 rfl) ?_
  refine lv_iconst (v := (0 : Int32)) hx hb dX11_isLetter_1 (by decide) ?_
  refine lv_bipush (v := (95 : Int32)) hx hb dX11_isLetter_2 (by decide) ?_
  obtain ⟨x2, w1, hc, hf⟩ := bd_some hf
  refine q_callS1 (v := .int x2) (As := [.int v0, .int (0 : Int32), .int (95 : Int32)]) C hH gk_X11_111 yd_X11_in (by omega) (by omega) (c_X11_in hc) hl.1 rfl (Nat.le_of_ble_eq_true rfl) dX11_isLetter_4 ⟨by decide, by decide⟩ (fun H locs hH z_x2 => ?_)
  cases hf
  exact q_retz C hH z_x2 z_x2 dX11_isLetter_7
set_option maxRecDepth 100000 in
theorem c_X11_isLetter {l : Launch} {D : va_G} {B : Nat} {Y : Nat → ClassId} {v0 : Int32} {w : Wd} {r : Int32} {w1 : Wd}   (hf : f_X11_isLetter v0 w = some (r, w1)) : CM l D B Y yX11_isLetter cX11_isLetter 1 (some .boolean) 1 [.int v0] w (some (.int r)) w1 (isZ r) :=
  CM_of (by decide +kernel) (Nat.le_of_ble_eq_true rfl) (fun p e s m args below meth c ls C hH hl => t_X11_isLetter_0 C  hH (lv_sub hl [0] rfl) hf)
/-! LetterTablesModel.isSlot -/
set_option maxRecDepth 100000 in
set_option maxHeartbeats 4000000 in
theorem t_X11_isSlot_0 {D : va_G} {B : Nat} {Y : Nat → ClassId} {p : Program} {l : Launch} {e : Env} {s : State} {m : MethodId} {args : Array Value} {below : List Frame} {meth : Method} {c : Code} {z : (Int32 × Wd)} {H : Heap} {locs : List Loc} {ls : Array Slot} {w : Wd} {v0 : Int32} (C : CX D B Y p s m args meth c cX11_isSlot 1 RX11 (some .boolean))     (hH : HS D B Y w s H locs) (hl : lv_has ls 1 [(0, .int v0)]) (hf : f_X11_isSlot v0 w = some z) : W p l e (RM 1 0 0) s m args below meth c H locs 0 0 (MQ below (QG D B Y (some (.int z.1)) z.2 (isZ z.1)) args s 0 0 (AB B)) (F0 m 0 ls []) := by
  have hx := C.1
  have hb := C.2.1
  unfold f_X11_isSlot at hf
  refine lv_iload_n hx hb dX11_isSlot_0 rfl (lv_at hl 0 rfl) ?_
  refine lv_iconst (v := (0 : Int32)) hx hb dX11_isSlot_1 (by decide) ?_
  refine lv_iconst (v := (5 : Int32)) hx hb dX11_isSlot_2 (by decide) ?_
  obtain ⟨x2, w1, hc, hf⟩ := bd_some hf
  refine q_callS1 (v := .int x2) (As := [.int v0, .int (0 : Int32), .int (5 : Int32)]) C hH gk_X11_111 yd_X11_in (by omega) (by omega) (c_X11_in hc) hl.1 rfl (Nat.le_of_ble_eq_true rfl) dX11_isSlot_3 ⟨by decide, by decide⟩ (fun H locs hH z_x2 => ?_)
  cases hf
  exact q_retz C hH z_x2 z_x2 dX11_isSlot_6
set_option maxRecDepth 100000 in
theorem c_X11_isSlot {l : Launch} {D : va_G} {B : Nat} {Y : Nat → ClassId} {v0 : Int32} {w : Wd} {r : Int32} {w1 : Wd}   (hf : f_X11_isSlot v0 w = some (r, w1)) : CM l D B Y yX11_isSlot cX11_isSlot 1 (some .boolean) 1 [.int v0] w (some (.int r)) w1 (isZ r) :=
  CM_of (by decide +kernel) (Nat.le_of_ble_eq_true rfl) (fun p e s m args below meth c ls C hH hl => t_X11_isSlot_0 C  hH (lv_sub hl [0] rfl) hf)
/-! LetterTablesModel.isLanguage -/
set_option maxRecDepth 100000 in
set_option maxHeartbeats 4000000 in
theorem t_X11_isLanguage_0 {D : va_G} {B : Nat} {Y : Nat → ClassId} {p : Program} {l : Launch} {e : Env} {s : State} {m : MethodId} {args : Array Value} {below : List Frame} {meth : Method} {c : Code} {z : (Int32 × Wd)} {H : Heap} {locs : List Loc} {ls : Array Slot} {w : Wd} {v0 : Int32} (C : CX D B Y p s m args meth c cX11_isLanguage 1 RX11 (some .boolean))     (hH : HS D B Y w s H locs) (hl : lv_has ls 1 [(0, .int v0)]) (hf : f_X11_isLanguage v0 w = some z) : W p l e (RM 1 0 0) s m args below meth c H locs 0 0 (MQ below (QG D B Y (some (.int z.1)) z.2 (isZ z.1)) args s 0 0 (AB B)) (F0 m 0 ls []) := by
  have hx := C.1
  have hb := C.2.1
  unfold f_X11_isLanguage at hf
  refine lv_iload_n hx hb dX11_isLanguage_0 rfl (lv_at hl 0 rfl) ?_
  refine lv_iconst (v := (0 : Int32)) hx hb dX11_isLanguage_1 (by decide) ?_
  refine lv_iconst (v := (1 : Int32)) hx hb dX11_isLanguage_2 (by decide) ?_
  obtain ⟨x2, w1, hc, hf⟩ := bd_some hf
  refine q_callS1 (v := .int x2) (As := [.int v0, .int (0 : Int32), .int (1 : Int32)]) C hH gk_X11_111 yd_X11_in (by omega) (by omega) (c_X11_in hc) hl.1 rfl (Nat.le_of_ble_eq_true rfl) dX11_isLanguage_3 ⟨by decide, by decide⟩ (fun H locs hH z_x2 => ?_)
  cases hf
  exact q_retz C hH z_x2 z_x2 dX11_isLanguage_6
set_option maxRecDepth 100000 in
theorem c_X11_isLanguage {l : Launch} {D : va_G} {B : Nat} {Y : Nat → ClassId} {v0 : Int32} {w : Wd} {r : Int32} {w1 : Wd}   (hf : f_X11_isLanguage v0 w = some (r, w1)) : CM l D B Y yX11_isLanguage cX11_isLanguage 1 (some .boolean) 1 [.int v0] w (some (.int r)) w1 (isZ r) :=
  CM_of (by decide +kernel) (Nat.le_of_ble_eq_true rfl) (fun p e s m args below meth c ls C hH hl => t_X11_isLanguage_0 C  hH (lv_sub hl [0] rfl) hf)
/-! LetterTablesModel.of -/
set_option maxRecDepth 100000 in
set_option maxHeartbeats 4000000 in
theorem t_X11_of_0 {D : va_G} {B : Nat} {Y : Nat → ClassId} {p : Program} {l : Launch} {e : Env} {s : State} {m : MethodId} {args : Array Value} {below : List Frame} {meth : Method} {c : Code} {z : (Int32 × Wd)} {H : Heap} {locs : List Loc} {ls : Array Slot} {w : Wd} {v1 : Int32} {v2 : Int32} (C : CX D B Y p s m args meth c cX11_of 3 RX11 (some .int))     (hH : HS D B Y w s H locs) (hl : lv_has ls 3 [(0, .ref (B + 713)), (1, .int v1), (2, .int v2)]) (hf : f_X11_of v1 v2 w = some z) : W p l e (RM 0 0 0) s m args below meth c H locs 0 0 (MQ below (QG D B Y (some (.int z.1)) z.2 True) args s 0 0 (AB B)) (F0 m 0 ls []) := by
  have hx := C.1
  have hb := C.2.1
  unfold f_X11_of at hf
  refine lv_aload_n hx hb dX11_of_0 rfl (lv_at hl 0 rfl) ?_
  refine fg_X11_7 C hH dX11_of_1 ?_
  refine lv_bipush (v := (9 : Int32)) hx hb dX11_of_4 (by decide) ?_
  refine lv_iload_n hx hb dX11_of_6 rfl (lv_at hl 1 rfl) ?_
  refine lv_imul hx hb dX11_of_7 ?_
  refine lv_iload_n hx hb dX11_of_8 rfl (lv_at hl 2 rfl) ?_
  refine lv_iadd hx hb dX11_of_9 ?_
  refine g_iald C hH kc_714 hf dX11_of_10 (fun x1 hf => ?_)
  cases hf
  exact q_reti C hH trivial dX11_of_11
set_option maxRecDepth 100000 in
theorem c_X11_of {l : Launch} {D : va_G} {B : Nat} {Y : Nat → ClassId} {v1 : Int32} {v2 : Int32} {w : Wd} {r : Int32} {w1 : Wd}   (hf : f_X11_of v1 v2 w = some (r, w1)) : CM l D B Y yX11_of cX11_of 3 (some .int) 0 [.ref (B + 713), .int v1, .int v2] w (some (.int r)) w1 True :=
  CM_of (by decide +kernel) (Nat.le_of_ble_eq_true rfl) (fun p e s m args below meth c ls C hH hl => t_X11_of_0 C  hH (lv_sub hl [0, 1, 2] rfl) hf)
/-! LetterTablesModel.letterAt -/
set_option maxRecDepth 100000 in
set_option maxHeartbeats 4000000 in
theorem t_X11_letterAt_0 {D : va_G} {B : Nat} {Y : Nat → ClassId} {p : Program} {l : Launch} {e : Env} {s : State} {m : MethodId} {args : Array Value} {below : List Frame} {meth : Method} {c : Code} {z : (Int32 × Wd)} {H : Heap} {locs : List Loc} {ls : Array Slot} {w : Wd} {v1 : Int32} {v2 : Int32} (C : CX D B Y p s m args meth c cX11_letterAt 3 RX11 (some .int))     (hH : HS D B Y w s H locs) (hl : lv_has ls 3 [(0, .ref (B + 713)), (1, .int v1), (2, .int v2)]) (hf : f_X11_letterAt v1 v2 w = some z) : W p l e (RM 0 0 0) s m args below meth c H locs 0 0 (MQ below (QG D B Y (some (.int z.1)) z.2 True) args s 0 0 (AB B)) (F0 m 0 ls []) := by
  have hx := C.1
  have hb := C.2.1
  unfold f_X11_letterAt at hf
  refine lv_aload_n hx hb dX11_letterAt_0 rfl (lv_at hl 0 rfl) ?_
  refine fg_X11_16 C hH dX11_letterAt_1 ?_
  refine lv_bipush (v := (40 : Int32)) hx hb dX11_letterAt_4 (by decide) ?_
  refine lv_iload_n hx hb dX11_letterAt_6 rfl (lv_at hl 1 rfl) ?_
  refine lv_imul hx hb dX11_letterAt_7 ?_
  refine lv_iload_n hx hb dX11_letterAt_8 rfl (lv_at hl 2 rfl) ?_
  refine lv_iadd hx hb dX11_letterAt_9 ?_
  refine g_iald C hH kc_716 hf dX11_letterAt_10 (fun x1 hf => ?_)
  cases hf
  exact q_reti C hH trivial dX11_letterAt_11
set_option maxRecDepth 100000 in
theorem c_X11_letterAt {l : Launch} {D : va_G} {B : Nat} {Y : Nat → ClassId} {v1 : Int32} {v2 : Int32} {w : Wd} {r : Int32} {w1 : Wd}   (hf : f_X11_letterAt v1 v2 w = some (r, w1)) : CM l D B Y yX11_letterAt cX11_letterAt 3 (some .int) 0 [.ref (B + 713), .int v1, .int v2] w (some (.int r)) w1 True :=
  CM_of (by decide +kernel) (Nat.le_of_ble_eq_true rfl) (fun p e s m args below meth c ls C hH hl => t_X11_letterAt_0 C  hH (lv_sub hl [0, 1, 2] rfl) hf)
/-! LetterTablesModel.feed -/
set_option maxRecDepth 100000 in
set_option maxHeartbeats 4000000 in
theorem tb_X11_feed_43 {D : va_G} {B : Nat} {Y : Nat → ClassId} {p : Program} {l : Launch} {e : Env} {s : State} {m : MethodId} {args : Array Value} {below : List Frame} {meth : Method} {c : Code} {z : (Int32 × Wd)} {H : Heap} {locs : List Loc} {ls : Array Slot} {w : Wd} {v1 : Int64} {v3 : Int32} {v4 : Int32} (C : CX D B Y p s m args meth c cX11_feed 5 RX11 (some .int))  {rc_43 : Int64 × Int32 × Int32 × Wd → Option (Int32 × Wd)} (hr_43 : ∀ (v1 : Int64) (v3 : Int32) (v4 : Int32) (w : Wd), rc_43 (v1, v3, v4, w) = some z → ∀ (H : Heap) (locs : List Loc) (ls : Array Slot), HS D B Y w s H locs → lv_has ls 5 [(0, .ref (B + 713)), (1, .long v1), (3, .int v3), (4, .int v4)] → W p l e (RM 1 0 0) s m args below meth c H locs 0 0 (MQ below (QG D B Y (some (.int z.1)) z.2 True) args s 0 0 (AB B)) (F0 m 43 ls []))    (hH : HS D B Y w s H locs) (hl : lv_has ls 5 [(0, .ref (B + 713)), (1, .long v1), (3, .int v3), (4, .int v4)]) (hf : g_X11_feed_43 rc_43 v1 v3 v4 w = some z) : W p l e (RM 1 0 0) s m args below meth c H locs 0 0 (MQ below (QG D B Y (some (.int z.1)) z.2 True) args s 0 0 (AB B)) (F0 m 43 ls []) := by
  have hx := C.1
  have hb := C.2.1
  unfold g_X11_feed_43 at hf
  refine lv_iload hx hb dX11_feed_43 (lv_at hl 3 rfl) ?_
  refine lv_iload_n hx hb dX11_feed_45 rfl (lv_at hl 2 rfl) ?_
  refine b_icmp_ge (tgt := 86) hx hb hf dX11_feed_46 (by decide) (fun hf => ?_) (fun hf => ?_)
  · refine lv_aload_n hx hb dX11_feed_86 rfl (lv_at hl 0 rfl) ?_
    refine fg_X11_115 C hH dX11_feed_87 ?_
    cases hf
    exact q_reti C hH trivial dX11_feed_90
  · refine lv_aload_n hx hb dX11_feed_49 rfl (lv_at hl 0 rfl) ?_
    refine fg_X11_22 C hH dX11_feed_50 ?_
    refine lv_aload_n hx hb dX11_feed_53 rfl (lv_at hl 0 rfl) ?_
    refine fg_X11_115 C hH dX11_feed_54 ?_
    refine lv_lload_n hx hb dX11_feed_57 rfl (lv_at hl 1 rfl) ?_
    refine lv_bipush (v := (8 : Int32)) hx hb dX11_feed_58 (by decide) ?_
    refine lv_iload hx hb dX11_feed_60 (lv_at hl 3 rfl) ?_
    refine lv_imul hx hb dX11_feed_62 ?_
    refine lv_lushr (v := (v1.toUInt64 >>> (((8 : Int32) * v4).toInt64.toUInt64 &&& Int64.toUInt64 63)).toInt64) hx hb dX11_feed_63 rfl ?_
    refine lv_ldc2 (v := (255 : Int64)) hx hb C.2.2.2.1 (C.2.2.2.2.1 _ wd_1623) dX11_feed_64 ?_
    refine lv_land hx hb dX11_feed_67 ?_
    refine lv_l2i (v := (((v1.toUInt64 >>> (((8 : Int32) * v4).toInt64.toUInt64 &&& Int64.toUInt64 63)).toInt64) &&& (255 : Int64)).toInt32) hx hb dX11_feed_68 rfl ?_
    refine g_iast C hH kc_718 hf dX11_feed_69 (fun w1 H locs hf hH => ?_)
    refine lv_aload_n hx hb dX11_feed_70 rfl (lv_at hl 0 rfl) ?_
    refine lv_dup hx hb dX11_feed_71 rfl ?_
    refine fg_X11_115 C hH dX11_feed_72 ?_
    refine lv_iconst (v := (1 : Int32)) hx hb dX11_feed_75 (by decide) ?_
    refine lv_iadd hx hb dX11_feed_76 ?_
    refine fp_X11_115 C hH dX11_feed_77 (fun H locs hH => ?_)
    refine b_w hf hH (fun w2 hf hH => ?_)
    refine b_let hf (fun x3 he hf => ?_)
    refine lv_iinc (v := x3) (lv' := [(4, .int x3), (0, .ref (B + 713)), (1, .long v1), (3, .int v3)]) hx hb dX11_feed_80 hl (k := 3) rfl (by rw [← he]; rfl) (by decide) rfl (fun ls hl => ?_)
    refine lv_goto (tgt := 43) hx hb dX11_feed_83 (by decide) ?_
    exact hr_43 v1 v3 x3 w2 hf _ _ _ hH (lv_sub hl [1, 2, 3, 0] rfl)
set_option maxRecDepth 100000 in
set_option maxHeartbeats 4000000 in
theorem t_X11_feed_43 {D : va_G} {B : Nat} {Y : Nat → ClassId} {p : Program} {l : Launch} {e : Env} {s : State} {m : MethodId} {args : Array Value} {below : List Frame} {meth : Method} {c : Code} {z : (Int32 × Wd)} {H : Heap} {locs : List Loc} {ls : Array Slot} {w : Wd} {v1 : Int64} {v3 : Int32} {v4 : Int32} (C : CX D B Y p s m args meth c cX11_feed 5 RX11 (some .int))     (hH : HS D B Y w s H locs) (hl : lv_has ls 5 [(0, .ref (B + 713)), (1, .long v1), (3, .int v3), (4, .int v4)]) (hf : f_X11_feed_43 v1 v3 v4 w = some z) : W p l e (RM 1 0 0) s m args below meth c H locs 0 0 (MQ below (QG D B Y (some (.int z.1)) z.2 True) args s 0 0 (AB B)) (F0 m 43 ls []) := by
  exact loopN_ind (z := z) (body := fun rc σ => g_X11_feed_43 rc  σ.1 σ.2.1 σ.2.2.1 σ.2.2.2)
    (P := fun σ => ∀ (H : Heap) (locs : List Loc) (ls : Array Slot), HS D B Y σ.2.2.2 s H locs → lv_has ls 5 [(0, .ref (B + 713)), (1, .long σ.1), (3, .int σ.2.1), (4, .int σ.2.2.1)] → W p l e (RM 1 0 0) s m args below meth c H locs 0 0 (MQ below (QG D B Y (some (.int z.1)) z.2 True) args s 0 0 (AB B)) (F0 m 43 ls []))
    (fun rc hrec σ hf  H locs ls hH hl => tb_X11_feed_43 C (fun v1 v3 v4 w hr  H locs ls hH hl => hrec (v1, v3, v4, w) hr  H locs ls hH hl)   hH hl hf) FU (v1, v3, v4, w) hf  H locs ls hH hl
set_option maxRecDepth 100000 in
set_option maxHeartbeats 4000000 in
theorem t_X11_feed_32 {D : va_G} {B : Nat} {Y : Nat → ClassId} {p : Program} {l : Launch} {e : Env} {s : State} {m : MethodId} {args : Array Value} {below : List Frame} {meth : Method} {c : Code} {z : (Int32 × Wd)} {H : Heap} {locs : List Loc} {ls : Array Slot} {w : Wd} {v1 : Int64} {v3 : Int32} {t1 : Int32} (C : CX D B Y p s m args meth c cX11_feed 5 RX11 (some .int))     (hH : HS D B Y w s H locs) (hl : lv_has ls 5 [(0, .ref (B + 713)), (1, .long v1), (3, .int v3)]) (hf : f_X11_feed_32 v1 v3 t1 w = some z) : W p l e (RM 1 0 0) s m args below meth c H locs 0 0 (MQ below (QG D B Y (some (.int z.1)) z.2 True) args s 0 0 (AB B)) (F0 m 32 ls [.int t1, .ref (B + 713)]) := by
  have hx := C.1
  have hb := C.2.1
  unfold f_X11_feed_32 at hf
  obtain ⟨x2, w1, hc, hf⟩ := bd_some hf
  refine q_callV1 (v := .int x2) (As := [.int t1]) C hH (ci := 11) rfl (by omega) gk_X11_118 yd_X11_holds (by omega) (by omega) kc_713 (c_X11_holds hc) hl.1 rfl (Nat.le_of_ble_eq_true rfl) dX11_feed_32 ⟨by decide, by decide⟩ (fun H locs hH z_x2 => ?_)
  refine b_if_ne (tgt := 40) hx hb hf dX11_feed_35 (by decide) (fun hf => ?_) (fun hf => ?_)
  · refine lv_iconst (v := (0 : Int32)) hx hb dX11_feed_40 (by decide) ?_
    refine lv_istore (lv' := [(4, .int (0 : Int32)), (0, .ref (B + 713)), (1, .long v1), (3, .int v3)]) hx hb dX11_feed_41 hl (by decide) rfl (fun ls hl => ?_)
    exact t_X11_feed_43 C hH (lv_sub hl [1, 2, 3, 0] rfl) hf
  · refine lv_iconst (v := (0 : Int32)) hx hb dX11_feed_38 (by decide) ?_
    cases hf
    exact q_reti C hH trivial dX11_feed_39
set_option maxRecDepth 100000 in
set_option maxHeartbeats 4000000 in
theorem t_X11_feed_0 {D : va_G} {B : Nat} {Y : Nat → ClassId} {p : Program} {l : Launch} {e : Env} {s : State} {m : MethodId} {args : Array Value} {below : List Frame} {meth : Method} {c : Code} {z : (Int32 × Wd)} {H : Heap} {locs : List Loc} {ls : Array Slot} {w : Wd} {v1 : Int64} {v3 : Int32} (C : CX D B Y p s m args meth c cX11_feed 5 RX11 (some .int))     (hH : HS D B Y w s H locs) (hl : lv_has ls 5 [(0, .ref (B + 713)), (1, .long v1), (3, .int v3)]) (hf : f_X11_feed v1 v3 w = some z) : W p l e (RM 1 0 0) s m args below meth c H locs 0 0 (MQ below (QG D B Y (some (.int z.1)) z.2 True) args s 0 0 (AB B)) (F0 m 0 ls []) := by
  have hx := C.1
  have hb := C.2.1
  unfold f_X11_feed at hf
  refine lv_aload_n hx hb dX11_feed_0 rfl (lv_at hl 0 rfl) ?_
  refine lv_iload_n hx hb dX11_feed_1 rfl (lv_at hl 2 rfl) ?_
  refine lv_iconst (v := (1 : Int32)) hx hb dX11_feed_2 (by decide) ?_
  refine lv_bipush (v := (8 : Int32)) hx hb dX11_feed_3 (by decide) ?_
  obtain ⟨x2, w1, hc, hf⟩ := bd_some hf
  refine q_callS1 (v := .int x2) (As := [.int v3, .int (1 : Int32), .int (8 : Int32)]) C hH gk_X11_111 yd_X11_in (by omega) (by omega) (c_X11_in hc) hl.1 rfl (Nat.le_of_ble_eq_true rfl) dX11_feed_5 ⟨by decide, by decide⟩ (fun H locs hH z_x2 => ?_)
  refine b_if_ne (tgt := 15) hx hb hf dX11_feed_8 (by decide) (fun hf => ?_) (fun hf => ?_)
  · refine lv_aload_n hx hb dX11_feed_15 rfl (lv_at hl 0 rfl) ?_
    refine fg_X11_115 C hH dX11_feed_16 ?_
    refine lv_iload_n hx hb dX11_feed_19 rfl (lv_at hl 2 rfl) ?_
    refine lv_iadd hx hb dX11_feed_20 ?_
    refine lv_sipush (v := (160 : Int32)) hx hb dX11_feed_21 (by decide) ?_
    refine b_icmp_le (tgt := 31) hx hb hf dX11_feed_24 (by decide) (fun hf => ?_) (fun hf => ?_)
    · refine lv_iconst (v := (0 : Int32)) hx hb dX11_feed_31 (by decide) ?_
      exact t_X11_feed_32 C hH (lv_sub hl [0, 1, 2] rfl) hf
    · refine lv_iconst (v := (2 : Int32)) hx hb dX11_feed_27 (by decide) ?_
      refine lv_goto (tgt := 32) hx hb dX11_feed_28 (by decide) ?_
      exact t_X11_feed_32 C hH (lv_sub hl [0, 1, 2] rfl) hf
  · refine lv_iconst (v := (1 : Int32)) hx hb dX11_feed_11 (by decide) ?_
    refine lv_goto (tgt := 32) hx hb dX11_feed_12 (by decide) ?_
    exact t_X11_feed_32 C hH (lv_sub hl [0, 1, 2] rfl) hf
set_option maxRecDepth 100000 in
theorem c_X11_feed {l : Launch} {D : va_G} {B : Nat} {Y : Nat → ClassId} {v1 : Int64} {v3 : Int32} {w : Wd} {r : Int32} {w1 : Wd}   (hf : f_X11_feed v1 v3 w = some (r, w1)) : CM l D B Y yX11_feed cX11_feed 5 (some .int) 1 [.ref (B + 713), .long v1, .int v3] w (some (.int r)) w1 True :=
  CM_of (by decide +kernel) (Nat.le_of_ble_eq_true rfl) (fun p e s m args below meth c ls C hH hl => t_X11_feed_0 C  hH (lv_sub hl [0, 1, 2] rfl) hf)
/-! LetterTablesModel.letter -/
set_option maxRecDepth 100000 in
set_option maxHeartbeats 4000000 in
theorem t_X11_letter_68 {D : va_G} {B : Nat} {Y : Nat → ClassId} {p : Program} {l : Launch} {e : Env} {s : State} {m : MethodId} {args : Array Value} {below : List Frame} {meth : Method} {c : Code} {z : (Unit × Wd)} {H : Heap} {locs : List Loc} {ls : Array Slot} {w : Wd} {v1 : Int32} {v2 : Int32} {v3 : Int32} {v4 : Int32} {v5 : Int32} {t1 : Int32} (C : CX D B Y p s m args meth c cX11_letter 7 RX11 none)     (hH : HS D B Y w s H locs) (hl : lv_has ls 7 [(0, .ref (B + 713)), (1, .int v1), (2, .int v2), (3, .int v3), (4, .int v4), (5, .int v5)]) (hf : f_X11_letter_68 v1 v2 v3 v4 v5 t1 w = some z) : W p l e (RM 2 0 0) s m args below meth c H locs 0 0 (MQ below (QG D B Y none z.2 True) args s 0 0 (AB B)) (F0 m 68 ls [.int t1, .ref (B + 713)]) := by
  have hx := C.1
  have hb := C.2.1
  unfold f_X11_letter_68 at hf
  obtain ⟨x2, w1, hc, hf⟩ := bd_some hf
  refine q_callV1 (v := .int x2) (As := [.int t1]) C hH (ci := 11) rfl (by omega) gk_X11_118 yd_X11_holds (by omega) (by omega) kc_713 (c_X11_holds hc) hl.1 rfl (Nat.le_of_ble_eq_true rfl) dX11_letter_68 ⟨by decide, by decide⟩ (fun H locs hH z_x2 => ?_)
  refine b_if_eq (tgt := 124) hx hb hf dX11_letter_71 (by decide) (fun hf => ?_) (fun hf => ?_)
  · cases hf
    exact q_retv C hH trivial dX11_letter_124
  · refine lv_aload_n hx hb dX11_letter_74 rfl (lv_at hl 0 rfl) ?_
    refine fg_X11_7 C hH dX11_letter_75 ?_
    refine lv_bipush (v := (9 : Int32)) hx hb dX11_letter_78 (by decide) ?_
    refine lv_iload_n hx hb dX11_letter_80 rfl (lv_at hl 1 rfl) ?_
    refine lv_imul hx hb dX11_letter_81 ?_
    refine lv_iconst (v := (0 : Int32)) hx hb dX11_letter_82 (by decide) ?_
    refine lv_iadd hx hb dX11_letter_83 ?_
    refine lv_iload_n hx hb dX11_letter_84 rfl (lv_at hl 2 rfl) ?_
    refine g_iast C hH kc_714 hf dX11_letter_85 (fun w3 H locs hf hH => ?_)
    refine lv_aload_n hx hb dX11_letter_86 rfl (lv_at hl 0 rfl) ?_
    refine fg_X11_7 C hH dX11_letter_87 ?_
    refine lv_bipush (v := (9 : Int32)) hx hb dX11_letter_90 (by decide) ?_
    refine lv_iload_n hx hb dX11_letter_92 rfl (lv_at hl 1 rfl) ?_
    refine lv_imul hx hb dX11_letter_93 ?_
    refine lv_iconst (v := (1 : Int32)) hx hb dX11_letter_94 (by decide) ?_
    refine lv_iadd hx hb dX11_letter_95 ?_
    refine lv_iload_n hx hb dX11_letter_96 rfl (lv_at hl 3 rfl) ?_
    refine g_iast C hH kc_714 hf dX11_letter_97 (fun w4 H locs hf hH => ?_)
    refine lv_aload_n hx hb dX11_letter_98 rfl (lv_at hl 0 rfl) ?_
    refine fg_X11_7 C hH dX11_letter_99 ?_
    refine lv_bipush (v := (9 : Int32)) hx hb dX11_letter_102 (by decide) ?_
    refine lv_iload_n hx hb dX11_letter_104 rfl (lv_at hl 1 rfl) ?_
    refine lv_imul hx hb dX11_letter_105 ?_
    refine lv_iconst (v := (2 : Int32)) hx hb dX11_letter_106 (by decide) ?_
    refine lv_iadd hx hb dX11_letter_107 ?_
    refine lv_iload hx hb dX11_letter_108 (lv_at hl 4 rfl) ?_
    refine g_iast C hH kc_714 hf dX11_letter_110 (fun w5 H locs hf hH => ?_)
    refine lv_aload_n hx hb dX11_letter_111 rfl (lv_at hl 0 rfl) ?_
    refine fg_X11_7 C hH dX11_letter_112 ?_
    refine lv_bipush (v := (9 : Int32)) hx hb dX11_letter_115 (by decide) ?_
    refine lv_iload_n hx hb dX11_letter_117 rfl (lv_at hl 1 rfl) ?_
    refine lv_imul hx hb dX11_letter_118 ?_
    refine lv_iconst (v := (3 : Int32)) hx hb dX11_letter_119 (by decide) ?_
    refine lv_iadd hx hb dX11_letter_120 ?_
    refine lv_iload hx hb dX11_letter_121 (lv_at hl 5 rfl) ?_
    refine g_iast C hH kc_714 hf dX11_letter_123 (fun w6 H locs hf hH => ?_)
    cases hf
    exact q_retv C hH trivial dX11_letter_124
set_option maxRecDepth 100000 in
set_option maxHeartbeats 4000000 in
theorem t_X11_letter_44 {D : va_G} {B : Nat} {Y : Nat → ClassId} {p : Program} {l : Launch} {e : Env} {s : State} {m : MethodId} {args : Array Value} {below : List Frame} {meth : Method} {c : Code} {z : (Unit × Wd)} {H : Heap} {locs : List Loc} {ls : Array Slot} {w : Wd} {v1 : Int32} {v2 : Int32} {v3 : Int32} {v4 : Int32} {v5 : Int32} {t0 : Int32} (C : CX D B Y p s m args meth c cX11_letter 7 RX11 none)    (z_t0 : isZ t0) (hH : HS D B Y w s H locs) (hl : lv_has ls 7 [(0, .ref (B + 713)), (1, .int v1), (2, .int v2), (3, .int v3), (4, .int v4), (5, .int v5)]) (hf : f_X11_letter_44 v1 v2 v3 v4 v5 t0 w = some z) : W p l e (RM 2 0 0) s m args below meth c H locs 0 0 (MQ below (QG D B Y none z.2 True) args s 0 0 (AB B)) (F0 m 44 ls [.int t0]) := by
  have hx := C.1
  have hb := C.2.1
  unfold f_X11_letter_44 at hf
  refine lv_istore (lv' := [(6, .int t0), (0, .ref (B + 713)), (1, .int v1), (2, .int v2), (3, .int v3), (4, .int v4), (5, .int v5)]) hx hb dX11_letter_44 hl (by decide) rfl (fun ls hl => ?_)
  refine lv_aload_n hx hb dX11_letter_46 rfl (lv_at hl 1 rfl) ?_
  refine lv_iload_n hx hb dX11_letter_47 rfl (lv_at hl 2 rfl) ?_
  obtain ⟨x2, w1, hc, hf⟩ := bd_some hf
  refine q_callS1 (v := .int x2) (As := [.int v1]) C hH gk_X11_124 yd_X11_isLetter (by omega) (by omega) (c_X11_isLetter hc) hl.1 rfl (Nat.le_of_ble_eq_true rfl) dX11_letter_48 ⟨by decide, by decide⟩ (fun H locs hH z_x2 => ?_)
  refine b_if_ne (tgt := 58) hx hb hf dX11_letter_51 (by decide) (fun hf => ?_) (fun hf => ?_)
  · refine lv_iload hx hb dX11_letter_58 (lv_at hl 0 rfl) ?_
    refine b_if_eq (tgt := 67) hx hb hf dX11_letter_60 (by decide) (fun hf => ?_) (fun hf => ?_)
    · refine lv_iconst (v := (2 : Int32)) hx hb dX11_letter_67 (by decide) ?_
      exact t_X11_letter_68 C hH (lv_sub hl [1, 2, 3, 4, 5, 6] rfl) hf
    · refine lv_iconst (v := (0 : Int32)) hx hb dX11_letter_63 (by decide) ?_
      refine lv_goto (tgt := 68) hx hb dX11_letter_64 (by decide) ?_
      exact t_X11_letter_68 C hH (lv_sub hl [1, 2, 3, 4, 5, 6] rfl) hf
  · refine lv_iconst (v := (1 : Int32)) hx hb dX11_letter_54 (by decide) ?_
    refine lv_goto (tgt := 68) hx hb dX11_letter_55 (by decide) ?_
    exact t_X11_letter_68 C hH (lv_sub hl [1, 2, 3, 4, 5, 6] rfl) hf
set_option maxRecDepth 100000 in
set_option maxHeartbeats 4000000 in
theorem t_X11_letter_43 {D : va_G} {B : Nat} {Y : Nat → ClassId} {p : Program} {l : Launch} {e : Env} {s : State} {m : MethodId} {args : Array Value} {below : List Frame} {meth : Method} {c : Code} {z : (Unit × Wd)} {H : Heap} {locs : List Loc} {ls : Array Slot} {w : Wd} {v1 : Int32} {v2 : Int32} {v3 : Int32} {v4 : Int32} {v5 : Int32} (C : CX D B Y p s m args meth c cX11_letter 7 RX11 none)     (hH : HS D B Y w s H locs) (hl : lv_has ls 7 [(0, .ref (B + 713)), (1, .int v1), (2, .int v2), (3, .int v3), (4, .int v4), (5, .int v5)]) (hf : f_X11_letter_43 v1 v2 v3 v4 v5 w = some z) : W p l e (RM 2 0 0) s m args below meth c H locs 0 0 (MQ below (QG D B Y none z.2 True) args s 0 0 (AB B)) (F0 m 43 ls []) := by
  have hx := C.1
  have hb := C.2.1
  unfold f_X11_letter_43 at hf
  refine lv_iconst (v := (0 : Int32)) hx hb dX11_letter_43 (by decide) ?_
  exact t_X11_letter_44 C isZ_0 hH (lv_sub hl [0, 1, 2, 3, 4, 5] rfl) hf
set_option maxRecDepth 100000 in
set_option maxHeartbeats 4000000 in
theorem t_X11_letter_0 {D : va_G} {B : Nat} {Y : Nat → ClassId} {p : Program} {l : Launch} {e : Env} {s : State} {m : MethodId} {args : Array Value} {below : List Frame} {meth : Method} {c : Code} {z : (Unit × Wd)} {H : Heap} {locs : List Loc} {ls : Array Slot} {w : Wd} {v1 : Int32} {v2 : Int32} {v3 : Int32} {v4 : Int32} {v5 : Int32} (C : CX D B Y p s m args meth c cX11_letter 7 RX11 none)     (hH : HS D B Y w s H locs) (hl : lv_has ls 7 [(0, .ref (B + 713)), (1, .int v1), (2, .int v2), (3, .int v3), (4, .int v4), (5, .int v5)]) (hf : f_X11_letter v1 v2 v3 v4 v5 w = some z) : W p l e (RM 2 0 0) s m args below meth c H locs 0 0 (MQ below (QG D B Y none z.2 True) args s 0 0 (AB B)) (F0 m 0 ls []) := by
  have hx := C.1
  have hb := C.2.1
  unfold f_X11_letter at hf
  refine lv_iload_n hx hb dX11_letter_0 rfl (lv_at hl 2 rfl) ?_
  refine lv_iconst (v := (0 : Int32)) hx hb dX11_letter_1 (by decide) ?_
  refine lv_bipush (v := (9 : Int32)) hx hb dX11_letter_2 (by decide) ?_
  obtain ⟨x2, w1, hc, hf⟩ := bd_some hf
  refine q_callS1 (v := .int x2) (As := [.int v2, .int (0 : Int32), .int (9 : Int32)]) C hH gk_X11_111 yd_X11_in (by omega) (by omega) (c_X11_in hc) hl.1 rfl (Nat.le_of_ble_eq_true rfl) dX11_letter_4 ⟨by decide, by decide⟩ (fun H locs hH z_x2 => ?_)
  refine b_if_eq (tgt := 43) hx hb hf dX11_letter_7 (by decide) (fun hf => ?_) (fun hf => ?_)
  · exact t_X11_letter_43 C hH (lv_sub hl [0, 1, 2, 3, 4, 5] rfl) hf
  · refine lv_iload_n hx hb dX11_letter_10 rfl (lv_at hl 3 rfl) ?_
    refine lv_iconst (v := (0 : Int32)) hx hb dX11_letter_11 (by decide) ?_
    refine lv_bipush (v := (10 : Int32)) hx hb dX11_letter_12 (by decide) ?_
    obtain ⟨x4, w3, hc, hf⟩ := bd_some hf
    refine q_callS1 (v := .int x4) (As := [.int v3, .int (0 : Int32), .int (10 : Int32)]) C hH gk_X11_111 yd_X11_in (by omega) (by omega) (c_X11_in hc) hl.1 rfl (Nat.le_of_ble_eq_true rfl) dX11_letter_14 ⟨by decide, by decide⟩ (fun H locs hH z_x4 => ?_)
    refine b_if_eq (tgt := 43) hx hb hf dX11_letter_17 (by decide) (fun hf => ?_) (fun hf => ?_)
    · exact t_X11_letter_43 C hH (lv_sub hl [0, 1, 2, 3, 4, 5] rfl) hf
    · refine lv_iload hx hb dX11_letter_20 (lv_at hl 4 rfl) ?_
      refine lv_iconst (v := (0 : Int32)) hx hb dX11_letter_22 (by decide) ?_
      refine lv_bipush (v := (6 : Int32)) hx hb dX11_letter_23 (by decide) ?_
      obtain ⟨x6, w5, hc, hf⟩ := bd_some hf
      refine q_callS1 (v := .int x6) (As := [.int v4, .int (0 : Int32), .int (6 : Int32)]) C hH gk_X11_111 yd_X11_in (by omega) (by omega) (c_X11_in hc) hl.1 rfl (Nat.le_of_ble_eq_true rfl) dX11_letter_25 ⟨by decide, by decide⟩ (fun H locs hH z_x6 => ?_)
      refine b_if_eq (tgt := 43) hx hb hf dX11_letter_28 (by decide) (fun hf => ?_) (fun hf => ?_)
      · exact t_X11_letter_43 C hH (lv_sub hl [0, 1, 2, 3, 4, 5] rfl) hf
      · refine lv_iload hx hb dX11_letter_31 (lv_at hl 5 rfl) ?_
        obtain ⟨x8, w7, hc, hf⟩ := bd_some hf
        refine q_callS1 (v := .int x8) (As := [.int v5]) C hH gk_X11_124 yd_X11_isLetter (by omega) (by omega) (c_X11_isLetter hc) hl.1 rfl (Nat.le_of_ble_eq_true rfl) dX11_letter_33 ⟨by decide, by decide⟩ (fun H locs hH z_x8 => ?_)
        refine b_if_eq (tgt := 43) hx hb hf dX11_letter_36 (by decide) (fun hf => ?_) (fun hf => ?_)
        · exact t_X11_letter_43 C hH (lv_sub hl [0, 1, 2, 3, 4, 5] rfl) hf
        · refine lv_iconst (v := (1 : Int32)) hx hb dX11_letter_39 (by decide) ?_
          refine lv_goto (tgt := 44) hx hb dX11_letter_40 (by decide) ?_
          exact t_X11_letter_44 C isZ_1 hH (lv_sub hl [0, 1, 2, 3, 4, 5] rfl) hf
set_option maxRecDepth 100000 in
theorem c_X11_letter {l : Launch} {D : va_G} {B : Nat} {Y : Nat → ClassId} {v1 : Int32} {v2 : Int32} {v3 : Int32} {v4 : Int32} {v5 : Int32} {w : Wd} {r : Unit} {w1 : Wd}   (hf : f_X11_letter v1 v2 v3 v4 v5 w = some (r, w1)) : CM l D B Y yX11_letter cX11_letter 7 none 2 [.ref (B + 713), .int v1, .int v2, .int v3, .int v4, .int v5] w none w1 True :=
  CM_of (by decide +kernel) (Nat.le_of_ble_eq_true rfl) (fun p e s m args below meth c ls C hH hl => t_X11_letter_0 C  hH (lv_sub hl [0, 1, 2, 3, 4, 5] rfl) hf)
/-! LetterTablesModel.split -/
set_option maxRecDepth 100000 in
set_option maxHeartbeats 4000000 in
theorem t_X11_split_61 {D : va_G} {B : Nat} {Y : Nat → ClassId} {p : Program} {l : Launch} {e : Env} {s : State} {m : MethodId} {args : Array Value} {below : List Frame} {meth : Method} {c : Code} {z : (Unit × Wd)} {H : Heap} {locs : List Loc} {ls : Array Slot} {w : Wd} {v1 : Int32} {v2 : Int32} {v3 : Int32} {t1 : Int32} (C : CX D B Y p s m args meth c cX11_split 5 RX11 none)     (hH : HS D B Y w s H locs) (hl : lv_has ls 5 [(0, .ref (B + 713)), (1, .int v1), (2, .int v2), (3, .int v3)]) (hf : f_X11_split_61 v1 v2 v3 t1 w = some z) : W p l e (RM 2 0 0) s m args below meth c H locs 0 0 (MQ below (QG D B Y none z.2 True) args s 0 0 (AB B)) (F0 m 61 ls [.int t1, .ref (B + 713)]) := by
  have hx := C.1
  have hb := C.2.1
  unfold f_X11_split_61 at hf
  obtain ⟨x2, w1, hc, hf⟩ := bd_some hf
  refine q_callV1 (v := .int x2) (As := [.int t1]) C hH (ci := 11) rfl (by omega) gk_X11_118 yd_X11_holds (by omega) (by omega) kc_713 (c_X11_holds hc) hl.1 rfl (Nat.le_of_ble_eq_true rfl) dX11_split_61 ⟨by decide, by decide⟩ (fun H locs hH z_x2 => ?_)
  refine b_if_eq (tgt := 95) hx hb hf dX11_split_64 (by decide) (fun hf => ?_) (fun hf => ?_)
  · cases hf
    exact q_retv C hH trivial dX11_split_95
  · refine lv_aload_n hx hb dX11_split_67 rfl (lv_at hl 0 rfl) ?_
    refine fg_X11_7 C hH dX11_split_68 ?_
    refine lv_bipush (v := (9 : Int32)) hx hb dX11_split_71 (by decide) ?_
    refine lv_iload_n hx hb dX11_split_73 rfl (lv_at hl 1 rfl) ?_
    refine lv_imul hx hb dX11_split_74 ?_
    refine lv_iconst (v := (4 : Int32)) hx hb dX11_split_75 (by decide) ?_
    refine lv_iadd hx hb dX11_split_76 ?_
    refine lv_iload_n hx hb dX11_split_77 rfl (lv_at hl 2 rfl) ?_
    refine lv_iconst (v := (1 : Int32)) hx hb dX11_split_78 (by decide) ?_
    refine lv_iadd hx hb dX11_split_79 ?_
    refine g_iast C hH kc_714 hf dX11_split_80 (fun w3 H locs hf hH => ?_)
    refine lv_aload_n hx hb dX11_split_81 rfl (lv_at hl 0 rfl) ?_
    refine fg_X11_7 C hH dX11_split_82 ?_
    refine lv_bipush (v := (9 : Int32)) hx hb dX11_split_85 (by decide) ?_
    refine lv_iload_n hx hb dX11_split_87 rfl (lv_at hl 1 rfl) ?_
    refine lv_imul hx hb dX11_split_88 ?_
    refine lv_iconst (v := (5 : Int32)) hx hb dX11_split_89 (by decide) ?_
    refine lv_iadd hx hb dX11_split_90 ?_
    refine lv_iload_n hx hb dX11_split_91 rfl (lv_at hl 3 rfl) ?_
    refine lv_iconst (v := (1 : Int32)) hx hb dX11_split_92 (by decide) ?_
    refine lv_iadd hx hb dX11_split_93 ?_
    refine g_iast C hH kc_714 hf dX11_split_94 (fun w4 H locs hf hH => ?_)
    cases hf
    exact q_retv C hH trivial dX11_split_95
set_option maxRecDepth 100000 in
set_option maxHeartbeats 4000000 in
theorem t_X11_split_37 {D : va_G} {B : Nat} {Y : Nat → ClassId} {p : Program} {l : Launch} {e : Env} {s : State} {m : MethodId} {args : Array Value} {below : List Frame} {meth : Method} {c : Code} {z : (Unit × Wd)} {H : Heap} {locs : List Loc} {ls : Array Slot} {w : Wd} {v1 : Int32} {v2 : Int32} {v3 : Int32} {t0 : Int32} (C : CX D B Y p s m args meth c cX11_split 5 RX11 none)    (z_t0 : isZ t0) (hH : HS D B Y w s H locs) (hl : lv_has ls 5 [(0, .ref (B + 713)), (1, .int v1), (2, .int v2), (3, .int v3)]) (hf : f_X11_split_37 v1 v2 v3 t0 w = some z) : W p l e (RM 2 0 0) s m args below meth c H locs 0 0 (MQ below (QG D B Y none z.2 True) args s 0 0 (AB B)) (F0 m 37 ls [.int t0]) := by
  have hx := C.1
  have hb := C.2.1
  unfold f_X11_split_37 at hf
  refine lv_istore (lv' := [(4, .int t0), (0, .ref (B + 713)), (1, .int v1), (2, .int v2), (3, .int v3)]) hx hb dX11_split_37 hl (by decide) rfl (fun ls hl => ?_)
  refine lv_aload_n hx hb dX11_split_39 rfl (lv_at hl 1 rfl) ?_
  refine lv_iload_n hx hb dX11_split_40 rfl (lv_at hl 2 rfl) ?_
  obtain ⟨x2, w1, hc, hf⟩ := bd_some hf
  refine q_callS1 (v := .int x2) (As := [.int v1]) C hH gk_X11_124 yd_X11_isLetter (by omega) (by omega) (c_X11_isLetter hc) hl.1 rfl (Nat.le_of_ble_eq_true rfl) dX11_split_41 ⟨by decide, by decide⟩ (fun H locs hH z_x2 => ?_)
  refine b_if_ne (tgt := 51) hx hb hf dX11_split_44 (by decide) (fun hf => ?_) (fun hf => ?_)
  · refine lv_iload hx hb dX11_split_51 (lv_at hl 0 rfl) ?_
    refine b_if_eq (tgt := 60) hx hb hf dX11_split_53 (by decide) (fun hf => ?_) (fun hf => ?_)
    · refine lv_iconst (v := (2 : Int32)) hx hb dX11_split_60 (by decide) ?_
      exact t_X11_split_61 C hH (lv_sub hl [1, 2, 3, 4] rfl) hf
    · refine lv_iconst (v := (0 : Int32)) hx hb dX11_split_56 (by decide) ?_
      refine lv_goto (tgt := 61) hx hb dX11_split_57 (by decide) ?_
      exact t_X11_split_61 C hH (lv_sub hl [1, 2, 3, 4] rfl) hf
  · refine lv_iconst (v := (1 : Int32)) hx hb dX11_split_47 (by decide) ?_
    refine lv_goto (tgt := 61) hx hb dX11_split_48 (by decide) ?_
    exact t_X11_split_61 C hH (lv_sub hl [1, 2, 3, 4] rfl) hf
set_option maxRecDepth 100000 in
set_option maxHeartbeats 4000000 in
theorem t_X11_split_36 {D : va_G} {B : Nat} {Y : Nat → ClassId} {p : Program} {l : Launch} {e : Env} {s : State} {m : MethodId} {args : Array Value} {below : List Frame} {meth : Method} {c : Code} {z : (Unit × Wd)} {H : Heap} {locs : List Loc} {ls : Array Slot} {w : Wd} {v1 : Int32} {v2 : Int32} {v3 : Int32} (C : CX D B Y p s m args meth c cX11_split 5 RX11 none)     (hH : HS D B Y w s H locs) (hl : lv_has ls 5 [(0, .ref (B + 713)), (1, .int v1), (2, .int v2), (3, .int v3)]) (hf : f_X11_split_36 v1 v2 v3 w = some z) : W p l e (RM 2 0 0) s m args below meth c H locs 0 0 (MQ below (QG D B Y none z.2 True) args s 0 0 (AB B)) (F0 m 36 ls []) := by
  have hx := C.1
  have hb := C.2.1
  unfold f_X11_split_36 at hf
  refine lv_iconst (v := (0 : Int32)) hx hb dX11_split_36 (by decide) ?_
  exact t_X11_split_37 C isZ_0 hH (lv_sub hl [0, 1, 2, 3] rfl) hf
set_option maxRecDepth 100000 in
set_option maxHeartbeats 4000000 in
theorem t_X11_split_10 {D : va_G} {B : Nat} {Y : Nat → ClassId} {p : Program} {l : Launch} {e : Env} {s : State} {m : MethodId} {args : Array Value} {below : List Frame} {meth : Method} {c : Code} {z : (Unit × Wd)} {H : Heap} {locs : List Loc} {ls : Array Slot} {w : Wd} {v1 : Int32} {v2 : Int32} {v3 : Int32} (C : CX D B Y p s m args meth c cX11_split 5 RX11 none)     (hH : HS D B Y w s H locs) (hl : lv_has ls 5 [(0, .ref (B + 713)), (1, .int v1), (2, .int v2), (3, .int v3)]) (hf : f_X11_split_10 v1 v2 v3 w = some z) : W p l e (RM 2 0 0) s m args below meth c H locs 0 0 (MQ below (QG D B Y none z.2 True) args s 0 0 (AB B)) (F0 m 10 ls []) := by
  have hx := C.1
  have hb := C.2.1
  unfold f_X11_split_10 at hf
  refine lv_iload_n hx hb dX11_split_10 rfl (lv_at hl 2 rfl) ?_
  refine lv_iconst (v := (0 : Int32)) hx hb dX11_split_11 (by decide) ?_
  refine lv_iload_n hx hb dX11_split_12 rfl (lv_at hl 1 rfl) ?_
  refine lv_iconst (v := (1 : Int32)) hx hb dX11_split_13 (by decide) ?_
  refine lv_isub hx hb dX11_split_14 ?_
  obtain ⟨x2, w1, hc, hf⟩ := bd_some hf
  refine q_callS1 (v := .int x2) (As := [.int v2, .int (0 : Int32), .int (v1 - (1 : Int32))]) C hH gk_X11_111 yd_X11_in (by omega) (by omega) (c_X11_in hc) hl.1 rfl (Nat.le_of_ble_eq_true rfl) dX11_split_15 ⟨by decide, by decide⟩ (fun H locs hH z_x2 => ?_)
  refine b_if_eq (tgt := 36) hx hb hf dX11_split_18 (by decide) (fun hf => ?_) (fun hf => ?_)
  · exact t_X11_split_36 C hH (lv_sub hl [0, 1, 2, 3] rfl) hf
  · refine lv_iload_n hx hb dX11_split_21 rfl (lv_at hl 3 rfl) ?_
    refine lv_iconst (v := (0 : Int32)) hx hb dX11_split_22 (by decide) ?_
    refine lv_iload_n hx hb dX11_split_23 rfl (lv_at hl 1 rfl) ?_
    refine lv_iconst (v := (1 : Int32)) hx hb dX11_split_24 (by decide) ?_
    refine lv_isub hx hb dX11_split_25 ?_
    obtain ⟨x4, w3, hc, hf⟩ := bd_some hf
    refine q_callS1 (v := .int x4) (As := [.int v3, .int (0 : Int32), .int (v1 - (1 : Int32))]) C hH gk_X11_111 yd_X11_in (by omega) (by omega) (c_X11_in hc) hl.1 rfl (Nat.le_of_ble_eq_true rfl) dX11_split_26 ⟨by decide, by decide⟩ (fun H locs hH z_x4 => ?_)
    refine b_if_eq (tgt := 36) hx hb hf dX11_split_29 (by decide) (fun hf => ?_) (fun hf => ?_)
    · exact t_X11_split_36 C hH (lv_sub hl [0, 1, 2, 3] rfl) hf
    · refine lv_iconst (v := (1 : Int32)) hx hb dX11_split_32 (by decide) ?_
      refine lv_goto (tgt := 37) hx hb dX11_split_33 (by decide) ?_
      exact t_X11_split_37 C isZ_1 hH (lv_sub hl [0, 1, 2, 3] rfl) hf
set_option maxRecDepth 100000 in
set_option maxHeartbeats 4000000 in
theorem t_X11_split_0 {D : va_G} {B : Nat} {Y : Nat → ClassId} {p : Program} {l : Launch} {e : Env} {s : State} {m : MethodId} {args : Array Value} {below : List Frame} {meth : Method} {c : Code} {z : (Unit × Wd)} {H : Heap} {locs : List Loc} {ls : Array Slot} {w : Wd} {v1 : Int32} {v2 : Int32} {v3 : Int32} (C : CX D B Y p s m args meth c cX11_split 5 RX11 none)     (hH : HS D B Y w s H locs) (hl : lv_has ls 5 [(0, .ref (B + 713)), (1, .int v1), (2, .int v2), (3, .int v3)]) (hf : f_X11_split v1 v2 v3 w = some z) : W p l e (RM 2 0 0) s m args below meth c H locs 0 0 (MQ below (QG D B Y none z.2 True) args s 0 0 (AB B)) (F0 m 0 ls []) := by
  have hx := C.1
  have hb := C.2.1
  unfold f_X11_split at hf
  refine lv_iload_n hx hb dX11_split_0 rfl (lv_at hl 2 rfl) ?_
  refine lv_iconst (v := (-1 : Int32)) hx hb dX11_split_1 (by decide) ?_
  refine b_icmp_ne (tgt := 10) hx hb hf dX11_split_2 (by decide) (fun hf => ?_) (fun hf => ?_)
  · exact t_X11_split_10 C hH (lv_sub hl [0, 1, 2, 3] rfl) hf
  · refine lv_iload_n hx hb dX11_split_5 rfl (lv_at hl 3 rfl) ?_
    refine lv_iconst (v := (-1 : Int32)) hx hb dX11_split_6 (by decide) ?_
    refine b_icmp_eq (tgt := 32) hx hb hf dX11_split_7 (by decide) (fun hf => ?_) (fun hf => ?_)
    · refine lv_iconst (v := (1 : Int32)) hx hb dX11_split_32 (by decide) ?_
      refine lv_goto (tgt := 37) hx hb dX11_split_33 (by decide) ?_
      exact t_X11_split_37 C isZ_1 hH (lv_sub hl [0, 1, 2, 3] rfl) hf
    · exact t_X11_split_10 C hH (lv_sub hl [0, 1, 2, 3] rfl) hf
set_option maxRecDepth 100000 in
theorem c_X11_split {l : Launch} {D : va_G} {B : Nat} {Y : Nat → ClassId} {v1 : Int32} {v2 : Int32} {v3 : Int32} {w : Wd} {r : Unit} {w1 : Wd}   (hf : f_X11_split v1 v2 v3 w = some (r, w1)) : CM l D B Y yX11_split cX11_split 5 none 2 [.ref (B + 713), .int v1, .int v2, .int v3] w none w1 True :=
  CM_of (by decide +kernel) (Nat.le_of_ble_eq_true rfl) (fun p e s m args below meth c ls C hH hl => t_X11_split_0 C  hH (lv_sub hl [0, 1, 2, 3] rfl) hf)
/-! LetterTablesModel.capital -/
set_option maxRecDepth 100000 in
set_option maxHeartbeats 4000000 in
theorem t_X11_capital_59 {D : va_G} {B : Nat} {Y : Nat → ClassId} {p : Program} {l : Launch} {e : Env} {s : State} {m : MethodId} {args : Array Value} {below : List Frame} {meth : Method} {c : Code} {z : (Unit × Wd)} {H : Heap} {locs : List Loc} {ls : Array Slot} {w : Wd} {v1 : Int32} {v2 : Int32} {v3 : Int32} {t1 : Int32} (C : CX D B Y p s m args meth c cX11_capital 5 RX11 none)     (hH : HS D B Y w s H locs) (hl : lv_has ls 5 [(0, .ref (B + 713)), (1, .int v1), (2, .int v2), (3, .int v3)]) (hf : f_X11_capital_59 v1 v2 v3 t1 w = some z) : W p l e (RM 2 0 0) s m args below meth c H locs 0 0 (MQ below (QG D B Y none z.2 True) args s 0 0 (AB B)) (F0 m 59 ls [.int t1, .ref (B + 713)]) := by
  have hx := C.1
  have hb := C.2.1
  unfold f_X11_capital_59 at hf
  obtain ⟨x2, w1, hc, hf⟩ := bd_some hf
  refine q_callV1 (v := .int x2) (As := [.int t1]) C hH (ci := 11) rfl (by omega) gk_X11_118 yd_X11_holds (by omega) (by omega) kc_713 (c_X11_holds hc) hl.1 rfl (Nat.le_of_ble_eq_true rfl) dX11_capital_59 ⟨by decide, by decide⟩ (fun H locs hH z_x2 => ?_)
  refine b_if_eq (tgt := 95) hx hb hf dX11_capital_62 (by decide) (fun hf => ?_) (fun hf => ?_)
  · cases hf
    exact q_retv C hH trivial dX11_capital_95
  · refine lv_aload_n hx hb dX11_capital_65 rfl (lv_at hl 0 rfl) ?_
    refine fg_X11_7 C hH dX11_capital_66 ?_
    refine lv_bipush (v := (9 : Int32)) hx hb dX11_capital_69 (by decide) ?_
    refine lv_iload_n hx hb dX11_capital_71 rfl (lv_at hl 1 rfl) ?_
    refine lv_imul hx hb dX11_capital_72 ?_
    refine lv_bipush (v := (6 : Int32)) hx hb dX11_capital_73 (by decide) ?_
    refine lv_iadd hx hb dX11_capital_75 ?_
    refine lv_iload_n hx hb dX11_capital_76 rfl (lv_at hl 2 rfl) ?_
    refine lv_iconst (v := (1 : Int32)) hx hb dX11_capital_77 (by decide) ?_
    refine lv_iadd hx hb dX11_capital_78 ?_
    refine g_iast C hH kc_714 hf dX11_capital_79 (fun w3 H locs hf hH => ?_)
    refine lv_aload_n hx hb dX11_capital_80 rfl (lv_at hl 0 rfl) ?_
    refine fg_X11_7 C hH dX11_capital_81 ?_
    refine lv_bipush (v := (9 : Int32)) hx hb dX11_capital_84 (by decide) ?_
    refine lv_iload_n hx hb dX11_capital_86 rfl (lv_at hl 1 rfl) ?_
    refine lv_imul hx hb dX11_capital_87 ?_
    refine lv_bipush (v := (7 : Int32)) hx hb dX11_capital_88 (by decide) ?_
    refine lv_iadd hx hb dX11_capital_90 ?_
    refine lv_iload_n hx hb dX11_capital_91 rfl (lv_at hl 3 rfl) ?_
    refine lv_iconst (v := (1 : Int32)) hx hb dX11_capital_92 (by decide) ?_
    refine lv_iadd hx hb dX11_capital_93 ?_
    refine g_iast C hH kc_714 hf dX11_capital_94 (fun w4 H locs hf hH => ?_)
    cases hf
    exact q_retv C hH trivial dX11_capital_95
set_option maxRecDepth 100000 in
set_option maxHeartbeats 4000000 in
theorem t_X11_capital_35 {D : va_G} {B : Nat} {Y : Nat → ClassId} {p : Program} {l : Launch} {e : Env} {s : State} {m : MethodId} {args : Array Value} {below : List Frame} {meth : Method} {c : Code} {z : (Unit × Wd)} {H : Heap} {locs : List Loc} {ls : Array Slot} {w : Wd} {v1 : Int32} {v2 : Int32} {v3 : Int32} {t0 : Int32} (C : CX D B Y p s m args meth c cX11_capital 5 RX11 none)    (z_t0 : isZ t0) (hH : HS D B Y w s H locs) (hl : lv_has ls 5 [(0, .ref (B + 713)), (1, .int v1), (2, .int v2), (3, .int v3)]) (hf : f_X11_capital_35 v1 v2 v3 t0 w = some z) : W p l e (RM 2 0 0) s m args below meth c H locs 0 0 (MQ below (QG D B Y none z.2 True) args s 0 0 (AB B)) (F0 m 35 ls [.int t0]) := by
  have hx := C.1
  have hb := C.2.1
  unfold f_X11_capital_35 at hf
  refine lv_istore (lv' := [(4, .int t0), (0, .ref (B + 713)), (1, .int v1), (2, .int v2), (3, .int v3)]) hx hb dX11_capital_35 hl (by decide) rfl (fun ls hl => ?_)
  refine lv_aload_n hx hb dX11_capital_37 rfl (lv_at hl 1 rfl) ?_
  refine lv_iload_n hx hb dX11_capital_38 rfl (lv_at hl 2 rfl) ?_
  obtain ⟨x2, w1, hc, hf⟩ := bd_some hf
  refine q_callS1 (v := .int x2) (As := [.int v1]) C hH gk_X11_124 yd_X11_isLetter (by omega) (by omega) (c_X11_isLetter hc) hl.1 rfl (Nat.le_of_ble_eq_true rfl) dX11_capital_39 ⟨by decide, by decide⟩ (fun H locs hH z_x2 => ?_)
  refine b_if_ne (tgt := 49) hx hb hf dX11_capital_42 (by decide) (fun hf => ?_) (fun hf => ?_)
  · refine lv_iload hx hb dX11_capital_49 (lv_at hl 0 rfl) ?_
    refine b_if_eq (tgt := 58) hx hb hf dX11_capital_51 (by decide) (fun hf => ?_) (fun hf => ?_)
    · refine lv_iconst (v := (2 : Int32)) hx hb dX11_capital_58 (by decide) ?_
      exact t_X11_capital_59 C hH (lv_sub hl [1, 2, 3, 4] rfl) hf
    · refine lv_iconst (v := (0 : Int32)) hx hb dX11_capital_54 (by decide) ?_
      refine lv_goto (tgt := 59) hx hb dX11_capital_55 (by decide) ?_
      exact t_X11_capital_59 C hH (lv_sub hl [1, 2, 3, 4] rfl) hf
  · refine lv_iconst (v := (1 : Int32)) hx hb dX11_capital_45 (by decide) ?_
    refine lv_goto (tgt := 59) hx hb dX11_capital_46 (by decide) ?_
    exact t_X11_capital_59 C hH (lv_sub hl [1, 2, 3, 4] rfl) hf
set_option maxRecDepth 100000 in
set_option maxHeartbeats 4000000 in
theorem t_X11_capital_34 {D : va_G} {B : Nat} {Y : Nat → ClassId} {p : Program} {l : Launch} {e : Env} {s : State} {m : MethodId} {args : Array Value} {below : List Frame} {meth : Method} {c : Code} {z : (Unit × Wd)} {H : Heap} {locs : List Loc} {ls : Array Slot} {w : Wd} {v1 : Int32} {v2 : Int32} {v3 : Int32} (C : CX D B Y p s m args meth c cX11_capital 5 RX11 none)     (hH : HS D B Y w s H locs) (hl : lv_has ls 5 [(0, .ref (B + 713)), (1, .int v1), (2, .int v2), (3, .int v3)]) (hf : f_X11_capital_34 v1 v2 v3 w = some z) : W p l e (RM 2 0 0) s m args below meth c H locs 0 0 (MQ below (QG D B Y none z.2 True) args s 0 0 (AB B)) (F0 m 34 ls []) := by
  have hx := C.1
  have hb := C.2.1
  unfold f_X11_capital_34 at hf
  refine lv_iconst (v := (0 : Int32)) hx hb dX11_capital_34 (by decide) ?_
  exact t_X11_capital_35 C isZ_0 hH (lv_sub hl [0, 1, 2, 3] rfl) hf
set_option maxRecDepth 100000 in
set_option maxHeartbeats 4000000 in
theorem t_X11_capital_0 {D : va_G} {B : Nat} {Y : Nat → ClassId} {p : Program} {l : Launch} {e : Env} {s : State} {m : MethodId} {args : Array Value} {below : List Frame} {meth : Method} {c : Code} {z : (Unit × Wd)} {H : Heap} {locs : List Loc} {ls : Array Slot} {w : Wd} {v1 : Int32} {v2 : Int32} {v3 : Int32} (C : CX D B Y p s m args meth c cX11_capital 5 RX11 none)     (hH : HS D B Y w s H locs) (hl : lv_has ls 5 [(0, .ref (B + 713)), (1, .int v1), (2, .int v2), (3, .int v3)]) (hf : f_X11_capital v1 v2 v3 w = some z) : W p l e (RM 2 0 0) s m args below meth c H locs 0 0 (MQ below (QG D B Y none z.2 True) args s 0 0 (AB B)) (F0 m 0 ls []) := by
  have hx := C.1
  have hb := C.2.1
  unfold f_X11_capital at hf
  refine lv_iload_n hx hb dX11_capital_0 rfl (lv_at hl 2 rfl) ?_
  refine lv_iconst (v := (-1 : Int32)) hx hb dX11_capital_1 (by decide) ?_
  refine lv_bipush (v := (95 : Int32)) hx hb dX11_capital_2 (by decide) ?_
  obtain ⟨x2, w1, hc, hf⟩ := bd_some hf
  refine q_callS1 (v := .int x2) (As := [.int v2, .int (-1 : Int32), .int (95 : Int32)]) C hH gk_X11_111 yd_X11_in (by omega) (by omega) (c_X11_in hc) hl.1 rfl (Nat.le_of_ble_eq_true rfl) dX11_capital_4 ⟨by decide, by decide⟩ (fun H locs hH z_x2 => ?_)
  refine b_if_eq (tgt := 34) hx hb hf dX11_capital_7 (by decide) (fun hf => ?_) (fun hf => ?_)
  · exact t_X11_capital_34 C hH (lv_sub hl [0, 1, 2, 3] rfl) hf
  · refine lv_iload_n hx hb dX11_capital_10 rfl (lv_at hl 3 rfl) ?_
    refine lv_iconst (v := (-1 : Int32)) hx hb dX11_capital_11 (by decide) ?_
    refine lv_bipush (v := (95 : Int32)) hx hb dX11_capital_12 (by decide) ?_
    obtain ⟨x4, w3, hc, hf⟩ := bd_some hf
    refine q_callS1 (v := .int x4) (As := [.int v3, .int (-1 : Int32), .int (95 : Int32)]) C hH gk_X11_111 yd_X11_in (by omega) (by omega) (c_X11_in hc) hl.1 rfl (Nat.le_of_ble_eq_true rfl) dX11_capital_14 ⟨by decide, by decide⟩ (fun H locs hH z_x4 => ?_)
    refine b_if_eq (tgt := 34) hx hb hf dX11_capital_17 (by decide) (fun hf => ?_) (fun hf => ?_)
    · exact t_X11_capital_34 C hH (lv_sub hl [0, 1, 2, 3] rfl) hf
    · refine lv_iload_n hx hb dX11_capital_20 rfl (lv_at hl 2 rfl) ?_
      refine lv_iconst (v := (-1 : Int32)) hx hb dX11_capital_21 (by decide) ?_
      refine b_icmp_ne (tgt := 30) hx hb hf dX11_capital_22 (by decide) (fun hf => ?_) (fun hf => ?_)
      · refine lv_iconst (v := (1 : Int32)) hx hb dX11_capital_30 (by decide) ?_
        refine lv_goto (tgt := 35) hx hb dX11_capital_31 (by decide) ?_
        exact t_X11_capital_35 C isZ_1 hH (lv_sub hl [0, 1, 2, 3] rfl) hf
      · refine lv_iload_n hx hb dX11_capital_25 rfl (lv_at hl 3 rfl) ?_
        refine lv_iconst (v := (-1 : Int32)) hx hb dX11_capital_26 (by decide) ?_
        refine b_icmp_ne (tgt := 34) hx hb hf dX11_capital_27 (by decide) (fun hf => ?_) (fun hf => ?_)
        · exact t_X11_capital_34 C hH (lv_sub hl [0, 1, 2, 3] rfl) hf
        · refine lv_iconst (v := (1 : Int32)) hx hb dX11_capital_30 (by decide) ?_
          refine lv_goto (tgt := 35) hx hb dX11_capital_31 (by decide) ?_
          exact t_X11_capital_35 C isZ_1 hH (lv_sub hl [0, 1, 2, 3] rfl) hf
set_option maxRecDepth 100000 in
theorem c_X11_capital {l : Launch} {D : va_G} {B : Nat} {Y : Nat → ClassId} {v1 : Int32} {v2 : Int32} {v3 : Int32} {w : Wd} {r : Unit} {w1 : Wd}   (hf : f_X11_capital v1 v2 v3 w = some (r, w1)) : CM l D B Y yX11_capital cX11_capital 5 none 2 [.ref (B + 713), .int v1, .int v2, .int v3] w none w1 True :=
  CM_of (by decide +kernel) (Nat.le_of_ble_eq_true rfl) (fun p e s m args below meth c ls C hH hl => t_X11_capital_0 C  hH (lv_sub hl [0, 1, 2, 3] rfl) hf)
/-! LetterTablesModel.partners -/
set_option maxRecDepth 100000 in
set_option maxHeartbeats 4000000 in
theorem t_X11_partners_75 {D : va_G} {B : Nat} {Y : Nat → ClassId} {p : Program} {l : Launch} {e : Env} {s : State} {m : MethodId} {args : Array Value} {below : List Frame} {meth : Method} {c : Code} {z : (Unit × Wd)} {H : Heap} {locs : List Loc} {ls : Array Slot} {w : Wd} {v1 : Int32} {v2 : Int32} {t1 : Int32} (C : CX D B Y p s m args meth c cX11_partners 5 RX11 none)     (hH : HS D B Y w s H locs) (hl : lv_has ls 5 [(0, .ref (B + 713)), (1, .int v1), (2, .int v2)]) (hf : f_X11_partners_75 v1 v2 t1 w = some z) : W p l e (RM 2 0 0) s m args below meth c H locs 0 0 (MQ below (QG D B Y none z.2 True) args s 0 0 (AB B)) (F0 m 75 ls [.int t1, .ref (B + 713)]) := by
  have hx := C.1
  have hb := C.2.1
  unfold f_X11_partners_75 at hf
  obtain ⟨x2, w1, hc, hf⟩ := bd_some hf
  refine q_callV1 (v := .int x2) (As := [.int t1]) C hH (ci := 11) rfl (by omega) gk_X11_118 yd_X11_holds (by omega) (by omega) kc_713 (c_X11_holds hc) hl.1 rfl (Nat.le_of_ble_eq_true rfl) dX11_partners_75 ⟨by decide, by decide⟩ (fun H locs hH z_x2 => ?_)
  refine b_if_eq (tgt := 112) hx hb hf dX11_partners_78 (by decide) (fun hf => ?_) (fun hf => ?_)
  · cases hf
    exact q_retv C hH trivial dX11_partners_112
  · refine lv_aload_n hx hb dX11_partners_81 rfl (lv_at hl 0 rfl) ?_
    refine fg_X11_7 C hH dX11_partners_82 ?_
    refine lv_bipush (v := (9 : Int32)) hx hb dX11_partners_85 (by decide) ?_
    refine lv_iload_n hx hb dX11_partners_87 rfl (lv_at hl 1 rfl) ?_
    refine lv_imul hx hb dX11_partners_88 ?_
    refine lv_bipush (v := (8 : Int32)) hx hb dX11_partners_89 (by decide) ?_
    refine lv_iadd hx hb dX11_partners_91 ?_
    refine lv_iload_n hx hb dX11_partners_92 rfl (lv_at hl 2 rfl) ?_
    refine lv_iconst (v := (1 : Int32)) hx hb dX11_partners_93 (by decide) ?_
    refine lv_iadd hx hb dX11_partners_94 ?_
    refine g_iast C hH kc_714 hf dX11_partners_95 (fun w3 H locs hf hH => ?_)
    refine lv_aload_n hx hb dX11_partners_96 rfl (lv_at hl 0 rfl) ?_
    refine fg_X11_7 C hH dX11_partners_97 ?_
    refine lv_bipush (v := (9 : Int32)) hx hb dX11_partners_100 (by decide) ?_
    refine lv_iload_n hx hb dX11_partners_102 rfl (lv_at hl 2 rfl) ?_
    refine lv_imul hx hb dX11_partners_103 ?_
    refine lv_bipush (v := (8 : Int32)) hx hb dX11_partners_104 (by decide) ?_
    refine lv_iadd hx hb dX11_partners_106 ?_
    refine lv_iload_n hx hb dX11_partners_107 rfl (lv_at hl 1 rfl) ?_
    refine lv_ineg hx hb dX11_partners_108 ?_
    refine lv_iconst (v := (1 : Int32)) hx hb dX11_partners_109 (by decide) ?_
    refine lv_isub hx hb dX11_partners_110 ?_
    refine g_iast C hH kc_714 hf dX11_partners_111 (fun w4 H locs hf hH => ?_)
    cases hf
    exact q_retv C hH trivial dX11_partners_112
set_option maxRecDepth 100000 in
set_option maxHeartbeats 4000000 in
theorem t_X11_partners_54 {D : va_G} {B : Nat} {Y : Nat → ClassId} {p : Program} {l : Launch} {e : Env} {s : State} {m : MethodId} {args : Array Value} {below : List Frame} {meth : Method} {c : Code} {z : (Unit × Wd)} {H : Heap} {locs : List Loc} {ls : Array Slot} {w : Wd} {v1 : Int32} {v2 : Int32} {v3 : Int32} {t0 : Int32} (C : CX D B Y p s m args meth c cX11_partners 5 RX11 none)    (z_v3 : isZ v3) (z_t0 : isZ t0) (hH : HS D B Y w s H locs) (hl : lv_has ls 5 [(0, .ref (B + 713)), (1, .int v1), (2, .int v2), (3, .int v3)]) (hf : f_X11_partners_54 v1 v2 v3 t0 w = some z) : W p l e (RM 2 0 0) s m args below meth c H locs 0 0 (MQ below (QG D B Y none z.2 True) args s 0 0 (AB B)) (F0 m 54 ls [.int t0]) := by
  have hx := C.1
  have hb := C.2.1
  unfold f_X11_partners_54 at hf
  refine lv_istore (lv' := [(4, .int t0), (0, .ref (B + 713)), (1, .int v1), (2, .int v2), (3, .int v3)]) hx hb dX11_partners_54 hl (by decide) rfl (fun ls hl => ?_)
  refine lv_aload_n hx hb dX11_partners_56 rfl (lv_at hl 1 rfl) ?_
  refine lv_iload_n hx hb dX11_partners_57 rfl (lv_at hl 4 rfl) ?_
  refine b_if_ne (tgt := 65) hx hb hf dX11_partners_58 (by decide) (fun hf => ?_) (fun hf => ?_)
  · refine lv_iload hx hb dX11_partners_65 (lv_at hl 0 rfl) ?_
    refine b_if_eq (tgt := 74) hx hb hf dX11_partners_67 (by decide) (fun hf => ?_) (fun hf => ?_)
    · refine lv_iconst (v := (2 : Int32)) hx hb dX11_partners_74 (by decide) ?_
      exact t_X11_partners_75 C hH (lv_sub hl [1, 2, 3] rfl) hf
    · refine lv_iconst (v := (0 : Int32)) hx hb dX11_partners_70 (by decide) ?_
      refine lv_goto (tgt := 75) hx hb dX11_partners_71 (by decide) ?_
      exact t_X11_partners_75 C hH (lv_sub hl [1, 2, 3] rfl) hf
  · refine lv_iconst (v := (1 : Int32)) hx hb dX11_partners_61 (by decide) ?_
    refine lv_goto (tgt := 75) hx hb dX11_partners_62 (by decide) ?_
    exact t_X11_partners_75 C hH (lv_sub hl [1, 2, 3] rfl) hf
set_option maxRecDepth 100000 in
set_option maxHeartbeats 4000000 in
theorem t_X11_partners_53 {D : va_G} {B : Nat} {Y : Nat → ClassId} {p : Program} {l : Launch} {e : Env} {s : State} {m : MethodId} {args : Array Value} {below : List Frame} {meth : Method} {c : Code} {z : (Unit × Wd)} {H : Heap} {locs : List Loc} {ls : Array Slot} {w : Wd} {v1 : Int32} {v2 : Int32} {v3 : Int32} (C : CX D B Y p s m args meth c cX11_partners 5 RX11 none)    (z_v3 : isZ v3) (hH : HS D B Y w s H locs) (hl : lv_has ls 5 [(0, .ref (B + 713)), (1, .int v1), (2, .int v2), (3, .int v3)]) (hf : f_X11_partners_53 v1 v2 v3 w = some z) : W p l e (RM 2 0 0) s m args below meth c H locs 0 0 (MQ below (QG D B Y none z.2 True) args s 0 0 (AB B)) (F0 m 53 ls []) := by
  have hx := C.1
  have hb := C.2.1
  unfold f_X11_partners_53 at hf
  refine lv_iconst (v := (0 : Int32)) hx hb dX11_partners_53 (by decide) ?_
  exact t_X11_partners_54 C z_v3 isZ_0 hH (lv_sub hl [0, 1, 2, 3] rfl) hf
set_option maxRecDepth 100000 in
set_option maxHeartbeats 4000000 in
theorem t_X11_partners_19 {D : va_G} {B : Nat} {Y : Nat → ClassId} {p : Program} {l : Launch} {e : Env} {s : State} {m : MethodId} {args : Array Value} {below : List Frame} {meth : Method} {c : Code} {z : (Unit × Wd)} {H : Heap} {locs : List Loc} {ls : Array Slot} {w : Wd} {v1 : Int32} {v2 : Int32} {t0 : Int32} (C : CX D B Y p s m args meth c cX11_partners 5 RX11 none)    (z_t0 : isZ t0) (hH : HS D B Y w s H locs) (hl : lv_has ls 5 [(0, .ref (B + 713)), (1, .int v1), (2, .int v2)]) (hf : f_X11_partners_19 v1 v2 t0 w = some z) : W p l e (RM 2 0 0) s m args below meth c H locs 0 0 (MQ below (QG D B Y none z.2 True) args s 0 0 (AB B)) (F0 m 19 ls [.int t0]) := by
  have hx := C.1
  have hb := C.2.1
  unfold f_X11_partners_19 at hf
  refine lv_istore_n (lv' := [(3, .int t0), (0, .ref (B + 713)), (1, .int v1), (2, .int v2)]) hx hb dX11_partners_19 rfl hl (by decide) rfl (fun ls hl => ?_)
  refine lv_iload_n hx hb dX11_partners_20 rfl (lv_at hl 0 rfl) ?_
  refine b_if_eq (tgt := 53) hx hb hf dX11_partners_21 (by decide) (fun hf => ?_) (fun hf => ?_)
  · exact t_X11_partners_53 C z_t0 hH (lv_sub hl [1, 2, 3, 0] rfl) hf
  · refine lv_iload_n hx hb dX11_partners_24 rfl (lv_at hl 2 rfl) ?_
    refine lv_iload_n hx hb dX11_partners_25 rfl (lv_at hl 3 rfl) ?_
    refine b_icmp_eq (tgt := 53) hx hb hf dX11_partners_26 (by decide) (fun hf => ?_) (fun hf => ?_)
    · exact t_X11_partners_53 C z_t0 hH (lv_sub hl [1, 2, 3, 0] rfl) hf
    · refine lv_aload_n hx hb dX11_partners_29 rfl (lv_at hl 1 rfl) ?_
      refine lv_iload_n hx hb dX11_partners_30 rfl (lv_at hl 2 rfl) ?_
      refine lv_bipush (v := (8 : Int32)) hx hb dX11_partners_31 (by decide) ?_
      obtain ⟨x2, w1, hc, hf⟩ := bd_some hf
      refine q_callV1 (v := .int x2) (As := [.int v1, .int (8 : Int32)]) C hH (ci := 11) rfl (by omega) gk_X11_127 yd_X11_of (by omega) (by omega) kc_713 (c_X11_of hc) hl.1 rfl (Nat.le_of_ble_eq_true rfl) dX11_partners_33 ⟨by decide, by decide⟩ (fun H locs hH hP => ?_)
      refine b_if_ne (tgt := 53) hx hb hf dX11_partners_36 (by decide) (fun hf => ?_) (fun hf => ?_)
      · exact t_X11_partners_53 C z_t0 hH (lv_sub hl [1, 2, 3, 0] rfl) hf
      · refine lv_aload_n hx hb dX11_partners_39 rfl (lv_at hl 1 rfl) ?_
        refine lv_iload_n hx hb dX11_partners_40 rfl (lv_at hl 3 rfl) ?_
        refine lv_bipush (v := (8 : Int32)) hx hb dX11_partners_41 (by decide) ?_
        obtain ⟨x4, w3, hc, hf⟩ := bd_some hf
        refine q_callV1 (v := .int x4) (As := [.int v2, .int (8 : Int32)]) C hH (ci := 11) rfl (by omega) gk_X11_127 yd_X11_of (by omega) (by omega) kc_713 (c_X11_of hc) hl.1 rfl (Nat.le_of_ble_eq_true rfl) dX11_partners_43 ⟨by decide, by decide⟩ (fun H locs hH hP => ?_)
        refine b_if_ne (tgt := 53) hx hb hf dX11_partners_46 (by decide) (fun hf => ?_) (fun hf => ?_)
        · exact t_X11_partners_53 C z_t0 hH (lv_sub hl [1, 2, 3, 0] rfl) hf
        · refine lv_iconst (v := (1 : Int32)) hx hb dX11_partners_49 (by decide) ?_
          refine lv_goto (tgt := 54) hx hb dX11_partners_50 (by decide) ?_
          exact t_X11_partners_54 C z_t0 isZ_1 hH (lv_sub hl [1, 2, 3, 0] rfl) hf
set_option maxRecDepth 100000 in
set_option maxHeartbeats 4000000 in
theorem t_X11_partners_18 {D : va_G} {B : Nat} {Y : Nat → ClassId} {p : Program} {l : Launch} {e : Env} {s : State} {m : MethodId} {args : Array Value} {below : List Frame} {meth : Method} {c : Code} {z : (Unit × Wd)} {H : Heap} {locs : List Loc} {ls : Array Slot} {w : Wd} {v1 : Int32} {v2 : Int32} (C : CX D B Y p s m args meth c cX11_partners 5 RX11 none)     (hH : HS D B Y w s H locs) (hl : lv_has ls 5 [(0, .ref (B + 713)), (1, .int v1), (2, .int v2)]) (hf : f_X11_partners_18 v1 v2 w = some z) : W p l e (RM 2 0 0) s m args below meth c H locs 0 0 (MQ below (QG D B Y none z.2 True) args s 0 0 (AB B)) (F0 m 18 ls []) := by
  have hx := C.1
  have hb := C.2.1
  unfold f_X11_partners_18 at hf
  refine lv_iconst (v := (0 : Int32)) hx hb dX11_partners_18 (by decide) ?_
  exact t_X11_partners_19 C isZ_0 hH (lv_sub hl [0, 1, 2] rfl) hf
set_option maxRecDepth 100000 in
set_option maxHeartbeats 4000000 in
theorem t_X11_partners_0 {D : va_G} {B : Nat} {Y : Nat → ClassId} {p : Program} {l : Launch} {e : Env} {s : State} {m : MethodId} {args : Array Value} {below : List Frame} {meth : Method} {c : Code} {z : (Unit × Wd)} {H : Heap} {locs : List Loc} {ls : Array Slot} {w : Wd} {v1 : Int32} {v2 : Int32} (C : CX D B Y p s m args meth c cX11_partners 5 RX11 none)     (hH : HS D B Y w s H locs) (hl : lv_has ls 5 [(0, .ref (B + 713)), (1, .int v1), (2, .int v2)]) (hf : f_X11_partners v1 v2 w = some z) : W p l e (RM 2 0 0) s m args below meth c H locs 0 0 (MQ below (QG D B Y none z.2 True) args s 0 0 (AB B)) (F0 m 0 ls []) := by
  have hx := C.1
  have hb := C.2.1
  unfold f_X11_partners at hf
  refine lv_iload_n hx hb dX11_partners_0 rfl (lv_at hl 1 rfl) ?_
  obtain ⟨x2, w1, hc, hf⟩ := bd_some hf
  refine q_callS1 (v := .int x2) (As := [.int v1]) C hH gk_X11_124 yd_X11_isLetter (by omega) (by omega) (c_X11_isLetter hc) hl.1 rfl (Nat.le_of_ble_eq_true rfl) dX11_partners_1 ⟨by decide, by decide⟩ (fun H locs hH z_x2 => ?_)
  refine b_if_eq (tgt := 18) hx hb hf dX11_partners_4 (by decide) (fun hf => ?_) (fun hf => ?_)
  · exact t_X11_partners_18 C hH (lv_sub hl [0, 1, 2] rfl) hf
  · refine lv_iload_n hx hb dX11_partners_7 rfl (lv_at hl 2 rfl) ?_
    obtain ⟨x4, w3, hc, hf⟩ := bd_some hf
    refine q_callS1 (v := .int x4) (As := [.int v2]) C hH gk_X11_124 yd_X11_isLetter (by omega) (by omega) (c_X11_isLetter hc) hl.1 rfl (Nat.le_of_ble_eq_true rfl) dX11_partners_8 ⟨by decide, by decide⟩ (fun H locs hH z_x4 => ?_)
    refine b_if_eq (tgt := 18) hx hb hf dX11_partners_11 (by decide) (fun hf => ?_) (fun hf => ?_)
    · exact t_X11_partners_18 C hH (lv_sub hl [0, 1, 2] rfl) hf
    · refine lv_iconst (v := (1 : Int32)) hx hb dX11_partners_14 (by decide) ?_
      refine lv_goto (tgt := 19) hx hb dX11_partners_15 (by decide) ?_
      exact t_X11_partners_19 C isZ_1 hH (lv_sub hl [0, 1, 2] rfl) hf
set_option maxRecDepth 100000 in
theorem c_X11_partners {l : Launch} {D : va_G} {B : Nat} {Y : Nat → ClassId} {v1 : Int32} {v2 : Int32} {w : Wd} {r : Unit} {w1 : Wd}   (hf : f_X11_partners v1 v2 w = some (r, w1)) : CM l D B Y yX11_partners cX11_partners 5 none 2 [.ref (B + 713), .int v1, .int v2] w none w1 True :=
  CM_of (by decide +kernel) (Nat.le_of_ble_eq_true rfl) (fun p e s m args below meth c ls C hH hl => t_X11_partners_0 C  hH (lv_sub hl [0, 1, 2] rfl) hf)
/-! LetterTablesModel.areWeights -/
set_option maxRecDepth 100000 in
set_option maxHeartbeats 4000000 in
theorem t_X11_areWeights_0 {D : va_G} {B : Nat} {Y : Nat → ClassId} {p : Program} {l : Launch} {e : Env} {s : State} {m : MethodId} {args : Array Value} {below : List Frame} {meth : Method} {c : Code} {z : (Int32 × Wd)} {H : Heap} {locs : List Loc} {ls : Array Slot} {w : Wd} {v0 : Int32} {v1 : Int32} {v2 : Int32} (C : CX D B Y p s m args meth c cX11_areWeights 3 RX11 (some .boolean))     (hH : HS D B Y w s H locs) (hl : lv_has ls 3 [(0, .int v0), (1, .int v1), (2, .int v2)]) (hf : f_X11_areWeights v0 v1 v2 w = some z) : W p l e (RM 1 0 0) s m args below meth c H locs 0 0 (MQ below (QG D B Y (some (.int z.1)) z.2 (isZ z.1)) args s 0 0 (AB B)) (F0 m 0 ls []) := by
  have hx := C.1
  have hb := C.2.1
  unfold f_X11_areWeights at hf
  refine lv_iload_n hx hb dX11_areWeights_0 rfl (lv_at hl 0 rfl) ?_
  refine lv_iconst (v := (0 : Int32)) hx hb dX11_areWeights_1 (by decide) ?_
  refine lv_bipush (v := (99 : Int32)) hx hb dX11_areWeights_2 (by decide) ?_
  obtain ⟨x2, w1, hc, hf⟩ := bd_some hf
  refine q_callS1 (v := .int x2) (As := [.int v0, .int (0 : Int32), .int (99 : Int32)]) C hH gk_X11_111 yd_X11_in (by omega) (by omega) (c_X11_in hc) hl.1 rfl (Nat.le_of_ble_eq_true rfl) dX11_areWeights_4 ⟨by decide, by decide⟩ (fun H locs hH z_x2 => ?_)
  refine b_if_eq (tgt := 34) hx hb hf dX11_areWeights_7 (by decide) (fun hf => ?_) (fun hf => ?_)
  · refine lv_iconst (v := (0 : Int32)) hx hb dX11_areWeights_34 (by decide) ?_
    cases hf
    exact q_retz C hH isZ_0 isZ_0 dX11_areWeights_35
  · refine lv_iload_n hx hb dX11_areWeights_10 rfl (lv_at hl 1 rfl) ?_
    refine lv_iconst (v := (0 : Int32)) hx hb dX11_areWeights_11 (by decide) ?_
    refine lv_bipush (v := (9 : Int32)) hx hb dX11_areWeights_12 (by decide) ?_
    obtain ⟨x4, w3, hc, hf⟩ := bd_some hf
    refine q_callS1 (v := .int x4) (As := [.int v1, .int (0 : Int32), .int (9 : Int32)]) C hH gk_X11_111 yd_X11_in (by omega) (by omega) (c_X11_in hc) hl.1 rfl (Nat.le_of_ble_eq_true rfl) dX11_areWeights_14 ⟨by decide, by decide⟩ (fun H locs hH z_x4 => ?_)
    refine b_if_eq (tgt := 34) hx hb hf dX11_areWeights_17 (by decide) (fun hf => ?_) (fun hf => ?_)
    · refine lv_iconst (v := (0 : Int32)) hx hb dX11_areWeights_34 (by decide) ?_
      cases hf
      exact q_retz C hH isZ_0 isZ_0 dX11_areWeights_35
    · refine lv_iload_n hx hb dX11_areWeights_20 rfl (lv_at hl 2 rfl) ?_
      refine lv_iconst (v := (0 : Int32)) hx hb dX11_areWeights_21 (by decide) ?_
      refine lv_bipush (v := (9 : Int32)) hx hb dX11_areWeights_22 (by decide) ?_
      obtain ⟨x6, w5, hc, hf⟩ := bd_some hf
      refine q_callS1 (v := .int x6) (As := [.int v2, .int (0 : Int32), .int (9 : Int32)]) C hH gk_X11_111 yd_X11_in (by omega) (by omega) (c_X11_in hc) hl.1 rfl (Nat.le_of_ble_eq_true rfl) dX11_areWeights_24 ⟨by decide, by decide⟩ (fun H locs hH z_x6 => ?_)
      refine b_if_eq (tgt := 34) hx hb hf dX11_areWeights_27 (by decide) (fun hf => ?_) (fun hf => ?_)
      · refine lv_iconst (v := (0 : Int32)) hx hb dX11_areWeights_34 (by decide) ?_
        cases hf
        exact q_retz C hH isZ_0 isZ_0 dX11_areWeights_35
      · refine lv_iconst (v := (1 : Int32)) hx hb dX11_areWeights_30 (by decide) ?_
        refine lv_goto (tgt := 35) hx hb dX11_areWeights_31 (by decide) ?_
        cases hf
        exact q_retz C hH isZ_1 isZ_1 dX11_areWeights_35
set_option maxRecDepth 100000 in
theorem c_X11_areWeights {l : Launch} {D : va_G} {B : Nat} {Y : Nat → ClassId} {v0 : Int32} {v1 : Int32} {v2 : Int32} {w : Wd} {r : Int32} {w1 : Wd}   (hf : f_X11_areWeights v0 v1 v2 w = some (r, w1)) : CM l D B Y yX11_areWeights cX11_areWeights 3 (some .boolean) 1 [.int v0, .int v1, .int v2] w (some (.int r)) w1 (isZ r) :=
  CM_of (by decide +kernel) (Nat.le_of_ble_eq_true rfl) (fun p e s m args below meth c ls C hH hl => t_X11_areWeights_0 C  hH (lv_sub hl [0, 1, 2] rfl) hf)
/-! LetterTablesModel.weighs -/
set_option maxRecDepth 100000 in
set_option maxHeartbeats 4000000 in
theorem t_X11_weighs_0 {D : va_G} {B : Nat} {Y : Nat → ClassId} {p : Program} {l : Launch} {e : Env} {s : State} {m : MethodId} {args : Array Value} {below : List Frame} {meth : Method} {c : Code} {z : (Unit × Wd)} {H : Heap} {locs : List Loc} {ls : Array Slot} {w : Wd} {v1 : Int32} {v2 : Int32} {v3 : Int32} {v4 : Int32} (C : CX D B Y p s m args meth c cX11_weighs 5 RX11 none)     (hH : HS D B Y w s H locs) (hl : lv_has ls 5 [(0, .ref (B + 713)), (1, .int v1), (2, .int v2), (3, .int v3), (4, .int v4)]) (hf : f_X11_weighs v1 v2 v3 v4 w = some z) : W p l e (RM 0 0 0) s m args below meth c H locs 0 0 (MQ below (QG D B Y none z.2 True) args s 0 0 (AB B)) (F0 m 0 ls []) := by
  have hx := C.1
  have hb := C.2.1
  unfold f_X11_weighs at hf
  refine lv_aload_n hx hb dX11_weighs_0 rfl (lv_at hl 0 rfl) ?_
  refine fg_X11_7 C hH dX11_weighs_1 ?_
  refine lv_iload_n hx hb dX11_weighs_4 rfl (lv_at hl 1 rfl) ?_
  refine lv_iload_n hx hb dX11_weighs_5 rfl (lv_at hl 2 rfl) ?_
  refine g_iast C hH kc_714 hf dX11_weighs_6 (fun w1 H locs hf hH => ?_)
  refine lv_aload_n hx hb dX11_weighs_7 rfl (lv_at hl 0 rfl) ?_
  refine fg_X11_7 C hH dX11_weighs_8 ?_
  refine lv_iload_n hx hb dX11_weighs_11 rfl (lv_at hl 1 rfl) ?_
  refine lv_iconst (v := (1 : Int32)) hx hb dX11_weighs_12 (by decide) ?_
  refine lv_iadd hx hb dX11_weighs_13 ?_
  refine lv_iload_n hx hb dX11_weighs_14 rfl (lv_at hl 3 rfl) ?_
  refine g_iast C hH kc_714 hf dX11_weighs_15 (fun w2 H locs hf hH => ?_)
  refine lv_aload_n hx hb dX11_weighs_16 rfl (lv_at hl 0 rfl) ?_
  refine fg_X11_7 C hH dX11_weighs_17 ?_
  refine lv_iload_n hx hb dX11_weighs_20 rfl (lv_at hl 1 rfl) ?_
  refine lv_iconst (v := (2 : Int32)) hx hb dX11_weighs_21 (by decide) ?_
  refine lv_iadd hx hb dX11_weighs_22 ?_
  refine lv_iload hx hb dX11_weighs_23 (lv_at hl 4 rfl) ?_
  refine g_iast C hH kc_714 hf dX11_weighs_25 (fun w3 H locs hf hH => ?_)
  cases hf
  exact q_retv C hH trivial dX11_weighs_26
set_option maxRecDepth 100000 in
theorem c_X11_weighs {l : Launch} {D : va_G} {B : Nat} {Y : Nat → ClassId} {v1 : Int32} {v2 : Int32} {v3 : Int32} {v4 : Int32} {w : Wd} {r : Unit} {w1 : Wd}   (hf : f_X11_weighs v1 v2 v3 v4 w = some (r, w1)) : CM l D B Y yX11_weighs cX11_weighs 5 none 0 [.ref (B + 713), .int v1, .int v2, .int v3, .int v4] w none w1 True :=
  CM_of (by decide +kernel) (Nat.le_of_ble_eq_true rfl) (fun p e s m args below meth c ls C hH hl => t_X11_weighs_0 C  hH (lv_sub hl [0, 1, 2, 3, 4] rfl) hf)
/-! LetterTablesModel.weigh -/
set_option maxRecDepth 100000 in
set_option maxHeartbeats 4000000 in
theorem t_X11_weigh_35 {D : va_G} {B : Nat} {Y : Nat → ClassId} {p : Program} {l : Launch} {e : Env} {s : State} {m : MethodId} {args : Array Value} {below : List Frame} {meth : Method} {c : Code} {z : (Unit × Wd)} {H : Heap} {locs : List Loc} {ls : Array Slot} {w : Wd} {v1 : Int32} {v2 : Int32} {v3 : Int32} {v4 : Int32} {v5 : Int32} {t1 : Int32} (C : CX D B Y p s m args meth c cX11_weigh 6 RX11 none)     (hH : HS D B Y w s H locs) (hl : lv_has ls 6 [(0, .ref (B + 713)), (1, .int v1), (2, .int v2), (3, .int v3), (4, .int v4), (5, .int v5)]) (hf : f_X11_weigh_35 v1 v2 v3 v4 v5 t1 w = some z) : W p l e (RM 2 0 0) s m args below meth c H locs 0 0 (MQ below (QG D B Y none z.2 True) args s 0 0 (AB B)) (F0 m 35 ls [.int t1, .ref (B + 713)]) := by
  have hx := C.1
  have hb := C.2.1
  unfold f_X11_weigh_35 at hf
  obtain ⟨x2, w1, hc, hf⟩ := bd_some hf
  refine q_callV1 (v := .int x2) (As := [.int t1]) C hH (ci := 11) rfl (by omega) gk_X11_118 yd_X11_holds (by omega) (by omega) kc_713 (c_X11_holds hc) hl.1 rfl (Nat.le_of_ble_eq_true rfl) dX11_weigh_35 ⟨by decide, by decide⟩ (fun H locs hH z_x2 => ?_)
  refine b_if_eq (tgt := 62) hx hb hf dX11_weigh_38 (by decide) (fun hf => ?_) (fun hf => ?_)
  · cases hf
    exact q_retv C hH trivial dX11_weigh_62
  · refine lv_aload_n hx hb dX11_weigh_41 rfl (lv_at hl 0 rfl) ?_
    refine lv_sipush (v := (864 : Int32)) hx hb dX11_weigh_42 (by decide) ?_
    refine lv_iconst (v := (3 : Int32)) hx hb dX11_weigh_45 (by decide) ?_
    refine lv_bipush (v := (96 : Int32)) hx hb dX11_weigh_46 (by decide) ?_
    refine lv_iload_n hx hb dX11_weigh_48 rfl (lv_at hl 1 rfl) ?_
    refine lv_imul hx hb dX11_weigh_49 ?_
    refine lv_iload_n hx hb dX11_weigh_50 rfl (lv_at hl 2 rfl) ?_
    refine lv_iadd hx hb dX11_weigh_51 ?_
    refine lv_imul hx hb dX11_weigh_52 ?_
    refine lv_iadd hx hb dX11_weigh_53 ?_
    refine lv_iload_n hx hb dX11_weigh_54 rfl (lv_at hl 3 rfl) ?_
    refine lv_iload hx hb dX11_weigh_55 (lv_at hl 4 rfl) ?_
    refine lv_iload hx hb dX11_weigh_57 (lv_at hl 5 rfl) ?_
    obtain ⟨u, w3, hc, hf⟩ := bd_some hf
    refine q_callV0 (As := [.int ((864 : Int32) + ((3 : Int32) * (((96 : Int32) * v1) + v2))), .int v3, .int v4, .int v5]) C hH (ci := 11) rfl (by omega) gk_X11_137 yd_X11_weighs (by omega) (by omega) kc_713 (c_X11_weighs hc) hl.1 rfl (Nat.le_of_ble_eq_true rfl) dX11_weigh_59 ⟨by decide, by decide⟩ (fun H locs hH hP => ?_)
    cases hf
    exact q_retv C hH trivial dX11_weigh_62
set_option maxRecDepth 100000 in
set_option maxHeartbeats 4000000 in
theorem t_X11_weigh_0 {D : va_G} {B : Nat} {Y : Nat → ClassId} {p : Program} {l : Launch} {e : Env} {s : State} {m : MethodId} {args : Array Value} {below : List Frame} {meth : Method} {c : Code} {z : (Unit × Wd)} {H : Heap} {locs : List Loc} {ls : Array Slot} {w : Wd} {v1 : Int32} {v2 : Int32} {v3 : Int32} {v4 : Int32} {v5 : Int32} (C : CX D B Y p s m args meth c cX11_weigh 6 RX11 none)     (hH : HS D B Y w s H locs) (hl : lv_has ls 6 [(0, .ref (B + 713)), (1, .int v1), (2, .int v2), (3, .int v3), (4, .int v4), (5, .int v5)]) (hf : f_X11_weigh v1 v2 v3 v4 v5 w = some z) : W p l e (RM 2 0 0) s m args below meth c H locs 0 0 (MQ below (QG D B Y none z.2 True) args s 0 0 (AB B)) (F0 m 0 ls []) := by
  have hx := C.1
  have hb := C.2.1
  unfold f_X11_weigh at hf
  refine lv_aload_n hx hb dX11_weigh_0 rfl (lv_at hl 0 rfl) ?_
  refine lv_iload_n hx hb dX11_weigh_1 rfl (lv_at hl 1 rfl) ?_
  obtain ⟨x2, w1, hc, hf⟩ := bd_some hf
  refine q_callS1 (v := .int x2) (As := [.int v1]) C hH gk_X11_131 yd_X11_isLanguage (by omega) (by omega) (c_X11_isLanguage hc) hl.1 rfl (Nat.le_of_ble_eq_true rfl) dX11_weigh_2 ⟨by decide, by decide⟩ (fun H locs hH z_x2 => ?_)
  refine b_if_eq (tgt := 15) hx hb hf dX11_weigh_5 (by decide) (fun hf => ?_) (fun hf => ?_)
  · refine lv_iconst (v := (1 : Int32)) hx hb dX11_weigh_15 (by decide) ?_
    refine lv_goto (tgt := 35) hx hb dX11_weigh_16 (by decide) ?_
    exact t_X11_weigh_35 C hH (lv_sub hl [0, 1, 2, 3, 4, 5] rfl) hf
  · refine lv_iload_n hx hb dX11_weigh_8 rfl (lv_at hl 2 rfl) ?_
    obtain ⟨x4, w3, hc, hf⟩ := bd_some hf
    refine q_callS1 (v := .int x4) (As := [.int v2]) C hH gk_X11_124 yd_X11_isLetter (by omega) (by omega) (c_X11_isLetter hc) hl.1 rfl (Nat.le_of_ble_eq_true rfl) dX11_weigh_9 ⟨by decide, by decide⟩ (fun H locs hH z_x4 => ?_)
    refine b_if_ne (tgt := 19) hx hb hf dX11_weigh_12 (by decide) (fun hf => ?_) (fun hf => ?_)
    · refine lv_iload_n hx hb dX11_weigh_19 rfl (lv_at hl 3 rfl) ?_
      refine lv_iload hx hb dX11_weigh_20 (lv_at hl 4 rfl) ?_
      refine lv_iload hx hb dX11_weigh_22 (lv_at hl 5 rfl) ?_
      obtain ⟨x6, w5, hc, hf⟩ := bd_some hf
      refine q_callS1 (v := .int x6) (As := [.int v3, .int v4, .int v5]) C hH gk_X11_134 yd_X11_areWeights (by omega) (by omega) (c_X11_areWeights hc) hl.1 rfl (Nat.le_of_ble_eq_true rfl) dX11_weigh_24 ⟨by decide, by decide⟩ (fun H locs hH z_x6 => ?_)
      refine b_if_eq (tgt := 34) hx hb hf dX11_weigh_27 (by decide) (fun hf => ?_) (fun hf => ?_)
      · refine lv_iconst (v := (2 : Int32)) hx hb dX11_weigh_34 (by decide) ?_
        exact t_X11_weigh_35 C hH (lv_sub hl [0, 1, 2, 3, 4, 5] rfl) hf
      · refine lv_iconst (v := (0 : Int32)) hx hb dX11_weigh_30 (by decide) ?_
        refine lv_goto (tgt := 35) hx hb dX11_weigh_31 (by decide) ?_
        exact t_X11_weigh_35 C hH (lv_sub hl [0, 1, 2, 3, 4, 5] rfl) hf
    · refine lv_iconst (v := (1 : Int32)) hx hb dX11_weigh_15 (by decide) ?_
      refine lv_goto (tgt := 35) hx hb dX11_weigh_16 (by decide) ?_
      exact t_X11_weigh_35 C hH (lv_sub hl [0, 1, 2, 3, 4, 5] rfl) hf
set_option maxRecDepth 100000 in
theorem c_X11_weigh {l : Launch} {D : va_G} {B : Nat} {Y : Nat → ClassId} {v1 : Int32} {v2 : Int32} {v3 : Int32} {v4 : Int32} {v5 : Int32} {w : Wd} {r : Unit} {w1 : Wd}   (hf : f_X11_weigh v1 v2 v3 v4 v5 w = some (r, w1)) : CM l D B Y yX11_weigh cX11_weigh 6 none 2 [.ref (B + 713), .int v1, .int v2, .int v3, .int v4, .int v5] w none w1 True :=
  CM_of (by decide +kernel) (Nat.le_of_ble_eq_true rfl) (fun p e s m args below meth c ls C hH hl => t_X11_weigh_0 C  hH (lv_sub hl [0, 1, 2, 3, 4, 5] rfl) hf)
/-! LetterTablesModel.contraction -/
set_option maxRecDepth 100000 in
set_option maxHeartbeats 4000000 in
theorem t_X11_contraction_65 {D : va_G} {B : Nat} {Y : Nat → ClassId} {p : Program} {l : Launch} {e : Env} {s : State} {m : MethodId} {args : Array Value} {below : List Frame} {meth : Method} {c : Code} {z : (Int32 × Wd)} {H : Heap} {locs : List Loc} {ls : Array Slot} {w : Wd} {v1 : Int32} {v2 : Int32} {v3 : Int32} {v4 : Int32} {v5 : Int32} (C : CX D B Y p s m args meth c cX11_contraction 7 RX11 (some .int))  {rc_6 : Int32 × Int32 × Int32 × Int32 × Int32 × Wd → Option (Int32 × Wd)} (hr_6 : ∀ (v1 : Int32) (v2 : Int32) (v3 : Int32) (v4 : Int32) (v5 : Int32) (w : Wd), rc_6 (v1, v2, v3, v4, v5, w) = some z → ∀ (H : Heap) (locs : List Loc) (ls : Array Slot), HS D B Y w s H locs → lv_has ls 7 [(0, .ref (B + 713)), (1, .int v1), (2, .int v2), (3, .int v3), (4, .int v4), (5, .int v5)] → W p l e (RM 0 0 0) s m args below meth c H locs 0 0 (MQ below (QG D B Y (some (.int z.1)) z.2 True) args s 0 0 (AB B)) (F0 m 6 ls []))    (hH : HS D B Y w s H locs) (hl : lv_has ls 7 [(0, .ref (B + 713)), (1, .int v1), (2, .int v2), (3, .int v3), (4, .int v4), (5, .int v5)]) (hf : f_X11_contraction_65 rc_6 v1 v2 v3 v4 v5 w = some z) : W p l e (RM 0 0 0) s m args below meth c H locs 0 0 (MQ below (QG D B Y (some (.int z.1)) z.2 True) args s 0 0 (AB B)) (F0 m 65 ls []) := by
  have hx := C.1
  have hb := C.2.1
  unfold f_X11_contraction_65 at hf
  refine lv_iload hx hb dX11_contraction_65 (lv_at hl 4 rfl) ?_
  refine lv_istore (lv' := [(4, .int v4), (0, .ref (B + 713)), (1, .int v1), (2, .int v2), (3, .int v3), (5, .int v5)]) hx hb dX11_contraction_67 hl (by decide) rfl (fun ls hl => ?_)
  refine b_let hf (fun x1 he hf => ?_)
  refine lv_iinc (v := x1) (lv' := [(5, .int x1), (4, .int v4), (0, .ref (B + 713)), (1, .int v1), (2, .int v2), (3, .int v3)]) hx hb dX11_contraction_69 hl (k := 5) rfl (by rw [← he]; rfl) (by decide) rfl (fun ls hl => ?_)
  refine lv_goto (tgt := 6) hx hb dX11_contraction_72 (by decide) ?_
  exact hr_6 v1 v2 v3 v4 x1 w hf _ _ _ hH (lv_sub hl [2, 3, 4, 5, 1, 0] rfl)
set_option maxRecDepth 100000 in
set_option maxHeartbeats 4000000 in
theorem tb_X11_contraction_6 {D : va_G} {B : Nat} {Y : Nat → ClassId} {p : Program} {l : Launch} {e : Env} {s : State} {m : MethodId} {args : Array Value} {below : List Frame} {meth : Method} {c : Code} {z : (Int32 × Wd)} {H : Heap} {locs : List Loc} {ls : Array Slot} {w : Wd} {v1 : Int32} {v2 : Int32} {v3 : Int32} {v4 : Int32} {v5 : Int32} (C : CX D B Y p s m args meth c cX11_contraction 7 RX11 (some .int))  {rc_6 : Int32 × Int32 × Int32 × Int32 × Int32 × Wd → Option (Int32 × Wd)} (hr_6 : ∀ (v1 : Int32) (v2 : Int32) (v3 : Int32) (v4 : Int32) (v5 : Int32) (w : Wd), rc_6 (v1, v2, v3, v4, v5, w) = some z → ∀ (H : Heap) (locs : List Loc) (ls : Array Slot), HS D B Y w s H locs → lv_has ls 7 [(0, .ref (B + 713)), (1, .int v1), (2, .int v2), (3, .int v3), (4, .int v4), (5, .int v5)] → W p l e (RM 0 0 0) s m args below meth c H locs 0 0 (MQ below (QG D B Y (some (.int z.1)) z.2 True) args s 0 0 (AB B)) (F0 m 6 ls []))    (hH : HS D B Y w s H locs) (hl : lv_has ls 7 [(0, .ref (B + 713)), (1, .int v1), (2, .int v2), (3, .int v3), (4, .int v4), (5, .int v5)]) (hf : g_X11_contraction_6 rc_6 v1 v2 v3 v4 v5 w = some z) : W p l e (RM 0 0 0) s m args below meth c H locs 0 0 (MQ below (QG D B Y (some (.int z.1)) z.2 True) args s 0 0 (AB B)) (F0 m 6 ls []) := by
  have hx := C.1
  have hb := C.2.1
  unfold g_X11_contraction_6 at hf
  refine lv_iload hx hb dX11_contraction_6 (lv_at hl 5 rfl) ?_
  refine lv_aload_n hx hb dX11_contraction_8 rfl (lv_at hl 0 rfl) ?_
  refine fg_X11_7 C hH dX11_contraction_9 ?_
  refine lv_sipush (v := (1440 : Int32)) hx hb dX11_contraction_12 (by decide) ?_
  refine lv_iload_n hx hb dX11_contraction_15 rfl (lv_at hl 1 rfl) ?_
  refine lv_iadd hx hb dX11_contraction_16 ?_
  refine g_iald C hH kc_714 hf dX11_contraction_17 (fun x1 hf => ?_)
  refine b_icmp_ge (tgt := 75) hx hb hf dX11_contraction_18 (by decide) (fun hf => ?_) (fun hf => ?_)
  · refine lv_iload hx hb dX11_contraction_75 (lv_at hl 4 rfl) ?_
    cases hf
    exact q_reti C hH trivial dX11_contraction_77
  · refine lv_sipush (v := (1442 : Int32)) hx hb dX11_contraction_21 (by decide) ?_
    refine lv_iconst (v := (5 : Int32)) hx hb dX11_contraction_24 (by decide) ?_
    refine lv_bipush (v := (6 : Int32)) hx hb dX11_contraction_25 (by decide) ?_
    refine lv_iload_n hx hb dX11_contraction_27 rfl (lv_at hl 1 rfl) ?_
    refine lv_imul hx hb dX11_contraction_28 ?_
    refine lv_iload hx hb dX11_contraction_29 (lv_at hl 5 rfl) ?_
    refine lv_iadd hx hb dX11_contraction_31 ?_
    refine lv_imul hx hb dX11_contraction_32 ?_
    refine lv_iadd hx hb dX11_contraction_33 ?_
    refine b_leti hf (fun x2 hf => ?_)
    refine lv_istore (lv' := [(6, .int x2), (0, .ref (B + 713)), (1, .int v1), (2, .int v2), (3, .int v3), (4, .int v4), (5, .int v5)]) hx hb dX11_contraction_34 hl (by decide) rfl (fun ls hl => ?_)
    refine lv_aload_n hx hb dX11_contraction_36 rfl (lv_at hl 1 rfl) ?_
    refine fg_X11_7 C hH dX11_contraction_37 ?_
    refine lv_iload hx hb dX11_contraction_40 (lv_at hl 0 rfl) ?_
    refine g_iald C hH kc_714 hf dX11_contraction_42 (fun x3 hf => ?_)
    refine lv_iload_n hx hb dX11_contraction_43 rfl (lv_at hl 3 rfl) ?_
    refine b_icmp_ne (tgt := 65) hx hb hf dX11_contraction_44 (by decide) (fun hf => ?_) (fun hf => ?_)
    · exact t_X11_contraction_65 C hr_6 hH (lv_sub hl [1, 2, 3, 4, 5, 6] rfl) hf
    · refine lv_aload_n hx hb dX11_contraction_47 rfl (lv_at hl 1 rfl) ?_
      refine fg_X11_7 C hH dX11_contraction_48 ?_
      refine lv_iload hx hb dX11_contraction_51 (lv_at hl 0 rfl) ?_
      refine lv_iconst (v := (1 : Int32)) hx hb dX11_contraction_53 (by decide) ?_
      refine lv_iadd hx hb dX11_contraction_54 ?_
      refine g_iald C hH kc_714 hf dX11_contraction_55 (fun x4 hf => ?_)
      refine lv_iload_n hx hb dX11_contraction_56 rfl (lv_at hl 4 rfl) ?_
      refine b_icmp_ne (tgt := 65) hx hb hf dX11_contraction_57 (by decide) (fun hf => ?_) (fun hf => ?_)
      · exact t_X11_contraction_65 C hr_6 hH (lv_sub hl [1, 2, 3, 4, 5, 6] rfl) hf
      · refine lv_iload hx hb dX11_contraction_60 (lv_at hl 0 rfl) ?_
        refine lv_goto (tgt := 67) hx hb dX11_contraction_62 (by decide) ?_
        refine lv_istore (lv' := [(4, .int x2), (6, .int x2), (0, .ref (B + 713)), (1, .int v1), (2, .int v2), (3, .int v3), (5, .int v5)]) hx hb dX11_contraction_67 hl (by decide) rfl (fun ls hl => ?_)
        refine b_let hf (fun x5 he hf => ?_)
        refine lv_iinc (v := x5) (lv' := [(5, .int x5), (4, .int x2), (6, .int x2), (0, .ref (B + 713)), (1, .int v1), (2, .int v2), (3, .int v3)]) hx hb dX11_contraction_69 hl (k := 6) rfl (by rw [← he]; rfl) (by decide) rfl (fun ls hl => ?_)
        refine lv_goto (tgt := 6) hx hb dX11_contraction_72 (by decide) ?_
        exact hr_6 v1 v2 v3 x2 x5 w hf _ _ _ hH (lv_sub hl [3, 4, 5, 6, 1, 0] rfl)
set_option maxRecDepth 100000 in
set_option maxHeartbeats 4000000 in
theorem t_X11_contraction_6 {D : va_G} {B : Nat} {Y : Nat → ClassId} {p : Program} {l : Launch} {e : Env} {s : State} {m : MethodId} {args : Array Value} {below : List Frame} {meth : Method} {c : Code} {z : (Int32 × Wd)} {H : Heap} {locs : List Loc} {ls : Array Slot} {w : Wd} {v1 : Int32} {v2 : Int32} {v3 : Int32} {v4 : Int32} {v5 : Int32} (C : CX D B Y p s m args meth c cX11_contraction 7 RX11 (some .int))     (hH : HS D B Y w s H locs) (hl : lv_has ls 7 [(0, .ref (B + 713)), (1, .int v1), (2, .int v2), (3, .int v3), (4, .int v4), (5, .int v5)]) (hf : f_X11_contraction_6 v1 v2 v3 v4 v5 w = some z) : W p l e (RM 0 0 0) s m args below meth c H locs 0 0 (MQ below (QG D B Y (some (.int z.1)) z.2 True) args s 0 0 (AB B)) (F0 m 6 ls []) := by
  exact loopN_ind (z := z) (body := fun rc σ => g_X11_contraction_6 rc  σ.1 σ.2.1 σ.2.2.1 σ.2.2.2.1 σ.2.2.2.2.1 σ.2.2.2.2.2)
    (P := fun σ => ∀ (H : Heap) (locs : List Loc) (ls : Array Slot), HS D B Y σ.2.2.2.2.2 s H locs → lv_has ls 7 [(0, .ref (B + 713)), (1, .int σ.1), (2, .int σ.2.1), (3, .int σ.2.2.1), (4, .int σ.2.2.2.1), (5, .int σ.2.2.2.2.1)] → W p l e (RM 0 0 0) s m args below meth c H locs 0 0 (MQ below (QG D B Y (some (.int z.1)) z.2 True) args s 0 0 (AB B)) (F0 m 6 ls []))
    (fun rc hrec σ hf  H locs ls hH hl => tb_X11_contraction_6 C (fun v1 v2 v3 v4 v5 w hr  H locs ls hH hl => hrec (v1, v2, v3, v4, v5, w) hr  H locs ls hH hl)   hH hl hf) FU (v1, v2, v3, v4, v5, w) hf  H locs ls hH hl
set_option maxRecDepth 100000 in
set_option maxHeartbeats 4000000 in
theorem t_X11_contraction_0 {D : va_G} {B : Nat} {Y : Nat → ClassId} {p : Program} {l : Launch} {e : Env} {s : State} {m : MethodId} {args : Array Value} {below : List Frame} {meth : Method} {c : Code} {z : (Int32 × Wd)} {H : Heap} {locs : List Loc} {ls : Array Slot} {w : Wd} {v1 : Int32} {v2 : Int32} {v3 : Int32} (C : CX D B Y p s m args meth c cX11_contraction 7 RX11 (some .int))     (hH : HS D B Y w s H locs) (hl : lv_has ls 7 [(0, .ref (B + 713)), (1, .int v1), (2, .int v2), (3, .int v3)]) (hf : f_X11_contraction v1 v2 v3 w = some z) : W p l e (RM 0 0 0) s m args below meth c H locs 0 0 (MQ below (QG D B Y (some (.int z.1)) z.2 True) args s 0 0 (AB B)) (F0 m 0 ls []) := by
  have hx := C.1
  have hb := C.2.1
  unfold f_X11_contraction at hf
  refine lv_iconst (v := (-1 : Int32)) hx hb dX11_contraction_0 (by decide) ?_
  refine lv_istore (lv' := [(4, .int (-1 : Int32)), (0, .ref (B + 713)), (1, .int v1), (2, .int v2), (3, .int v3)]) hx hb dX11_contraction_1 hl (by decide) rfl (fun ls hl => ?_)
  refine lv_iconst (v := (0 : Int32)) hx hb dX11_contraction_3 (by decide) ?_
  refine lv_istore (lv' := [(5, .int (0 : Int32)), (4, .int (-1 : Int32)), (0, .ref (B + 713)), (1, .int v1), (2, .int v2), (3, .int v3)]) hx hb dX11_contraction_4 hl (by decide) rfl (fun ls hl => ?_)
  exact t_X11_contraction_6 C hH (lv_sub hl [2, 3, 4, 5, 1, 0] rfl) hf
set_option maxRecDepth 100000 in
theorem c_X11_contraction {l : Launch} {D : va_G} {B : Nat} {Y : Nat → ClassId} {v1 : Int32} {v2 : Int32} {v3 : Int32} {w : Wd} {r : Int32} {w1 : Wd}   (hf : f_X11_contraction v1 v2 v3 w = some (r, w1)) : CM l D B Y yX11_contraction cX11_contraction 7 (some .int) 0 [.ref (B + 713), .int v1, .int v2, .int v3] w (some (.int r)) w1 True :=
  CM_of (by decide +kernel) (Nat.le_of_ble_eq_true rfl) (fun p e s m args below meth c ls C hH hl => t_X11_contraction_0 C  hH (lv_sub hl [0, 1, 2, 3] rfl) hf)
/-! LetterTablesModel.contract -/
set_option maxRecDepth 100000 in
set_option maxHeartbeats 4000000 in
theorem t_X11_contract_179 {D : va_G} {B : Nat} {Y : Nat → ClassId} {p : Program} {l : Launch} {e : Env} {s : State} {m : MethodId} {args : Array Value} {below : List Frame} {meth : Method} {c : Code} {z : (Int32 × Wd)} {H : Heap} {locs : List Loc} {ls : Array Slot} {w : Wd} {v1 : Int32} {v2 : Int32} {v3 : Int32} {v4 : Int32} {v5 : Int32} {v6 : Int32} {v10 : Int32} {t0 : Nat} {t1 : Int32} {t2 : Int32} {t3 : Int32} (C : CX D B Y p s m args meth c cX11_contract 11 RX11 (some .int))   (k_t0 : KD t0 = 20) (z_t3 : isZ t3) (hH : HS D B Y w s H locs) (hl : lv_has ls 11 [(0, .ref (B + 713)), (1, .int v1), (2, .int v2), (3, .int v3), (4, .int v4), (5, .int v5), (6, .int v6), (10, .int v10)]) (hf : f_X11_contract_179 v1 v2 v3 v4 v5 v6 v10 t0 t1 t2 t3 w = some z) : W p l e (RM 2 0 0) s m args below meth c H locs 0 0 (MQ below (QG D B Y (some (.int z.1)) z.2 True) args s 0 0 (AB B)) (F0 m 179 ls [.int t3, .int t2, .int t1, .ref (B + t0)]) := by
  have hx := C.1
  have hb := C.2.1
  unfold f_X11_contract_179 at hf
  refine lv_iadd hx hb dX11_contract_179 ?_
  refine g_iast C hH k_t0 hf dX11_contract_180 (fun w1 H locs hf hH => ?_)
  refine lv_aload_n hx hb dX11_contract_181 rfl (lv_at hl 0 rfl) ?_
  refine fg_X11_7 C hH dX11_contract_182 ?_
  refine lv_iload hx hb dX11_contract_185 (lv_at hl 7 rfl) ?_
  refine lv_iload_n hx hb dX11_contract_187 rfl (lv_at hl 2 rfl) ?_
  refine g_iast C hH kc_714 hf dX11_contract_188 (fun w2 H locs hf hH => ?_)
  refine lv_aload_n hx hb dX11_contract_189 rfl (lv_at hl 0 rfl) ?_
  refine fg_X11_7 C hH dX11_contract_190 ?_
  refine lv_iload hx hb dX11_contract_193 (lv_at hl 7 rfl) ?_
  refine lv_iconst (v := (1 : Int32)) hx hb dX11_contract_195 (by decide) ?_
  refine lv_iadd hx hb dX11_contract_196 ?_
  refine lv_iload_n hx hb dX11_contract_197 rfl (lv_at hl 3 rfl) ?_
  refine g_iast C hH kc_714 hf dX11_contract_198 (fun w3 H locs hf hH => ?_)
  refine lv_aload_n hx hb dX11_contract_199 rfl (lv_at hl 0 rfl) ?_
  refine lv_iload hx hb dX11_contract_200 (lv_at hl 7 rfl) ?_
  refine lv_iconst (v := (2 : Int32)) hx hb dX11_contract_202 (by decide) ?_
  refine lv_iadd hx hb dX11_contract_203 ?_
  refine lv_iload hx hb dX11_contract_204 (lv_at hl 4 rfl) ?_
  refine lv_iload hx hb dX11_contract_206 (lv_at hl 5 rfl) ?_
  refine lv_iload hx hb dX11_contract_208 (lv_at hl 6 rfl) ?_
  obtain ⟨u, w4, hc, hf⟩ := bd_some hf
  refine q_callV0 (As := [.int (v10 + (2 : Int32)), .int v4, .int v5, .int v6]) C hH (ci := 11) rfl (by omega) gk_X11_137 yd_X11_weighs (by omega) (by omega) kc_713 (c_X11_weighs hc) hl.1 rfl (Nat.le_of_ble_eq_true rfl) dX11_contract_210 ⟨by decide, by decide⟩ (fun H locs hH hP => ?_)
  refine lv_aload_n hx hb dX11_contract_213 rfl (lv_at hl 0 rfl) ?_
  refine fg_X11_7 C hH dX11_contract_214 ?_
  refine lv_sipush (v := (1440 : Int32)) hx hb dX11_contract_217 (by decide) ?_
  refine lv_iload_n hx hb dX11_contract_220 rfl (lv_at hl 1 rfl) ?_
  refine lv_iadd hx hb dX11_contract_221 ?_
  refine g_iald C hH kc_714 hf dX11_contract_222 (fun x5 hf => ?_)
  cases hf
  exact q_reti C hH trivial dX11_contract_223
set_option maxRecDepth 100000 in
set_option maxHeartbeats 4000000 in
theorem t_X11_contract_155 {D : va_G} {B : Nat} {Y : Nat → ClassId} {p : Program} {l : Launch} {e : Env} {s : State} {m : MethodId} {args : Array Value} {below : List Frame} {meth : Method} {c : Code} {z : (Int32 × Wd)} {H : Heap} {locs : List Loc} {ls : Array Slot} {w : Wd} {v1 : Int32} {v2 : Int32} {v3 : Int32} {v4 : Int32} {v5 : Int32} {v6 : Int32} {v9 : Int32} {t0 : Int32} (C : CX D B Y p s m args meth c cX11_contract 11 RX11 (some .int))     (hH : HS D B Y w s H locs) (hl : lv_has ls 11 [(0, .ref (B + 713)), (1, .int v1), (2, .int v2), (3, .int v3), (4, .int v4), (5, .int v5), (6, .int v6), (9, .int v9)]) (hf : f_X11_contract_155 v1 v2 v3 v4 v5 v6 v9 t0 w = some z) : W p l e (RM 2 0 0) s m args below meth c H locs 0 0 (MQ below (QG D B Y (some (.int z.1)) z.2 True) args s 0 0 (AB B)) (F0 m 155 ls [.int t0]) := by
  have hx := C.1
  have hb := C.2.1
  unfold f_X11_contract_155 at hf
  refine lv_istore (lv' := [(10, .int t0), (0, .ref (B + 713)), (1, .int v1), (2, .int v2), (3, .int v3), (4, .int v4), (5, .int v5), (6, .int v6), (9, .int v9)]) hx hb dX11_contract_155 hl (by decide) rfl (fun ls hl => ?_)
  refine lv_aload_n hx hb dX11_contract_157 rfl (lv_at hl 1 rfl) ?_
  refine fg_X11_7 C hH dX11_contract_158 ?_
  refine lv_sipush (v := (1440 : Int32)) hx hb dX11_contract_161 (by decide) ?_
  refine lv_iload_n hx hb dX11_contract_164 rfl (lv_at hl 2 rfl) ?_
  refine lv_iadd hx hb dX11_contract_165 ?_
  refine lv_dup2_11 hx hb dX11_contract_166 rfl rfl ?_
  refine g_iald C hH kc_714 hf dX11_contract_167 (fun x1 hf => ?_)
  refine lv_iload hx hb dX11_contract_168 (lv_at hl 8 rfl) ?_
  refine lv_iconst (v := (-1 : Int32)) hx hb dX11_contract_170 (by decide) ?_
  refine b_icmp_ne (tgt := 178) hx hb hf dX11_contract_171 (by decide) (fun hf => ?_) (fun hf => ?_)
  · refine lv_iconst (v := (0 : Int32)) hx hb dX11_contract_178 (by decide) ?_
    exact t_X11_contract_179 C kc_714 isZ_0 hH (lv_sub hl [1, 2, 3, 4, 5, 6, 7, 0] rfl) hf
  · refine lv_iconst (v := (1 : Int32)) hx hb dX11_contract_174 (by decide) ?_
    refine lv_goto (tgt := 179) hx hb dX11_contract_175 (by decide) ?_
    exact t_X11_contract_179 C kc_714 isZ_1 hH (lv_sub hl [1, 2, 3, 4, 5, 6, 7, 0] rfl) hf
set_option maxRecDepth 100000 in
set_option maxHeartbeats 4000000 in
theorem t_X11_contract_115 {D : va_G} {B : Nat} {Y : Nat → ClassId} {p : Program} {l : Launch} {e : Env} {s : State} {m : MethodId} {args : Array Value} {below : List Frame} {meth : Method} {c : Code} {z : (Int32 × Wd)} {H : Heap} {locs : List Loc} {ls : Array Slot} {w : Wd} {v1 : Int32} {v2 : Int32} {v3 : Int32} {v4 : Int32} {v5 : Int32} {v6 : Int32} {v9 : Int32} {t1 : Int32} (C : CX D B Y p s m args meth c cX11_contract 11 RX11 (some .int))     (hH : HS D B Y w s H locs) (hl : lv_has ls 11 [(0, .ref (B + 713)), (1, .int v1), (2, .int v2), (3, .int v3), (4, .int v4), (5, .int v5), (6, .int v6), (9, .int v9)]) (hf : f_X11_contract_115 v1 v2 v3 v4 v5 v6 v9 t1 w = some z) : W p l e (RM 2 0 0) s m args below meth c H locs 0 0 (MQ below (QG D B Y (some (.int z.1)) z.2 True) args s 0 0 (AB B)) (F0 m 115 ls [.int t1, .ref (B + 713)]) := by
  have hx := C.1
  have hb := C.2.1
  unfold f_X11_contract_115 at hf
  obtain ⟨x2, w1, hc, hf⟩ := bd_some hf
  refine q_callV1 (v := .int x2) (As := [.int t1]) C hH (ci := 11) rfl (by omega) gk_X11_118 yd_X11_holds (by omega) (by omega) kc_713 (c_X11_holds hc) hl.1 rfl (Nat.le_of_ble_eq_true rfl) dX11_contract_115 ⟨by decide, by decide⟩ (fun H locs hH z_x2 => ?_)
  refine b_if_ne (tgt := 123) hx hb hf dX11_contract_118 (by decide) (fun hf => ?_) (fun hf => ?_)
  · refine lv_iload hx hb dX11_contract_123 (lv_at hl 7 rfl) ?_
    refine lv_iconst (v := (-1 : Int32)) hx hb dX11_contract_125 (by decide) ?_
    refine b_icmp_ne (tgt := 153) hx hb hf dX11_contract_126 (by decide) (fun hf => ?_) (fun hf => ?_)
    · refine lv_iload hx hb dX11_contract_153 (lv_at hl 7 rfl) ?_
      exact t_X11_contract_155 C hH (lv_sub hl [0, 1, 2, 3, 4, 5, 6, 7] rfl) hf
    · refine lv_sipush (v := (1442 : Int32)) hx hb dX11_contract_129 (by decide) ?_
      refine lv_iconst (v := (5 : Int32)) hx hb dX11_contract_132 (by decide) ?_
      refine lv_bipush (v := (6 : Int32)) hx hb dX11_contract_133 (by decide) ?_
      refine lv_iload_n hx hb dX11_contract_135 rfl (lv_at hl 1 rfl) ?_
      refine lv_imul hx hb dX11_contract_136 ?_
      refine lv_aload_n hx hb dX11_contract_137 rfl (lv_at hl 0 rfl) ?_
      refine fg_X11_7 C hH dX11_contract_138 ?_
      refine lv_sipush (v := (1440 : Int32)) hx hb dX11_contract_141 (by decide) ?_
      refine lv_iload_n hx hb dX11_contract_144 rfl (lv_at hl 1 rfl) ?_
      refine lv_iadd hx hb dX11_contract_145 ?_
      refine g_iald C hH kc_714 hf dX11_contract_146 (fun x3 hf => ?_)
      refine lv_iadd hx hb dX11_contract_147 ?_
      refine lv_imul hx hb dX11_contract_148 ?_
      refine lv_iadd hx hb dX11_contract_149 ?_
      refine lv_goto (tgt := 155) hx hb dX11_contract_150 (by decide) ?_
      exact t_X11_contract_155 C hH (lv_sub hl [0, 1, 2, 3, 4, 5, 6, 7] rfl) hf
  · refine lv_iconst (v := (0 : Int32)) hx hb dX11_contract_121 (by decide) ?_
    cases hf
    exact q_reti C hH trivial dX11_contract_122
set_option maxRecDepth 100000 in
set_option maxHeartbeats 4000000 in
theorem t_X11_contract_114 {D : va_G} {B : Nat} {Y : Nat → ClassId} {p : Program} {l : Launch} {e : Env} {s : State} {m : MethodId} {args : Array Value} {below : List Frame} {meth : Method} {c : Code} {z : (Int32 × Wd)} {H : Heap} {locs : List Loc} {ls : Array Slot} {w : Wd} {v1 : Int32} {v2 : Int32} {v3 : Int32} {v4 : Int32} {v5 : Int32} {v6 : Int32} {v9 : Int32} (C : CX D B Y p s m args meth c cX11_contract 11 RX11 (some .int))     (hH : HS D B Y w s H locs) (hl : lv_has ls 11 [(0, .ref (B + 713)), (1, .int v1), (2, .int v2), (3, .int v3), (4, .int v4), (5, .int v5), (6, .int v6), (9, .int v9)]) (hf : f_X11_contract_114 v1 v2 v3 v4 v5 v6 v9 w = some z) : W p l e (RM 2 0 0) s m args below meth c H locs 0 0 (MQ below (QG D B Y (some (.int z.1)) z.2 True) args s 0 0 (AB B)) (F0 m 114 ls [.ref (B + 713)]) := by
  have hx := C.1
  have hb := C.2.1
  unfold f_X11_contract_114 at hf
  refine lv_iconst (v := (0 : Int32)) hx hb dX11_contract_114 (by decide) ?_
  exact t_X11_contract_115 C hH (lv_sub hl [0, 1, 2, 3, 4, 5, 6, 7] rfl) hf
set_option maxRecDepth 100000 in
set_option maxHeartbeats 4000000 in
theorem t_X11_contract_68 {D : va_G} {B : Nat} {Y : Nat → ClassId} {p : Program} {l : Launch} {e : Env} {s : State} {m : MethodId} {args : Array Value} {below : List Frame} {meth : Method} {c : Code} {z : (Int32 × Wd)} {H : Heap} {locs : List Loc} {ls : Array Slot} {w : Wd} {v1 : Int32} {v2 : Int32} {v3 : Int32} {v4 : Int32} {v5 : Int32} {v6 : Int32} {v7 : Int32} {v8 : Int32} {t0 : Int32} (C : CX D B Y p s m args meth c cX11_contract 11 RX11 (some .int))    (z_v7 : isZ v7) (z_v8 : isZ v8) (hH : HS D B Y w s H locs) (hl : lv_has ls 11 [(0, .ref (B + 713)), (1, .int v1), (2, .int v2), (3, .int v3), (4, .int v4), (5, .int v5), (6, .int v6), (7, .int v7), (8, .int v8)]) (hf : f_X11_contract_68 v1 v2 v3 v4 v5 v6 v7 v8 t0 w = some z) : W p l e (RM 2 0 0) s m args below meth c H locs 0 0 (MQ below (QG D B Y (some (.int z.1)) z.2 True) args s 0 0 (AB B)) (F0 m 68 ls [.int t0]) := by
  have hx := C.1
  have hb := C.2.1
  unfold f_X11_contract_68 at hf
  refine lv_istore (lv' := [(9, .int t0), (0, .ref (B + 713)), (1, .int v1), (2, .int v2), (3, .int v3), (4, .int v4), (5, .int v5), (6, .int v6), (7, .int v7), (8, .int v8)]) hx hb dX11_contract_68 hl (by decide) rfl (fun ls hl => ?_)
  refine lv_aload_n hx hb dX11_contract_70 rfl (lv_at hl 1 rfl) ?_
  refine lv_iload hx hb dX11_contract_71 (lv_at hl 8 rfl) ?_
  refine b_if_ne (tgt := 80) hx hb hf dX11_contract_73 (by decide) (fun hf => ?_) (fun hf => ?_)
  · refine lv_iload hx hb dX11_contract_80 (lv_at hl 9 rfl) ?_
    refine b_if_ne (tgt := 89) hx hb hf dX11_contract_82 (by decide) (fun hf => ?_) (fun hf => ?_)
    · refine lv_iload hx hb dX11_contract_89 (lv_at hl 0 rfl) ?_
      refine lv_iconst (v := (-1 : Int32)) hx hb dX11_contract_91 (by decide) ?_
      refine b_icmp_ne (tgt := 114) hx hb hf dX11_contract_92 (by decide) (fun hf => ?_) (fun hf => ?_)
      · exact t_X11_contract_114 C hH (lv_sub hl [1, 2, 3, 4, 5, 6, 7, 0] rfl) hf
      · refine lv_aload_n hx hb dX11_contract_95 rfl (lv_at hl 1 rfl) ?_
        refine fg_X11_7 C hH dX11_contract_96 ?_
        refine lv_sipush (v := (1440 : Int32)) hx hb dX11_contract_99 (by decide) ?_
        refine lv_iload_n hx hb dX11_contract_102 rfl (lv_at hl 2 rfl) ?_
        refine lv_iadd hx hb dX11_contract_103 ?_
        refine g_iald C hH kc_714 hf dX11_contract_104 (fun x1 hf => ?_)
        refine lv_bipush (v := (6 : Int32)) hx hb dX11_contract_105 (by decide) ?_
        refine b_icmp_ne (tgt := 114) hx hb hf dX11_contract_107 (by decide) (fun hf => ?_) (fun hf => ?_)
        · exact t_X11_contract_114 C hH (lv_sub hl [1, 2, 3, 4, 5, 6, 7, 0] rfl) hf
        · refine lv_iconst (v := (3 : Int32)) hx hb dX11_contract_110 (by decide) ?_
          refine lv_goto (tgt := 115) hx hb dX11_contract_111 (by decide) ?_
          exact t_X11_contract_115 C hH (lv_sub hl [1, 2, 3, 4, 5, 6, 7, 0] rfl) hf
    · refine lv_iconst (v := (2 : Int32)) hx hb dX11_contract_85 (by decide) ?_
      refine lv_goto (tgt := 115) hx hb dX11_contract_86 (by decide) ?_
      exact t_X11_contract_115 C hH (lv_sub hl [1, 2, 3, 4, 5, 6, 7, 0] rfl) hf
  · refine lv_iconst (v := (1 : Int32)) hx hb dX11_contract_76 (by decide) ?_
    refine lv_goto (tgt := 115) hx hb dX11_contract_77 (by decide) ?_
    exact t_X11_contract_115 C hH (lv_sub hl [1, 2, 3, 4, 5, 6, 7, 0] rfl) hf
set_option maxRecDepth 100000 in
set_option maxHeartbeats 4000000 in
theorem t_X11_contract_50 {D : va_G} {B : Nat} {Y : Nat → ClassId} {p : Program} {l : Launch} {e : Env} {s : State} {m : MethodId} {args : Array Value} {below : List Frame} {meth : Method} {c : Code} {z : (Int32 × Wd)} {H : Heap} {locs : List Loc} {ls : Array Slot} {w : Wd} {v1 : Int32} {v2 : Int32} {v3 : Int32} {v4 : Int32} {v5 : Int32} {v6 : Int32} {v7 : Int32} {t0 : Int32} (C : CX D B Y p s m args meth c cX11_contract 11 RX11 (some .int))    (z_v7 : isZ v7) (z_t0 : isZ t0) (hH : HS D B Y w s H locs) (hl : lv_has ls 11 [(0, .ref (B + 713)), (1, .int v1), (2, .int v2), (3, .int v3), (4, .int v4), (5, .int v5), (6, .int v6), (7, .int v7)]) (hf : f_X11_contract_50 v1 v2 v3 v4 v5 v6 v7 t0 w = some z) : W p l e (RM 2 0 0) s m args below meth c H locs 0 0 (MQ below (QG D B Y (some (.int z.1)) z.2 True) args s 0 0 (AB B)) (F0 m 50 ls [.int t0]) := by
  have hx := C.1
  have hb := C.2.1
  unfold f_X11_contract_50 at hf
  refine lv_istore (lv' := [(8, .int t0), (0, .ref (B + 713)), (1, .int v1), (2, .int v2), (3, .int v3), (4, .int v4), (5, .int v5), (6, .int v6), (7, .int v7)]) hx hb dX11_contract_50 hl (by decide) rfl (fun ls hl => ?_)
  refine lv_iload hx hb dX11_contract_52 (lv_at hl 8 rfl) ?_
  refine b_if_eq (tgt := 67) hx hb hf dX11_contract_54 (by decide) (fun hf => ?_) (fun hf => ?_)
  · refine lv_iconst (v := (-1 : Int32)) hx hb dX11_contract_67 (by decide) ?_
    exact t_X11_contract_68 C z_v7 z_t0 hH (lv_sub hl [1, 2, 3, 4, 5, 6, 7, 8, 0] rfl) hf
  · refine lv_aload_n hx hb dX11_contract_57 rfl (lv_at hl 1 rfl) ?_
    refine lv_iload_n hx hb dX11_contract_58 rfl (lv_at hl 2 rfl) ?_
    refine lv_iload_n hx hb dX11_contract_59 rfl (lv_at hl 3 rfl) ?_
    refine lv_iload_n hx hb dX11_contract_60 rfl (lv_at hl 4 rfl) ?_
    obtain ⟨x2, w1, hc, hf⟩ := bd_some hf
    refine q_callV1 (v := .int x2) (As := [.int v1, .int v2, .int v3]) C hH (ci := 11) rfl (by omega) gk_X11_141 yd_X11_contraction (by omega) (by omega) kc_713 (c_X11_contraction hc) hl.1 rfl (Nat.le_of_ble_eq_true rfl) dX11_contract_61 ⟨by decide, by decide⟩ (fun H locs hH hP => ?_)
    refine lv_goto (tgt := 68) hx hb dX11_contract_64 (by decide) ?_
    exact t_X11_contract_68 C z_v7 z_t0 hH (lv_sub hl [1, 2, 3, 4, 5, 6, 7, 8, 0] rfl) hf
set_option maxRecDepth 100000 in
set_option maxHeartbeats 4000000 in
theorem t_X11_contract_49 {D : va_G} {B : Nat} {Y : Nat → ClassId} {p : Program} {l : Launch} {e : Env} {s : State} {m : MethodId} {args : Array Value} {below : List Frame} {meth : Method} {c : Code} {z : (Int32 × Wd)} {H : Heap} {locs : List Loc} {ls : Array Slot} {w : Wd} {v1 : Int32} {v2 : Int32} {v3 : Int32} {v4 : Int32} {v5 : Int32} {v6 : Int32} {v7 : Int32} (C : CX D B Y p s m args meth c cX11_contract 11 RX11 (some .int))    (z_v7 : isZ v7) (hH : HS D B Y w s H locs) (hl : lv_has ls 11 [(0, .ref (B + 713)), (1, .int v1), (2, .int v2), (3, .int v3), (4, .int v4), (5, .int v5), (6, .int v6), (7, .int v7)]) (hf : f_X11_contract_49 v1 v2 v3 v4 v5 v6 v7 w = some z) : W p l e (RM 2 0 0) s m args below meth c H locs 0 0 (MQ below (QG D B Y (some (.int z.1)) z.2 True) args s 0 0 (AB B)) (F0 m 49 ls []) := by
  have hx := C.1
  have hb := C.2.1
  unfold f_X11_contract_49 at hf
  refine lv_iconst (v := (0 : Int32)) hx hb dX11_contract_49 (by decide) ?_
  exact t_X11_contract_50 C z_v7 isZ_0 hH (lv_sub hl [0, 1, 2, 3, 4, 5, 6, 7] rfl) hf
set_option maxRecDepth 100000 in
set_option maxHeartbeats 4000000 in
theorem t_X11_contract_26 {D : va_G} {B : Nat} {Y : Nat → ClassId} {p : Program} {l : Launch} {e : Env} {s : State} {m : MethodId} {args : Array Value} {below : List Frame} {meth : Method} {c : Code} {z : (Int32 × Wd)} {H : Heap} {locs : List Loc} {ls : Array Slot} {w : Wd} {v1 : Int32} {v2 : Int32} {v3 : Int32} {v4 : Int32} {v5 : Int32} {v6 : Int32} {t0 : Int32} (C : CX D B Y p s m args meth c cX11_contract 11 RX11 (some .int))    (z_t0 : isZ t0) (hH : HS D B Y w s H locs) (hl : lv_has ls 11 [(0, .ref (B + 713)), (1, .int v1), (2, .int v2), (3, .int v3), (4, .int v4), (5, .int v5), (6, .int v6)]) (hf : f_X11_contract_26 v1 v2 v3 v4 v5 v6 t0 w = some z) : W p l e (RM 2 0 0) s m args below meth c H locs 0 0 (MQ below (QG D B Y (some (.int z.1)) z.2 True) args s 0 0 (AB B)) (F0 m 26 ls [.int t0]) := by
  have hx := C.1
  have hb := C.2.1
  unfold f_X11_contract_26 at hf
  refine lv_istore (lv' := [(7, .int t0), (0, .ref (B + 713)), (1, .int v1), (2, .int v2), (3, .int v3), (4, .int v4), (5, .int v5), (6, .int v6)]) hx hb dX11_contract_26 hl (by decide) rfl (fun ls hl => ?_)
  refine lv_iload hx hb dX11_contract_28 (lv_at hl 0 rfl) ?_
  refine b_if_eq (tgt := 49) hx hb hf dX11_contract_30 (by decide) (fun hf => ?_) (fun hf => ?_)
  · exact t_X11_contract_49 C z_t0 hH (lv_sub hl [1, 2, 3, 4, 5, 6, 7, 0] rfl) hf
  · refine lv_iload hx hb dX11_contract_33 (lv_at hl 5 rfl) ?_
    refine lv_iload hx hb dX11_contract_35 (lv_at hl 6 rfl) ?_
    refine lv_iload hx hb dX11_contract_37 (lv_at hl 7 rfl) ?_
    obtain ⟨x2, w1, hc, hf⟩ := bd_some hf
    refine q_callS1 (v := .int x2) (As := [.int v4, .int v5, .int v6]) C hH gk_X11_134 yd_X11_areWeights (by omega) (by omega) (c_X11_areWeights hc) hl.1 rfl (Nat.le_of_ble_eq_true rfl) dX11_contract_39 ⟨by decide, by decide⟩ (fun H locs hH z_x2 => ?_)
    refine b_if_eq (tgt := 49) hx hb hf dX11_contract_42 (by decide) (fun hf => ?_) (fun hf => ?_)
    · exact t_X11_contract_49 C z_t0 hH (lv_sub hl [1, 2, 3, 4, 5, 6, 7, 0] rfl) hf
    · refine lv_iconst (v := (1 : Int32)) hx hb dX11_contract_45 (by decide) ?_
      refine lv_goto (tgt := 50) hx hb dX11_contract_46 (by decide) ?_
      exact t_X11_contract_50 C z_t0 isZ_1 hH (lv_sub hl [1, 2, 3, 4, 5, 6, 7, 0] rfl) hf
set_option maxRecDepth 100000 in
set_option maxHeartbeats 4000000 in
theorem t_X11_contract_25 {D : va_G} {B : Nat} {Y : Nat → ClassId} {p : Program} {l : Launch} {e : Env} {s : State} {m : MethodId} {args : Array Value} {below : List Frame} {meth : Method} {c : Code} {z : (Int32 × Wd)} {H : Heap} {locs : List Loc} {ls : Array Slot} {w : Wd} {v1 : Int32} {v2 : Int32} {v3 : Int32} {v4 : Int32} {v5 : Int32} {v6 : Int32} (C : CX D B Y p s m args meth c cX11_contract 11 RX11 (some .int))     (hH : HS D B Y w s H locs) (hl : lv_has ls 11 [(0, .ref (B + 713)), (1, .int v1), (2, .int v2), (3, .int v3), (4, .int v4), (5, .int v5), (6, .int v6)]) (hf : f_X11_contract_25 v1 v2 v3 v4 v5 v6 w = some z) : W p l e (RM 2 0 0) s m args below meth c H locs 0 0 (MQ below (QG D B Y (some (.int z.1)) z.2 True) args s 0 0 (AB B)) (F0 m 25 ls []) := by
  have hx := C.1
  have hb := C.2.1
  unfold f_X11_contract_25 at hf
  refine lv_iconst (v := (0 : Int32)) hx hb dX11_contract_25 (by decide) ?_
  exact t_X11_contract_26 C isZ_0 hH (lv_sub hl [0, 1, 2, 3, 4, 5, 6] rfl) hf
set_option maxRecDepth 100000 in
set_option maxHeartbeats 4000000 in
theorem t_X11_contract_0 {D : va_G} {B : Nat} {Y : Nat → ClassId} {p : Program} {l : Launch} {e : Env} {s : State} {m : MethodId} {args : Array Value} {below : List Frame} {meth : Method} {c : Code} {z : (Int32 × Wd)} {H : Heap} {locs : List Loc} {ls : Array Slot} {w : Wd} {v1 : Int32} {v2 : Int32} {v3 : Int32} {v4 : Int32} {v5 : Int32} {v6 : Int32} (C : CX D B Y p s m args meth c cX11_contract 11 RX11 (some .int))     (hH : HS D B Y w s H locs) (hl : lv_has ls 11 [(0, .ref (B + 713)), (1, .int v1), (2, .int v2), (3, .int v3), (4, .int v4), (5, .int v5), (6, .int v6)]) (hf : f_X11_contract v1 v2 v3 v4 v5 v6 w = some z) : W p l e (RM 2 0 0) s m args below meth c H locs 0 0 (MQ below (QG D B Y (some (.int z.1)) z.2 True) args s 0 0 (AB B)) (F0 m 0 ls []) := by
  have hx := C.1
  have hb := C.2.1
  unfold f_X11_contract at hf
  refine lv_iload_n hx hb dX11_contract_0 rfl (lv_at hl 1 rfl) ?_
  obtain ⟨x2, w1, hc, hf⟩ := bd_some hf
  refine q_callS1 (v := .int x2) (As := [.int v1]) C hH gk_X11_131 yd_X11_isLanguage (by omega) (by omega) (c_X11_isLanguage hc) hl.1 rfl (Nat.le_of_ble_eq_true rfl) dX11_contract_1 ⟨by decide, by decide⟩ (fun H locs hH z_x2 => ?_)
  refine b_if_eq (tgt := 25) hx hb hf dX11_contract_4 (by decide) (fun hf => ?_) (fun hf => ?_)
  · exact t_X11_contract_25 C hH (lv_sub hl [0, 1, 2, 3, 4, 5, 6] rfl) hf
  · refine lv_iload_n hx hb dX11_contract_7 rfl (lv_at hl 2 rfl) ?_
    obtain ⟨x4, w3, hc, hf⟩ := bd_some hf
    refine q_callS1 (v := .int x4) (As := [.int v2]) C hH gk_X11_124 yd_X11_isLetter (by omega) (by omega) (c_X11_isLetter hc) hl.1 rfl (Nat.le_of_ble_eq_true rfl) dX11_contract_8 ⟨by decide, by decide⟩ (fun H locs hH z_x4 => ?_)
    refine b_if_eq (tgt := 25) hx hb hf dX11_contract_11 (by decide) (fun hf => ?_) (fun hf => ?_)
    · exact t_X11_contract_25 C hH (lv_sub hl [0, 1, 2, 3, 4, 5, 6] rfl) hf
    · refine lv_iload_n hx hb dX11_contract_14 rfl (lv_at hl 3 rfl) ?_
      obtain ⟨x6, w5, hc, hf⟩ := bd_some hf
      refine q_callS1 (v := .int x6) (As := [.int v3]) C hH gk_X11_124 yd_X11_isLetter (by omega) (by omega) (c_X11_isLetter hc) hl.1 rfl (Nat.le_of_ble_eq_true rfl) dX11_contract_15 ⟨by decide, by decide⟩ (fun H locs hH z_x6 => ?_)
      refine b_if_eq (tgt := 25) hx hb hf dX11_contract_18 (by decide) (fun hf => ?_) (fun hf => ?_)
      · exact t_X11_contract_25 C hH (lv_sub hl [0, 1, 2, 3, 4, 5, 6] rfl) hf
      · refine lv_iconst (v := (1 : Int32)) hx hb dX11_contract_21 (by decide) ?_
        refine lv_goto (tgt := 26) hx hb dX11_contract_22 (by decide) ?_
        exact t_X11_contract_26 C isZ_1 hH (lv_sub hl [0, 1, 2, 3, 4, 5, 6] rfl) hf
set_option maxRecDepth 100000 in
theorem c_X11_contract {l : Launch} {D : va_G} {B : Nat} {Y : Nat → ClassId} {v1 : Int32} {v2 : Int32} {v3 : Int32} {v4 : Int32} {v5 : Int32} {v6 : Int32} {w : Wd} {r : Int32} {w1 : Wd}   (hf : f_X11_contract v1 v2 v3 v4 v5 v6 w = some (r, w1)) : CM l D B Y yX11_contract cX11_contract 11 (some .int) 2 [.ref (B + 713), .int v1, .int v2, .int v3, .int v4, .int v5, .int v6] w (some (.int r)) w1 True :=
  CM_of (by decide +kernel) (Nat.le_of_ble_eq_true rfl) (fun p e s m args below meth c ls C hH hl => t_X11_contract_0 C  hH (lv_sub hl [0, 1, 2, 3, 4, 5, 6] rfl) hf)
/-! LetterTablesModel.plural -/
set_option maxRecDepth 100000 in
set_option maxHeartbeats 4000000 in
theorem t_X11_plural_153 {D : va_G} {B : Nat} {Y : Nat → ClassId} {p : Program} {l : Launch} {e : Env} {s : State} {m : MethodId} {args : Array Value} {below : List Frame} {meth : Method} {c : Code} {z : (Int32 × Wd)} {H : Heap} {locs : List Loc} {ls : Array Slot} {w : Wd} {v1 : Int32} {v2 : Int32} {v3 : Int32} {v4 : Int32} {v5 : Int32} {v6 : Int32} {v7 : Int32} {v8 : Int32} {t1 : Int32} (C : CX D B Y p s m args meth c cX11_plural 11 RX11 (some .int))     (hH : HS D B Y w s H locs) (hl : lv_has ls 11 [(0, .ref (B + 713)), (1, .int v1), (2, .int v2), (3, .int v3), (4, .int v4), (5, .int v5), (6, .int v6), (7, .int v7), (8, .int v8)]) (hf : f_X11_plural_153 v1 v2 v3 v4 v5 v6 v7 v8 t1 w = some z) : W p l e (RM 2 0 0) s m args below meth c H locs 0 0 (MQ below (QG D B Y (some (.int z.1)) z.2 True) args s 0 0 (AB B)) (F0 m 153 ls [.int t1, .ref (B + 713)]) := by
  have hx := C.1
  have hb := C.2.1
  unfold f_X11_plural_153 at hf
  obtain ⟨x2, w1, hc, hf⟩ := bd_some hf
  refine q_callV1 (v := .int x2) (As := [.int t1]) C hH (ci := 11) rfl (by omega) gk_X11_118 yd_X11_holds (by omega) (by omega) kc_713 (c_X11_holds hc) hl.1 rfl (Nat.le_of_ble_eq_true rfl) dX11_plural_153 ⟨by decide, by decide⟩ (fun H locs hH z_x2 => ?_)
  refine b_if_ne (tgt := 161) hx hb hf dX11_plural_156 (by decide) (fun hf => ?_) (fun hf => ?_)
  · refine lv_sipush (v := (1680 : Int32)) hx hb dX11_plural_161 (by decide) ?_
    refine lv_bipush (v := (7 : Int32)) hx hb dX11_plural_164 (by decide) ?_
    refine lv_iconst (v := (4 : Int32)) hx hb dX11_plural_166 (by decide) ?_
    refine lv_iload_n hx hb dX11_plural_167 rfl (lv_at hl 1 rfl) ?_
    refine lv_imul hx hb dX11_plural_168 ?_
    refine lv_aload_n hx hb dX11_plural_169 rfl (lv_at hl 0 rfl) ?_
    refine fg_X11_7 C hH dX11_plural_170 ?_
    refine lv_sipush (v := (1678 : Int32)) hx hb dX11_plural_173 (by decide) ?_
    refine lv_iload_n hx hb dX11_plural_176 rfl (lv_at hl 1 rfl) ?_
    refine lv_iadd hx hb dX11_plural_177 ?_
    refine g_iald C hH kc_714 hf dX11_plural_178 (fun x3 hf => ?_)
    refine lv_iadd hx hb dX11_plural_179 ?_
    refine lv_imul hx hb dX11_plural_180 ?_
    refine lv_iadd hx hb dX11_plural_181 ?_
    refine b_leti hf (fun x4 hf => ?_)
    refine lv_istore (lv' := [(10, .int x4), (0, .ref (B + 713)), (1, .int v1), (2, .int v2), (3, .int v3), (4, .int v4), (5, .int v5), (6, .int v6), (7, .int v7), (8, .int v8)]) hx hb dX11_plural_182 hl (by decide) rfl (fun ls hl => ?_)
    refine lv_aload_n hx hb dX11_plural_184 rfl (lv_at hl 1 rfl) ?_
    refine fg_X11_7 C hH dX11_plural_185 ?_
    refine lv_iload hx hb dX11_plural_188 (lv_at hl 0 rfl) ?_
    refine lv_iload_n hx hb dX11_plural_190 rfl (lv_at hl 3 rfl) ?_
    refine g_iast C hH kc_714 hf dX11_plural_191 (fun w5 H locs hf hH => ?_)
    refine lv_aload_n hx hb dX11_plural_192 rfl (lv_at hl 1 rfl) ?_
    refine fg_X11_7 C hH dX11_plural_193 ?_
    refine lv_iload hx hb dX11_plural_196 (lv_at hl 0 rfl) ?_
    refine lv_iconst (v := (1 : Int32)) hx hb dX11_plural_198 (by decide) ?_
    refine lv_iadd hx hb dX11_plural_199 ?_
    refine lv_iload_n hx hb dX11_plural_200 rfl (lv_at hl 4 rfl) ?_
    refine g_iast C hH kc_714 hf dX11_plural_201 (fun w6 H locs hf hH => ?_)
    refine lv_aload_n hx hb dX11_plural_202 rfl (lv_at hl 1 rfl) ?_
    refine fg_X11_7 C hH dX11_plural_203 ?_
    refine lv_iload hx hb dX11_plural_206 (lv_at hl 0 rfl) ?_
    refine lv_iconst (v := (2 : Int32)) hx hb dX11_plural_208 (by decide) ?_
    refine lv_iadd hx hb dX11_plural_209 ?_
    refine lv_iload hx hb dX11_plural_210 (lv_at hl 5 rfl) ?_
    refine g_iast C hH kc_714 hf dX11_plural_212 (fun w7 H locs hf hH => ?_)
    refine lv_aload_n hx hb dX11_plural_213 rfl (lv_at hl 1 rfl) ?_
    refine fg_X11_7 C hH dX11_plural_214 ?_
    refine lv_iload hx hb dX11_plural_217 (lv_at hl 0 rfl) ?_
    refine lv_iconst (v := (3 : Int32)) hx hb dX11_plural_219 (by decide) ?_
    refine lv_iadd hx hb dX11_plural_220 ?_
    refine lv_iload hx hb dX11_plural_221 (lv_at hl 6 rfl) ?_
    refine g_iast C hH kc_714 hf dX11_plural_223 (fun w8 H locs hf hH => ?_)
    refine lv_aload_n hx hb dX11_plural_224 rfl (lv_at hl 1 rfl) ?_
    refine fg_X11_7 C hH dX11_plural_225 ?_
    refine lv_iload hx hb dX11_plural_228 (lv_at hl 0 rfl) ?_
    refine lv_iconst (v := (4 : Int32)) hx hb dX11_plural_230 (by decide) ?_
    refine lv_iadd hx hb dX11_plural_231 ?_
    refine lv_iload hx hb dX11_plural_232 (lv_at hl 7 rfl) ?_
    refine g_iast C hH kc_714 hf dX11_plural_234 (fun w9 H locs hf hH => ?_)
    refine lv_aload_n hx hb dX11_plural_235 rfl (lv_at hl 1 rfl) ?_
    refine fg_X11_7 C hH dX11_plural_236 ?_
    refine lv_iload hx hb dX11_plural_239 (lv_at hl 0 rfl) ?_
    refine lv_iconst (v := (5 : Int32)) hx hb dX11_plural_241 (by decide) ?_
    refine lv_iadd hx hb dX11_plural_242 ?_
    refine lv_iload hx hb dX11_plural_243 (lv_at hl 8 rfl) ?_
    refine g_iast C hH kc_714 hf dX11_plural_245 (fun w10 H locs hf hH => ?_)
    refine lv_aload_n hx hb dX11_plural_246 rfl (lv_at hl 1 rfl) ?_
    refine fg_X11_7 C hH dX11_plural_247 ?_
    refine lv_iload hx hb dX11_plural_250 (lv_at hl 0 rfl) ?_
    refine lv_bipush (v := (6 : Int32)) hx hb dX11_plural_252 (by decide) ?_
    refine lv_iadd hx hb dX11_plural_254 ?_
    refine lv_iload hx hb dX11_plural_255 (lv_at hl 9 rfl) ?_
    refine g_iast C hH kc_714 hf dX11_plural_257 (fun w11 H locs hf hH => ?_)
    refine lv_aload_n hx hb dX11_plural_258 rfl (lv_at hl 1 rfl) ?_
    refine fg_X11_7 C hH dX11_plural_259 ?_
    refine lv_sipush (v := (1678 : Int32)) hx hb dX11_plural_262 (by decide) ?_
    refine lv_iload_n hx hb dX11_plural_265 rfl (lv_at hl 2 rfl) ?_
    refine lv_iadd hx hb dX11_plural_266 ?_
    refine lv_dup2_11 hx hb dX11_plural_267 rfl rfl ?_
    refine g_iald C hH kc_714 hf dX11_plural_268 (fun x12 hf => ?_)
    refine lv_iconst (v := (1 : Int32)) hx hb dX11_plural_269 (by decide) ?_
    refine lv_iadd hx hb dX11_plural_270 ?_
    refine g_iast C hH kc_714 hf dX11_plural_271 (fun w13 H locs hf hH => ?_)
    refine lv_aload_n hx hb dX11_plural_272 rfl (lv_at hl 1 rfl) ?_
    refine fg_X11_7 C hH dX11_plural_273 ?_
    refine lv_sipush (v := (1678 : Int32)) hx hb dX11_plural_276 (by decide) ?_
    refine lv_iload_n hx hb dX11_plural_279 rfl (lv_at hl 2 rfl) ?_
    refine lv_iadd hx hb dX11_plural_280 ?_
    refine g_iald C hH kc_714 hf dX11_plural_281 (fun x14 hf => ?_)
    cases hf
    exact q_reti C hH trivial dX11_plural_282
  · refine lv_iconst (v := (0 : Int32)) hx hb dX11_plural_159 (by decide) ?_
    cases hf
    exact q_reti C hH trivial dX11_plural_160
set_option maxRecDepth 100000 in
set_option maxHeartbeats 4000000 in
theorem t_X11_plural_111 {D : va_G} {B : Nat} {Y : Nat → ClassId} {p : Program} {l : Launch} {e : Env} {s : State} {m : MethodId} {args : Array Value} {below : List Frame} {meth : Method} {c : Code} {z : (Int32 × Wd)} {H : Heap} {locs : List Loc} {ls : Array Slot} {w : Wd} {v1 : Int32} {v2 : Int32} {v3 : Int32} {v4 : Int32} {v5 : Int32} {v6 : Int32} {v7 : Int32} {v8 : Int32} {t0 : Int32} (C : CX D B Y p s m args meth c cX11_plural 11 RX11 (some .int))    (z_t0 : isZ t0) (hH : HS D B Y w s H locs) (hl : lv_has ls 11 [(0, .ref (B + 713)), (1, .int v1), (2, .int v2), (3, .int v3), (4, .int v4), (5, .int v5), (6, .int v6), (7, .int v7), (8, .int v8)]) (hf : f_X11_plural_111 v1 v2 v3 v4 v5 v6 v7 v8 t0 w = some z) : W p l e (RM 2 0 0) s m args below meth c H locs 0 0 (MQ below (QG D B Y (some (.int z.1)) z.2 True) args s 0 0 (AB B)) (F0 m 111 ls [.int t0]) := by
  have hx := C.1
  have hb := C.2.1
  unfold f_X11_plural_111 at hf
  refine lv_istore (lv' := [(9, .int t0), (0, .ref (B + 713)), (1, .int v1), (2, .int v2), (3, .int v3), (4, .int v4), (5, .int v5), (6, .int v6), (7, .int v7), (8, .int v8)]) hx hb dX11_plural_111 hl (by decide) rfl (fun ls hl => ?_)
  refine lv_aload_n hx hb dX11_plural_113 rfl (lv_at hl 1 rfl) ?_
  refine lv_iload_n hx hb dX11_plural_114 rfl (lv_at hl 2 rfl) ?_
  obtain ⟨x2, w1, hc, hf⟩ := bd_some hf
  refine q_callS1 (v := .int x2) (As := [.int v1]) C hH gk_X11_131 yd_X11_isLanguage (by omega) (by omega) (c_X11_isLanguage hc) hl.1 rfl (Nat.le_of_ble_eq_true rfl) dX11_plural_115 ⟨by decide, by decide⟩ (fun H locs hH z_x2 => ?_)
  refine b_if_ne (tgt := 125) hx hb hf dX11_plural_118 (by decide) (fun hf => ?_) (fun hf => ?_)
  · refine lv_iload hx hb dX11_plural_125 (lv_at hl 0 rfl) ?_
    refine b_if_ne (tgt := 134) hx hb hf dX11_plural_127 (by decide) (fun hf => ?_) (fun hf => ?_)
    · refine lv_aload_n hx hb dX11_plural_134 rfl (lv_at hl 1 rfl) ?_
      refine fg_X11_7 C hH dX11_plural_135 ?_
      refine lv_sipush (v := (1678 : Int32)) hx hb dX11_plural_138 (by decide) ?_
      refine lv_iload_n hx hb dX11_plural_141 rfl (lv_at hl 2 rfl) ?_
      refine lv_iadd hx hb dX11_plural_142 ?_
      refine g_iald C hH kc_714 hf dX11_plural_143 (fun x3 hf => ?_)
      refine lv_iconst (v := (4 : Int32)) hx hb dX11_plural_144 (by decide) ?_
      refine b_icmp_ne (tgt := 152) hx hb hf dX11_plural_145 (by decide) (fun hf => ?_) (fun hf => ?_)
      · refine lv_iconst (v := (0 : Int32)) hx hb dX11_plural_152 (by decide) ?_
        exact t_X11_plural_153 C hH (lv_sub hl [1, 2, 3, 4, 5, 6, 7, 8, 9] rfl) hf
      · refine lv_iconst (v := (3 : Int32)) hx hb dX11_plural_148 (by decide) ?_
        refine lv_goto (tgt := 153) hx hb dX11_plural_149 (by decide) ?_
        exact t_X11_plural_153 C hH (lv_sub hl [1, 2, 3, 4, 5, 6, 7, 8, 9] rfl) hf
    · refine lv_iconst (v := (2 : Int32)) hx hb dX11_plural_130 (by decide) ?_
      refine lv_goto (tgt := 153) hx hb dX11_plural_131 (by decide) ?_
      exact t_X11_plural_153 C hH (lv_sub hl [1, 2, 3, 4, 5, 6, 7, 8, 9] rfl) hf
  · refine lv_iconst (v := (1 : Int32)) hx hb dX11_plural_121 (by decide) ?_
    refine lv_goto (tgt := 153) hx hb dX11_plural_122 (by decide) ?_
    exact t_X11_plural_153 C hH (lv_sub hl [1, 2, 3, 4, 5, 6, 7, 8, 9] rfl) hf
set_option maxRecDepth 100000 in
set_option maxHeartbeats 4000000 in
theorem t_X11_plural_110 {D : va_G} {B : Nat} {Y : Nat → ClassId} {p : Program} {l : Launch} {e : Env} {s : State} {m : MethodId} {args : Array Value} {below : List Frame} {meth : Method} {c : Code} {z : (Int32 × Wd)} {H : Heap} {locs : List Loc} {ls : Array Slot} {w : Wd} {v1 : Int32} {v2 : Int32} {v3 : Int32} {v4 : Int32} {v5 : Int32} {v6 : Int32} {v7 : Int32} {v8 : Int32} (C : CX D B Y p s m args meth c cX11_plural 11 RX11 (some .int))     (hH : HS D B Y w s H locs) (hl : lv_has ls 11 [(0, .ref (B + 713)), (1, .int v1), (2, .int v2), (3, .int v3), (4, .int v4), (5, .int v5), (6, .int v6), (7, .int v7), (8, .int v8)]) (hf : f_X11_plural_110 v1 v2 v3 v4 v5 v6 v7 v8 w = some z) : W p l e (RM 2 0 0) s m args below meth c H locs 0 0 (MQ below (QG D B Y (some (.int z.1)) z.2 True) args s 0 0 (AB B)) (F0 m 110 ls []) := by
  have hx := C.1
  have hb := C.2.1
  unfold f_X11_plural_110 at hf
  refine lv_iconst (v := (0 : Int32)) hx hb dX11_plural_110 (by decide) ?_
  exact t_X11_plural_111 C isZ_0 hH (lv_sub hl [0, 1, 2, 3, 4, 5, 6, 7, 8] rfl) hf
set_option maxRecDepth 100000 in
set_option maxHeartbeats 4000000 in
theorem t_X11_plural_58 {D : va_G} {B : Nat} {Y : Nat → ClassId} {p : Program} {l : Launch} {e : Env} {s : State} {m : MethodId} {args : Array Value} {below : List Frame} {meth : Method} {c : Code} {z : (Int32 × Wd)} {H : Heap} {locs : List Loc} {ls : Array Slot} {w : Wd} {v1 : Int32} {v2 : Int32} {v3 : Int32} {v4 : Int32} {v5 : Int32} {v6 : Int32} {v7 : Int32} {v8 : Int32} {t0 : Int32} (C : CX D B Y p s m args meth c cX11_plural 11 RX11 (some .int))    (z_t0 : isZ t0) (hH : HS D B Y w s H locs) (hl : lv_has ls 11 [(0, .ref (B + 713)), (1, .int v1), (2, .int v2), (3, .int v3), (4, .int v4), (5, .int v5), (6, .int v6), (7, .int v7), (8, .int v8)]) (hf : f_X11_plural_58 v1 v2 v3 v4 v5 v6 v7 v8 t0 w = some z) : W p l e (RM 2 0 0) s m args below meth c H locs 0 0 (MQ below (QG D B Y (some (.int z.1)) z.2 True) args s 0 0 (AB B)) (F0 m 58 ls [.int t0]) := by
  have hx := C.1
  have hb := C.2.1
  unfold f_X11_plural_58 at hf
  refine lv_istore (lv' := [(9, .int t0), (0, .ref (B + 713)), (1, .int v1), (2, .int v2), (3, .int v3), (4, .int v4), (5, .int v5), (6, .int v6), (7, .int v7), (8, .int v8)]) hx hb dX11_plural_58 hl (by decide) rfl (fun ls hl => ?_)
  refine lv_iload hx hb dX11_plural_60 (lv_at hl 0 rfl) ?_
  refine b_if_eq (tgt := 110) hx hb hf dX11_plural_62 (by decide) (fun hf => ?_) (fun hf => ?_)
  · exact t_X11_plural_110 C hH (lv_sub hl [1, 2, 3, 4, 5, 6, 7, 8, 9] rfl) hf
  · refine lv_iload hx hb dX11_plural_65 (lv_at hl 7 rfl) ?_
    refine b_if_ne (tgt := 83) hx hb hf dX11_plural_67 (by decide) (fun hf => ?_) (fun hf => ?_)
    · refine lv_iload hx hb dX11_plural_83 (lv_at hl 8 rfl) ?_
      refine lv_iconst (v := (0 : Int32)) hx hb dX11_plural_85 (by decide) ?_
      refine lv_bipush (v := (99 : Int32)) hx hb dX11_plural_86 (by decide) ?_
      obtain ⟨x2, w1, hc, hf⟩ := bd_some hf
      refine q_callS1 (v := .int x2) (As := [.int v7, .int (0 : Int32), .int (99 : Int32)]) C hH gk_X11_111 yd_X11_in (by omega) (by omega) (c_X11_in hc) hl.1 rfl (Nat.le_of_ble_eq_true rfl) dX11_plural_88 ⟨by decide, by decide⟩ (fun H locs hH z_x2 => ?_)
      refine b_if_eq (tgt := 110) hx hb hf dX11_plural_91 (by decide) (fun hf => ?_) (fun hf => ?_)
      · exact t_X11_plural_110 C hH (lv_sub hl [1, 2, 3, 4, 5, 6, 7, 8, 9] rfl) hf
      · refine lv_iload hx hb dX11_plural_94 (lv_at hl 9 rfl) ?_
        refine lv_iload hx hb dX11_plural_96 (lv_at hl 8 rfl) ?_
        refine lv_bipush (v := (99 : Int32)) hx hb dX11_plural_98 (by decide) ?_
        obtain ⟨x4, w3, hc, hf⟩ := bd_some hf
        refine q_callS1 (v := .int x4) (As := [.int v8, .int v7, .int (99 : Int32)]) C hH gk_X11_111 yd_X11_in (by omega) (by omega) (c_X11_in hc) hl.1 rfl (Nat.le_of_ble_eq_true rfl) dX11_plural_100 ⟨by decide, by decide⟩ (fun H locs hH z_x4 => ?_)
        refine b_if_eq (tgt := 110) hx hb hf dX11_plural_103 (by decide) (fun hf => ?_) (fun hf => ?_)
        · exact t_X11_plural_110 C hH (lv_sub hl [1, 2, 3, 4, 5, 6, 7, 8, 9] rfl) hf
        · refine lv_iconst (v := (1 : Int32)) hx hb dX11_plural_106 (by decide) ?_
          refine lv_goto (tgt := 111) hx hb dX11_plural_107 (by decide) ?_
          exact t_X11_plural_111 C isZ_1 hH (lv_sub hl [1, 2, 3, 4, 5, 6, 7, 8, 9] rfl) hf
    · refine lv_iload hx hb dX11_plural_70 (lv_at hl 8 rfl) ?_
      refine b_if_ne (tgt := 110) hx hb hf dX11_plural_72 (by decide) (fun hf => ?_) (fun hf => ?_)
      · exact t_X11_plural_110 C hH (lv_sub hl [1, 2, 3, 4, 5, 6, 7, 8, 9] rfl) hf
      · refine lv_iload hx hb dX11_plural_75 (lv_at hl 9 rfl) ?_
        refine b_if_ne (tgt := 110) hx hb hf dX11_plural_77 (by decide) (fun hf => ?_) (fun hf => ?_)
        · exact t_X11_plural_110 C hH (lv_sub hl [1, 2, 3, 4, 5, 6, 7, 8, 9] rfl) hf
        · refine lv_goto (tgt := 106) hx hb dX11_plural_80 (by decide) ?_
          refine lv_iconst (v := (1 : Int32)) hx hb dX11_plural_106 (by decide) ?_
          refine lv_goto (tgt := 111) hx hb dX11_plural_107 (by decide) ?_
          exact t_X11_plural_111 C isZ_1 hH (lv_sub hl [1, 2, 3, 4, 5, 6, 7, 8, 9] rfl) hf
set_option maxRecDepth 100000 in
set_option maxHeartbeats 4000000 in
theorem t_X11_plural_57 {D : va_G} {B : Nat} {Y : Nat → ClassId} {p : Program} {l : Launch} {e : Env} {s : State} {m : MethodId} {args : Array Value} {below : List Frame} {meth : Method} {c : Code} {z : (Int32 × Wd)} {H : Heap} {locs : List Loc} {ls : Array Slot} {w : Wd} {v1 : Int32} {v2 : Int32} {v3 : Int32} {v4 : Int32} {v5 : Int32} {v6 : Int32} {v7 : Int32} {v8 : Int32} (C : CX D B Y p s m args meth c cX11_plural 11 RX11 (some .int))     (hH : HS D B Y w s H locs) (hl : lv_has ls 11 [(0, .ref (B + 713)), (1, .int v1), (2, .int v2), (3, .int v3), (4, .int v4), (5, .int v5), (6, .int v6), (7, .int v7), (8, .int v8)]) (hf : f_X11_plural_57 v1 v2 v3 v4 v5 v6 v7 v8 w = some z) : W p l e (RM 2 0 0) s m args below meth c H locs 0 0 (MQ below (QG D B Y (some (.int z.1)) z.2 True) args s 0 0 (AB B)) (F0 m 57 ls []) := by
  have hx := C.1
  have hb := C.2.1
  unfold f_X11_plural_57 at hf
  refine lv_iconst (v := (0 : Int32)) hx hb dX11_plural_57 (by decide) ?_
  exact t_X11_plural_58 C isZ_0 hH (lv_sub hl [0, 1, 2, 3, 4, 5, 6, 7, 8] rfl) hf
set_option maxRecDepth 100000 in
set_option maxHeartbeats 4000000 in
theorem t_X11_plural_0 {D : va_G} {B : Nat} {Y : Nat → ClassId} {p : Program} {l : Launch} {e : Env} {s : State} {m : MethodId} {args : Array Value} {below : List Frame} {meth : Method} {c : Code} {z : (Int32 × Wd)} {H : Heap} {locs : List Loc} {ls : Array Slot} {w : Wd} {v1 : Int32} {v2 : Int32} {v3 : Int32} {v4 : Int32} {v5 : Int32} {v6 : Int32} {v7 : Int32} {v8 : Int32} (C : CX D B Y p s m args meth c cX11_plural 11 RX11 (some .int))     (hH : HS D B Y w s H locs) (hl : lv_has ls 11 [(0, .ref (B + 713)), (1, .int v1), (2, .int v2), (3, .int v3), (4, .int v4), (5, .int v5), (6, .int v6), (7, .int v7), (8, .int v8)]) (hf : f_X11_plural v1 v2 v3 v4 v5 v6 v7 v8 w = some z) : W p l e (RM 2 0 0) s m args below meth c H locs 0 0 (MQ below (QG D B Y (some (.int z.1)) z.2 True) args s 0 0 (AB B)) (F0 m 0 ls []) := by
  have hx := C.1
  have hb := C.2.1
  unfold f_X11_plural at hf
  refine lv_iload_n hx hb dX11_plural_0 rfl (lv_at hl 2 rfl) ?_
  refine lv_iconst (v := (0 : Int32)) hx hb dX11_plural_1 (by decide) ?_
  refine lv_iconst (v := (2 : Int32)) hx hb dX11_plural_2 (by decide) ?_
  obtain ⟨x2, w1, hc, hf⟩ := bd_some hf
  refine q_callS1 (v := .int x2) (As := [.int v2, .int (0 : Int32), .int (2 : Int32)]) C hH gk_X11_111 yd_X11_in (by omega) (by omega) (c_X11_in hc) hl.1 rfl (Nat.le_of_ble_eq_true rfl) dX11_plural_3 ⟨by decide, by decide⟩ (fun H locs hH z_x2 => ?_)
  refine b_if_eq (tgt := 57) hx hb hf dX11_plural_6 (by decide) (fun hf => ?_) (fun hf => ?_)
  · exact t_X11_plural_57 C hH (lv_sub hl [0, 1, 2, 3, 4, 5, 6, 7, 8] rfl) hf
  · refine lv_iload_n hx hb dX11_plural_9 rfl (lv_at hl 3 rfl) ?_
    refine lv_iconst (v := (1 : Int32)) hx hb dX11_plural_10 (by decide) ?_
    refine lv_bipush (v := (100 : Int32)) hx hb dX11_plural_11 (by decide) ?_
    obtain ⟨x4, w3, hc, hf⟩ := bd_some hf
    refine q_callS1 (v := .int x4) (As := [.int v3, .int (1 : Int32), .int (100 : Int32)]) C hH gk_X11_111 yd_X11_in (by omega) (by omega) (c_X11_in hc) hl.1 rfl (Nat.le_of_ble_eq_true rfl) dX11_plural_13 ⟨by decide, by decide⟩ (fun H locs hH z_x4 => ?_)
    refine b_if_eq (tgt := 57) hx hb hf dX11_plural_16 (by decide) (fun hf => ?_) (fun hf => ?_)
    · exact t_X11_plural_57 C hH (lv_sub hl [0, 1, 2, 3, 4, 5, 6, 7, 8] rfl) hf
    · refine lv_iload hx hb dX11_plural_19 (lv_at hl 4 rfl) ?_
      refine lv_iconst (v := (0 : Int32)) hx hb dX11_plural_21 (by decide) ?_
      refine lv_bipush (v := (99 : Int32)) hx hb dX11_plural_22 (by decide) ?_
      obtain ⟨x6, w5, hc, hf⟩ := bd_some hf
      refine q_callS1 (v := .int x6) (As := [.int v4, .int (0 : Int32), .int (99 : Int32)]) C hH gk_X11_111 yd_X11_in (by omega) (by omega) (c_X11_in hc) hl.1 rfl (Nat.le_of_ble_eq_true rfl) dX11_plural_24 ⟨by decide, by decide⟩ (fun H locs hH z_x6 => ?_)
      refine b_if_eq (tgt := 57) hx hb hf dX11_plural_27 (by decide) (fun hf => ?_) (fun hf => ?_)
      · exact t_X11_plural_57 C hH (lv_sub hl [0, 1, 2, 3, 4, 5, 6, 7, 8] rfl) hf
      · refine lv_iload hx hb dX11_plural_30 (lv_at hl 5 rfl) ?_
        refine lv_iload hx hb dX11_plural_32 (lv_at hl 4 rfl) ?_
        refine lv_bipush (v := (99 : Int32)) hx hb dX11_plural_34 (by decide) ?_
        obtain ⟨x8, w7, hc, hf⟩ := bd_some hf
        refine q_callS1 (v := .int x8) (As := [.int v5, .int v4, .int (99 : Int32)]) C hH gk_X11_111 yd_X11_in (by omega) (by omega) (c_X11_in hc) hl.1 rfl (Nat.le_of_ble_eq_true rfl) dX11_plural_36 ⟨by decide, by decide⟩ (fun H locs hH z_x8 => ?_)
        refine b_if_eq (tgt := 57) hx hb hf dX11_plural_39 (by decide) (fun hf => ?_) (fun hf => ?_)
        · exact t_X11_plural_57 C hH (lv_sub hl [0, 1, 2, 3, 4, 5, 6, 7, 8] rfl) hf
        · refine lv_iload hx hb dX11_plural_42 (lv_at hl 6 rfl) ?_
          refine lv_iconst (v := (0 : Int32)) hx hb dX11_plural_44 (by decide) ?_
          refine lv_bipush (v := (100 : Int32)) hx hb dX11_plural_45 (by decide) ?_
          obtain ⟨x10, w9, hc, hf⟩ := bd_some hf
          refine q_callS1 (v := .int x10) (As := [.int v6, .int (0 : Int32), .int (100 : Int32)]) C hH gk_X11_111 yd_X11_in (by omega) (by omega) (c_X11_in hc) hl.1 rfl (Nat.le_of_ble_eq_true rfl) dX11_plural_47 ⟨by decide, by decide⟩ (fun H locs hH z_x10 => ?_)
          refine b_if_eq (tgt := 57) hx hb hf dX11_plural_50 (by decide) (fun hf => ?_) (fun hf => ?_)
          · exact t_X11_plural_57 C hH (lv_sub hl [0, 1, 2, 3, 4, 5, 6, 7, 8] rfl) hf
          · refine lv_iconst (v := (1 : Int32)) hx hb dX11_plural_53 (by decide) ?_
            refine lv_goto (tgt := 58) hx hb dX11_plural_54 (by decide) ?_
            exact t_X11_plural_58 C isZ_1 hH (lv_sub hl [0, 1, 2, 3, 4, 5, 6, 7, 8] rfl) hf
set_option maxRecDepth 100000 in
theorem c_X11_plural {l : Launch} {D : va_G} {B : Nat} {Y : Nat → ClassId} {v1 : Int32} {v2 : Int32} {v3 : Int32} {v4 : Int32} {v5 : Int32} {v6 : Int32} {v7 : Int32} {v8 : Int32} {w : Wd} {r : Int32} {w1 : Wd}   (hf : f_X11_plural v1 v2 v3 v4 v5 v6 v7 v8 w = some (r, w1)) : CM l D B Y yX11_plural cX11_plural 11 (some .int) 2 [.ref (B + 713), .int v1, .int v2, .int v3, .int v4, .int v5, .int v6, .int v7, .int v8] w (some (.int r)) w1 True :=
  CM_of (by decide +kernel) (Nat.le_of_ble_eq_true rfl) (fun p e s m args below meth c ls C hH hl => t_X11_plural_0 C  hH (lv_sub hl [0, 1, 2, 3, 4, 5, 6, 7, 8] rfl) hf)
/-! LetterTablesModel.addWord -/
set_option maxRecDepth 100000 in
set_option maxHeartbeats 4000000 in
theorem tb_X11_addWord_86 {D : va_G} {B : Nat} {Y : Nat → ClassId} {p : Program} {l : Launch} {e : Env} {s : State} {m : MethodId} {args : Array Value} {below : List Frame} {meth : Method} {c : Code} {z : (Int32 × Wd)} {H : Heap} {locs : List Loc} {ls : Array Slot} {w : Wd} {v1 : Int32} {v3 : Int32} {v4 : Int32} (C : CX D B Y p s m args meth c cX11_addWord 5 RX11 (some .int))  {rc_86 : Int32 × Int32 × Int32 × Wd → Option (Int32 × Wd)} (hr_86 : ∀ (v1 : Int32) (v3 : Int32) (v4 : Int32) (w : Wd), rc_86 (v1, v3, v4, w) = some z → ∀ (H : Heap) (locs : List Loc) (ls : Array Slot), HS D B Y w s H locs → lv_has ls 5 [(0, .ref (B + 713)), (1, .int v1), (3, .int v3), (4, .int v4)] → W p l e (RM 2 0 0) s m args below meth c H locs 0 0 (MQ below (QG D B Y (some (.int z.1)) z.2 True) args s 0 0 (AB B)) (F0 m 86 ls []))    (hH : HS D B Y w s H locs) (hl : lv_has ls 5 [(0, .ref (B + 713)), (1, .int v1), (3, .int v3), (4, .int v4)]) (hf : g_X11_addWord_86 rc_86 v1 v3 v4 w = some z) : W p l e (RM 2 0 0) s m args below meth c H locs 0 0 (MQ below (QG D B Y (some (.int z.1)) z.2 True) args s 0 0 (AB B)) (F0 m 86 ls []) := by
  have hx := C.1
  have hb := C.2.1
  unfold g_X11_addWord_86 at hf
  refine lv_iload hx hb dX11_addWord_86 (lv_at hl 3 rfl) ?_
  refine lv_aload_n hx hb dX11_addWord_88 rfl (lv_at hl 0 rfl) ?_
  refine fg_X11_19 C hH dX11_addWord_89 ?_
  refine lv_iload_n hx hb dX11_addWord_92 rfl (lv_at hl 1 rfl) ?_
  refine g_iald C hH kc_717 hf dX11_addWord_93 (fun x1 hf => ?_)
  refine b_icmp_ge (tgt := 121) hx hb hf dX11_addWord_94 (by decide) (fun hf => ?_) (fun hf => ?_)
  · refine lv_aload_n hx hb dX11_addWord_121 rfl (lv_at hl 0 rfl) ?_
    refine fg_X11_7 C hH dX11_addWord_122 ?_
    refine lv_sipush (v := (1502 : Int32)) hx hb dX11_addWord_125 (by decide) ?_
    refine lv_dup2_11 hx hb dX11_addWord_128 rfl rfl ?_
    refine g_iald C hH kc_714 hf dX11_addWord_129 (fun x2 hf => ?_)
    refine lv_iconst (v := (1 : Int32)) hx hb dX11_addWord_130 (by decide) ?_
    refine lv_iadd hx hb dX11_addWord_131 ?_
    refine g_iast C hH kc_714 hf dX11_addWord_132 (fun w3 H locs hf hH => ?_)
    refine lv_aload_n hx hb dX11_addWord_133 rfl (lv_at hl 0 rfl) ?_
    refine fg_X11_7 C hH dX11_addWord_134 ?_
    refine lv_sipush (v := (1502 : Int32)) hx hb dX11_addWord_137 (by decide) ?_
    refine g_iald C hH kc_714 hf dX11_addWord_140 (fun x4 hf => ?_)
    cases hf
    exact q_reti C hH trivial dX11_addWord_141
  · refine lv_aload_n hx hb dX11_addWord_97 rfl (lv_at hl 0 rfl) ?_
    refine fg_X11_7 C hH dX11_addWord_98 ?_
    refine lv_iload_n hx hb dX11_addWord_101 rfl (lv_at hl 2 rfl) ?_
    refine lv_iconst (v := (1 : Int32)) hx hb dX11_addWord_102 (by decide) ?_
    refine lv_iadd hx hb dX11_addWord_103 ?_
    refine lv_iload hx hb dX11_addWord_104 (lv_at hl 3 rfl) ?_
    refine lv_iadd hx hb dX11_addWord_106 ?_
    refine lv_aload_n hx hb dX11_addWord_107 rfl (lv_at hl 0 rfl) ?_
    refine lv_iload_n hx hb dX11_addWord_108 rfl (lv_at hl 1 rfl) ?_
    refine lv_iload hx hb dX11_addWord_109 (lv_at hl 3 rfl) ?_
    obtain ⟨x6, w5, hc, hf⟩ := bd_some hf
    refine q_callV1 (v := .int x6) (As := [.int v1, .int v4]) C hH (ci := 11) rfl (by omega) gk_X11_148 yd_X11_letterAt (by omega) (by omega) kc_713 (c_X11_letterAt hc) hl.1 rfl (Nat.le_of_ble_eq_true rfl) dX11_addWord_111 ⟨by decide, by decide⟩ (fun H locs hH hP => ?_)
    refine g_iast C hH kc_714 hf dX11_addWord_114 (fun w7 H locs hf hH => ?_)
    refine b_let hf (fun x8 he hf => ?_)
    refine lv_iinc (v := x8) (lv' := [(4, .int x8), (0, .ref (B + 713)), (1, .int v1), (3, .int v3)]) hx hb dX11_addWord_115 hl (k := 3) rfl (by rw [← he]; rfl) (by decide) rfl (fun ls hl => ?_)
    refine lv_goto (tgt := 86) hx hb dX11_addWord_118 (by decide) ?_
    exact hr_86 v1 v3 x8 w7 hf _ _ _ hH (lv_sub hl [1, 2, 3, 0] rfl)
set_option maxRecDepth 100000 in
set_option maxHeartbeats 4000000 in
theorem t_X11_addWord_86 {D : va_G} {B : Nat} {Y : Nat → ClassId} {p : Program} {l : Launch} {e : Env} {s : State} {m : MethodId} {args : Array Value} {below : List Frame} {meth : Method} {c : Code} {z : (Int32 × Wd)} {H : Heap} {locs : List Loc} {ls : Array Slot} {w : Wd} {v1 : Int32} {v3 : Int32} {v4 : Int32} (C : CX D B Y p s m args meth c cX11_addWord 5 RX11 (some .int))     (hH : HS D B Y w s H locs) (hl : lv_has ls 5 [(0, .ref (B + 713)), (1, .int v1), (3, .int v3), (4, .int v4)]) (hf : f_X11_addWord_86 v1 v3 v4 w = some z) : W p l e (RM 2 0 0) s m args below meth c H locs 0 0 (MQ below (QG D B Y (some (.int z.1)) z.2 True) args s 0 0 (AB B)) (F0 m 86 ls []) := by
  exact loopN_ind (z := z) (body := fun rc σ => g_X11_addWord_86 rc  σ.1 σ.2.1 σ.2.2.1 σ.2.2.2)
    (P := fun σ => ∀ (H : Heap) (locs : List Loc) (ls : Array Slot), HS D B Y σ.2.2.2 s H locs → lv_has ls 5 [(0, .ref (B + 713)), (1, .int σ.1), (3, .int σ.2.1), (4, .int σ.2.2.1)] → W p l e (RM 2 0 0) s m args below meth c H locs 0 0 (MQ below (QG D B Y (some (.int z.1)) z.2 True) args s 0 0 (AB B)) (F0 m 86 ls []))
    (fun rc hrec σ hf  H locs ls hH hl => tb_X11_addWord_86 C (fun v1 v3 v4 w hr  H locs ls hH hl => hrec (v1, v3, v4, w) hr  H locs ls hH hl)   hH hl hf) FU (v1, v3, v4, w) hf  H locs ls hH hl
set_option maxRecDepth 100000 in
set_option maxHeartbeats 4000000 in
theorem t_X11_addWord_47 {D : va_G} {B : Nat} {Y : Nat → ClassId} {p : Program} {l : Launch} {e : Env} {s : State} {m : MethodId} {args : Array Value} {below : List Frame} {meth : Method} {c : Code} {z : (Int32 × Wd)} {H : Heap} {locs : List Loc} {ls : Array Slot} {w : Wd} {v1 : Int32} {t1 : Int32} (C : CX D B Y p s m args meth c cX11_addWord 5 RX11 (some .int))     (hH : HS D B Y w s H locs) (hl : lv_has ls 5 [(0, .ref (B + 713)), (1, .int v1)]) (hf : f_X11_addWord_47 v1 t1 w = some z) : W p l e (RM 2 0 0) s m args below meth c H locs 0 0 (MQ below (QG D B Y (some (.int z.1)) z.2 True) args s 0 0 (AB B)) (F0 m 47 ls [.int t1, .ref (B + 713)]) := by
  have hx := C.1
  have hb := C.2.1
  unfold f_X11_addWord_47 at hf
  obtain ⟨x2, w1, hc, hf⟩ := bd_some hf
  refine q_callV1 (v := .int x2) (As := [.int t1]) C hH (ci := 11) rfl (by omega) gk_X11_118 yd_X11_holds (by omega) (by omega) kc_713 (c_X11_holds hc) hl.1 rfl (Nat.le_of_ble_eq_true rfl) dX11_addWord_47 ⟨by decide, by decide⟩ (fun H locs hH z_x2 => ?_)
  refine b_if_ne (tgt := 55) hx hb hf dX11_addWord_50 (by decide) (fun hf => ?_) (fun hf => ?_)
  · refine lv_sipush (v := (1503 : Int32)) hx hb dX11_addWord_55 (by decide) ?_
    refine lv_bipush (v := (9 : Int32)) hx hb dX11_addWord_58 (by decide) ?_
    refine lv_aload_n hx hb dX11_addWord_60 rfl (lv_at hl 0 rfl) ?_
    refine fg_X11_7 C hH dX11_addWord_61 ?_
    refine lv_sipush (v := (1502 : Int32)) hx hb dX11_addWord_64 (by decide) ?_
    refine g_iald C hH kc_714 hf dX11_addWord_67 (fun x3 hf => ?_)
    refine lv_imul hx hb dX11_addWord_68 ?_
    refine lv_iadd hx hb dX11_addWord_69 ?_
    refine b_leti hf (fun x4 hf => ?_)
    refine lv_istore_n (lv' := [(3, .int x4), (0, .ref (B + 713)), (1, .int v1)]) hx hb dX11_addWord_70 rfl hl (by decide) rfl (fun ls hl => ?_)
    refine lv_aload_n hx hb dX11_addWord_71 rfl (lv_at hl 1 rfl) ?_
    refine fg_X11_7 C hH dX11_addWord_72 ?_
    refine lv_iload_n hx hb dX11_addWord_75 rfl (lv_at hl 0 rfl) ?_
    refine lv_aload_n hx hb dX11_addWord_76 rfl (lv_at hl 1 rfl) ?_
    refine fg_X11_19 C hH dX11_addWord_77 ?_
    refine lv_iload_n hx hb dX11_addWord_80 rfl (lv_at hl 2 rfl) ?_
    refine g_iald C hH kc_717 hf dX11_addWord_81 (fun x5 hf => ?_)
    refine g_iast C hH kc_714 hf dX11_addWord_82 (fun w6 H locs hf hH => ?_)
    refine lv_iconst (v := (0 : Int32)) hx hb dX11_addWord_83 (by decide) ?_
    refine lv_istore (lv' := [(4, .int (0 : Int32)), (3, .int x4), (0, .ref (B + 713)), (1, .int v1)]) hx hb dX11_addWord_84 hl (by decide) rfl (fun ls hl => ?_)
    exact t_X11_addWord_86 C hH (lv_sub hl [2, 3, 1, 0] rfl) hf
  · refine lv_iconst (v := (0 : Int32)) hx hb dX11_addWord_53 (by decide) ?_
    cases hf
    exact q_reti C hH trivial dX11_addWord_54
set_option maxRecDepth 100000 in
set_option maxHeartbeats 4000000 in
theorem t_X11_addWord_0 {D : va_G} {B : Nat} {Y : Nat → ClassId} {p : Program} {l : Launch} {e : Env} {s : State} {m : MethodId} {args : Array Value} {below : List Frame} {meth : Method} {c : Code} {z : (Int32 × Wd)} {H : Heap} {locs : List Loc} {ls : Array Slot} {w : Wd} {v1 : Int32} (C : CX D B Y p s m args meth c cX11_addWord 5 RX11 (some .int))     (hH : HS D B Y w s H locs) (hl : lv_has ls 5 [(0, .ref (B + 713)), (1, .int v1)]) (hf : f_X11_addWord v1 w = some z) : W p l e (RM 2 0 0) s m args below meth c H locs 0 0 (MQ below (QG D B Y (some (.int z.1)) z.2 True) args s 0 0 (AB B)) (F0 m 0 ls []) := by
  have hx := C.1
  have hb := C.2.1
  unfold f_X11_addWord at hf
  refine lv_iload_n hx hb dX11_addWord_0 rfl (lv_at hl 1 rfl) ?_
  obtain ⟨x2, w1, hc, hf⟩ := bd_some hf
  refine q_callS1 (v := .int x2) (As := [.int v1]) C hH gk_X11_145 yd_X11_isSlot (by omega) (by omega) (c_X11_isSlot hc) hl.1 rfl (Nat.le_of_ble_eq_true rfl) dX11_addWord_1 ⟨by decide, by decide⟩ (fun H locs hH z_x2 => ?_)
  refine lv_istore_n (lv' := [(2, .int x2), (0, .ref (B + 713)), (1, .int v1)]) hx hb dX11_addWord_4 rfl hl (by decide) rfl (fun ls hl => ?_)
  refine lv_aload_n hx hb dX11_addWord_5 rfl (lv_at hl 1 rfl) ?_
  refine lv_iload_n hx hb dX11_addWord_6 rfl (lv_at hl 0 rfl) ?_
  refine b_if_ne (tgt := 14) hx hb hf dX11_addWord_7 (by decide) (fun hf => ?_) (fun hf => ?_)
  · refine lv_aload_n hx hb dX11_addWord_14 rfl (lv_at hl 1 rfl) ?_
    refine fg_X11_19 C hH dX11_addWord_15 ?_
    refine lv_iload_n hx hb dX11_addWord_18 rfl (lv_at hl 2 rfl) ?_
    refine g_iald C hH kc_717 hf dX11_addWord_19 (fun x3 hf => ?_)
    refine lv_iconst (v := (1 : Int32)) hx hb dX11_addWord_20 (by decide) ?_
    refine lv_bipush (v := (8 : Int32)) hx hb dX11_addWord_21 (by decide) ?_
    obtain ⟨x5, w4, hc, hf⟩ := bd_some hf
    refine q_callS1 (v := .int x5) (As := [.int x3, .int (1 : Int32), .int (8 : Int32)]) C hH gk_X11_111 yd_X11_in (by omega) (by omega) (c_X11_in hc) hl.1 rfl (Nat.le_of_ble_eq_true rfl) dX11_addWord_23 ⟨by decide, by decide⟩ (fun H locs hH z_x5 => ?_)
    refine b_if_eq (tgt := 42) hx hb hf dX11_addWord_26 (by decide) (fun hf => ?_) (fun hf => ?_)
    · refine lv_iconst (v := (2 : Int32)) hx hb dX11_addWord_42 (by decide) ?_
      refine lv_goto (tgt := 47) hx hb dX11_addWord_43 (by decide) ?_
      exact t_X11_addWord_47 C hH (lv_sub hl [1, 2] rfl) hf
    · refine lv_aload_n hx hb dX11_addWord_29 rfl (lv_at hl 1 rfl) ?_
      refine fg_X11_7 C hH dX11_addWord_30 ?_
      refine lv_sipush (v := (1502 : Int32)) hx hb dX11_addWord_33 (by decide) ?_
      refine g_iald C hH kc_714 hf dX11_addWord_36 (fun x6 hf => ?_)
      refine lv_bipush (v := (6 : Int32)) hx hb dX11_addWord_37 (by decide) ?_
      refine b_icmp_ne (tgt := 46) hx hb hf dX11_addWord_39 (by decide) (fun hf => ?_) (fun hf => ?_)
      · refine lv_iconst (v := (0 : Int32)) hx hb dX11_addWord_46 (by decide) ?_
        exact t_X11_addWord_47 C hH (lv_sub hl [1, 2] rfl) hf
      · refine lv_iconst (v := (2 : Int32)) hx hb dX11_addWord_42 (by decide) ?_
        refine lv_goto (tgt := 47) hx hb dX11_addWord_43 (by decide) ?_
        exact t_X11_addWord_47 C hH (lv_sub hl [1, 2] rfl) hf
  · refine lv_iconst (v := (1 : Int32)) hx hb dX11_addWord_10 (by decide) ?_
    refine lv_goto (tgt := 47) hx hb dX11_addWord_11 (by decide) ?_
    exact t_X11_addWord_47 C hH (lv_sub hl [1, 2] rfl) hf
set_option maxRecDepth 100000 in
theorem c_X11_addWord {l : Launch} {D : va_G} {B : Nat} {Y : Nat → ClassId} {v1 : Int32} {w : Wd} {r : Int32} {w1 : Wd}   (hf : f_X11_addWord v1 w = some (r, w1)) : CM l D B Y yX11_addWord cX11_addWord 5 (some .int) 2 [.ref (B + 713), .int v1] w (some (.int r)) w1 True :=
  CM_of (by decide +kernel) (Nat.le_of_ble_eq_true rfl) (fun p e s m args below meth c ls C hH hl => t_X11_addWord_0 C  hH (lv_sub hl [0, 1] rfl) hf)
