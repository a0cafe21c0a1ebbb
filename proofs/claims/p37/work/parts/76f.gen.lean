/-! LetterTables$Pattern.read -/
set_option maxRecDepth 100000 in
set_option maxHeartbeats 4000000 in
theorem tb_X5_read_31 {D : va_G} {B : Nat} {Y : Nat → ClassId} {p : Program} {l : Launch} {e : Env} {s : State} {m : MethodId} {args : Array Value} {below : List Frame} {meth : Method} {c : Code} {z : (Int32 × Wd)} {H : Heap} {locs : List Loc} {ls : Array Slot} {w : Wd} {v0 : Nat} {v1 : Nat} {v2 : Int32} (C : CX D B Y p s m args meth c cX5_read 3 RX5 (some .boolean))  {rc_31 : Nat × Nat × Int32 × Wd → Option (Int32 × Wd)} (hr_31 : ∀ (v0 : Nat) (v1 : Nat) (v2 : Int32) (w : Wd), rc_31 (v0, v1, v2, w) = some z → KD v0 = 5 → KD v1 = 7 → ∀ (H : Heap) (locs : List Loc) (ls : Array Slot), HS D B Y w s H locs → lv_has ls 3 [(0, .ref (B + v0)), (1, .ref (B + v1)), (2, .int v2)] → W p l e (RM 5 0 0) s m args below meth c H locs 0 0 (MQ below (QG D B Y (some (.int z.1)) z.2 (isZ z.1)) args s 0 0 (AB B)) (F0 m 31 ls []))  (k_v0 : KD v0 = 5) (k_v1 : KD v1 = 7)  (hH : HS D B Y w s H locs) (hl : lv_has ls 3 [(0, .ref (B + v0)), (1, .ref (B + v1)), (2, .int v2)]) (hf : g_X5_read_31 rc_31 v0 v1 v2 w = some z) : W p l e (RM 5 0 0) s m args below meth c H locs 0 0 (MQ below (QG D B Y (some (.int z.1)) z.2 (isZ z.1)) args s 0 0 (AB B)) (F0 m 31 ls []) := by
  have hx := C.1
  have hb := C.2.1
  unfold g_X5_read_31 at hf
  refine lv_iload_n hx hb dX5_read_31 rfl (lv_at hl 2 rfl) ?_
  refine lv_sipush (v := (160 : Int32)) hx hb dX5_read_32 (by decide) ?_
  refine b_icmp_ge (tgt := 65) hx hb hf dX5_read_35 (by decide) (fun hf => ?_) (fun hf => ?_)
  · refine lv_iconst (v := (1 : Int32)) hx hb dX5_read_65 (by decide) ?_
    cases hf
    exact q_retz C hH isZ_1 isZ_1 dX5_read_66
  · refine lv_aload_n hx hb dX5_read_38 rfl (lv_at hl 0 rfl) ?_
    refine fg_X5_36 C hH k_v0 dX5_read_39 ?_
    refine lv_aload_n hx hb dX5_read_42 rfl (lv_at hl 1 rfl) ?_
    obtain ⟨x2, w1, hc, hf⟩ := bd_some hf
    refine q_callV1 (v := .int x2) (As := []) C hH (ci := 7) rfl (by omega) gk_X5_29 yd_X7_size (by omega) (by omega) k_v1 (c_X7_size k_v1 hc) hl.1 rfl (Nat.le_of_ble_eq_true rfl) dX5_read_43 xv_00 (fun H locs hH hP => ?_)
    refine b_icmp_ge (tgt := 65) hx hb hf dX5_read_46 (by decide) (fun hf => ?_) (fun hf => ?_)
    · refine lv_iconst (v := (1 : Int32)) hx hb dX5_read_65 (by decide) ?_
      cases hf
      exact q_retz C hH isZ_1 isZ_1 dX5_read_66
    · refine lv_aload_n hx hb dX5_read_49 rfl (lv_at hl 0 rfl) ?_
      refine lv_aload_n hx hb dX5_read_50 rfl (lv_at hl 1 rfl) ?_
      obtain ⟨x4, w3, hc, hf⟩ := bd_some hf
      refine q_callV1 (v := .int x4) (As := [.ref (B + v1)]) C hH (ci := 5) rfl (by omega) gk_X5_40 yd_X5_readPiece (by omega) (by omega) k_v0 (c_X5_readPiece k_v0 k_v1 hc) hl.1 rfl (Nat.le_of_ble_eq_true rfl) dX5_read_51 xv_00 (fun H locs hH z_x4 => ?_)
      refine b_if_ne (tgt := 59) hx hb hf dX5_read_54 (by decide) (fun hf => ?_) (fun hf => ?_)
      · refine b_let hf (fun x5 he hf => ?_)
        refine lv_iinc (v := x5) (lv' := [(2, .int x5), (0, .ref (B + v0)), (1, .ref (B + v1))]) hx hb dX5_read_59 hl (k := 2) rfl (by rw [← he]; rfl) (by decide) rfl (fun ls hl => ?_)
        refine lv_goto (tgt := 31) hx hb dX5_read_62 (by decide) ?_
        exact hr_31 v0 v1 x5 w3 hf k_v0 k_v1 _ _ _ hH (lv_sub hl [1, 2, 0] rfl)
      · refine lv_iconst (v := (0 : Int32)) hx hb dX5_read_57 (by decide) ?_
        cases hf
        exact q_retz C hH isZ_0 isZ_0 dX5_read_58
set_option maxRecDepth 100000 in
set_option maxHeartbeats 4000000 in
theorem t_X5_read_31 {D : va_G} {B : Nat} {Y : Nat → ClassId} {p : Program} {l : Launch} {e : Env} {s : State} {m : MethodId} {args : Array Value} {below : List Frame} {meth : Method} {c : Code} {z : (Int32 × Wd)} {H : Heap} {locs : List Loc} {ls : Array Slot} {w : Wd} {v0 : Nat} {v1 : Nat} {v2 : Int32} (C : CX D B Y p s m args meth c cX5_read 3 RX5 (some .boolean))   (k_v0 : KD v0 = 5) (k_v1 : KD v1 = 7)  (hH : HS D B Y w s H locs) (hl : lv_has ls 3 [(0, .ref (B + v0)), (1, .ref (B + v1)), (2, .int v2)]) (hf : f_X5_read_31 v0 v1 v2 w = some z) : W p l e (RM 5 0 0) s m args below meth c H locs 0 0 (MQ below (QG D B Y (some (.int z.1)) z.2 (isZ z.1)) args s 0 0 (AB B)) (F0 m 31 ls []) := by
  exact loopN_ind (z := z) (body := fun rc σ => g_X5_read_31 rc  σ.1 σ.2.1 σ.2.2.1 σ.2.2.2)
    (P := fun σ => KD σ.1 = 5 → KD σ.2.1 = 7 → ∀ (H : Heap) (locs : List Loc) (ls : Array Slot), HS D B Y σ.2.2.2 s H locs → lv_has ls 3 [(0, .ref (B + σ.1)), (1, .ref (B + σ.2.1)), (2, .int σ.2.2.1)] → W p l e (RM 5 0 0) s m args below meth c H locs 0 0 (MQ below (QG D B Y (some (.int z.1)) z.2 (isZ z.1)) args s 0 0 (AB B)) (F0 m 31 ls []))
    (fun rc hrec σ hf k_v0 k_v1 H locs ls hH hl => tb_X5_read_31 C (fun v0 v1 v2 w hr k_v0 k_v1 H locs ls hH hl => hrec (v0, v1, v2, w) hr k_v0 k_v1 H locs ls hH hl)  k_v0 k_v1 hH hl hf) FU (v0, v1, v2, w) hf k_v0 k_v1 H locs ls hH hl
set_option maxRecDepth 100000 in
set_option maxHeartbeats 4000000 in
theorem t_X5_read_0 {D : va_G} {B : Nat} {Y : Nat → ClassId} {p : Program} {l : Launch} {e : Env} {s : State} {m : MethodId} {args : Array Value} {below : List Frame} {meth : Method} {c : Code} {z : (Int32 × Wd)} {H : Heap} {locs : List Loc} {ls : Array Slot} {w : Wd} {v0 : Nat} {v1 : Nat} (C : CX D B Y p s m args meth c cX5_read 3 RX5 (some .boolean))   (k_v0 : KD v0 = 5) (k_v1 : KD v1 = 7)  (hH : HS D B Y w s H locs) (hl : lv_has ls 3 [(0, .ref (B + v0)), (1, .ref (B + v1))]) (hf : f_X5_read v0 v1 w = some z) : W p l e (RM 5 0 0) s m args below meth c H locs 0 0 (MQ below (QG D B Y (some (.int z.1)) z.2 (isZ z.1)) args s 0 0 (AB B)) (F0 m 0 ls []) := by
  have hx := C.1
  have hb := C.2.1
  unfold f_X5_read at hf
  refine lv_aload_n hx hb dX5_read_0 rfl (lv_at hl 0 rfl) ?_
  refine fg_X5_14 C hH k_v0 dX5_read_1 ?_
  refine lv_iconst (v := (0 : Int32)) hx hb dX5_read_4 (by decide) ?_
  obtain ⟨u, w1, hc, hf⟩ := bd_some hf
  refine q_callV0 (As := [.int (0 : Int32)]) C hH (ci := 7) rfl (by omega) gk_X5_33 yd_X7_cutTo (by omega) (by omega) (ko_5_0 k_v0) (c_X7_cutTo (ko_5_0 k_v0) hc) hl.1 rfl (Nat.le_of_ble_eq_true rfl) dX5_read_5 xv_00 (fun H locs hH hP => ?_)
  refine lv_aload_n hx hb dX5_read_8 rfl (lv_at hl 0 rfl) ?_
  refine fg_X5_20 C hH k_v0 dX5_read_9 ?_
  refine lv_iconst (v := (0 : Int32)) hx hb dX5_read_12 (by decide) ?_
  obtain ⟨u, w2, hc, hf⟩ := bd_some hf
  refine q_callV0 (As := [.int (0 : Int32)]) C hH (ci := 7) rfl (by omega) gk_X5_33 yd_X7_cutTo (by omega) (by omega) (ko_5_1 k_v0) (c_X7_cutTo (ko_5_1 k_v0) hc) hl.1 rfl (Nat.le_of_ble_eq_true rfl) dX5_read_13 xv_00 (fun H locs hH hP => ?_)
  refine lv_aload_n hx hb dX5_read_16 rfl (lv_at hl 0 rfl) ?_
  refine fg_X5_23 C hH k_v0 dX5_read_17 ?_
  refine lv_iconst (v := (0 : Int32)) hx hb dX5_read_20 (by decide) ?_
  obtain ⟨u, w3, hc, hf⟩ := bd_some hf
  refine q_callV0 (As := [.int (0 : Int32)]) C hH (ci := 7) rfl (by omega) gk_X5_33 yd_X7_cutTo (by omega) (by omega) (ko_5_2 k_v0) (c_X7_cutTo (ko_5_2 k_v0) hc) hl.1 rfl (Nat.le_of_ble_eq_true rfl) dX5_read_21 xv_00 (fun H locs hH hP => ?_)
  refine lv_aload_n hx hb dX5_read_24 rfl (lv_at hl 0 rfl) ?_
  refine lv_iconst (v := (0 : Int32)) hx hb dX5_read_25 (by decide) ?_
  refine fp_X5_36 C hH k_v0 dX5_read_26 (fun H locs hH => ?_)
  refine b_w hf hH (fun w4 hf hH => ?_)
  refine lv_iconst (v := (0 : Int32)) hx hb dX5_read_29 (by decide) ?_
  refine lv_istore_n (lv' := [(2, .int (0 : Int32)), (0, .ref (B + v0)), (1, .ref (B + v1))]) hx hb dX5_read_30 rfl hl (by decide) rfl (fun ls hl => ?_)
  exact t_X5_read_31 C k_v0 k_v1 hH (lv_sub hl [1, 2, 0] rfl) hf
set_option maxRecDepth 100000 in
theorem c_X5_read {l : Launch} {D : va_G} {B : Nat} {Y : Nat → ClassId} {v0 : Nat} {v1 : Nat} {w : Wd} {r : Int32} {w1 : Wd} (k_v0 : KD v0 = 5) (k_v1 : KD v1 = 7)  (hf : f_X5_read v0 v1 w = some (r, w1)) : CM l D B Y yX5_read cX5_read 3 (some .boolean) 5 [.ref (B + v0), .ref (B + v1)] w (some (.int r)) w1 (isZ r) :=
  CM_of (by decide +kernel) (Nat.le_of_ble_eq_true rfl) (fun p e s m args below meth c ls C hH hl => t_X5_read_0 C k_v0 k_v1 hH (lv_sub hl [0, 1] rfl) hf)
/-! LetterTables$Pattern.size -/
set_option maxRecDepth 100000 in
set_option maxHeartbeats 4000000 in
theorem t_X5_size_0 {D : va_G} {B : Nat} {Y : Nat → ClassId} {p : Program} {l : Launch} {e : Env} {s : State} {m : MethodId} {args : Array Value} {below : List Frame} {meth : Method} {c : Code} {z : (Int32 × Wd)} {H : Heap} {locs : List Loc} {ls : Array Slot} {w : Wd} {v0 : Nat} (C : CX D B Y p s m args meth c cX5_size 1 RX5 (some .int))   (k_v0 : KD v0 = 5)  (hH : HS D B Y w s H locs) (hl : lv_has ls 1 [(0, .ref (B + v0))]) (hf : f_X5_size v0 w = some z) : W p l e (RM 1 0 0) s m args below meth c H locs 0 0 (MQ below (QG D B Y (some (.int z.1)) z.2 True) args s 0 0 (AB B)) (F0 m 0 ls []) := by
  have hx := C.1
  have hb := C.2.1
  unfold f_X5_size at hf
  refine lv_aload_n hx hb dX5_size_0 rfl (lv_at hl 0 rfl) ?_
  refine fg_X5_20 C hH k_v0 dX5_size_1 ?_
  obtain ⟨x2, w1, hc, hf⟩ := bd_some hf
  refine q_callV1 (v := .int x2) (As := []) C hH (ci := 7) rfl (by omega) gk_X5_29 yd_X7_size (by omega) (by omega) (ko_5_1 k_v0) (c_X7_size (ko_5_1 k_v0) hc) hl.1 rfl (Nat.le_of_ble_eq_true rfl) dX5_size_4 xv_00 (fun H locs hH hP => ?_)
  cases hf
  exact q_reti C hH trivial dX5_size_7
set_option maxRecDepth 100000 in
theorem c_X5_size {l : Launch} {D : va_G} {B : Nat} {Y : Nat → ClassId} {v0 : Nat} {w : Wd} {r : Int32} {w1 : Wd} (k_v0 : KD v0 = 5)  (hf : f_X5_size v0 w = some (r, w1)) : CM l D B Y yX5_size cX5_size 1 (some .int) 1 [.ref (B + v0)] w (some (.int r)) w1 True :=
  CM_of (by decide +kernel) (Nat.le_of_ble_eq_true rfl) (fun p e s m args below meth c ls C hH hl => t_X5_size_0 C k_v0 hH (lv_sub hl [0] rfl) hf)
/-! LetterTables.pattern -/
set_option maxRecDepth 100000 in
set_option maxHeartbeats 4000000 in
theorem t_X10_pattern_0 {D : va_G} {B : Nat} {Y : Nat → ClassId} {p : Program} {l : Launch} {e : Env} {s : State} {m : MethodId} {args : Array Value} {below : List Frame} {meth : Method} {c : Code} {z : ((Nat ⊕ Int32) × Wd)} {H : Heap} {locs : List Loc} {ls : Array Slot} {w : Wd}  (C : CX D B Y p s m args meth c cX10_pattern 3 RX10 (some .int)) (hxt : ∀ x ∈ c.exceptionTable.toList, False) (htr : l.stackTraces = false)     (hH : HS D B Y w s H locs) (hl : lv_has ls 3 [(0, .ref (B + 0))]) (hf : f_X10_pattern w = some z) : W p l e (RM 6 (xv (zoI z.1)) (6 * xv (zoI z.1))) s m args below meth c H locs 0 0 (vx_MQ below (QX D B Y (zoI z.1) z.2 True) (XX D B Y (zoI z.1) z.2) args s (xv (zoI z.1)) (6 * xv (zoI z.1)) (AB B)) (F0 m 0 ls []) := by
  have hx := C.1
  have hb := C.2.1
  unfold f_X10_pattern at hf
  refine lv_aload_n hx hb dX10_pattern_0 rfl (lv_at hl 0 rfl) ?_
  have kt_1 := hH.2.2.2
  refine fg_X10_66 C hH dX10_pattern_1 ?_
  refine lv_aload_n hx hb dX10_pattern_4 rfl (lv_at hl 0 rfl) ?_
  refine fg_X10_29 C hH dX10_pattern_5 ?_
  obtain ⟨x2, w1, hc, hf⟩ := bd_some hf
  refine q_callV1 (v := .int x2) (As := [.ref (B + 635)]) C hH (ci := 5) rfl (by omega) gk_X10_314 yd_X5_read (by omega) (by omega) kt_1 (c_X5_read kt_1 kc_635 hc) hl.1 rfl (Nat.le_of_ble_eq_true rfl) dX10_pattern_8 xv_00 (fun H locs hH z_x2 => ?_)
  refine lv_istore_n (lv' := [(1, .int x2), (0, .ref (B + 0))]) hx hb dX10_pattern_11 rfl hl (by decide) rfl (fun ls hl => ?_)
  refine lv_aload_n hx hb dX10_pattern_12 rfl (lv_at hl 1 rfl) ?_
  refine fg_X10_29 C hH dX10_pattern_13 ?_
  refine lv_iconst (v := (0 : Int32)) hx hb dX10_pattern_16 (by decide) ?_
  obtain ⟨u, w3, hc, hf⟩ := bd_some hf
  refine q_callV0 (As := [.int (0 : Int32)]) C hH (ci := 7) rfl (by omega) gk_X10_237 yd_X7_cutTo (by omega) (by omega) kc_635 (c_X7_cutTo kc_635 hc) hl.1 rfl (Nat.le_of_ble_eq_true rfl) dX10_pattern_17 xv_00 (fun H locs hH hP => ?_)
  refine lv_iload_n hx hb dX10_pattern_20 rfl (lv_at hl 0 rfl) ?_
  refine b_if_ne (tgt := 35) hx hb hf dX10_pattern_21 (by decide) (fun hf => ?_) (fun hf => ?_)
  · refine lv_aload_n hx hb dX10_pattern_35 rfl (lv_at hl 1 rfl) ?_
    have kt_36 := hH.2.2.1
    refine fg_X10_62 C hH dX10_pattern_36 ?_
    refine lv_astore_n (lv' := [(2, .ref (B + w3.2.1)), (1, .int x2), (0, .ref (B + 0))]) hx hb dX10_pattern_39 rfl hl (by decide) rfl (fun ls hl => ?_)
    refine lv_aload_n hx hb dX10_pattern_40 rfl (lv_at hl 2 rfl) ?_
    refine lv_aload_n hx hb dX10_pattern_41 rfl (lv_at hl 2 rfl) ?_
    have kt_42 := hH.2.2.2
    refine fg_X10_66 C hH dX10_pattern_42 ?_
    refine q_putT C hH inC_10 wd_369 kt_42 dX10_pattern_45 (fun H locs hH => ?_)
    refine b_w hf hH (fun w4 hf hH => ?_)
    refine lv_aload_n hx hb dX10_pattern_48 rfl (lv_at hl 2 rfl) ?_
    refine lv_aload_n hx hb dX10_pattern_49 rfl (lv_at hl 0 rfl) ?_
    refine q_putD C hH inC_10 wd_370 kt_36 dX10_pattern_50 (fun H locs hH => ?_)
    refine b_w hf hH (fun w5 hf hH => ?_)
    refine lv_aload_n hx hb dX10_pattern_53 rfl (lv_at hl 2 rfl) ?_
    refine lv_iconst (v := (1 : Int32)) hx hb dX10_pattern_54 (by decide) ?_
    refine fp_X10_319 C hH isZ_1 dX10_pattern_55 (fun H locs hH => ?_)
    refine b_w hf hH (fun w6 hf hH => ?_)
    refine lv_aload_n hx hb dX10_pattern_58 rfl (lv_at hl 2 rfl) ?_
    have kt_59 := hH.2.2.1
    refine fg_X10_62 C hH dX10_pattern_59 ?_
    obtain ⟨x8, w7, hc, hf⟩ := bd_some hf
    refine q_callV1 (v := .int x8) (As := []) C hH (ci := 5) rfl (by omega) gk_X10_323 yd_X5_size (by omega) (by omega) kt_59 (c_X5_size kt_59 hc) hl.1 rfl (Nat.le_of_ble_eq_true rfl) dX10_pattern_62 xv_00 (fun H locs hH hP => ?_)
    cases hf
    exact q_x0 rfl (q_reti C hH trivial dX10_pattern_65)
  · cases hf
    exact q_throwW C hH hxt htr (Or.inr (Or.inr rfl)) wd_574 wd_66 wd_584 (List.mem_of_getElem? (i := 12) rfl) hl.1 dX10_pattern_24 dX10_pattern_27 dX10_pattern_28 dX10_pattern_31 dX10_pattern_34 (Nat.le_of_ble_eq_true rfl) (xv_1 rfl) (xv_6 rfl)
set_option maxRecDepth 100000 in
theorem c_X10_pattern {l : Launch} {D : va_G} {B : Nat} {Y : Nat → ClassId}  {w : Wd} {r : (Nat ⊕ Int32)} {w1 : Wd} (htr : l.stackTraces = false)   (hf : f_X10_pattern w = some (r, w1)) : XM l D B Y yX10_pattern cX10_pattern 3 (some .int) 6 [.ref (B + 0)] w (zoI r) w1 True :=
  XM_of (by decide +kernel) (Nat.le_of_ble_eq_true rfl) (fun p e s m args below meth c ls C hxt hH hl => t_X10_pattern_0 C hxt htr  hH (lv_sub hl [0] rfl) hf)
/-! LetterTables$Tables.capitalsInto -/
set_option maxRecDepth 100000 in
set_option maxHeartbeats 4000000 in
theorem t_X9_capitalsInto_39 {D : va_G} {B : Nat} {Y : Nat → ClassId} {p : Program} {l : Launch} {e : Env} {s : State} {m : MethodId} {args : Array Value} {below : List Frame} {meth : Method} {c : Code} {z : (Unit × Wd)} {H : Heap} {locs : List Loc} {ls : Array Slot} {w : Wd} {v0 : Nat} {v1 : Nat} {v2 : Int32} {v4 : Int32} (C : CX D B Y p s m args meth c cX9_capitalsInto 5 RX9 none)  {rc_9 : Nat × Nat × Int32 × Wd → Option (Unit × Wd)} (hr_9 : ∀ (v0 : Nat) (v1 : Nat) (v2 : Int32) (w : Wd), rc_9 (v0, v1, v2, w) = some z → KD v0 = 9 → KD v1 = 7 → ∀ (H : Heap) (locs : List Loc) (ls : Array Slot), HS D B Y w s H locs → lv_has ls 5 [(0, .ref (B + v0)), (1, .ref (B + v1)), (2, .int v2)] → W p l e (RM 2 0 0) s m args below meth c H locs 0 0 (MQ below (QG D B Y none z.2 True) args s 0 0 (AB B)) (F0 m 9 ls []))  (k_v0 : KD v0 = 9) (k_v1 : KD v1 = 7)  (hH : HS D B Y w s H locs) (hl : lv_has ls 5 [(0, .ref (B + v0)), (1, .ref (B + v1)), (2, .int v2), (4, .int v4)]) (hf : f_X9_capitalsInto_39 rc_9 v0 v1 v2 v4 w = some z) : W p l e (RM 2 0 0) s m args below meth c H locs 0 0 (MQ below (QG D B Y none z.2 True) args s 0 0 (AB B)) (F0 m 39 ls []) := by
  have hx := C.1
  have hb := C.2.1
  unfold f_X9_capitalsInto_39 at hf
  refine lv_iload hx hb dX9_capitalsInto_39 (lv_at hl 3 rfl) ?_
  refine lv_iload_n hx hb dX9_capitalsInto_41 rfl (lv_at hl 2 rfl) ?_
  refine b_icmp_eq (tgt := 52) hx hb hf dX9_capitalsInto_42 (by decide) (fun hf => ?_) (fun hf => ?_)
  · refine b_let hf (fun x1 he hf => ?_)
    refine lv_iinc (v := x1) (lv' := [(2, .int x1), (0, .ref (B + v0)), (1, .ref (B + v1)), (4, .int v4)]) hx hb dX9_capitalsInto_52 hl (k := 2) rfl (by rw [← he]; rfl) (by decide) rfl (fun ls hl => ?_)
    refine lv_goto (tgt := 9) hx hb dX9_capitalsInto_55 (by decide) ?_
    exact hr_9 v0 v1 x1 w hf k_v0 k_v1 _ _ _ hH (lv_sub hl [1, 2, 0] rfl)
  · refine lv_aload_n hx hb dX9_capitalsInto_45 rfl (lv_at hl 1 rfl) ?_
    refine lv_iload hx hb dX9_capitalsInto_46 (lv_at hl 3 rfl) ?_
    refine lv_iconst (v := (1 : Int32)) hx hb dX9_capitalsInto_48 (by decide) ?_
    obtain ⟨u, w2, hc, hf⟩ := bd_some hf
    refine q_callV0 (As := [.int v4, .int (1 : Int32)]) C hH (ci := 7) rfl (by omega) gk_X9_119 yd_X7_set (by omega) (by omega) k_v1 (c_X7_set k_v1 hc) hl.1 rfl (Nat.le_of_ble_eq_true rfl) dX9_capitalsInto_49 xv_00 (fun H locs hH hP => ?_)
    refine b_let hf (fun x3 he hf => ?_)
    refine lv_iinc (v := x3) (lv' := [(2, .int x3), (0, .ref (B + v0)), (1, .ref (B + v1)), (4, .int v4)]) hx hb dX9_capitalsInto_52 hl (k := 2) rfl (by rw [← he]; rfl) (by decide) rfl (fun ls hl => ?_)
    refine lv_goto (tgt := 9) hx hb dX9_capitalsInto_55 (by decide) ?_
    exact hr_9 v0 v1 x3 w2 hf k_v0 k_v1 _ _ _ hH (lv_sub hl [1, 2, 0] rfl)
set_option maxRecDepth 100000 in
set_option maxHeartbeats 4000000 in
theorem tb_X9_capitalsInto_9 {D : va_G} {B : Nat} {Y : Nat → ClassId} {p : Program} {l : Launch} {e : Env} {s : State} {m : MethodId} {args : Array Value} {below : List Frame} {meth : Method} {c : Code} {z : (Unit × Wd)} {H : Heap} {locs : List Loc} {ls : Array Slot} {w : Wd} {v0 : Nat} {v1 : Nat} {v2 : Int32} (C : CX D B Y p s m args meth c cX9_capitalsInto 5 RX9 none)  {rc_9 : Nat × Nat × Int32 × Wd → Option (Unit × Wd)} (hr_9 : ∀ (v0 : Nat) (v1 : Nat) (v2 : Int32) (w : Wd), rc_9 (v0, v1, v2, w) = some z → KD v0 = 9 → KD v1 = 7 → ∀ (H : Heap) (locs : List Loc) (ls : Array Slot), HS D B Y w s H locs → lv_has ls 5 [(0, .ref (B + v0)), (1, .ref (B + v1)), (2, .int v2)] → W p l e (RM 2 0 0) s m args below meth c H locs 0 0 (MQ below (QG D B Y none z.2 True) args s 0 0 (AB B)) (F0 m 9 ls []))  (k_v0 : KD v0 = 9) (k_v1 : KD v1 = 7)  (hH : HS D B Y w s H locs) (hl : lv_has ls 5 [(0, .ref (B + v0)), (1, .ref (B + v1)), (2, .int v2)]) (hf : g_X9_capitalsInto_9 rc_9 v0 v1 v2 w = some z) : W p l e (RM 2 0 0) s m args below meth c H locs 0 0 (MQ below (QG D B Y none z.2 True) args s 0 0 (AB B)) (F0 m 9 ls []) := by
  have hx := C.1
  have hb := C.2.1
  unfold g_X9_capitalsInto_9 at hf
  refine lv_iload_n hx hb dX9_capitalsInto_9 rfl (lv_at hl 2 rfl) ?_
  refine lv_bipush (v := (96 : Int32)) hx hb dX9_capitalsInto_10 (by decide) ?_
  refine b_icmp_ge (tgt := 58) hx hb hf dX9_capitalsInto_12 (by decide) (fun hf => ?_) (fun hf => ?_)
  · cases hf
    exact q_retv C hH trivial dX9_capitalsInto_58
  · refine lv_aload_n hx hb dX9_capitalsInto_15 rfl (lv_at hl 0 rfl) ?_
    refine lv_iload_n hx hb dX9_capitalsInto_16 rfl (lv_at hl 2 rfl) ?_
    obtain ⟨x2, w1, hc, hf⟩ := bd_some hf
    refine q_callV1 (v := .int x2) (As := [.int v2]) C hH (ci := 9) rfl (by omega) gk_X9_113 yd_X9_capitalOneOf (by omega) (by omega) k_v0 (c_X9_capitalOneOf k_v0 hc) hl.1 rfl (Nat.le_of_ble_eq_true rfl) dX9_capitalsInto_17 xv_00 (fun H locs hH hP => ?_)
    refine lv_istore_n (lv' := [(3, .int x2), (0, .ref (B + v0)), (1, .ref (B + v1)), (2, .int v2)]) hx hb dX9_capitalsInto_20 rfl hl (by decide) rfl (fun ls hl => ?_)
    refine lv_aload_n hx hb dX9_capitalsInto_21 rfl (lv_at hl 1 rfl) ?_
    refine lv_iload_n hx hb dX9_capitalsInto_22 rfl (lv_at hl 3 rfl) ?_
    obtain ⟨x4, w3, hc, hf⟩ := bd_some hf
    refine q_callV1 (v := .int x4) (As := [.int v2]) C hH (ci := 9) rfl (by omega) gk_X9_116 yd_X9_capitalOtherOf (by omega) (by omega) k_v0 (c_X9_capitalOtherOf k_v0 hc) hl.1 rfl (Nat.le_of_ble_eq_true rfl) dX9_capitalsInto_23 xv_00 (fun H locs hH hP => ?_)
    refine lv_istore (lv' := [(4, .int x4), (3, .int x2), (0, .ref (B + v0)), (1, .ref (B + v1)), (2, .int v2)]) hx hb dX9_capitalsInto_26 hl (by decide) rfl (fun ls hl => ?_)
    refine lv_iload_n hx hb dX9_capitalsInto_28 rfl (lv_at hl 1 rfl) ?_
    refine lv_iload_n hx hb dX9_capitalsInto_29 rfl (lv_at hl 4 rfl) ?_
    refine b_icmp_eq (tgt := 39) hx hb hf dX9_capitalsInto_30 (by decide) (fun hf => ?_) (fun hf => ?_)
    · exact t_X9_capitalsInto_39 C hr_9 k_v0 k_v1 hH (lv_sub hl [2, 3, 4, 0] rfl) hf
    · refine lv_aload_n hx hb dX9_capitalsInto_33 rfl (lv_at hl 3 rfl) ?_
      refine lv_iload_n hx hb dX9_capitalsInto_34 rfl (lv_at hl 1 rfl) ?_
      refine lv_iconst (v := (1 : Int32)) hx hb dX9_capitalsInto_35 (by decide) ?_
      obtain ⟨u, w5, hc, hf⟩ := bd_some hf
      refine q_callV0 (As := [.int x2, .int (1 : Int32)]) C hH (ci := 7) rfl (by omega) gk_X9_119 yd_X7_set (by omega) (by omega) k_v1 (c_X7_set k_v1 hc) hl.1 rfl (Nat.le_of_ble_eq_true rfl) dX9_capitalsInto_36 xv_00 (fun H locs hH hP => ?_)
      exact t_X9_capitalsInto_39 C hr_9 k_v0 k_v1 hH (lv_sub hl [2, 3, 4, 0] rfl) hf
set_option maxRecDepth 100000 in
set_option maxHeartbeats 4000000 in
theorem t_X9_capitalsInto_9 {D : va_G} {B : Nat} {Y : Nat → ClassId} {p : Program} {l : Launch} {e : Env} {s : State} {m : MethodId} {args : Array Value} {below : List Frame} {meth : Method} {c : Code} {z : (Unit × Wd)} {H : Heap} {locs : List Loc} {ls : Array Slot} {w : Wd} {v0 : Nat} {v1 : Nat} {v2 : Int32} (C : CX D B Y p s m args meth c cX9_capitalsInto 5 RX9 none)   (k_v0 : KD v0 = 9) (k_v1 : KD v1 = 7)  (hH : HS D B Y w s H locs) (hl : lv_has ls 5 [(0, .ref (B + v0)), (1, .ref (B + v1)), (2, .int v2)]) (hf : f_X9_capitalsInto_9 v0 v1 v2 w = some z) : W p l e (RM 2 0 0) s m args below meth c H locs 0 0 (MQ below (QG D B Y none z.2 True) args s 0 0 (AB B)) (F0 m 9 ls []) := by
  exact loopN_ind (z := z) (body := fun rc σ => g_X9_capitalsInto_9 rc  σ.1 σ.2.1 σ.2.2.1 σ.2.2.2)
    (P := fun σ => KD σ.1 = 9 → KD σ.2.1 = 7 → ∀ (H : Heap) (locs : List Loc) (ls : Array Slot), HS D B Y σ.2.2.2 s H locs → lv_has ls 5 [(0, .ref (B + σ.1)), (1, .ref (B + σ.2.1)), (2, .int σ.2.2.1)] → W p l e (RM 2 0 0) s m args below meth c H locs 0 0 (MQ below (QG D B Y none z.2 True) args s 0 0 (AB B)) (F0 m 9 ls []))
    (fun rc hrec σ hf k_v0 k_v1 H locs ls hH hl => tb_X9_capitalsInto_9 C (fun v0 v1 v2 w hr k_v0 k_v1 H locs ls hH hl => hrec (v0, v1, v2, w) hr k_v0 k_v1 H locs ls hH hl)  k_v0 k_v1 hH hl hf) FU (v0, v1, v2, w) hf k_v0 k_v1 H locs ls hH hl
set_option maxRecDepth 100000 in
set_option maxHeartbeats 4000000 in
theorem t_X9_capitalsInto_0 {D : va_G} {B : Nat} {Y : Nat → ClassId} {p : Program} {l : Launch} {e : Env} {s : State} {m : MethodId} {args : Array Value} {below : List Frame} {meth : Method} {c : Code} {z : (Unit × Wd)} {H : Heap} {locs : List Loc} {ls : Array Slot} {w : Wd} {v0 : Nat} {v1 : Nat} (C : CX D B Y p s m args meth c cX9_capitalsInto 5 RX9 none)   (k_v0 : KD v0 = 9) (k_v1 : KD v1 = 7)  (hH : HS D B Y w s H locs) (hl : lv_has ls 5 [(0, .ref (B + v0)), (1, .ref (B + v1))]) (hf : f_X9_capitalsInto v0 v1 w = some z) : W p l e (RM 2 0 0) s m args below meth c H locs 0 0 (MQ below (QG D B Y none z.2 True) args s 0 0 (AB B)) (F0 m 0 ls []) := by
  have hx := C.1
  have hb := C.2.1
  unfold f_X9_capitalsInto at hf
  refine lv_aload_n hx hb dX9_capitalsInto_0 rfl (lv_at hl 1 rfl) ?_
  refine lv_iconst (v := (0 : Int32)) hx hb dX9_capitalsInto_1 (by decide) ?_
  refine lv_bipush (v := (96 : Int32)) hx hb dX9_capitalsInto_2 (by decide) ?_
  obtain ⟨u, w1, hc, hf⟩ := bd_some hf
  refine q_callV0 (As := [.int (0 : Int32), .int (96 : Int32)]) C hH (ci := 7) rfl (by omega) gk_X9_109 yd_X7_refill (by omega) (by omega) k_v1 (c_X7_refill k_v1 hc) hl.1 rfl (Nat.le_of_ble_eq_true rfl) dX9_capitalsInto_4 xv_00 (fun H locs hH hP => ?_)
  refine lv_iconst (v := (0 : Int32)) hx hb dX9_capitalsInto_7 (by decide) ?_
  refine lv_istore_n (lv' := [(2, .int (0 : Int32)), (0, .ref (B + v0)), (1, .ref (B + v1))]) hx hb dX9_capitalsInto_8 rfl hl (by decide) rfl (fun ls hl => ?_)
  exact t_X9_capitalsInto_9 C k_v0 k_v1 hH (lv_sub hl [1, 2, 0] rfl) hf
set_option maxRecDepth 100000 in
theorem c_X9_capitalsInto {l : Launch} {D : va_G} {B : Nat} {Y : Nat → ClassId} {v0 : Nat} {v1 : Nat} {w : Wd} {r : Unit} {w1 : Wd} (k_v0 : KD v0 = 9) (k_v1 : KD v1 = 7)  (hf : f_X9_capitalsInto v0 v1 w = some (r, w1)) : CM l D B Y yX9_capitalsInto cX9_capitalsInto 5 none 2 [.ref (B + v0), .ref (B + v1)] w none w1 True :=
  CM_of (by decide +kernel) (Nat.le_of_ble_eq_true rfl) (fun p e s m args below meth c ls C hH hl => t_X9_capitalsInto_0 C k_v0 k_v1 hH (lv_sub hl [0, 1] rfl) hf)
/-! LetterTables$Pattern.withSkips -/
set_option maxRecDepth 100000 in
set_option maxHeartbeats 4000000 in
theorem tb_X5_withSkips_4 {D : va_G} {B : Nat} {Y : Nat → ClassId} {p : Program} {l : Launch} {e : Env} {s : State} {m : MethodId} {args : Array Value} {below : List Frame} {meth : Method} {c : Code} {z : (Int32 × Wd)} {H : Heap} {locs : List Loc} {ls : Array Slot} {w : Wd} {v0 : Nat} {v2 : Int32} {v3 : Int32} (C : CX D B Y p s m args meth c cX5_withSkips 4 RX5 (some .int))  {rc_4 : Nat × Int32 × Int32 × Wd → Option (Int32 × Wd)} (hr_4 : ∀ (v0 : Nat) (v2 : Int32) (v3 : Int32) (w : Wd), rc_4 (v0, v2, v3, w) = some z → KD v0 = 5 → ∀ (H : Heap) (locs : List Loc) (ls : Array Slot), HS D B Y w s H locs → lv_has ls 4 [(0, .ref (B + v0)), (2, .int v2), (3, .int v3)] → W p l e (RM 1 0 0) s m args below meth c H locs 0 0 (MQ below (QG D B Y (some (.int z.1)) z.2 True) args s 0 0 (AB B)) (F0 m 4 ls []))  (k_v0 : KD v0 = 5)  (hH : HS D B Y w s H locs) (hl : lv_has ls 4 [(0, .ref (B + v0)), (2, .int v2), (3, .int v3)]) (hf : g_X5_withSkips_4 rc_4 v0 v2 v3 w = some z) : W p l e (RM 1 0 0) s m args below meth c H locs 0 0 (MQ below (QG D B Y (some (.int z.1)) z.2 True) args s 0 0 (AB B)) (F0 m 4 ls []) := by
  have hx := C.1
  have hb := C.2.1
  unfold g_X5_withSkips_4 at hf
  refine lv_iload_n hx hb dX5_withSkips_4 rfl (lv_at hl 2 rfl) ?_
  refine lv_aload_n hx hb dX5_withSkips_5 rfl (lv_at hl 0 rfl) ?_
  refine fg_X5_20 C hH k_v0 dX5_withSkips_6 ?_
  obtain ⟨x2, w1, hc, hf⟩ := bd_some hf
  refine q_callV1 (v := .int x2) (As := []) C hH (ci := 7) rfl (by omega) gk_X5_29 yd_X7_size (by omega) (by omega) (ko_5_1 k_v0) (c_X7_size (ko_5_1 k_v0) hc) hl.1 rfl (Nat.le_of_ble_eq_true rfl) dX5_withSkips_9 xv_00 (fun H locs hH hP => ?_)
  refine b_icmp_ge (tgt := 49) hx hb hf dX5_withSkips_12 (by decide) (fun hf => ?_) (fun hf => ?_)
  · refine lv_iload_n hx hb dX5_withSkips_49 rfl (lv_at hl 1 rfl) ?_
    cases hf
    exact q_reti C hH trivial dX5_withSkips_50
  · refine lv_iload_n hx hb dX5_withSkips_15 rfl (lv_at hl 1 rfl) ?_
    refine lv_iload_n hx hb dX5_withSkips_16 rfl (lv_at hl 2 rfl) ?_
    refine lv_iushr (v := (v2.toUInt32 >>> (v3.toUInt32 &&& Int32.toUInt32 31)).toInt32) hx hb dX5_withSkips_17 rfl ?_
    refine lv_iconst (v := (1 : Int32)) hx hb dX5_withSkips_18 (by decide) ?_
    refine lv_iand hx hb dX5_withSkips_19 ?_
    refine b_if_eq (tgt := 43) hx hb hf dX5_withSkips_20 (by decide) (fun hf => ?_) (fun hf => ?_)
    · refine b_let hf (fun x3 he hf => ?_)
      refine lv_iinc (v := x3) (lv' := [(3, .int x3), (0, .ref (B + v0)), (2, .int v2)]) hx hb dX5_withSkips_43 hl (k := 2) rfl (by rw [← he]; rfl) (by decide) rfl (fun ls hl => ?_)
      refine lv_goto (tgt := 4) hx hb dX5_withSkips_46 (by decide) ?_
      exact hr_4 v0 v2 x3 w1 hf k_v0 _ _ _ hH (lv_sub hl [1, 2, 0] rfl)
    · refine lv_aload_n hx hb dX5_withSkips_23 rfl (lv_at hl 0 rfl) ?_
      refine fg_X5_23 C hH k_v0 dX5_withSkips_24 ?_
      refine lv_iload_n hx hb dX5_withSkips_27 rfl (lv_at hl 2 rfl) ?_
      obtain ⟨x5, w4, hc, hf⟩ := bd_some hf
      refine q_callV1 (v := .int x5) (As := [.int v3]) C hH (ci := 7) rfl (by omega) gk_X5_44 yd_X7_get (by omega) (by omega) (ko_5_2 k_v0) (c_X7_get (ko_5_2 k_v0) hc) hl.1 rfl (Nat.le_of_ble_eq_true rfl) dX5_withSkips_28 xv_00 (fun H locs hH hP => ?_)
      refine lv_iconst (v := (-1 : Int32)) hx hb dX5_withSkips_31 (by decide) ?_
      refine b_icmp_eq (tgt := 43) hx hb hf dX5_withSkips_32 (by decide) (fun hf => ?_) (fun hf => ?_)
      · refine b_let hf (fun x6 he hf => ?_)
        refine lv_iinc (v := x6) (lv' := [(3, .int x6), (0, .ref (B + v0)), (2, .int v2)]) hx hb dX5_withSkips_43 hl (k := 2) rfl (by rw [← he]; rfl) (by decide) rfl (fun ls hl => ?_)
        refine lv_goto (tgt := 4) hx hb dX5_withSkips_46 (by decide) ?_
        exact hr_4 v0 v2 x6 w4 hf k_v0 _ _ _ hH (lv_sub hl [1, 2, 0] rfl)
      · refine lv_iload_n hx hb dX5_withSkips_35 rfl (lv_at hl 1 rfl) ?_
        refine lv_iconst (v := (1 : Int32)) hx hb dX5_withSkips_36 (by decide) ?_
        refine lv_iload_n hx hb dX5_withSkips_37 rfl (lv_at hl 2 rfl) ?_
        refine lv_iconst (v := (1 : Int32)) hx hb dX5_withSkips_38 (by decide) ?_
        refine lv_iadd hx hb dX5_withSkips_39 ?_
        refine lv_ishl hx hb dX5_withSkips_40 ?_
        refine lv_ior hx hb dX5_withSkips_41 ?_
        refine b_leti hf (fun x7 hf => ?_)
        refine lv_istore_n (lv' := [(2, .int x7), (0, .ref (B + v0)), (3, .int v3)]) hx hb dX5_withSkips_42 rfl hl (by decide) rfl (fun ls hl => ?_)
        refine b_let hf (fun x8 he hf => ?_)
        refine lv_iinc (v := x8) (lv' := [(3, .int x8), (2, .int x7), (0, .ref (B + v0))]) hx hb dX5_withSkips_43 hl (k := 2) rfl (by rw [← he]; rfl) (by decide) rfl (fun ls hl => ?_)
        refine lv_goto (tgt := 4) hx hb dX5_withSkips_46 (by decide) ?_
        exact hr_4 v0 x7 x8 w4 hf k_v0 _ _ _ hH (lv_sub hl [2, 1, 0] rfl)
set_option maxRecDepth 100000 in
set_option maxHeartbeats 4000000 in
theorem t_X5_withSkips_4 {D : va_G} {B : Nat} {Y : Nat → ClassId} {p : Program} {l : Launch} {e : Env} {s : State} {m : MethodId} {args : Array Value} {below : List Frame} {meth : Method} {c : Code} {z : (Int32 × Wd)} {H : Heap} {locs : List Loc} {ls : Array Slot} {w : Wd} {v0 : Nat} {v2 : Int32} {v3 : Int32} (C : CX D B Y p s m args meth c cX5_withSkips 4 RX5 (some .int))   (k_v0 : KD v0 = 5)  (hH : HS D B Y w s H locs) (hl : lv_has ls 4 [(0, .ref (B + v0)), (2, .int v2), (3, .int v3)]) (hf : f_X5_withSkips_4 v0 v2 v3 w = some z) : W p l e (RM 1 0 0) s m args below meth c H locs 0 0 (MQ below (QG D B Y (some (.int z.1)) z.2 True) args s 0 0 (AB B)) (F0 m 4 ls []) := by
  exact loopN_ind (z := z) (body := fun rc σ => g_X5_withSkips_4 rc  σ.1 σ.2.1 σ.2.2.1 σ.2.2.2)
    (P := fun σ => KD σ.1 = 5 → ∀ (H : Heap) (locs : List Loc) (ls : Array Slot), HS D B Y σ.2.2.2 s H locs → lv_has ls 4 [(0, .ref (B + σ.1)), (2, .int σ.2.1), (3, .int σ.2.2.1)] → W p l e (RM 1 0 0) s m args below meth c H locs 0 0 (MQ below (QG D B Y (some (.int z.1)) z.2 True) args s 0 0 (AB B)) (F0 m 4 ls []))
    (fun rc hrec σ hf k_v0 H locs ls hH hl => tb_X5_withSkips_4 C (fun v0 v2 v3 w hr k_v0 H locs ls hH hl => hrec (v0, v2, v3, w) hr k_v0 H locs ls hH hl)  k_v0 hH hl hf) FU (v0, v2, v3, w) hf k_v0 H locs ls hH hl
set_option maxRecDepth 100000 in
set_option maxHeartbeats 4000000 in
theorem t_X5_withSkips_0 {D : va_G} {B : Nat} {Y : Nat → ClassId} {p : Program} {l : Launch} {e : Env} {s : State} {m : MethodId} {args : Array Value} {below : List Frame} {meth : Method} {c : Code} {z : (Int32 × Wd)} {H : Heap} {locs : List Loc} {ls : Array Slot} {w : Wd} {v0 : Nat} {v1 : Int32} (C : CX D B Y p s m args meth c cX5_withSkips 4 RX5 (some .int))   (k_v0 : KD v0 = 5)  (hH : HS D B Y w s H locs) (hl : lv_has ls 4 [(0, .ref (B + v0)), (1, .int v1)]) (hf : f_X5_withSkips v0 v1 w = some z) : W p l e (RM 1 0 0) s m args below meth c H locs 0 0 (MQ below (QG D B Y (some (.int z.1)) z.2 True) args s 0 0 (AB B)) (F0 m 0 ls []) := by
  have hx := C.1
  have hb := C.2.1
  unfold f_X5_withSkips at hf
  refine lv_iload_n hx hb dX5_withSkips_0 rfl (lv_at hl 1 rfl) ?_
  refine lv_istore_n (lv' := [(2, .int v1), (0, .ref (B + v0)), (1, .int v1)]) hx hb dX5_withSkips_1 rfl hl (by decide) rfl (fun ls hl => ?_)
  refine lv_iconst (v := (0 : Int32)) hx hb dX5_withSkips_2 (by decide) ?_
  refine lv_istore_n (lv' := [(3, .int (0 : Int32)), (2, .int v1), (0, .ref (B + v0)), (1, .int v1)]) hx hb dX5_withSkips_3 rfl hl (by decide) rfl (fun ls hl => ?_)
  exact t_X5_withSkips_4 C k_v0 hH (lv_sub hl [2, 1, 0] rfl) hf
set_option maxRecDepth 100000 in
theorem c_X5_withSkips {l : Launch} {D : va_G} {B : Nat} {Y : Nat → ClassId} {v0 : Nat} {v1 : Int32} {w : Wd} {r : Int32} {w1 : Wd} (k_v0 : KD v0 = 5)  (hf : f_X5_withSkips v0 v1 w = some (r, w1)) : CM l D B Y yX5_withSkips cX5_withSkips 4 (some .int) 1 [.ref (B + v0), .int v1] w (some (.int r)) w1 True :=
  CM_of (by decide +kernel) (Nat.le_of_ble_eq_true rfl) (fun p e s m args below meth c ls C hH hl => t_X5_withSkips_0 C k_v0 hH (lv_sub hl [0, 1] rfl) hf)
/-! LetterTables$Pattern.isInSet -/
set_option maxRecDepth 100000 in
set_option maxHeartbeats 4000000 in
theorem t_X5_isInSet_115 {D : va_G} {B : Nat} {Y : Nat → ClassId} {p : Program} {l : Launch} {e : Env} {s : State} {m : MethodId} {args : Array Value} {below : List Frame} {meth : Method} {c : Code} {z : (Int32 × Wd)} {H : Heap} {locs : List Loc} {ls : Array Slot} {w : Wd} {v4 : Int32} {v6 : Int32} (C : CX D B Y p s m args meth c cX5_isInSet 7 RX5 (some .boolean))    (z_v4 : isZ v4) (z_v6 : isZ v6) (hH : HS D B Y w s H locs) (hl : lv_has ls 7 [(4, .int v4), (6, .int v6)]) (hf : f_X5_isInSet_115 v4 v6 w = some z) : W p l e (RM 2 0 0) s m args below meth c H locs 0 0 (MQ below (QG D B Y (some (.int z.1)) z.2 (isZ z.1)) args s 0 0 (AB B)) (F0 m 115 ls []) := by
  have hx := C.1
  have hb := C.2.1
  unfold f_X5_isInSet_115 at hf
  refine lv_iload hx hb dX5_isInSet_115 (lv_at hl 1 rfl) ?_
  refine lv_iload hx hb dX5_isInSet_117 (lv_at hl 0 rfl) ?_
  refine b_icmp_eq (tgt := 126) hx hb hf dX5_isInSet_119 (by decide) (fun hf => ?_) (fun hf => ?_)
  · refine lv_iconst (v := (0 : Int32)) hx hb dX5_isInSet_126 (by decide) ?_
    cases hf
    exact q_retz C hH isZ_0 isZ_0 dX5_isInSet_127
  · refine lv_iconst (v := (1 : Int32)) hx hb dX5_isInSet_122 (by decide) ?_
    refine lv_goto (tgt := 127) hx hb dX5_isInSet_123 (by decide) ?_
    cases hf
    exact q_retz C hH isZ_1 isZ_1 dX5_isInSet_127
set_option maxRecDepth 100000 in
set_option maxHeartbeats 4000000 in
theorem t_X5_isInSet_113 {D : va_G} {B : Nat} {Y : Nat → ClassId} {p : Program} {l : Launch} {e : Env} {s : State} {m : MethodId} {args : Array Value} {below : List Frame} {meth : Method} {c : Code} {z : (Int32 × Wd)} {H : Heap} {locs : List Loc} {ls : Array Slot} {w : Wd} {v4 : Int32} {t0 : Int32} (C : CX D B Y p s m args meth c cX5_isInSet 7 RX5 (some .boolean))    (z_v4 : isZ v4) (z_t0 : isZ t0) (hH : HS D B Y w s H locs) (hl : lv_has ls 7 [(4, .int v4)]) (hf : f_X5_isInSet_113 v4 t0 w = some z) : W p l e (RM 2 0 0) s m args below meth c H locs 0 0 (MQ below (QG D B Y (some (.int z.1)) z.2 (isZ z.1)) args s 0 0 (AB B)) (F0 m 113 ls [.int t0]) := by
  have hx := C.1
  have hb := C.2.1
  unfold f_X5_isInSet_113 at hf
  refine lv_istore (lv' := [(6, .int t0), (4, .int v4)]) hx hb dX5_isInSet_113 hl (by decide) rfl (fun ls hl => ?_)
  exact t_X5_isInSet_115 C z_v4 z_t0 hH (lv_sub hl [1, 0] rfl) hf
set_option maxRecDepth 100000 in
set_option maxHeartbeats 4000000 in
theorem t_X5_isInSet_28 {D : va_G} {B : Nat} {Y : Nat → ClassId} {p : Program} {l : Launch} {e : Env} {s : State} {m : MethodId} {args : Array Value} {below : List Frame} {meth : Method} {c : Code} {z : (Int32 × Wd)} {H : Heap} {locs : List Loc} {ls : Array Slot} {w : Wd} {v0 : Nat} {v2 : Int32} {v3 : Nat} {v4 : Int32} {t0 : Int32} (C : CX D B Y p s m args meth c cX5_isInSet 7 RX5 (some .boolean))   (k_v0 : KD v0 = 5) (k_v3 : KD v3 = 9) (z_v4 : isZ v4) (hH : HS D B Y w s H locs) (hl : lv_has ls 7 [(0, .ref (B + v0)), (2, .int v2), (3, .ref (B + v3)), (4, .int v4)]) (hf : f_X5_isInSet_28 v0 v2 v3 v4 t0 w = some z) : W p l e (RM 2 0 0) s m args below meth c H locs 0 0 (MQ below (QG D B Y (some (.int z.1)) z.2 (isZ z.1)) args s 0 0 (AB B)) (F0 m 28 ls [.int t0]) := by
  have hx := C.1
  have hb := C.2.1
  unfold f_X5_isInSet_28 at hf
  refine lv_istore (lv' := [(5, .int t0), (0, .ref (B + v0)), (2, .int v2), (3, .ref (B + v3)), (4, .int v4)]) hx hb dX5_isInSet_28 hl (by decide) rfl (fun ls hl => ?_)
  refine lv_iload hx hb dX5_isInSet_30 (lv_at hl 0 rfl) ?_
  refine lv_bipush (v := (96 : Int32)) hx hb dX5_isInSet_32 (by decide) ?_
  refine b_icmp_ne (tgt := 43) hx hb hf dX5_isInSet_34 (by decide) (fun hf => ?_) (fun hf => ?_)
  · refine lv_iload hx hb dX5_isInSet_43 (lv_at hl 0 rfl) ?_
    refine lv_bipush (v := (97 : Int32)) hx hb dX5_isInSet_45 (by decide) ?_
    refine b_icmp_ne (tgt := 72) hx hb hf dX5_isInSet_47 (by decide) (fun hf => ?_) (fun hf => ?_)
    · refine lv_iload hx hb dX5_isInSet_72 (lv_at hl 0 rfl) ?_
      refine lv_bipush (v := (100 : Int32)) hx hb dX5_isInSet_74 (by decide) ?_
      refine b_icmp_lt (tgt := 102) hx hb hf dX5_isInSet_76 (by decide) (fun hf => ?_) (fun hf => ?_)
      · refine lv_iload_n hx hb dX5_isInSet_102 rfl (lv_at hl 2 rfl) ?_
        refine lv_iload hx hb dX5_isInSet_103 (lv_at hl 0 rfl) ?_
        refine b_icmp_ne (tgt := 112) hx hb hf dX5_isInSet_105 (by decide) (fun hf => ?_) (fun hf => ?_)
        · refine lv_iconst (v := (0 : Int32)) hx hb dX5_isInSet_112 (by decide) ?_
          exact t_X5_isInSet_113 C z_v4 isZ_0 hH (lv_sub hl [4] rfl) hf
        · refine lv_iconst (v := (1 : Int32)) hx hb dX5_isInSet_108 (by decide) ?_
          refine lv_goto (tgt := 113) hx hb dX5_isInSet_109 (by decide) ?_
          exact t_X5_isInSet_113 C z_v4 isZ_1 hH (lv_sub hl [4] rfl) hf
      · refine lv_aload_n hx hb dX5_isInSet_79 rfl (lv_at hl 3 rfl) ?_
        refine lv_iload_n hx hb dX5_isInSet_80 rfl (lv_at hl 2 rfl) ?_
        obtain ⟨x2, w1, hc, hf⟩ := bd_some hf
        refine q_callV1 (v := .int x2) (As := [.int v2]) C hH (ci := 9) rfl (by omega) gk_X5_90 yd_X9_kindOf (by omega) (by omega) k_v3 (c_X9_kindOf k_v3 hc) hl.1 rfl (Nat.le_of_ble_eq_true rfl) dX5_isInSet_81 xv_00 (fun H locs hH hP => ?_)
        refine lv_iload hx hb dX5_isInSet_84 (lv_at hl 0 rfl) ?_
        refine lv_bipush (v := (100 : Int32)) hx hb dX5_isInSet_86 (by decide) ?_
        refine lv_isub hx hb dX5_isInSet_88 ?_
        refine b_icmp_ne (tgt := 96) hx hb hf dX5_isInSet_89 (by decide) (fun hf => ?_) (fun hf => ?_)
        · refine lv_iconst (v := (0 : Int32)) hx hb dX5_isInSet_96 (by decide) ?_
          refine lv_istore (lv' := [(6, .int (0 : Int32)), (5, .int t0), (0, .ref (B + v0)), (2, .int v2), (3, .ref (B + v3)), (4, .int v4)]) hx hb dX5_isInSet_97 hl (by decide) rfl (fun ls hl => ?_)
          refine lv_goto (tgt := 115) hx hb dX5_isInSet_99 (by decide) ?_
          exact t_X5_isInSet_115 C z_v4 isZ_0 hH (lv_sub hl [5, 0] rfl) hf
        · refine lv_iconst (v := (1 : Int32)) hx hb dX5_isInSet_92 (by decide) ?_
          refine lv_goto (tgt := 97) hx hb dX5_isInSet_93 (by decide) ?_
          refine lv_istore (lv' := [(6, .int (1 : Int32)), (5, .int t0), (0, .ref (B + v0)), (2, .int v2), (3, .ref (B + v3)), (4, .int v4)]) hx hb dX5_isInSet_97 hl (by decide) rfl (fun ls hl => ?_)
          refine lv_goto (tgt := 115) hx hb dX5_isInSet_99 (by decide) ?_
          exact t_X5_isInSet_115 C z_v4 isZ_1 hH (lv_sub hl [5, 0] rfl) hf
    · refine lv_aload_n hx hb dX5_isInSet_50 rfl (lv_at hl 1 rfl) ?_
      refine fg_X5_26 C hH k_v0 dX5_isInSet_51 ?_
      refine lv_iload_n hx hb dX5_isInSet_54 rfl (lv_at hl 2 rfl) ?_
      obtain ⟨x4, w3, hc, hf⟩ := bd_some hf
      refine q_callV1 (v := .int x4) (As := [.int v2]) C hH (ci := 7) rfl (by omega) gk_X5_44 yd_X7_get (by omega) (by omega) (ko_5_3 k_v0) (c_X7_get (ko_5_3 k_v0) hc) hl.1 rfl (Nat.le_of_ble_eq_true rfl) dX5_isInSet_55 xv_00 (fun H locs hH hP => ?_)
      refine lv_iconst (v := (1 : Int32)) hx hb dX5_isInSet_58 (by decide) ?_
      refine b_icmp_ne (tgt := 66) hx hb hf dX5_isInSet_59 (by decide) (fun hf => ?_) (fun hf => ?_)
      · refine lv_iconst (v := (0 : Int32)) hx hb dX5_isInSet_66 (by decide) ?_
        refine lv_istore (lv' := [(6, .int (0 : Int32)), (5, .int t0), (0, .ref (B + v0)), (2, .int v2), (3, .ref (B + v3)), (4, .int v4)]) hx hb dX5_isInSet_67 hl (by decide) rfl (fun ls hl => ?_)
        refine lv_goto (tgt := 115) hx hb dX5_isInSet_69 (by decide) ?_
        exact t_X5_isInSet_115 C z_v4 isZ_0 hH (lv_sub hl [5, 0] rfl) hf
      · refine lv_iconst (v := (1 : Int32)) hx hb dX5_isInSet_62 (by decide) ?_
        refine lv_goto (tgt := 67) hx hb dX5_isInSet_63 (by decide) ?_
        refine lv_istore (lv' := [(6, .int (1 : Int32)), (5, .int t0), (0, .ref (B + v0)), (2, .int v2), (3, .ref (B + v3)), (4, .int v4)]) hx hb dX5_isInSet_67 hl (by decide) rfl (fun ls hl => ?_)
        refine lv_goto (tgt := 115) hx hb dX5_isInSet_69 (by decide) ?_
        exact t_X5_isInSet_115 C z_v4 isZ_1 hH (lv_sub hl [5, 0] rfl) hf
  · refine lv_iconst (v := (1 : Int32)) hx hb dX5_isInSet_37 (by decide) ?_
    refine lv_istore (lv' := [(6, .int (1 : Int32)), (5, .int t0), (0, .ref (B + v0)), (2, .int v2), (3, .ref (B + v3)), (4, .int v4)]) hx hb dX5_isInSet_38 hl (by decide) rfl (fun ls hl => ?_)
    refine lv_goto (tgt := 115) hx hb dX5_isInSet_40 (by decide) ?_
    exact t_X5_isInSet_115 C z_v4 isZ_1 hH (lv_sub hl [5, 0] rfl) hf
set_option maxRecDepth 100000 in
set_option maxHeartbeats 4000000 in
theorem t_X5_isInSet_12 {D : va_G} {B : Nat} {Y : Nat → ClassId} {p : Program} {l : Launch} {e : Env} {s : State} {m : MethodId} {args : Array Value} {below : List Frame} {meth : Method} {c : Code} {z : (Int32 × Wd)} {H : Heap} {locs : List Loc} {ls : Array Slot} {w : Wd} {v0 : Nat} {v1 : Int32} {v2 : Int32} {v3 : Nat} {t0 : Int32} (C : CX D B Y p s m args meth c cX5_isInSet 7 RX5 (some .boolean))   (k_v0 : KD v0 = 5) (k_v3 : KD v3 = 9) (z_t0 : isZ t0) (hH : HS D B Y w s H locs) (hl : lv_has ls 7 [(0, .ref (B + v0)), (1, .int v1), (2, .int v2), (3, .ref (B + v3))]) (hf : f_X5_isInSet_12 v0 v1 v2 v3 t0 w = some z) : W p l e (RM 2 0 0) s m args below meth c H locs 0 0 (MQ below (QG D B Y (some (.int z.1)) z.2 (isZ z.1)) args s 0 0 (AB B)) (F0 m 12 ls [.int t0]) := by
  have hx := C.1
  have hb := C.2.1
  unfold f_X5_isInSet_12 at hf
  refine lv_istore (lv' := [(4, .int t0), (0, .ref (B + v0)), (1, .int v1), (2, .int v2), (3, .ref (B + v3))]) hx hb dX5_isInSet_12 hl (by decide) rfl (fun ls hl => ?_)
  refine lv_iload hx hb dX5_isInSet_14 (lv_at hl 0 rfl) ?_
  refine b_if_eq (tgt := 27) hx hb hf dX5_isInSet_16 (by decide) (fun hf => ?_) (fun hf => ?_)
  · refine lv_iload_n hx hb dX5_isInSet_27 rfl (lv_at hl 2 rfl) ?_
    exact t_X5_isInSet_28 C k_v0 k_v3 z_t0 hH (lv_sub hl [1, 3, 4, 0] rfl) hf
  · refine lv_iload_n hx hb dX5_isInSet_19 rfl (lv_at hl 2 rfl) ?_
    refine lv_sipush (v := (1000 : Int32)) hx hb dX5_isInSet_20 (by decide) ?_
    refine lv_isub hx hb dX5_isInSet_23 ?_
    refine lv_goto (tgt := 28) hx hb dX5_isInSet_24 (by decide) ?_
    exact t_X5_isInSet_28 C k_v0 k_v3 z_t0 hH (lv_sub hl [1, 3, 4, 0] rfl) hf
set_option maxRecDepth 100000 in
set_option maxHeartbeats 4000000 in
theorem t_X5_isInSet_0 {D : va_G} {B : Nat} {Y : Nat → ClassId} {p : Program} {l : Launch} {e : Env} {s : State} {m : MethodId} {args : Array Value} {below : List Frame} {meth : Method} {c : Code} {z : (Int32 × Wd)} {H : Heap} {locs : List Loc} {ls : Array Slot} {w : Wd} {v0 : Nat} {v1 : Int32} {v2 : Int32} {v3 : Nat} (C : CX D B Y p s m args meth c cX5_isInSet 7 RX5 (some .boolean))   (k_v0 : KD v0 = 5) (k_v3 : KD v3 = 9)  (hH : HS D B Y w s H locs) (hl : lv_has ls 7 [(0, .ref (B + v0)), (1, .int v1), (2, .int v2), (3, .ref (B + v3))]) (hf : f_X5_isInSet v0 v1 v2 v3 w = some z) : W p l e (RM 2 0 0) s m args below meth c H locs 0 0 (MQ below (QG D B Y (some (.int z.1)) z.2 (isZ z.1)) args s 0 0 (AB B)) (F0 m 0 ls []) := by
  have hx := C.1
  have hb := C.2.1
  unfold f_X5_isInSet at hf
  refine lv_iload_n hx hb dX5_isInSet_0 rfl (lv_at hl 1 rfl) ?_
  refine lv_sipush (v := (1000 : Int32)) hx hb dX5_isInSet_1 (by decide) ?_
  refine b_icmp_lt (tgt := 11) hx hb hf dX5_isInSet_4 (by decide) (fun hf => ?_) (fun hf => ?_)
  · refine lv_iconst (v := (0 : Int32)) hx hb dX5_isInSet_11 (by decide) ?_
    exact t_X5_isInSet_12 C k_v0 k_v3 isZ_0 hH (lv_sub hl [0, 1, 2, 3] rfl) hf
  · refine lv_iconst (v := (1 : Int32)) hx hb dX5_isInSet_7 (by decide) ?_
    refine lv_goto (tgt := 12) hx hb dX5_isInSet_8 (by decide) ?_
    exact t_X5_isInSet_12 C k_v0 k_v3 isZ_1 hH (lv_sub hl [0, 1, 2, 3] rfl) hf
set_option maxRecDepth 100000 in
theorem c_X5_isInSet {l : Launch} {D : va_G} {B : Nat} {Y : Nat → ClassId} {v0 : Nat} {v1 : Int32} {v2 : Int32} {v3 : Nat} {w : Wd} {r : Int32} {w1 : Wd} (k_v0 : KD v0 = 5) (k_v3 : KD v3 = 9)  (hf : f_X5_isInSet v0 v1 v2 v3 w = some (r, w1)) : CM l D B Y yX5_isInSet cX5_isInSet 7 (some .boolean) 2 [.ref (B + v0), .int v1, .int v2, .ref (B + v3)] w (some (.int r)) w1 (isZ r) :=
  CM_of (by decide +kernel) (Nat.le_of_ble_eq_true rfl) (fun p e s m args below meth c ls C hH hl => t_X5_isInSet_0 C k_v0 k_v3 hH (lv_sub hl [0, 1, 2, 3] rfl) hf)
/-! LetterTables$Pattern.isTaken -/
set_option maxRecDepth 100000 in
set_option maxHeartbeats 4000000 in
theorem t_X5_isTaken_41 {D : va_G} {B : Nat} {Y : Nat → ClassId} {p : Program} {l : Launch} {e : Env} {s : State} {m : MethodId} {args : Array Value} {below : List Frame} {meth : Method} {c : Code} {z : (Int32 × Wd)} {H : Heap} {locs : List Loc} {ls : Array Slot} {w : Wd} {v0 : Nat} {v1 : Int32} {v2 : Nat} {v3 : Int32} {v4 : Nat} (C : CX D B Y p s m args meth c cX5_isTaken 6 RX5 (some .boolean))   (k_v0 : KD v0 = 5) (k_v2 : KD v2 = 7) (k_v4 : KD v4 = 9)  (hH : HS D B Y w s H locs) (hl : lv_has ls 6 [(0, .ref (B + v0)), (1, .int v1), (2, .ref (B + v2)), (3, .int v3), (4, .ref (B + v4))]) (hf : f_X5_isTaken_41 v0 v1 v2 v3 v4 w = some z) : W p l e (RM 3 0 0) s m args below meth c H locs 0 0 (MQ below (QG D B Y (some (.int z.1)) z.2 (isZ z.1)) args s 0 0 (AB B)) (F0 m 41 ls []) := by
  have hx := C.1
  have hb := C.2.1
  unfold f_X5_isTaken_41 at hf
  refine lv_aload_n hx hb dX5_isTaken_41 rfl (lv_at hl 0 rfl) ?_
  refine lv_aload_n hx hb dX5_isTaken_42 rfl (lv_at hl 0 rfl) ?_
  refine fg_X5_20 C hH k_v0 dX5_isTaken_43 ?_
  refine lv_iload_n hx hb dX5_isTaken_46 rfl (lv_at hl 1 rfl) ?_
  obtain ⟨x2, w1, hc, hf⟩ := bd_some hf
  refine q_callV1 (v := .int x2) (As := [.int v1]) C hH (ci := 7) rfl (by omega) gk_X5_44 yd_X7_get (by omega) (by omega) (ko_5_1 k_v0) (c_X7_get (ko_5_1 k_v0) hc) hl.1 rfl (Nat.le_of_ble_eq_true rfl) dX5_isTaken_47 xv_00 (fun H locs hH hP => ?_)
  refine lv_aload_n hx hb dX5_isTaken_50 rfl (lv_at hl 2 rfl) ?_
  refine lv_iload_n hx hb dX5_isTaken_51 rfl (lv_at hl 3 rfl) ?_
  obtain ⟨x4, w3, hc, hf⟩ := bd_some hf
  refine q_callV1 (v := .int x4) (As := [.int v3]) C hH (ci := 7) rfl (by omega) gk_X5_44 yd_X7_get (by omega) (by omega) k_v2 (c_X7_get k_v2 hc) hl.1 rfl (Nat.le_of_ble_eq_true rfl) dX5_isTaken_52 xv_00 (fun H locs hH hP => ?_)
  refine lv_aload hx hb dX5_isTaken_55 (lv_at hl 4 rfl) ?_
  obtain ⟨x6, w5, hc, hf⟩ := bd_some hf
  refine q_callV1 (v := .int x6) (As := [.int x2, .int x4, .ref (B + v4)]) C hH (ci := 5) rfl (by omega) gk_X5_86 yd_X5_isInSet (by omega) (by omega) k_v0 (c_X5_isInSet k_v0 k_v4 hc) hl.1 rfl (Nat.le_of_ble_eq_true rfl) dX5_isTaken_57 xv_00 (fun H locs hH z_x6 => ?_)
  cases hf
  exact q_retz C hH z_x6 z_x6 dX5_isTaken_60
set_option maxRecDepth 100000 in
set_option maxHeartbeats 4000000 in
theorem t_X5_isTaken_0 {D : va_G} {B : Nat} {Y : Nat → ClassId} {p : Program} {l : Launch} {e : Env} {s : State} {m : MethodId} {args : Array Value} {below : List Frame} {meth : Method} {c : Code} {z : (Int32 × Wd)} {H : Heap} {locs : List Loc} {ls : Array Slot} {w : Wd} {v0 : Nat} {v1 : Int32} {v2 : Nat} {v3 : Int32} {v4 : Nat} (C : CX D B Y p s m args meth c cX5_isTaken 6 RX5 (some .boolean))   (k_v0 : KD v0 = 5) (k_v2 : KD v2 = 7) (k_v4 : KD v4 = 9)  (hH : HS D B Y w s H locs) (hl : lv_has ls 6 [(0, .ref (B + v0)), (1, .int v1), (2, .ref (B + v2)), (3, .int v3), (4, .ref (B + v4))]) (hf : f_X5_isTaken v0 v1 v2 v3 v4 w = some z) : W p l e (RM 3 0 0) s m args below meth c H locs 0 0 (MQ below (QG D B Y (some (.int z.1)) z.2 (isZ z.1)) args s 0 0 (AB B)) (F0 m 0 ls []) := by
  have hx := C.1
  have hb := C.2.1
  unfold f_X5_isTaken at hf
  refine lv_aload_n hx hb dX5_isTaken_0 rfl (lv_at hl 0 rfl) ?_
  refine fg_X5_14 C hH k_v0 dX5_isTaken_1 ?_
  refine lv_iload_n hx hb dX5_isTaken_4 rfl (lv_at hl 1 rfl) ?_
  obtain ⟨x2, w1, hc, hf⟩ := bd_some hf
  refine q_callV1 (v := .int x2) (As := [.int v1]) C hH (ci := 7) rfl (by omega) gk_X5_44 yd_X7_get (by omega) (by omega) (ko_5_0 k_v0) (c_X7_get (ko_5_0 k_v0) hc) hl.1 rfl (Nat.le_of_ble_eq_true rfl) dX5_isTaken_5 xv_00 (fun H locs hH hP => ?_)
  refine lv_istore (lv' := [(5, .int x2), (0, .ref (B + v0)), (1, .int v1), (2, .ref (B + v2)), (3, .int v3), (4, .ref (B + v4))]) hx hb dX5_isTaken_8 hl (by decide) rfl (fun ls hl => ?_)
  refine lv_iload hx hb dX5_isTaken_10 (lv_at hl 0 rfl) ?_
  refine lv_iconst (v := (-1 : Int32)) hx hb dX5_isTaken_12 (by decide) ?_
  refine b_icmp_eq (tgt := 41) hx hb hf dX5_isTaken_13 (by decide) (fun hf => ?_) (fun hf => ?_)
  · exact t_X5_isTaken_41 C k_v0 k_v2 k_v4 hH (lv_sub hl [1, 2, 3, 4, 5] rfl) hf
  · refine lv_iload_n hx hb dX5_isTaken_16 rfl (lv_at hl 4 rfl) ?_
    refine lv_iconst (v := (1 : Int32)) hx hb dX5_isTaken_17 (by decide) ?_
    refine b_icmp_lt (tgt := 39) hx hb hf dX5_isTaken_18 (by decide) (fun hf => ?_) (fun hf => ?_)
    · refine lv_iconst (v := (0 : Int32)) hx hb dX5_isTaken_39 (by decide) ?_
      cases hf
      exact q_retz C hH isZ_0 isZ_0 dX5_isTaken_40
    · refine lv_aload_n hx hb dX5_isTaken_21 rfl (lv_at hl 1 rfl) ?_
      refine lv_iload hx hb dX5_isTaken_22 (lv_at hl 0 rfl) ?_
      refine lv_aload_n hx hb dX5_isTaken_24 rfl (lv_at hl 3 rfl) ?_
      refine lv_iload_n hx hb dX5_isTaken_25 rfl (lv_at hl 4 rfl) ?_
      refine lv_iconst (v := (1 : Int32)) hx hb dX5_isTaken_26 (by decide) ?_
      refine lv_isub hx hb dX5_isTaken_27 ?_
      obtain ⟨x4, w3, hc, hf⟩ := bd_some hf
      refine q_callV1 (v := .int x4) (As := [.int (v3 - (1 : Int32))]) C hH (ci := 7) rfl (by omega) gk_X5_44 yd_X7_get (by omega) (by omega) k_v2 (c_X7_get k_v2 hc) hl.1 rfl (Nat.le_of_ble_eq_true rfl) dX5_isTaken_28 xv_00 (fun H locs hH hP => ?_)
      refine lv_aload hx hb dX5_isTaken_31 (lv_at hl 5 rfl) ?_
      obtain ⟨x6, w5, hc, hf⟩ := bd_some hf
      refine q_callV1 (v := .int x6) (As := [.int x2, .int x4, .ref (B + v4)]) C hH (ci := 5) rfl (by omega) gk_X5_86 yd_X5_isInSet (by omega) (by omega) k_v0 (c_X5_isInSet k_v0 k_v4 hc) hl.1 rfl (Nat.le_of_ble_eq_true rfl) dX5_isTaken_33 xv_00 (fun H locs hH z_x6 => ?_)
      refine b_if_ne (tgt := 41) hx hb hf dX5_isTaken_36 (by decide) (fun hf => ?_) (fun hf => ?_)
      · exact t_X5_isTaken_41 C k_v0 k_v2 k_v4 hH (lv_sub hl [1, 2, 3, 4, 5] rfl) hf
      · refine lv_iconst (v := (0 : Int32)) hx hb dX5_isTaken_39 (by decide) ?_
        cases hf
        exact q_retz C hH isZ_0 isZ_0 dX5_isTaken_40
set_option maxRecDepth 100000 in
theorem c_X5_isTaken {l : Launch} {D : va_G} {B : Nat} {Y : Nat → ClassId} {v0 : Nat} {v1 : Int32} {v2 : Nat} {v3 : Int32} {v4 : Nat} {w : Wd} {r : Int32} {w1 : Wd} (k_v0 : KD v0 = 5) (k_v2 : KD v2 = 7) (k_v4 : KD v4 = 9)  (hf : f_X5_isTaken v0 v1 v2 v3 v4 w = some (r, w1)) : CM l D B Y yX5_isTaken cX5_isTaken 6 (some .boolean) 3 [.ref (B + v0), .int v1, .ref (B + v2), .int v3, .ref (B + v4)] w (some (.int r)) w1 (isZ r) :=
  CM_of (by decide +kernel) (Nat.le_of_ble_eq_true rfl) (fun p e s m args below meth c ls C hH hl => t_X5_isTaken_0 C k_v0 k_v2 k_v4 hH (lv_sub hl [0, 1, 2, 3, 4] rfl) hf)
/-! LetterTables$Pattern.statesBehind -/
set_option maxRecDepth 100000 in
set_option maxHeartbeats 4000000 in
theorem t_X5_statesBehind_80 {D : va_G} {B : Nat} {Y : Nat → ClassId} {p : Program} {l : Launch} {e : Env} {s : State} {m : MethodId} {args : Array Value} {below : List Frame} {meth : Method} {c : Code} {z : (Int32 × Wd)} {H : Heap} {locs : List Loc} {ls : Array Slot} {w : Wd} {v0 : Nat} {v1 : Int32} {v2 : Nat} {v3 : Int32} {v4 : Nat} {v6 : Int32} {t0 : Int32} {t1 : Int32} (C : CX D B Y p s m args meth c cX5_statesBehind 7 RX5 (some .int))  {rc_17 : Nat × Int32 × Nat × Int32 × Nat × Int32 × Int32 × Wd → Option (Int32 × Wd)} (hr_17 : ∀ (v0 : Nat) (v1 : Int32) (v2 : Nat) (v3 : Int32) (v4 : Nat) (v5 : Int32) (v6 : Int32) (w : Wd), rc_17 (v0, v1, v2, v3, v4, v5, v6, w) = some z → KD v0 = 5 → KD v2 = 7 → KD v4 = 9 → ∀ (H : Heap) (locs : List Loc) (ls : Array Slot), HS D B Y w s H locs → lv_has ls 7 [(0, .ref (B + v0)), (1, .int v1), (2, .ref (B + v2)), (3, .int v3), (4, .ref (B + v4)), (5, .int v5), (6, .int v6)] → W p l e (RM 4 0 0) s m args below meth c H locs 0 0 (MQ below (QG D B Y (some (.int z.1)) z.2 True) args s 0 0 (AB B)) (F0 m 17 ls []))  (k_v0 : KD v0 = 5) (k_v2 : KD v2 = 7) (k_v4 : KD v4 = 9)  (hH : HS D B Y w s H locs) (hl : lv_has ls 7 [(0, .ref (B + v0)), (1, .int v1), (2, .ref (B + v2)), (3, .int v3), (4, .ref (B + v4)), (6, .int v6)]) (hf : f_X5_statesBehind_80 rc_17 v0 v1 v2 v3 v4 v6 t0 t1 w = some z) : W p l e (RM 4 0 0) s m args below meth c H locs 0 0 (MQ below (QG D B Y (some (.int z.1)) z.2 True) args s 0 0 (AB B)) (F0 m 80 ls [.int t1, .int t0]) := by
  have hx := C.1
  have hb := C.2.1
  unfold f_X5_statesBehind_80 at hf
  refine lv_ior hx hb dX5_statesBehind_80 ?_
  refine b_leti hf (fun x1 hf => ?_)
  refine lv_istore (lv' := [(5, .int x1), (0, .ref (B + v0)), (1, .int v1), (2, .ref (B + v2)), (3, .int v3), (4, .ref (B + v4)), (6, .int v6)]) hx hb dX5_statesBehind_81 hl (by decide) rfl (fun ls hl => ?_)
  refine b_let hf (fun x2 he hf => ?_)
  refine lv_iinc (v := x2) (lv' := [(6, .int x2), (5, .int x1), (0, .ref (B + v0)), (1, .int v1), (2, .ref (B + v2)), (3, .int v3), (4, .ref (B + v4))]) hx hb dX5_statesBehind_83 hl (k := 6) rfl (by rw [← he]; rfl) (by decide) rfl (fun ls hl => ?_)
  refine lv_goto (tgt := 17) hx hb dX5_statesBehind_86 (by decide) ?_
  exact hr_17 v0 v1 v2 v3 v4 x1 x2 w hf k_v0 k_v2 k_v4 _ _ _ hH (lv_sub hl [2, 3, 4, 5, 6, 1, 0] rfl)
set_option maxRecDepth 100000 in
set_option maxHeartbeats 4000000 in
theorem tb_X5_statesBehind_17 {D : va_G} {B : Nat} {Y : Nat → ClassId} {p : Program} {l : Launch} {e : Env} {s : State} {m : MethodId} {args : Array Value} {below : List Frame} {meth : Method} {c : Code} {z : (Int32 × Wd)} {H : Heap} {locs : List Loc} {ls : Array Slot} {w : Wd} {v0 : Nat} {v1 : Int32} {v2 : Nat} {v3 : Int32} {v4 : Nat} {v5 : Int32} {v6 : Int32} (C : CX D B Y p s m args meth c cX5_statesBehind 7 RX5 (some .int))  {rc_17 : Nat × Int32 × Nat × Int32 × Nat × Int32 × Int32 × Wd → Option (Int32 × Wd)} (hr_17 : ∀ (v0 : Nat) (v1 : Int32) (v2 : Nat) (v3 : Int32) (v4 : Nat) (v5 : Int32) (v6 : Int32) (w : Wd), rc_17 (v0, v1, v2, v3, v4, v5, v6, w) = some z → KD v0 = 5 → KD v2 = 7 → KD v4 = 9 → ∀ (H : Heap) (locs : List Loc) (ls : Array Slot), HS D B Y w s H locs → lv_has ls 7 [(0, .ref (B + v0)), (1, .int v1), (2, .ref (B + v2)), (3, .int v3), (4, .ref (B + v4)), (5, .int v5), (6, .int v6)] → W p l e (RM 4 0 0) s m args below meth c H locs 0 0 (MQ below (QG D B Y (some (.int z.1)) z.2 True) args s 0 0 (AB B)) (F0 m 17 ls []))  (k_v0 : KD v0 = 5) (k_v2 : KD v2 = 7) (k_v4 : KD v4 = 9)  (hH : HS D B Y w s H locs) (hl : lv_has ls 7 [(0, .ref (B + v0)), (1, .int v1), (2, .ref (B + v2)), (3, .int v3), (4, .ref (B + v4)), (5, .int v5), (6, .int v6)]) (hf : g_X5_statesBehind_17 rc_17 v0 v1 v2 v3 v4 v5 v6 w = some z) : W p l e (RM 4 0 0) s m args below meth c H locs 0 0 (MQ below (QG D B Y (some (.int z.1)) z.2 True) args s 0 0 (AB B)) (F0 m 17 ls []) := by
  have hx := C.1
  have hb := C.2.1
  unfold g_X5_statesBehind_17 at hf
  refine lv_iload hx hb dX5_statesBehind_17 (lv_at hl 6 rfl) ?_
  refine lv_aload_n hx hb dX5_statesBehind_19 rfl (lv_at hl 0 rfl) ?_
  refine fg_X5_20 C hH k_v0 dX5_statesBehind_20 ?_
  obtain ⟨x2, w1, hc, hf⟩ := bd_some hf
  refine q_callV1 (v := .int x2) (As := []) C hH (ci := 7) rfl (by omega) gk_X5_29 yd_X7_size (by omega) (by omega) (ko_5_1 k_v0) (c_X7_size (ko_5_1 k_v0) hc) hl.1 rfl (Nat.le_of_ble_eq_true rfl) dX5_statesBehind_23 xv_00 (fun H locs hH hP => ?_)
  refine b_icmp_ge (tgt := 89) hx hb hf dX5_statesBehind_26 (by decide) (fun hf => ?_) (fun hf => ?_)
  · refine lv_iload hx hb dX5_statesBehind_89 (lv_at hl 5 rfl) ?_
    cases hf
    exact q_reti C hH trivial dX5_statesBehind_91
  · refine lv_iload_n hx hb dX5_statesBehind_29 rfl (lv_at hl 1 rfl) ?_
    refine lv_iload hx hb dX5_statesBehind_30 (lv_at hl 6 rfl) ?_
    refine lv_iushr (v := (v1.toUInt32 >>> (v6.toUInt32 &&& Int32.toUInt32 31)).toInt32) hx hb dX5_statesBehind_32 rfl ?_
    refine lv_iconst (v := (1 : Int32)) hx hb dX5_statesBehind_33 (by decide) ?_
    refine lv_iand hx hb dX5_statesBehind_34 ?_
    refine b_if_eq (tgt := 83) hx hb hf dX5_statesBehind_35 (by decide) (fun hf => ?_) (fun hf => ?_)
    · refine b_let hf (fun x3 he hf => ?_)
      refine lv_iinc (v := x3) (lv' := [(6, .int x3), (0, .ref (B + v0)), (1, .int v1), (2, .ref (B + v2)), (3, .int v3), (4, .ref (B + v4)), (5, .int v5)]) hx hb dX5_statesBehind_83 hl (k := 6) rfl (by rw [← he]; rfl) (by decide) rfl (fun ls hl => ?_)
      refine lv_goto (tgt := 17) hx hb dX5_statesBehind_86 (by decide) ?_
      exact hr_17 v0 v1 v2 v3 v4 v5 x3 w1 hf k_v0 k_v2 k_v4 _ _ _ hH (lv_sub hl [1, 2, 3, 4, 5, 6, 0] rfl)
    · refine lv_aload_n hx hb dX5_statesBehind_38 rfl (lv_at hl 0 rfl) ?_
      refine lv_iload hx hb dX5_statesBehind_39 (lv_at hl 6 rfl) ?_
      refine lv_aload_n hx hb dX5_statesBehind_41 rfl (lv_at hl 2 rfl) ?_
      refine lv_iload_n hx hb dX5_statesBehind_42 rfl (lv_at hl 3 rfl) ?_
      refine lv_aload hx hb dX5_statesBehind_43 (lv_at hl 4 rfl) ?_
      obtain ⟨x5, w4, hc, hf⟩ := bd_some hf
      refine q_callV1 (v := .int x5) (As := [.int v6, .ref (B + v2), .int v3, .ref (B + v4)]) C hH (ci := 5) rfl (by omega) gk_X5_82 yd_X5_isTaken (by omega) (by omega) k_v0 (c_X5_isTaken k_v0 k_v2 k_v4 hc) hl.1 rfl (Nat.le_of_ble_eq_true rfl) dX5_statesBehind_45 xv_00 (fun H locs hH z_x5 => ?_)
      refine b_if_eq (tgt := 83) hx hb hf dX5_statesBehind_48 (by decide) (fun hf => ?_) (fun hf => ?_)
      · refine b_let hf (fun x6 he hf => ?_)
        refine lv_iinc (v := x6) (lv' := [(6, .int x6), (0, .ref (B + v0)), (1, .int v1), (2, .ref (B + v2)), (3, .int v3), (4, .ref (B + v4)), (5, .int v5)]) hx hb dX5_statesBehind_83 hl (k := 6) rfl (by rw [← he]; rfl) (by decide) rfl (fun ls hl => ?_)
        refine lv_goto (tgt := 17) hx hb dX5_statesBehind_86 (by decide) ?_
        exact hr_17 v0 v1 v2 v3 v4 v5 x6 w4 hf k_v0 k_v2 k_v4 _ _ _ hH (lv_sub hl [1, 2, 3, 4, 5, 6, 0] rfl)
      · refine lv_iload hx hb dX5_statesBehind_51 (lv_at hl 5 rfl) ?_
        refine lv_aload_n hx hb dX5_statesBehind_53 rfl (lv_at hl 0 rfl) ?_
        refine fg_X5_23 C hH k_v0 dX5_statesBehind_54 ?_
        refine lv_iload hx hb dX5_statesBehind_57 (lv_at hl 6 rfl) ?_
        obtain ⟨x8, w7, hc, hf⟩ := bd_some hf
        refine q_callV1 (v := .int x8) (As := [.int v6]) C hH (ci := 7) rfl (by omega) gk_X5_44 yd_X7_get (by omega) (by omega) (ko_5_2 k_v0) (c_X7_get (ko_5_2 k_v0) hc) hl.1 rfl (Nat.le_of_ble_eq_true rfl) dX5_statesBehind_59 xv_00 (fun H locs hH hP => ?_)
        refine lv_bipush (v := (42 : Int32)) hx hb dX5_statesBehind_62 (by decide) ?_
        refine b_icmp_ne (tgt := 74) hx hb hf dX5_statesBehind_64 (by decide) (fun hf => ?_) (fun hf => ?_)
        · refine lv_iconst (v := (1 : Int32)) hx hb dX5_statesBehind_74 (by decide) ?_
          refine lv_iload hx hb dX5_statesBehind_75 (lv_at hl 6 rfl) ?_
          refine lv_iconst (v := (1 : Int32)) hx hb dX5_statesBehind_77 (by decide) ?_
          refine lv_iadd hx hb dX5_statesBehind_78 ?_
          refine lv_ishl hx hb dX5_statesBehind_79 ?_
          exact t_X5_statesBehind_80 C hr_17 k_v0 k_v2 k_v4 hH (lv_sub hl [0, 1, 2, 3, 4, 6] rfl) hf
        · refine lv_iconst (v := (1 : Int32)) hx hb dX5_statesBehind_67 (by decide) ?_
          refine lv_iload hx hb dX5_statesBehind_68 (lv_at hl 6 rfl) ?_
          refine lv_ishl hx hb dX5_statesBehind_70 ?_
          refine lv_goto (tgt := 80) hx hb dX5_statesBehind_71 (by decide) ?_
          exact t_X5_statesBehind_80 C hr_17 k_v0 k_v2 k_v4 hH (lv_sub hl [0, 1, 2, 3, 4, 6] rfl) hf
set_option maxRecDepth 100000 in
set_option maxHeartbeats 4000000 in
theorem t_X5_statesBehind_17 {D : va_G} {B : Nat} {Y : Nat → ClassId} {p : Program} {l : Launch} {e : Env} {s : State} {m : MethodId} {args : Array Value} {below : List Frame} {meth : Method} {c : Code} {z : (Int32 × Wd)} {H : Heap} {locs : List Loc} {ls : Array Slot} {w : Wd} {v0 : Nat} {v1 : Int32} {v2 : Nat} {v3 : Int32} {v4 : Nat} {v5 : Int32} {v6 : Int32} (C : CX D B Y p s m args meth c cX5_statesBehind 7 RX5 (some .int))   (k_v0 : KD v0 = 5) (k_v2 : KD v2 = 7) (k_v4 : KD v4 = 9)  (hH : HS D B Y w s H locs) (hl : lv_has ls 7 [(0, .ref (B + v0)), (1, .int v1), (2, .ref (B + v2)), (3, .int v3), (4, .ref (B + v4)), (5, .int v5), (6, .int v6)]) (hf : f_X5_statesBehind_17 v0 v1 v2 v3 v4 v5 v6 w = some z) : W p l e (RM 4 0 0) s m args below meth c H locs 0 0 (MQ below (QG D B Y (some (.int z.1)) z.2 True) args s 0 0 (AB B)) (F0 m 17 ls []) := by
  exact loopN_ind (z := z) (body := fun rc σ => g_X5_statesBehind_17 rc  σ.1 σ.2.1 σ.2.2.1 σ.2.2.2.1 σ.2.2.2.2.1 σ.2.2.2.2.2.1 σ.2.2.2.2.2.2.1 σ.2.2.2.2.2.2.2)
    (P := fun σ => KD σ.1 = 5 → KD σ.2.2.1 = 7 → KD σ.2.2.2.2.1 = 9 → ∀ (H : Heap) (locs : List Loc) (ls : Array Slot), HS D B Y σ.2.2.2.2.2.2.2 s H locs → lv_has ls 7 [(0, .ref (B + σ.1)), (1, .int σ.2.1), (2, .ref (B + σ.2.2.1)), (3, .int σ.2.2.2.1), (4, .ref (B + σ.2.2.2.2.1)), (5, .int σ.2.2.2.2.2.1), (6, .int σ.2.2.2.2.2.2.1)] → W p l e (RM 4 0 0) s m args below meth c H locs 0 0 (MQ below (QG D B Y (some (.int z.1)) z.2 True) args s 0 0 (AB B)) (F0 m 17 ls []))
    (fun rc hrec σ hf k_v0 k_v2 k_v4 H locs ls hH hl => tb_X5_statesBehind_17 C (fun v0 v1 v2 v3 v4 v5 v6 w hr k_v0 k_v2 k_v4 H locs ls hH hl => hrec (v0, v1, v2, v3, v4, v5, v6, w) hr k_v0 k_v2 k_v4 H locs ls hH hl)  k_v0 k_v2 k_v4 hH hl hf) FU (v0, v1, v2, v3, v4, v5, v6, w) hf k_v0 k_v2 k_v4 H locs ls hH hl
set_option maxRecDepth 100000 in
set_option maxHeartbeats 4000000 in
theorem t_X5_statesBehind_0 {D : va_G} {B : Nat} {Y : Nat → ClassId} {p : Program} {l : Launch} {e : Env} {s : State} {m : MethodId} {args : Array Value} {below : List Frame} {meth : Method} {c : Code} {z : (Int32 × Wd)} {H : Heap} {locs : List Loc} {ls : Array Slot} {w : Wd} {v0 : Nat} {v1 : Int32} {v2 : Nat} {v3 : Int32} {v4 : Nat} (C : CX D B Y p s m args meth c cX5_statesBehind 7 RX5 (some .int))   (k_v0 : KD v0 = 5) (k_v2 : KD v2 = 7) (k_v4 : KD v4 = 9)  (hH : HS D B Y w s H locs) (hl : lv_has ls 7 [(0, .ref (B + v0)), (1, .int v1), (2, .ref (B + v2)), (3, .int v3), (4, .ref (B + v4))]) (hf : f_X5_statesBehind v0 v1 v2 v3 v4 w = some z) : W p l e (RM 4 0 0) s m args below meth c H locs 0 0 (MQ below (QG D B Y (some (.int z.1)) z.2 True) args s 0 0 (AB B)) (F0 m 0 ls []) := by
  have hx := C.1
  have hb := C.2.1
  unfold f_X5_statesBehind at hf
  refine lv_iconst (v := (0 : Int32)) hx hb dX5_statesBehind_0 (by decide) ?_
  refine lv_istore (lv' := [(5, .int (0 : Int32)), (0, .ref (B + v0)), (1, .int v1), (2, .ref (B + v2)), (3, .int v3), (4, .ref (B + v4))]) hx hb dX5_statesBehind_1 hl (by decide) rfl (fun ls hl => ?_)
  refine lv_iload_n hx hb dX5_statesBehind_3 rfl (lv_at hl 4 rfl) ?_
  refine lv_aload_n hx hb dX5_statesBehind_4 rfl (lv_at hl 3 rfl) ?_
  obtain ⟨x2, w1, hc, hf⟩ := bd_some hf
  refine q_callV1 (v := .int x2) (As := []) C hH (ci := 7) rfl (by omega) gk_X5_29 yd_X7_size (by omega) (by omega) k_v2 (c_X7_size k_v2 hc) hl.1 rfl (Nat.le_of_ble_eq_true rfl) dX5_statesBehind_5 xv_00 (fun H locs hH hP => ?_)
  refine b_icmp_lt (tgt := 14) hx hb hf dX5_statesBehind_8 (by decide) (fun hf => ?_) (fun hf => ?_)
  · refine lv_iconst (v := (0 : Int32)) hx hb dX5_statesBehind_14 (by decide) ?_
    refine lv_istore (lv' := [(6, .int (0 : Int32)), (5, .int (0 : Int32)), (0, .ref (B + v0)), (1, .int v1), (2, .ref (B + v2)), (3, .int v3), (4, .ref (B + v4))]) hx hb dX5_statesBehind_15 hl (by decide) rfl (fun ls hl => ?_)
    exact t_X5_statesBehind_17 C k_v0 k_v2 k_v4 hH (lv_sub hl [2, 3, 4, 5, 6, 1, 0] rfl) hf
  · refine lv_iload hx hb dX5_statesBehind_11 (lv_at hl 0 rfl) ?_
    cases hf
    exact q_reti C hH trivial dX5_statesBehind_13
set_option maxRecDepth 100000 in
theorem c_X5_statesBehind {l : Launch} {D : va_G} {B : Nat} {Y : Nat → ClassId} {v0 : Nat} {v1 : Int32} {v2 : Nat} {v3 : Int32} {v4 : Nat} {w : Wd} {r : Int32} {w1 : Wd} (k_v0 : KD v0 = 5) (k_v2 : KD v2 = 7) (k_v4 : KD v4 = 9)  (hf : f_X5_statesBehind v0 v1 v2 v3 v4 w = some (r, w1)) : CM l D B Y yX5_statesBehind cX5_statesBehind 7 (some .int) 4 [.ref (B + v0), .int v1, .ref (B + v2), .int v3, .ref (B + v4)] w (some (.int r)) w1 True :=
  CM_of (by decide +kernel) (Nat.le_of_ble_eq_true rfl) (fun p e s m args below meth c ls C hH hl => t_X5_statesBehind_0 C k_v0 k_v2 k_v4 hH (lv_sub hl [0, 1, 2, 3, 4] rfl) hf)
/-! LetterTables$Pattern.endFrom -/
set_option maxRecDepth 100000 in
set_option maxHeartbeats 4000000 in
theorem t_X5_endFrom_54 {D : va_G} {B : Nat} {Y : Nat → ClassId} {p : Program} {l : Launch} {e : Env} {s : State} {m : MethodId} {args : Array Value} {below : List Frame} {meth : Method} {c : Code} {z : (Int32 × Wd)} {H : Heap} {locs : List Loc} {ls : Array Slot} {w : Wd} {v0 : Nat} {v1 : Nat} {v3 : Nat} {v4 : Int32} {v5 : Int32} {v6 : Int32} (C : CX D B Y p s m args meth c cX5_endFrom 7 RX5 (some .int))  {rc_21 : Nat × Nat × Nat × Int32 × Int32 × Int32 × Wd → Option (Int32 × Wd)} (hr_21 : ∀ (v0 : Nat) (v1 : Nat) (v3 : Nat) (v4 : Int32) (v5 : Int32) (v6 : Int32) (w : Wd), rc_21 (v0, v1, v3, v4, v5, v6, w) = some z → KD v0 = 5 → KD v1 = 7 → KD v3 = 9 → ∀ (H : Heap) (locs : List Loc) (ls : Array Slot), HS D B Y w s H locs → lv_has ls 7 [(0, .ref (B + v0)), (1, .ref (B + v1)), (3, .ref (B + v3)), (4, .int v4), (5, .int v5), (6, .int v6)] → W p l e (RM 5 0 0) s m args below meth c H locs 0 0 (MQ below (QG D B Y (some (.int z.1)) z.2 True) args s 0 0 (AB B)) (F0 m 21 ls []))  (k_v0 : KD v0 = 5) (k_v1 : KD v1 = 7) (k_v3 : KD v3 = 9)  (hH : HS D B Y w s H locs) (hl : lv_has ls 7 [(0, .ref (B + v0)), (1, .ref (B + v1)), (3, .ref (B + v3)), (4, .int v4), (5, .int v5), (6, .int v6)]) (hf : f_X5_endFrom_54 rc_21 v0 v1 v3 v4 v5 v6 w = some z) : W p l e (RM 5 0 0) s m args below meth c H locs 0 0 (MQ below (QG D B Y (some (.int z.1)) z.2 True) args s 0 0 (AB B)) (F0 m 54 ls []) := by
  have hx := C.1
  have hb := C.2.1
  unfold f_X5_endFrom_54 at hf
  refine lv_aload_n hx hb dX5_endFrom_54 rfl (lv_at hl 0 rfl) ?_
  refine lv_aload_n hx hb dX5_endFrom_55 rfl (lv_at hl 0 rfl) ?_
  refine lv_iload hx hb dX5_endFrom_56 (lv_at hl 4 rfl) ?_
  refine lv_aload_n hx hb dX5_endFrom_58 rfl (lv_at hl 1 rfl) ?_
  refine lv_iload hx hb dX5_endFrom_59 (lv_at hl 5 rfl) ?_
  refine lv_aload_n hx hb dX5_endFrom_61 rfl (lv_at hl 2 rfl) ?_
  obtain ⟨x2, w1, hc, hf⟩ := bd_some hf
  refine q_callV1 (v := .int x2) (As := [.int v5, .ref (B + v1), .int v6, .ref (B + v3)]) C hH (ci := 5) rfl (by omega) gk_X5_78 yd_X5_statesBehind (by omega) (by omega) k_v0 (c_X5_statesBehind k_v0 k_v1 k_v3 hc) hl.1 rfl (Nat.le_of_ble_eq_true rfl) dX5_endFrom_62 xv_00 (fun H locs hH hP => ?_)
  obtain ⟨x4, w3, hc, hf⟩ := bd_some hf
  refine q_callV1 (v := .int x4) (As := [.int x2]) C hH (ci := 5) rfl (by omega) gk_X5_75 yd_X5_withSkips (by omega) (by omega) k_v0 (c_X5_withSkips k_v0 hc) hl.1 rfl (Nat.le_of_ble_eq_true rfl) dX5_endFrom_65 xv_00 (fun H locs hH hP => ?_)
  refine lv_istore (lv' := [(5, .int x4), (0, .ref (B + v0)), (1, .ref (B + v1)), (3, .ref (B + v3)), (4, .int v4), (6, .int v6)]) hx hb dX5_endFrom_68 hl (by decide) rfl (fun ls hl => ?_)
  refine b_let hf (fun x5 he hf => ?_)
  refine lv_iinc (v := x5) (lv' := [(6, .int x5), (5, .int x4), (0, .ref (B + v0)), (1, .ref (B + v1)), (3, .ref (B + v3)), (4, .int v4)]) hx hb dX5_endFrom_70 hl (k := 5) rfl (by rw [← he]; rfl) (by decide) rfl (fun ls hl => ?_)
  refine lv_goto (tgt := 21) hx hb dX5_endFrom_73 (by decide) ?_
  exact hr_21 v0 v1 v3 v4 x4 x5 w3 hf k_v0 k_v1 k_v3 _ _ _ hH (lv_sub hl [2, 3, 4, 5, 1, 0] rfl)
set_option maxRecDepth 100000 in
set_option maxHeartbeats 4000000 in
theorem tb_X5_endFrom_21 {D : va_G} {B : Nat} {Y : Nat → ClassId} {p : Program} {l : Launch} {e : Env} {s : State} {m : MethodId} {args : Array Value} {below : List Frame} {meth : Method} {c : Code} {z : (Int32 × Wd)} {H : Heap} {locs : List Loc} {ls : Array Slot} {w : Wd} {v0 : Nat} {v1 : Nat} {v3 : Nat} {v4 : Int32} {v5 : Int32} {v6 : Int32} (C : CX D B Y p s m args meth c cX5_endFrom 7 RX5 (some .int))  {rc_21 : Nat × Nat × Nat × Int32 × Int32 × Int32 × Wd → Option (Int32 × Wd)} (hr_21 : ∀ (v0 : Nat) (v1 : Nat) (v3 : Nat) (v4 : Int32) (v5 : Int32) (v6 : Int32) (w : Wd), rc_21 (v0, v1, v3, v4, v5, v6, w) = some z → KD v0 = 5 → KD v1 = 7 → KD v3 = 9 → ∀ (H : Heap) (locs : List Loc) (ls : Array Slot), HS D B Y w s H locs → lv_has ls 7 [(0, .ref (B + v0)), (1, .ref (B + v1)), (3, .ref (B + v3)), (4, .int v4), (5, .int v5), (6, .int v6)] → W p l e (RM 5 0 0) s m args below meth c H locs 0 0 (MQ below (QG D B Y (some (.int z.1)) z.2 True) args s 0 0 (AB B)) (F0 m 21 ls []))  (k_v0 : KD v0 = 5) (k_v1 : KD v1 = 7) (k_v3 : KD v3 = 9)  (hH : HS D B Y w s H locs) (hl : lv_has ls 7 [(0, .ref (B + v0)), (1, .ref (B + v1)), (3, .ref (B + v3)), (4, .int v4), (5, .int v5), (6, .int v6)]) (hf : g_X5_endFrom_21 rc_21 v0 v1 v3 v4 v5 v6 w = some z) : W p l e (RM 5 0 0) s m args below meth c H locs 0 0 (MQ below (QG D B Y (some (.int z.1)) z.2 True) args s 0 0 (AB B)) (F0 m 21 ls []) := by
  have hx := C.1
  have hb := C.2.1
  unfold g_X5_endFrom_21 at hf
  refine lv_iload hx hb dX5_endFrom_21 (lv_at hl 5 rfl) ?_
  refine lv_aload_n hx hb dX5_endFrom_23 rfl (lv_at hl 1 rfl) ?_
  obtain ⟨x2, w1, hc, hf⟩ := bd_some hf
  refine q_callV1 (v := .int x2) (As := []) C hH (ci := 7) rfl (by omega) gk_X5_29 yd_X7_size (by omega) (by omega) k_v1 (c_X7_size k_v1 hc) hl.1 rfl (Nat.le_of_ble_eq_true rfl) dX5_endFrom_24 xv_00 (fun H locs hH hP => ?_)
  refine b_icmp_gt (tgt := 76) hx hb hf dX5_endFrom_27 (by decide) (fun hf => ?_) (fun hf => ?_)
  · refine lv_iload hx hb dX5_endFrom_76 (lv_at hl 3 rfl) ?_
    cases hf
    exact q_reti C hH trivial dX5_endFrom_78
  · refine lv_iload hx hb dX5_endFrom_30 (lv_at hl 4 rfl) ?_
    refine b_if_eq (tgt := 76) hx hb hf dX5_endFrom_32 (by decide) (fun hf => ?_) (fun hf => ?_)
    · refine lv_iload hx hb dX5_endFrom_76 (lv_at hl 3 rfl) ?_
      cases hf
      exact q_reti C hH trivial dX5_endFrom_78
    · refine lv_iload hx hb dX5_endFrom_35 (lv_at hl 4 rfl) ?_
      refine lv_aload_n hx hb dX5_endFrom_37 rfl (lv_at hl 0 rfl) ?_
      refine fg_X5_20 C hH k_v0 dX5_endFrom_38 ?_
      obtain ⟨x4, w3, hc, hf⟩ := bd_some hf
      refine q_callV1 (v := .int x4) (As := []) C hH (ci := 7) rfl (by omega) gk_X5_29 yd_X7_size (by omega) (by omega) (ko_5_1 k_v0) (c_X7_size (ko_5_1 k_v0) hc) hl.1 rfl (Nat.le_of_ble_eq_true rfl) dX5_endFrom_41 xv_00 (fun H locs hH hP => ?_)
      refine lv_iushr (v := (v5.toUInt32 >>> (x4.toUInt32 &&& Int32.toUInt32 31)).toInt32) hx hb dX5_endFrom_44 rfl ?_
      refine lv_iconst (v := (1 : Int32)) hx hb dX5_endFrom_45 (by decide) ?_
      refine lv_iand hx hb dX5_endFrom_46 ?_
      refine b_if_eq (tgt := 54) hx hb hf dX5_endFrom_47 (by decide) (fun hf => ?_) (fun hf => ?_)
      · exact t_X5_endFrom_54 C hr_21 k_v0 k_v1 k_v3 hH (lv_sub hl [0, 1, 2, 3, 4, 5] rfl) hf
      · refine lv_iload hx hb dX5_endFrom_50 (lv_at hl 5 rfl) ?_
        refine lv_istore (lv' := [(4, .int v6), (0, .ref (B + v0)), (1, .ref (B + v1)), (3, .ref (B + v3)), (5, .int v5), (6, .int v6)]) hx hb dX5_endFrom_52 hl (by decide) rfl (fun ls hl => ?_)
        exact t_X5_endFrom_54 C hr_21 k_v0 k_v1 k_v3 hH (lv_sub hl [1, 2, 3, 0, 4, 5] rfl) hf
set_option maxRecDepth 100000 in
set_option maxHeartbeats 4000000 in
theorem t_X5_endFrom_21 {D : va_G} {B : Nat} {Y : Nat → ClassId} {p : Program} {l : Launch} {e : Env} {s : State} {m : MethodId} {args : Array Value} {below : List Frame} {meth : Method} {c : Code} {z : (Int32 × Wd)} {H : Heap} {locs : List Loc} {ls : Array Slot} {w : Wd} {v0 : Nat} {v1 : Nat} {v3 : Nat} {v4 : Int32} {v5 : Int32} {v6 : Int32} (C : CX D B Y p s m args meth c cX5_endFrom 7 RX5 (some .int))   (k_v0 : KD v0 = 5) (k_v1 : KD v1 = 7) (k_v3 : KD v3 = 9)  (hH : HS D B Y w s H locs) (hl : lv_has ls 7 [(0, .ref (B + v0)), (1, .ref (B + v1)), (3, .ref (B + v3)), (4, .int v4), (5, .int v5), (6, .int v6)]) (hf : f_X5_endFrom_21 v0 v1 v3 v4 v5 v6 w = some z) : W p l e (RM 5 0 0) s m args below meth c H locs 0 0 (MQ below (QG D B Y (some (.int z.1)) z.2 True) args s 0 0 (AB B)) (F0 m 21 ls []) := by
  exact loopN_ind (z := z) (body := fun rc σ => g_X5_endFrom_21 rc  σ.1 σ.2.1 σ.2.2.1 σ.2.2.2.1 σ.2.2.2.2.1 σ.2.2.2.2.2.1 σ.2.2.2.2.2.2)
    (P := fun σ => KD σ.1 = 5 → KD σ.2.1 = 7 → KD σ.2.2.1 = 9 → ∀ (H : Heap) (locs : List Loc) (ls : Array Slot), HS D B Y σ.2.2.2.2.2.2 s H locs → lv_has ls 7 [(0, .ref (B + σ.1)), (1, .ref (B + σ.2.1)), (3, .ref (B + σ.2.2.1)), (4, .int σ.2.2.2.1), (5, .int σ.2.2.2.2.1), (6, .int σ.2.2.2.2.2.1)] → W p l e (RM 5 0 0) s m args below meth c H locs 0 0 (MQ below (QG D B Y (some (.int z.1)) z.2 True) args s 0 0 (AB B)) (F0 m 21 ls []))
    (fun rc hrec σ hf k_v0 k_v1 k_v3 H locs ls hH hl => tb_X5_endFrom_21 C (fun v0 v1 v3 v4 v5 v6 w hr k_v0 k_v1 k_v3 H locs ls hH hl => hrec (v0, v1, v3, v4, v5, v6, w) hr k_v0 k_v1 k_v3 H locs ls hH hl)  k_v0 k_v1 k_v3 hH hl hf) FU (v0, v1, v3, v4, v5, v6, w) hf k_v0 k_v1 k_v3 H locs ls hH hl
set_option maxRecDepth 100000 in
set_option maxHeartbeats 4000000 in
theorem t_X5_endFrom_0 {D : va_G} {B : Nat} {Y : Nat → ClassId} {p : Program} {l : Launch} {e : Env} {s : State} {m : MethodId} {args : Array Value} {below : List Frame} {meth : Method} {c : Code} {z : (Int32 × Wd)} {H : Heap} {locs : List Loc} {ls : Array Slot} {w : Wd} {v0 : Nat} {v1 : Nat} {v2 : Int32} {v3 : Nat} (C : CX D B Y p s m args meth c cX5_endFrom 7 RX5 (some .int))   (k_v0 : KD v0 = 5) (k_v1 : KD v1 = 7) (k_v3 : KD v3 = 9)  (hH : HS D B Y w s H locs) (hl : lv_has ls 7 [(0, .ref (B + v0)), (1, .ref (B + v1)), (2, .int v2), (3, .ref (B + v3))]) (hf : f_X5_endFrom v0 v1 v2 v3 w = some z) : W p l e (RM 5 0 0) s m args below meth c H locs 0 0 (MQ below (QG D B Y (some (.int z.1)) z.2 True) args s 0 0 (AB B)) (F0 m 0 ls []) := by
  have hx := C.1
  have hb := C.2.1
  unfold f_X5_endFrom at hf
  refine lv_aload_n hx hb dX5_endFrom_0 rfl (lv_at hl 3 rfl) ?_
  refine lv_aload_n hx hb dX5_endFrom_1 rfl (lv_at hl 0 rfl) ?_
  refine fg_X5_26 C hH k_v0 dX5_endFrom_2 ?_
  obtain ⟨u, w1, hc, hf⟩ := bd_some hf
  refine q_callV0 (As := [.ref (B + (v0 + 7))]) C hH (ci := 9) rfl (by omega) gk_X5_69 yd_X9_capitalsInto (by omega) (by omega) k_v3 (c_X9_capitalsInto k_v3 (ko_5_3 k_v0) hc) hl.1 rfl (Nat.le_of_ble_eq_true rfl) dX5_endFrom_5 xv_00 (fun H locs hH hP => ?_)
  refine lv_iconst (v := (-1 : Int32)) hx hb dX5_endFrom_8 (by decide) ?_
  refine lv_istore (lv' := [(4, .int (-1 : Int32)), (0, .ref (B + v0)), (1, .ref (B + v1)), (2, .int v2), (3, .ref (B + v3))]) hx hb dX5_endFrom_9 hl (by decide) rfl (fun ls hl => ?_)
  refine lv_aload_n hx hb dX5_endFrom_11 rfl (lv_at hl 1 rfl) ?_
  refine lv_iconst (v := (1 : Int32)) hx hb dX5_endFrom_12 (by decide) ?_
  obtain ⟨x3, w2, hc, hf⟩ := bd_some hf
  refine q_callV1 (v := .int x3) (As := [.int (1 : Int32)]) C hH (ci := 5) rfl (by omega) gk_X5_75 yd_X5_withSkips (by omega) (by omega) k_v0 (c_X5_withSkips k_v0 hc) hl.1 rfl (Nat.le_of_ble_eq_true rfl) dX5_endFrom_13 xv_00 (fun H locs hH hP => ?_)
  refine lv_istore (lv' := [(5, .int x3), (4, .int (-1 : Int32)), (0, .ref (B + v0)), (1, .ref (B + v1)), (2, .int v2), (3, .ref (B + v3))]) hx hb dX5_endFrom_16 hl (by decide) rfl (fun ls hl => ?_)
  refine lv_iload_n hx hb dX5_endFrom_18 rfl (lv_at hl 4 rfl) ?_
  refine lv_istore (lv' := [(6, .int v2), (5, .int x3), (4, .int (-1 : Int32)), (0, .ref (B + v0)), (1, .ref (B + v1)), (2, .int v2), (3, .ref (B + v3))]) hx hb dX5_endFrom_19 hl (by decide) rfl (fun ls hl => ?_)
  exact t_X5_endFrom_21 C k_v0 k_v1 k_v3 hH (lv_sub hl [3, 4, 6, 2, 1, 0] rfl) hf
set_option maxRecDepth 100000 in
theorem c_X5_endFrom {l : Launch} {D : va_G} {B : Nat} {Y : Nat → ClassId} {v0 : Nat} {v1 : Nat} {v2 : Int32} {v3 : Nat} {w : Wd} {r : Int32} {w1 : Wd} (k_v0 : KD v0 = 5) (k_v1 : KD v1 = 7) (k_v3 : KD v3 = 9)  (hf : f_X5_endFrom v0 v1 v2 v3 w = some (r, w1)) : CM l D B Y yX5_endFrom cX5_endFrom 7 (some .int) 5 [.ref (B + v0), .ref (B + v1), .int v2, .ref (B + v3)] w (some (.int r)) w1 True :=
  CM_of (by decide +kernel) (Nat.le_of_ble_eq_true rfl) (fun p e s m args below meth c ls C hH hl => t_X5_endFrom_0 C k_v0 k_v1 k_v3 hH (lv_sub hl [0, 1, 2, 3] rfl) hf)
/-! LetterTables.match -/
set_option maxRecDepth 100000 in
set_option maxHeartbeats 4000000 in
theorem t_X10_match_0 {D : va_G} {B : Nat} {Y : Nat → ClassId} {p : Program} {l : Launch} {e : Env} {s : State} {m : MethodId} {args : Array Value} {below : List Frame} {meth : Method} {c : Code} {z : ((Nat ⊕ Int32) × Wd)} {H : Heap} {locs : List Loc} {ls : Array Slot} {w : Wd} {v1 : Int32} {v2 : Int32} (C : CX D B Y p s m args meth c cX10_match 4 RX10 (some .int)) (hxt : ∀ x ∈ c.exceptionTable.toList, False) (htr : l.stackTraces = false)     (hH : HS D B Y w s H locs) (hl : lv_has ls 4 [(0, .ref (B + 0)), (1, .int v1), (2, .int v2)]) (hf : f_X10_match v1 v2 w = some z) : W p l e (RM 6 (xv (zoI z.1)) (6 * xv (zoI z.1))) s m args below meth c H locs 0 0 (vx_MQ below (QX D B Y (zoI z.1) z.2 True) (XX D B Y (zoI z.1) z.2) args s (xv (zoI z.1)) (6 * xv (zoI z.1)) (AB B)) (F0 m 0 ls []) := by
  have hx := C.1
  have hb := C.2.1
  unfold f_X10_match at hf
  refine lv_aload_n hx hb dX10_match_0 rfl (lv_at hl 0 rfl) ?_
  refine lv_iload_n hx hb dX10_match_1 rfl (lv_at hl 1 rfl) ?_
  rcases bdx_some hf with ⟨k, w1, hc, rfl⟩ | ⟨r2, w1, hc, hf⟩
  · exact q_xrunX (k0 := k) (q_xV (As := [.int v1]) C hH (ci := 10) rfl (by omega) gk_X10_194 yd_X10_textOf (by omega) (by omega) kc_0 (c_X10_textOf (r := .inl k) htr hc) hl.1 rfl (Nat.le_of_ble_eq_true rfl) dX10_match_2 (xv_le rfl)) hH (fun H locs ce q hH h1 h2 h3 => q_out C hH hxt h1 h2 h3 (xv_1 rfl) (xv_6 rfl))
  refine q_xrun (ov := some (.ref (B + r2))) (q_xV (As := [.int v1]) C hH (ci := 10) rfl (by omega) gk_X10_194 yd_X10_textOf (by omega) (by omega) kc_0 (c_X10_textOf (r := .inr r2) htr hc) hl.1 rfl (Nat.le_of_ble_eq_true rfl) dX10_match_2 (xv_0 rfl xv_00)) hH (fun H locs hH k_r2 => ?_)
  refine lv_astore_n (lv' := [(3, .ref (B + r2)), (0, .ref (B + 0)), (1, .int v1), (2, .int v2)]) hx hb dX10_match_5 rfl hl (by decide) rfl (fun ls hl => ?_)
  refine lv_iload_n hx hb dX10_match_6 rfl (lv_at hl 3 rfl) ?_
  refine lv_aload_n hx hb dX10_match_7 rfl (lv_at hl 0 rfl) ?_
  obtain ⟨x4, w3, hc, hf⟩ := bd_some hf
  refine q_callV1 (v := .int x4) (As := []) C hH (ci := 7) rfl (by omega) gk_X10_107 yd_X7_size (by omega) (by omega) k_r2 (c_X7_size k_r2 hc) hl.1 rfl (Nat.le_of_ble_eq_true rfl) dX10_match_8 xv_00 (fun H locs hH hP => ?_)
  refine lv_iconst (v := (1 : Int32)) hx hb dX10_match_11 (by decide) ?_
  refine lv_iadd hx hb dX10_match_12 ?_
  rcases bdx_some hf with ⟨k, w5, hc, rfl⟩ | ⟨u, w5, hc, hf⟩
  · exact q_xrunX (k0 := k) (q_xS (As := [.int v2, .int (x4 + (1 : Int32))]) C hH gk_X10_240 yd_X10_checkPlace (by omega) (by omega) (c_X10_checkPlace (r := .inl k) htr hc) hl.1 rfl (Nat.le_of_ble_eq_true rfl) dX10_match_13 (xv_le rfl)) hH (fun H locs ce q hH h1 h2 h3 => q_out C hH hxt h1 h2 h3 (xv_1 rfl) (xv_6 rfl))
  refine q_xrun (ov := none) (q_xS (As := [.int v2, .int (x4 + (1 : Int32))]) C hH gk_X10_240 yd_X10_checkPlace (by omega) (by omega) (c_X10_checkPlace (r := .inr u) htr hc) hl.1 rfl (Nat.le_of_ble_eq_true rfl) dX10_match_13 (xv_0 rfl xv_00)) hH (fun H locs hH hP => ?_)
  refine lv_aload_n hx hb dX10_match_16 rfl (lv_at hl 1 rfl) ?_
  refine fg_X10_319 C hH dX10_match_17 ?_
  refine b_if_ne (tgt := 34) hx hb hf dX10_match_20 (by decide) (fun hf => ?_) (fun hf => ?_)
  · refine lv_aload_n hx hb dX10_match_34 rfl (lv_at hl 1 rfl) ?_
    have kt_35 := hH.2.2.1
    refine fg_X10_62 C hH dX10_match_35 ?_
    refine lv_aload_n hx hb dX10_match_38 rfl (lv_at hl 0 rfl) ?_
    refine lv_iload_n hx hb dX10_match_39 rfl (lv_at hl 3 rfl) ?_
    refine lv_aload_n hx hb dX10_match_40 rfl (lv_at hl 1 rfl) ?_
    refine fg_X10_12 C hH dX10_match_41 ?_
    obtain ⟨x7, w6, hc, hf⟩ := bd_some hf
    refine q_callV1 (v := .int x7) (As := [.ref (B + r2), .int v2, .ref (B + 1)]) C hH (ci := 5) rfl (by omega) gk_X10_326 yd_X5_endFrom (by omega) (by omega) kt_35 (c_X5_endFrom kt_35 k_r2 kc_1 hc) hl.1 rfl (Nat.le_of_ble_eq_true rfl) dX10_match_44 xv_00 (fun H locs hH hP => ?_)
    cases hf
    exact q_x0 rfl (q_reti C hH trivial dX10_match_47)
  · cases hf
    exact q_throwW C hH hxt htr (Or.inr (Or.inr rfl)) wd_574 wd_66 wd_584 (List.mem_of_getElem? (i := 13) rfl) hl.1 dX10_match_23 dX10_match_26 dX10_match_27 dX10_match_30 dX10_match_33 (Nat.le_of_ble_eq_true rfl) (xv_1 rfl) (xv_6 rfl)
set_option maxRecDepth 100000 in
theorem c_X10_match {l : Launch} {D : va_G} {B : Nat} {Y : Nat → ClassId} {v1 : Int32} {v2 : Int32} {w : Wd} {r : (Nat ⊕ Int32)} {w1 : Wd} (htr : l.stackTraces = false)   (hf : f_X10_match v1 v2 w = some (r, w1)) : XM l D B Y yX10_match cX10_match 4 (some .int) 6 [.ref (B + 0), .int v1, .int v2] w (zoI r) w1 True :=
  XM_of (by decide +kernel) (Nat.le_of_ble_eq_true rfl) (fun p e s m args below meth c ls C hxt hH hl => t_X10_match_0 C hxt htr  hH (lv_sub hl [0, 1, 2] rfl) hf)
/-! LetterTables$Rule.sourceOf -/
set_option maxRecDepth 100000 in
set_option maxHeartbeats 4000000 in
theorem t_X8_sourceOf_0 {D : va_G} {B : Nat} {Y : Nat → ClassId} {p : Program} {l : Launch} {e : Env} {s : State} {m : MethodId} {args : Array Value} {below : List Frame} {meth : Method} {c : Code} {z : (Nat × Wd)} {H : Heap} {locs : List Loc} {ls : Array Slot} {w : Wd} {v0 : Nat} {v1 : Int32} (C : CX D B Y p s m args meth c cX8_sourceOf 2 RX8 (some (.object "LetterTables$Row")))   (k_v0 : KD v0 = 8) (z_v1 : isZ v1) (hH : HS D B Y w s H locs) (hl : lv_has ls 2 [(0, .ref (B + v0)), (1, .int v1)]) (hf : f_X8_sourceOf v0 v1 w = some z) : W p l e (RM 0 0 0) s m args below meth c H locs 0 0 (MQ below (QG D B Y (some (.ref (B + z.1))) z.2 (KD z.1 = 7)) args s 0 0 (AB B)) (F0 m 0 ls []) := by
  have hx := C.1
  have hb := C.2.1
  unfold f_X8_sourceOf at hf
  refine lv_iload_n hx hb dX8_sourceOf_0 rfl (lv_at hl 1 rfl) ?_
  refine b_if_eq (tgt := 11) hx hb hf dX8_sourceOf_1 (by decide) (fun hf => ?_) (fun hf => ?_)
  · refine lv_aload_n hx hb dX8_sourceOf_11 rfl (lv_at hl 0 rfl) ?_
    refine fg_X8_20 C hH k_v0 dX8_sourceOf_12 ?_
    cases hf
    exact q_retr C hH (ko_8_2 k_v0) dX8_sourceOf_15
  · refine lv_aload_n hx hb dX8_sourceOf_4 rfl (lv_at hl 0 rfl) ?_
    refine fg_X8_26 C hH k_v0 dX8_sourceOf_5 ?_
    refine lv_goto (tgt := 15) hx hb dX8_sourceOf_8 (by decide) ?_
    cases hf
    exact q_retr C hH (ko_8_4 k_v0) dX8_sourceOf_15
set_option maxRecDepth 100000 in
theorem c_X8_sourceOf {l : Launch} {D : va_G} {B : Nat} {Y : Nat → ClassId} {v0 : Nat} {v1 : Int32} {w : Wd} {r : Nat} {w1 : Wd} (k_v0 : KD v0 = 8) (z_v1 : isZ v1) (hf : f_X8_sourceOf v0 v1 w = some (r, w1)) : CM l D B Y yX8_sourceOf cX8_sourceOf 2 (some (.object "LetterTables$Row")) 0 [.ref (B + v0), .int v1] w (some (.ref (B + r))) w1 (KD r = 7) :=
  CM_of (by decide +kernel) (Nat.le_of_ble_eq_true rfl) (fun p e s m args below meth c ls C hH hl => t_X8_sourceOf_0 C k_v0 z_v1 hH (lv_sub hl [0, 1] rfl) hf)
/-! LetterTables$Rule.fits -/
set_option maxRecDepth 100000 in
set_option maxHeartbeats 4000000 in
theorem t_X8_fits_0 {D : va_G} {B : Nat} {Y : Nat → ClassId} {p : Program} {l : Launch} {e : Env} {s : State} {m : MethodId} {args : Array Value} {below : List Frame} {meth : Method} {c : Code} {z : (Int32 × Wd)} {H : Heap} {locs : List Loc} {ls : Array Slot} {w : Wd} {v0 : Nat} {v1 : Int32} {v2 : Int32} {v3 : Nat} {v4 : Int32} {v5 : Nat} (C : CX D B Y p s m args meth c cX8_fits 7 RX8 (some .boolean))   (k_v0 : KD v0 = 8) (k_v3 : KD v3 = 7) (k_v5 : KD v5 = 7) (z_v2 : isZ v2) (hH : HS D B Y w s H locs) (hl : lv_has ls 7 [(0, .ref (B + v0)), (1, .int v1), (2, .int v2), (3, .ref (B + v3)), (4, .int v4), (5, .ref (B + v5))]) (hf : f_X8_fits v0 v1 v2 v3 v4 v5 w = some z) : W p l e (RM 2 0 0) s m args below meth c H locs 0 0 (MQ below (QG D B Y (some (.int z.1)) z.2 (isZ z.1)) args s 0 0 (AB B)) (F0 m 0 ls []) := by
  have hx := C.1
  have hb := C.2.1
  unfold f_X8_fits at hf
  refine lv_aload_n hx hb dX8_fits_0 rfl (lv_at hl 0 rfl) ?_
  refine lv_iload_n hx hb dX8_fits_1 rfl (lv_at hl 2 rfl) ?_
  obtain ⟨r2, w1, hc, hf⟩ := bd_some hf
  refine q_callV1 (v := .ref (B + r2)) (As := [.int v2]) C hH (ci := 8) rfl (by omega) gk_X8_41 yd_X8_sourceOf (by omega) (by omega) k_v0 (c_X8_sourceOf k_v0 z_v2 hc) hl.1 rfl (Nat.le_of_ble_eq_true rfl) dX8_fits_2 xv_00 (fun H locs hH k_r2 => ?_)
  refine lv_astore (lv' := [(6, .ref (B + r2)), (0, .ref (B + v0)), (1, .int v1), (2, .int v2), (3, .ref (B + v3)), (4, .int v4), (5, .ref (B + v5))]) hx hb dX8_fits_5 hl (by decide) rfl (fun ls hl => ?_)
  refine lv_iload_n hx hb dX8_fits_7 rfl (lv_at hl 2 rfl) ?_
  refine lv_aload_n hx hb dX8_fits_8 rfl (lv_at hl 1 rfl) ?_
  refine fg_X8_29 C hH k_v0 dX8_fits_9 ?_
  refine b_icmp_ne (tgt := 82) hx hb hf dX8_fits_12 (by decide) (fun hf => ?_) (fun hf => ?_)
  · refine lv_iconst (v := (0 : Int32)) hx hb dX8_fits_82 (by decide) ?_
    cases hf
    exact q_retz C hH isZ_0 isZ_0 dX8_fits_83
  · refine lv_aload hx hb dX8_fits_15 (lv_at hl 0 rfl) ?_
    obtain ⟨x4, w3, hc, hf⟩ := bd_some hf
    refine q_callV1 (v := .int x4) (As := []) C hH (ci := 7) rfl (by omega) gk_X8_45 yd_X7_size (by omega) (by omega) k_r2 (c_X7_size k_r2 hc) hl.1 rfl (Nat.le_of_ble_eq_true rfl) dX8_fits_17 xv_00 (fun H locs hH hP => ?_)
    refine b_if_le (tgt := 82) hx hb hf dX8_fits_20 (by decide) (fun hf => ?_) (fun hf => ?_)
    · refine lv_iconst (v := (0 : Int32)) hx hb dX8_fits_82 (by decide) ?_
      cases hf
      exact q_retz C hH isZ_0 isZ_0 dX8_fits_83
    · refine lv_aload_n hx hb dX8_fits_23 rfl (lv_at hl 4 rfl) ?_
      refine lv_aload hx hb dX8_fits_24 (lv_at hl 0 rfl) ?_
      refine lv_iload hx hb dX8_fits_26 (lv_at hl 5 rfl) ?_
      obtain ⟨x6, w5, hc, hf⟩ := bd_some hf
      refine q_callV1 (v := .int x6) (As := [.ref (B + r2), .int v4]) C hH (ci := 7) rfl (by omega) gk_X8_49 yd_X7_holds (by omega) (by omega) k_v3 (c_X7_holds k_v3 k_r2 hc) hl.1 rfl (Nat.le_of_ble_eq_true rfl) dX8_fits_28 xv_00 (fun H locs hH z_x6 => ?_)
      refine b_if_eq (tgt := 82) hx hb hf dX8_fits_31 (by decide) (fun hf => ?_) (fun hf => ?_)
      · refine lv_iconst (v := (0 : Int32)) hx hb dX8_fits_82 (by decide) ?_
        cases hf
        exact q_retz C hH isZ_0 isZ_0 dX8_fits_83
      · refine lv_aload hx hb dX8_fits_34 (lv_at hl 6 rfl) ?_
        refine lv_aload_n hx hb dX8_fits_36 rfl (lv_at hl 1 rfl) ?_
        refine fg_X8_14 C hH k_v0 dX8_fits_37 ?_
        refine lv_aload hx hb dX8_fits_40 (lv_at hl 6 rfl) ?_
        obtain ⟨x8, w7, hc, hf⟩ := bd_some hf
        refine q_callV1 (v := .int x8) (As := []) C hH (ci := 7) rfl (by omega) gk_X8_45 yd_X7_size (by omega) (by omega) k_v5 (c_X7_size k_v5 hc) hl.1 rfl (Nat.le_of_ble_eq_true rfl) dX8_fits_42 xv_00 (fun H locs hH hP => ?_)
        refine lv_aload_n hx hb dX8_fits_45 rfl (lv_at hl 1 rfl) ?_
        refine fg_X8_14 C hH k_v0 dX8_fits_46 ?_
        obtain ⟨x10, w9, hc, hf⟩ := bd_some hf
        refine q_callV1 (v := .int x10) (As := []) C hH (ci := 7) rfl (by omega) gk_X8_45 yd_X7_size (by omega) (by omega) (ko_8_1 k_v0) (c_X7_size (ko_8_1 k_v0) hc) hl.1 rfl (Nat.le_of_ble_eq_true rfl) dX8_fits_49 xv_00 (fun H locs hH hP => ?_)
        refine lv_isub hx hb dX8_fits_52 ?_
        obtain ⟨x12, w11, hc, hf⟩ := bd_some hf
        refine q_callV1 (v := .int x12) (As := [.ref (B + (v0 + 1)), .int (x8 - x10)]) C hH (ci := 7) rfl (by omega) gk_X8_49 yd_X7_holds (by omega) (by omega) k_v5 (c_X7_holds k_v5 (ko_8_1 k_v0) hc) hl.1 rfl (Nat.le_of_ble_eq_true rfl) dX8_fits_53 xv_00 (fun H locs hH z_x12 => ?_)
        refine b_if_eq (tgt := 82) hx hb hf dX8_fits_56 (by decide) (fun hf => ?_) (fun hf => ?_)
        · refine lv_iconst (v := (0 : Int32)) hx hb dX8_fits_82 (by decide) ?_
          cases hf
          exact q_retz C hH isZ_0 isZ_0 dX8_fits_83
        · refine lv_aload_n hx hb dX8_fits_59 rfl (lv_at hl 4 rfl) ?_
          refine lv_aload_n hx hb dX8_fits_60 rfl (lv_at hl 1 rfl) ?_
          refine fg_X8_23 C hH k_v0 dX8_fits_61 ?_
          refine lv_iload hx hb dX8_fits_64 (lv_at hl 5 rfl) ?_
          refine lv_aload hx hb dX8_fits_66 (lv_at hl 0 rfl) ?_
          obtain ⟨x14, w13, hc, hf⟩ := bd_some hf
          refine q_callV1 (v := .int x14) (As := []) C hH (ci := 7) rfl (by omega) gk_X8_45 yd_X7_size (by omega) (by omega) k_r2 (c_X7_size k_r2 hc) hl.1 rfl (Nat.le_of_ble_eq_true rfl) dX8_fits_68 xv_00 (fun H locs hH hP => ?_)
          refine lv_iadd hx hb dX8_fits_71 ?_
          obtain ⟨x16, w15, hc, hf⟩ := bd_some hf
          refine q_callV1 (v := .int x16) (As := [.ref (B + (v0 + 5)), .int (v4 + x14)]) C hH (ci := 7) rfl (by omega) gk_X8_49 yd_X7_holds (by omega) (by omega) k_v3 (c_X7_holds k_v3 (ko_8_3 k_v0) hc) hl.1 rfl (Nat.le_of_ble_eq_true rfl) dX8_fits_72 xv_00 (fun H locs hH z_x16 => ?_)
          refine b_if_eq (tgt := 82) hx hb hf dX8_fits_75 (by decide) (fun hf => ?_) (fun hf => ?_)
          · refine lv_iconst (v := (0 : Int32)) hx hb dX8_fits_82 (by decide) ?_
            cases hf
            exact q_retz C hH isZ_0 isZ_0 dX8_fits_83
          · refine lv_iconst (v := (1 : Int32)) hx hb dX8_fits_78 (by decide) ?_
            refine lv_goto (tgt := 83) hx hb dX8_fits_79 (by decide) ?_
            cases hf
            exact q_retz C hH isZ_1 isZ_1 dX8_fits_83
set_option maxRecDepth 100000 in
theorem c_X8_fits {l : Launch} {D : va_G} {B : Nat} {Y : Nat → ClassId} {v0 : Nat} {v1 : Int32} {v2 : Int32} {v3 : Nat} {v4 : Int32} {v5 : Nat} {w : Wd} {r : Int32} {w1 : Wd} (k_v0 : KD v0 = 8) (k_v3 : KD v3 = 7) (k_v5 : KD v5 = 7) (z_v2 : isZ v2) (hf : f_X8_fits v0 v1 v2 v3 v4 v5 w = some (r, w1)) : CM l D B Y yX8_fits cX8_fits 7 (some .boolean) 2 [.ref (B + v0), .int v1, .int v2, .ref (B + v3), .int v4, .ref (B + v5)] w (some (.int r)) w1 (isZ r) :=
  CM_of (by decide +kernel) (Nat.le_of_ble_eq_true rfl) (fun p e s m args below meth c ls C hH hl => t_X8_fits_0 C k_v0 k_v3 k_v5 z_v2 hH (lv_sub hl [0, 1, 2, 3, 4, 5] rfl) hf)
/-! LetterTables$Tables.fittingRule -/
set_option maxRecDepth 100000 in
set_option maxHeartbeats 4000000 in
theorem tb_X9_fittingRule_3 {D : va_G} {B : Nat} {Y : Nat → ClassId} {p : Program} {l : Launch} {e : Env} {s : State} {m : MethodId} {args : Array Value} {below : List Frame} {meth : Method} {c : Code} {z : (Option Nat × Wd)} {H : Heap} {locs : List Loc} {ls : Array Slot} {w : Wd} {v0 : Nat} {v1 : Int32} {v2 : Int32} {v3 : Nat} {v4 : Int32} {v5 : Nat} {v6 : Int32} (C : CX D B Y p s m args meth c cX9_fittingRule 7 RX9 (some (.object "LetterTables$Rule")))  {rc_3 : Nat × Int32 × Int32 × Nat × Int32 × Nat × Int32 × Wd → Option (Option Nat × Wd)} (hr_3 : ∀ (v0 : Nat) (v1 : Int32) (v2 : Int32) (v3 : Nat) (v4 : Int32) (v5 : Nat) (v6 : Int32) (w : Wd), rc_3 (v0, v1, v2, v3, v4, v5, v6, w) = some z → KD v0 = 9 → KD v3 = 7 → KD v5 = 7 → isZ v2 → ∀ (H : Heap) (locs : List Loc) (ls : Array Slot), HS D B Y w s H locs → lv_has ls 7 [(0, .ref (B + v0)), (1, .int v1), (2, .int v2), (3, .ref (B + v3)), (4, .int v4), (5, .ref (B + v5)), (6, .int v6)] → W p l e (RM 3 0 0) s m args below meth c H locs 0 0 (MQ below (QG D B Y (some (vq B z.1)) z.2 (pQ 8 z.1)) args s 0 0 (AB B)) (F0 m 3 ls []))  (k_v0 : KD v0 = 9) (k_v3 : KD v3 = 7) (k_v5 : KD v5 = 7) (z_v2 : isZ v2) (hH : HS D B Y w s H locs) (hl : lv_has ls 7 [(0, .ref (B + v0)), (1, .int v1), (2, .int v2), (3, .ref (B + v3)), (4, .int v4), (5, .ref (B + v5)), (6, .int v6)]) (hf : g_X9_fittingRule_3 rc_3 v0 v1 v2 v3 v4 v5 v6 w = some z) : W p l e (RM 3 0 0) s m args below meth c H locs 0 0 (MQ below (QG D B Y (some (vq B z.1)) z.2 (pQ 8 z.1)) args s 0 0 (AB B)) (F0 m 3 ls []) := by
  have hx := C.1
  have hb := C.2.1
  unfold g_X9_fittingRule_3 at hf
  refine lv_iload hx hb dX9_fittingRule_3 (lv_at hl 6 rfl) ?_
  refine lv_aload_n hx hb dX9_fittingRule_5 rfl (lv_at hl 0 rfl) ?_
  refine fg_X9_88 C hH k_v0 dX9_fittingRule_6 ?_
  refine b_icmp_ge (tgt := 56) hx hb hf dX9_fittingRule_9 (by decide) (fun hf => ?_) (fun hf => ?_)
  · refine lv_null hx hb dX9_fittingRule_56 ?_
    cases hf
    exact q_retn C hH trivial dX9_fittingRule_57
  · refine lv_iload hx hb dX9_fittingRule_12 (lv_at hl 6 rfl) ?_
    refine lv_aload_n hx hb dX9_fittingRule_14 rfl (lv_at hl 0 rfl) ?_
    refine fg_X9_64 C hH k_v0 dX9_fittingRule_15 ?_
    refine q_alen C hH (t0 := 6) (ci := 26) rfl (by omega) (ko_9_13 k_v0) dX9_fittingRule_18 ?_
    refine b_icmp_ge (tgt := 56) hx hb hf dX9_fittingRule_19 (by decide) (fun hf => ?_) (fun hf => ?_)
    · refine lv_null hx hb dX9_fittingRule_56 ?_
      cases hf
      exact q_retn C hH trivial dX9_fittingRule_57
    · refine lv_aload_n hx hb dX9_fittingRule_22 rfl (lv_at hl 0 rfl) ?_
      refine fg_X9_64 C hH k_v0 dX9_fittingRule_23 ?_
      refine lv_iload hx hb dX9_fittingRule_26 (lv_at hl 6 rfl) ?_
      refine g_aald C hH (t0 := 6) (ci := 26) (K := 8) rfl (by omega) (fun _ h => ka_26 (ko_9_13 k_v0) h) (ko_9_13 k_v0) hf dX9_fittingRule_28 (fun r1 k_r1 hf => ?_)
      refine lv_iload_n hx hb dX9_fittingRule_29 rfl (lv_at hl 1 rfl) ?_
      refine lv_iload_n hx hb dX9_fittingRule_30 rfl (lv_at hl 2 rfl) ?_
      refine lv_aload_n hx hb dX9_fittingRule_31 rfl (lv_at hl 3 rfl) ?_
      refine lv_iload hx hb dX9_fittingRule_32 (lv_at hl 4 rfl) ?_
      refine lv_aload hx hb dX9_fittingRule_34 (lv_at hl 5 rfl) ?_
      obtain ⟨x3, w2, hc, hf⟩ := bd_some hf
      refine q_callV1 (v := .int x3) (As := [.int v1, .int v2, .ref (B + v3), .int v4, .ref (B + v5)]) C hH (ci := 8) rfl (by omega) gk_X9_148 yd_X8_fits (by omega) (by omega) k_r1 (c_X8_fits k_r1 k_v3 k_v5 z_v2 hc) hl.1 rfl (Nat.le_of_ble_eq_true rfl) dX9_fittingRule_36 xv_00 (fun H locs hH z_x3 => ?_)
      refine b_if_eq (tgt := 50) hx hb hf dX9_fittingRule_39 (by decide) (fun hf => ?_) (fun hf => ?_)
      · refine b_let hf (fun x4 he hf => ?_)
        refine lv_iinc (v := x4) (lv' := [(6, .int x4), (0, .ref (B + v0)), (1, .int v1), (2, .int v2), (3, .ref (B + v3)), (4, .int v4), (5, .ref (B + v5))]) hx hb dX9_fittingRule_50 hl (k := 6) rfl (by rw [← he]; rfl) (by decide) rfl (fun ls hl => ?_)
        refine lv_goto (tgt := 3) hx hb dX9_fittingRule_53 (by decide) ?_
        exact hr_3 v0 v1 v2 v3 v4 v5 x4 w2 hf k_v0 k_v3 k_v5 z_v2 _ _ _ hH (lv_sub hl [1, 2, 3, 4, 5, 6, 0] rfl)
      · refine lv_aload_n hx hb dX9_fittingRule_42 rfl (lv_at hl 0 rfl) ?_
        refine fg_X9_64 C hH k_v0 dX9_fittingRule_43 ?_
        refine lv_iload hx hb dX9_fittingRule_46 (lv_at hl 6 rfl) ?_
        refine g_aald C hH (t0 := 6) (ci := 26) (K := 8) rfl (by omega) (fun _ h => ka_26 (ko_9_13 k_v0) h) (ko_9_13 k_v0) hf dX9_fittingRule_48 (fun r5 k_r5 hf => ?_)
        cases hf
        exact q_retr C hH k_r5 dX9_fittingRule_49
set_option maxRecDepth 100000 in
set_option maxHeartbeats 4000000 in
theorem t_X9_fittingRule_3 {D : va_G} {B : Nat} {Y : Nat → ClassId} {p : Program} {l : Launch} {e : Env} {s : State} {m : MethodId} {args : Array Value} {below : List Frame} {meth : Method} {c : Code} {z : (Option Nat × Wd)} {H : Heap} {locs : List Loc} {ls : Array Slot} {w : Wd} {v0 : Nat} {v1 : Int32} {v2 : Int32} {v3 : Nat} {v4 : Int32} {v5 : Nat} {v6 : Int32} (C : CX D B Y p s m args meth c cX9_fittingRule 7 RX9 (some (.object "LetterTables$Rule")))   (k_v0 : KD v0 = 9) (k_v3 : KD v3 = 7) (k_v5 : KD v5 = 7) (z_v2 : isZ v2) (hH : HS D B Y w s H locs) (hl : lv_has ls 7 [(0, .ref (B + v0)), (1, .int v1), (2, .int v2), (3, .ref (B + v3)), (4, .int v4), (5, .ref (B + v5)), (6, .int v6)]) (hf : f_X9_fittingRule_3 v0 v1 v2 v3 v4 v5 v6 w = some z) : W p l e (RM 3 0 0) s m args below meth c H locs 0 0 (MQ below (QG D B Y (some (vq B z.1)) z.2 (pQ 8 z.1)) args s 0 0 (AB B)) (F0 m 3 ls []) := by
  exact loopN_ind (z := z) (body := fun rc σ => g_X9_fittingRule_3 rc  σ.1 σ.2.1 σ.2.2.1 σ.2.2.2.1 σ.2.2.2.2.1 σ.2.2.2.2.2.1 σ.2.2.2.2.2.2.1 σ.2.2.2.2.2.2.2)
    (P := fun σ => KD σ.1 = 9 → KD σ.2.2.2.1 = 7 → KD σ.2.2.2.2.2.1 = 7 → isZ σ.2.2.1 → ∀ (H : Heap) (locs : List Loc) (ls : Array Slot), HS D B Y σ.2.2.2.2.2.2.2 s H locs → lv_has ls 7 [(0, .ref (B + σ.1)), (1, .int σ.2.1), (2, .int σ.2.2.1), (3, .ref (B + σ.2.2.2.1)), (4, .int σ.2.2.2.2.1), (5, .ref (B + σ.2.2.2.2.2.1)), (6, .int σ.2.2.2.2.2.2.1)] → W p l e (RM 3 0 0) s m args below meth c H locs 0 0 (MQ below (QG D B Y (some (vq B z.1)) z.2 (pQ 8 z.1)) args s 0 0 (AB B)) (F0 m 3 ls []))
    (fun rc hrec σ hf k_v0 k_v3 k_v5 z_v2 H locs ls hH hl => tb_X9_fittingRule_3 C (fun v0 v1 v2 v3 v4 v5 v6 w hr k_v0 k_v3 k_v5 z_v2 H locs ls hH hl => hrec (v0, v1, v2, v3, v4, v5, v6, w) hr k_v0 k_v3 k_v5 z_v2 H locs ls hH hl)  k_v0 k_v3 k_v5 z_v2 hH hl hf) FU (v0, v1, v2, v3, v4, v5, v6, w) hf k_v0 k_v3 k_v5 z_v2 H locs ls hH hl
set_option maxRecDepth 100000 in
set_option maxHeartbeats 4000000 in
theorem t_X9_fittingRule_0 {D : va_G} {B : Nat} {Y : Nat → ClassId} {p : Program} {l : Launch} {e : Env} {s : State} {m : MethodId} {args : Array Value} {below : List Frame} {meth : Method} {c : Code} {z : (Option Nat × Wd)} {H : Heap} {locs : List Loc} {ls : Array Slot} {w : Wd} {v0 : Nat} {v1 : Int32} {v2 : Int32} {v3 : Nat} {v4 : Int32} {v5 : Nat} (C : CX D B Y p s m args meth c cX9_fittingRule 7 RX9 (some (.object "LetterTables$Rule")))   (k_v0 : KD v0 = 9) (k_v3 : KD v3 = 7) (k_v5 : KD v5 = 7) (z_v2 : isZ v2) (hH : HS D B Y w s H locs) (hl : lv_has ls 7 [(0, .ref (B + v0)), (1, .int v1), (2, .int v2), (3, .ref (B + v3)), (4, .int v4), (5, .ref (B + v5))]) (hf : f_X9_fittingRule v0 v1 v2 v3 v4 v5 w = some z) : W p l e (RM 3 0 0) s m args below meth c H locs 0 0 (MQ below (QG D B Y (some (vq B z.1)) z.2 (pQ 8 z.1)) args s 0 0 (AB B)) (F0 m 0 ls []) := by
  have hx := C.1
  have hb := C.2.1
  unfold f_X9_fittingRule at hf
  refine lv_iconst (v := (0 : Int32)) hx hb dX9_fittingRule_0 (by decide) ?_
  refine lv_istore (lv' := [(6, .int (0 : Int32)), (0, .ref (B + v0)), (1, .int v1), (2, .int v2), (3, .ref (B + v3)), (4, .int v4), (5, .ref (B + v5))]) hx hb dX9_fittingRule_1 hl (by decide) rfl (fun ls hl => ?_)
  exact t_X9_fittingRule_3 C k_v0 k_v3 k_v5 z_v2 hH (lv_sub hl [1, 2, 3, 4, 5, 6, 0] rfl) hf
set_option maxRecDepth 100000 in
theorem c_X9_fittingRule {l : Launch} {D : va_G} {B : Nat} {Y : Nat → ClassId} {v0 : Nat} {v1 : Int32} {v2 : Int32} {v3 : Nat} {v4 : Int32} {v5 : Nat} {w : Wd} {r : Option Nat} {w1 : Wd} (k_v0 : KD v0 = 9) (k_v3 : KD v3 = 7) (k_v5 : KD v5 = 7) (z_v2 : isZ v2) (hf : f_X9_fittingRule v0 v1 v2 v3 v4 v5 w = some (r, w1)) : CM l D B Y yX9_fittingRule cX9_fittingRule 7 (some (.object "LetterTables$Rule")) 3 [.ref (B + v0), .int v1, .int v2, .ref (B + v3), .int v4, .ref (B + v5)] w (some (vq B r)) w1 (pQ 8 r) :=
  CM_of (by decide +kernel) (Nat.le_of_ble_eq_true rfl) (fun p e s m args below meth c ls C hH hl => t_X9_fittingRule_0 C k_v0 k_v3 k_v5 z_v2 hH (lv_sub hl [0, 1, 2, 3, 4, 5] rfl) hf)
/-! LetterTables$Rule.putTarget -/
set_option maxRecDepth 100000 in
set_option maxHeartbeats 4000000 in
theorem tb_X8_putTarget_19 {D : va_G} {B : Nat} {Y : Nat → ClassId} {p : Program} {l : Launch} {e : Env} {s : State} {m : MethodId} {args : Array Value} {below : List Frame} {meth : Method} {c : Code} {z : (Int32 × Wd)} {H : Heap} {locs : List Loc} {ls : Array Slot} {w : Wd} {v2 : Nat} {v3 : Nat} {v4 : Int32} (C : CX D B Y p s m args meth c cX8_putTarget 5 RX8 (some .boolean))  {rc_19 : Nat × Nat × Int32 × Wd → Option (Int32 × Wd)} (hr_19 : ∀ (v2 : Nat) (v3 : Nat) (v4 : Int32) (w : Wd), rc_19 (v2, v3, v4, w) = some z → KD v2 = 7 → KD v3 = 7 → ∀ (H : Heap) (locs : List Loc) (ls : Array Slot), HS D B Y w s H locs → lv_has ls 5 [(2, .ref (B + v2)), (3, .ref (B + v3)), (4, .int v4)] → W p l e (RM 1 0 0) s m args below meth c H locs 0 0 (MQ below (QG D B Y (some (.int z.1)) z.2 (isZ z.1)) args s 0 0 (AB B)) (F0 m 19 ls []))  (k_v2 : KD v2 = 7) (k_v3 : KD v3 = 7)  (hH : HS D B Y w s H locs) (hl : lv_has ls 5 [(2, .ref (B + v2)), (3, .ref (B + v3)), (4, .int v4)]) (hf : g_X8_putTarget_19 rc_19 v2 v3 v4 w = some z) : W p l e (RM 1 0 0) s m args below meth c H locs 0 0 (MQ below (QG D B Y (some (.int z.1)) z.2 (isZ z.1)) args s 0 0 (AB B)) (F0 m 19 ls []) := by
  have hx := C.1
  have hb := C.2.1
  unfold g_X8_putTarget_19 at hf
  refine lv_iload hx hb dX8_putTarget_19 (lv_at hl 2 rfl) ?_
  refine lv_aload_n hx hb dX8_putTarget_21 rfl (lv_at hl 1 rfl) ?_
  obtain ⟨x2, w1, hc, hf⟩ := bd_some hf
  refine q_callV1 (v := .int x2) (As := []) C hH (ci := 7) rfl (by omega) gk_X8_45 yd_X7_size (by omega) (by omega) k_v3 (c_X7_size k_v3 hc) hl.1 rfl (Nat.le_of_ble_eq_true rfl) dX8_putTarget_22 xv_00 (fun H locs hH hP => ?_)
  refine b_icmp_ge (tgt := 49) hx hb hf dX8_putTarget_25 (by decide) (fun hf => ?_) (fun hf => ?_)
  · refine lv_iconst (v := (1 : Int32)) hx hb dX8_putTarget_49 (by decide) ?_
    cases hf
    exact q_retz C hH isZ_1 isZ_1 dX8_putTarget_50
  · refine lv_aload_n hx hb dX8_putTarget_28 rfl (lv_at hl 0 rfl) ?_
    refine lv_aload_n hx hb dX8_putTarget_29 rfl (lv_at hl 1 rfl) ?_
    refine lv_iload hx hb dX8_putTarget_30 (lv_at hl 2 rfl) ?_
    obtain ⟨x4, w3, hc, hf⟩ := bd_some hf
    refine q_callV1 (v := .int x4) (As := [.int v4]) C hH (ci := 7) rfl (by omega) gk_X8_53 yd_X7_get (by omega) (by omega) k_v3 (c_X7_get k_v3 hc) hl.1 rfl (Nat.le_of_ble_eq_true rfl) dX8_putTarget_32 xv_00 (fun H locs hH hP => ?_)
    obtain ⟨x6, w5, hc, hf⟩ := bd_some hf
    refine q_callV1 (v := .int x6) (As := [.int x4]) C hH (ci := 7) rfl (by omega) gk_X8_57 yd_X7_add (by omega) (by omega) k_v2 (c_X7_add k_v2 hc) hl.1 rfl (Nat.le_of_ble_eq_true rfl) dX8_putTarget_35 xv_00 (fun H locs hH z_x6 => ?_)
    refine b_if_ne (tgt := 43) hx hb hf dX8_putTarget_38 (by decide) (fun hf => ?_) (fun hf => ?_)
    · refine b_let hf (fun x7 he hf => ?_)
      refine lv_iinc (v := x7) (lv' := [(4, .int x7), (2, .ref (B + v2)), (3, .ref (B + v3))]) hx hb dX8_putTarget_43 hl (k := 2) rfl (by rw [← he]; rfl) (by decide) rfl (fun ls hl => ?_)
      refine lv_goto (tgt := 19) hx hb dX8_putTarget_46 (by decide) ?_
      exact hr_19 v2 v3 x7 w5 hf k_v2 k_v3 _ _ _ hH (lv_sub hl [1, 2, 0] rfl)
    · refine lv_iconst (v := (0 : Int32)) hx hb dX8_putTarget_41 (by decide) ?_
      cases hf
      exact q_retz C hH isZ_0 isZ_0 dX8_putTarget_42
set_option maxRecDepth 100000 in
set_option maxHeartbeats 4000000 in
theorem t_X8_putTarget_19 {D : va_G} {B : Nat} {Y : Nat → ClassId} {p : Program} {l : Launch} {e : Env} {s : State} {m : MethodId} {args : Array Value} {below : List Frame} {meth : Method} {c : Code} {z : (Int32 × Wd)} {H : Heap} {locs : List Loc} {ls : Array Slot} {w : Wd} {v2 : Nat} {v3 : Nat} {v4 : Int32} (C : CX D B Y p s m args meth c cX8_putTarget 5 RX8 (some .boolean))   (k_v2 : KD v2 = 7) (k_v3 : KD v3 = 7)  (hH : HS D B Y w s H locs) (hl : lv_has ls 5 [(2, .ref (B + v2)), (3, .ref (B + v3)), (4, .int v4)]) (hf : f_X8_putTarget_19 v2 v3 v4 w = some z) : W p l e (RM 1 0 0) s m args below meth c H locs 0 0 (MQ below (QG D B Y (some (.int z.1)) z.2 (isZ z.1)) args s 0 0 (AB B)) (F0 m 19 ls []) := by
  exact loopN_ind (z := z) (body := fun rc σ => g_X8_putTarget_19 rc  σ.1 σ.2.1 σ.2.2.1 σ.2.2.2)
    (P := fun σ => KD σ.1 = 7 → KD σ.2.1 = 7 → ∀ (H : Heap) (locs : List Loc) (ls : Array Slot), HS D B Y σ.2.2.2 s H locs → lv_has ls 5 [(2, .ref (B + σ.1)), (3, .ref (B + σ.2.1)), (4, .int σ.2.2.1)] → W p l e (RM 1 0 0) s m args below meth c H locs 0 0 (MQ below (QG D B Y (some (.int z.1)) z.2 (isZ z.1)) args s 0 0 (AB B)) (F0 m 19 ls []))
    (fun rc hrec σ hf k_v2 k_v3 H locs ls hH hl => tb_X8_putTarget_19 C (fun v2 v3 v4 w hr k_v2 k_v3 H locs ls hH hl => hrec (v2, v3, v4, w) hr k_v2 k_v3 H locs ls hH hl)  k_v2 k_v3 hH hl hf) FU (v2, v3, v4, w) hf k_v2 k_v3 H locs ls hH hl
set_option maxRecDepth 100000 in
set_option maxHeartbeats 4000000 in
theorem t_X8_putTarget_15 {D : va_G} {B : Nat} {Y : Nat → ClassId} {p : Program} {l : Launch} {e : Env} {s : State} {m : MethodId} {args : Array Value} {below : List Frame} {meth : Method} {c : Code} {z : (Int32 × Wd)} {H : Heap} {locs : List Loc} {ls : Array Slot} {w : Wd} {v2 : Nat} {t0 : Nat} (C : CX D B Y p s m args meth c cX8_putTarget 5 RX8 (some .boolean))   (k_v2 : KD v2 = 7) (k_t0 : KD t0 = 7)  (hH : HS D B Y w s H locs) (hl : lv_has ls 5 [(2, .ref (B + v2))]) (hf : f_X8_putTarget_15 v2 t0 w = some z) : W p l e (RM 1 0 0) s m args below meth c H locs 0 0 (MQ below (QG D B Y (some (.int z.1)) z.2 (isZ z.1)) args s 0 0 (AB B)) (F0 m 15 ls [.ref (B + t0)]) := by
  have hx := C.1
  have hb := C.2.1
  unfold f_X8_putTarget_15 at hf
  refine lv_astore_n (lv' := [(3, .ref (B + t0)), (2, .ref (B + v2))]) hx hb dX8_putTarget_15 rfl hl (by decide) rfl (fun ls hl => ?_)
  refine lv_iconst (v := (0 : Int32)) hx hb dX8_putTarget_16 (by decide) ?_
  refine lv_istore (lv' := [(4, .int (0 : Int32)), (3, .ref (B + t0)), (2, .ref (B + v2))]) hx hb dX8_putTarget_17 hl (by decide) rfl (fun ls hl => ?_)
  exact t_X8_putTarget_19 C k_v2 k_t0 hH (lv_sub hl [2, 1, 0] rfl) hf
set_option maxRecDepth 100000 in
set_option maxHeartbeats 4000000 in
theorem t_X8_putTarget_0 {D : va_G} {B : Nat} {Y : Nat → ClassId} {p : Program} {l : Launch} {e : Env} {s : State} {m : MethodId} {args : Array Value} {below : List Frame} {meth : Method} {c : Code} {z : (Int32 × Wd)} {H : Heap} {locs : List Loc} {ls : Array Slot} {w : Wd} {v0 : Nat} {v1 : Int32} {v2 : Nat} (C : CX D B Y p s m args meth c cX8_putTarget 5 RX8 (some .boolean))   (k_v0 : KD v0 = 8) (k_v2 : KD v2 = 7) (z_v1 : isZ v1) (hH : HS D B Y w s H locs) (hl : lv_has ls 5 [(0, .ref (B + v0)), (1, .int v1), (2, .ref (B + v2))]) (hf : f_X8_putTarget v0 v1 v2 w = some z) : W p l e (RM 1 0 0) s m args below meth c H locs 0 0 (MQ below (QG D B Y (some (.int z.1)) z.2 (isZ z.1)) args s 0 0 (AB B)) (F0 m 0 ls []) := by
  have hx := C.1
  have hb := C.2.1
  unfold f_X8_putTarget at hf
  refine lv_iload_n hx hb dX8_putTarget_0 rfl (lv_at hl 1 rfl) ?_
  refine b_if_eq (tgt := 11) hx hb hf dX8_putTarget_1 (by decide) (fun hf => ?_) (fun hf => ?_)
  · refine lv_aload_n hx hb dX8_putTarget_11 rfl (lv_at hl 0 rfl) ?_
    refine fg_X8_26 C hH k_v0 dX8_putTarget_12 ?_
    exact t_X8_putTarget_15 C k_v2 (ko_8_4 k_v0) hH (lv_sub hl [2] rfl) hf
  · refine lv_aload_n hx hb dX8_putTarget_4 rfl (lv_at hl 0 rfl) ?_
    refine fg_X8_20 C hH k_v0 dX8_putTarget_5 ?_
    refine lv_goto (tgt := 15) hx hb dX8_putTarget_8 (by decide) ?_
    exact t_X8_putTarget_15 C k_v2 (ko_8_2 k_v0) hH (lv_sub hl [2] rfl) hf
set_option maxRecDepth 100000 in
theorem c_X8_putTarget {l : Launch} {D : va_G} {B : Nat} {Y : Nat → ClassId} {v0 : Nat} {v1 : Int32} {v2 : Nat} {w : Wd} {r : Int32} {w1 : Wd} (k_v0 : KD v0 = 8) (k_v2 : KD v2 = 7) (z_v1 : isZ v1) (hf : f_X8_putTarget v0 v1 v2 w = some (r, w1)) : CM l D B Y yX8_putTarget cX8_putTarget 5 (some .boolean) 1 [.ref (B + v0), .int v1, .ref (B + v2)] w (some (.int r)) w1 (isZ r) :=
  CM_of (by decide +kernel) (Nat.le_of_ble_eq_true rfl) (fun p e s m args below meth c ls C hH hl => t_X8_putTarget_0 C k_v0 k_v2 z_v1 hH (lv_sub hl [0, 1, 2] rfl) hf)
/-! LetterTables$Tables.passInto -/
set_option maxRecDepth 100000 in
set_option maxHeartbeats 4000000 in
theorem t_X9_passInto_89 {D : va_G} {B : Nat} {Y : Nat → ClassId} {p : Program} {l : Launch} {e : Env} {s : State} {m : MethodId} {args : Array Value} {below : List Frame} {meth : Method} {c : Code} {z : (Int32 × Wd)} {H : Heap} {locs : List Loc} {ls : Array Slot} {w : Wd} {v0 : Nat} {v1 : Int32} {v2 : Int32} {v3 : Nat} {v4 : Nat} {v5 : Int32} {v6 : Int32} {v8 : Int32} (C : CX D B Y p s m args meth c cX9_passInto 9 RX9 (some .boolean))  {rc_12 : Nat × Int32 × Int32 × Nat × Nat × Int32 × Int32 × Wd → Option (Int32 × Wd)} (hr_12 : ∀ (v0 : Nat) (v1 : Int32) (v2 : Int32) (v3 : Nat) (v4 : Nat) (v5 : Int32) (v6 : Int32) (w : Wd), rc_12 (v0, v1, v2, v3, v4, v5, v6, w) = some z → KD v0 = 9 → KD v3 = 7 → KD v4 = 7 → isZ v2 → ∀ (H : Heap) (locs : List Loc) (ls : Array Slot), HS D B Y w s H locs → lv_has ls 9 [(0, .ref (B + v0)), (1, .int v1), (2, .int v2), (3, .ref (B + v3)), (4, .ref (B + v4)), (5, .int v5), (6, .int v6)] → W p l e (RM 4 0 0) s m args below meth c H locs 0 0 (MQ below (QG D B Y (some (.int z.1)) z.2 (isZ z.1)) args s 0 0 (AB B)) (F0 m 12 ls []))  (k_v0 : KD v0 = 9) (k_v3 : KD v3 = 7) (k_v4 : KD v4 = 7) (z_v2 : isZ v2) (z_v8 : isZ v8) (hH : HS D B Y w s H locs) (hl : lv_has ls 9 [(0, .ref (B + v0)), (1, .int v1), (2, .int v2), (3, .ref (B + v3)), (4, .ref (B + v4)), (5, .int v5), (6, .int v6), (8, .int v8)]) (hf : f_X9_passInto_89 rc_12 v0 v1 v2 v3 v4 v5 v6 v8 w = some z) : W p l e (RM 4 0 0) s m args below meth c H locs 0 0 (MQ below (QG D B Y (some (.int z.1)) z.2 (isZ z.1)) args s 0 0 (AB B)) (F0 m 89 ls []) := by
  have hx := C.1
  have hb := C.2.1
  unfold f_X9_passInto_89 at hf
  refine lv_iload hx hb dX9_passInto_89 (lv_at hl 7 rfl) ?_
  refine b_if_ne (tgt := 96) hx hb hf dX9_passInto_91 (by decide) (fun hf => ?_) (fun hf => ?_)
  · refine b_let hf (fun x1 he hf => ?_)
    refine lv_iinc (v := x1) (lv' := [(6, .int x1), (0, .ref (B + v0)), (1, .int v1), (2, .int v2), (3, .ref (B + v3)), (4, .ref (B + v4)), (5, .int v5), (8, .int v8)]) hx hb dX9_passInto_96 hl (k := 6) rfl (by rw [← he]; rfl) (by decide) rfl (fun ls hl => ?_)
    refine lv_goto (tgt := 12) hx hb dX9_passInto_99 (by decide) ?_
    exact hr_12 v0 v1 v2 v3 v4 v5 x1 w hf k_v0 k_v3 k_v4 z_v2 _ _ _ hH (lv_sub hl [1, 2, 3, 4, 5, 6, 0] rfl)
  · refine lv_iconst (v := (0 : Int32)) hx hb dX9_passInto_94 (by decide) ?_
    cases hf
    exact q_retz C hH isZ_0 isZ_0 dX9_passInto_95
set_option maxRecDepth 100000 in
set_option maxHeartbeats 4000000 in
theorem tb_X9_passInto_12 {D : va_G} {B : Nat} {Y : Nat → ClassId} {p : Program} {l : Launch} {e : Env} {s : State} {m : MethodId} {args : Array Value} {below : List Frame} {meth : Method} {c : Code} {z : (Int32 × Wd)} {H : Heap} {locs : List Loc} {ls : Array Slot} {w : Wd} {v0 : Nat} {v1 : Int32} {v2 : Int32} {v3 : Nat} {v4 : Nat} {v5 : Int32} {v6 : Int32} (C : CX D B Y p s m args meth c cX9_passInto 9 RX9 (some .boolean))  {rc_12 : Nat × Int32 × Int32 × Nat × Nat × Int32 × Int32 × Wd → Option (Int32 × Wd)} (hr_12 : ∀ (v0 : Nat) (v1 : Int32) (v2 : Int32) (v3 : Nat) (v4 : Nat) (v5 : Int32) (v6 : Int32) (w : Wd), rc_12 (v0, v1, v2, v3, v4, v5, v6, w) = some z → KD v0 = 9 → KD v3 = 7 → KD v4 = 7 → isZ v2 → ∀ (H : Heap) (locs : List Loc) (ls : Array Slot), HS D B Y w s H locs → lv_has ls 9 [(0, .ref (B + v0)), (1, .int v1), (2, .int v2), (3, .ref (B + v3)), (4, .ref (B + v4)), (5, .int v5), (6, .int v6)] → W p l e (RM 4 0 0) s m args below meth c H locs 0 0 (MQ below (QG D B Y (some (.int z.1)) z.2 (isZ z.1)) args s 0 0 (AB B)) (F0 m 12 ls []))  (k_v0 : KD v0 = 9) (k_v3 : KD v3 = 7) (k_v4 : KD v4 = 7) (z_v2 : isZ v2) (hH : HS D B Y w s H locs) (hl : lv_has ls 9 [(0, .ref (B + v0)), (1, .int v1), (2, .int v2), (3, .ref (B + v3)), (4, .ref (B + v4)), (5, .int v5), (6, .int v6)]) (hf : g_X9_passInto_12 rc_12 v0 v1 v2 v3 v4 v5 v6 w = some z) : W p l e (RM 4 0 0) s m args below meth c H locs 0 0 (MQ below (QG D B Y (some (.int z.1)) z.2 (isZ z.1)) args s 0 0 (AB B)) (F0 m 12 ls []) := by
  have hx := C.1
  have hb := C.2.1
  unfold g_X9_passInto_12 at hf
  refine lv_iload hx hb dX9_passInto_12 (lv_at hl 6 rfl) ?_
  refine lv_bipush (v := (40 : Int32)) hx hb dX9_passInto_14 (by decide) ?_
  refine b_icmp_ge (tgt := 102) hx hb hf dX9_passInto_16 (by decide) (fun hf => ?_) (fun hf => ?_)
  · refine lv_iconst (v := (1 : Int32)) hx hb dX9_passInto_102 (by decide) ?_
    cases hf
    exact q_retz C hH isZ_1 isZ_1 dX9_passInto_103
  · refine lv_iload hx hb dX9_passInto_19 (lv_at hl 5 rfl) ?_
    refine lv_aload_n hx hb dX9_passInto_21 rfl (lv_at hl 3 rfl) ?_
    obtain ⟨x2, w1, hc, hf⟩ := bd_some hf
    refine q_callV1 (v := .int x2) (As := []) C hH (ci := 7) rfl (by omega) gk_X9_125 yd_X7_size (by omega) (by omega) k_v3 (c_X7_size k_v3 hc) hl.1 rfl (Nat.le_of_ble_eq_true rfl) dX9_passInto_22 xv_00 (fun H locs hH hP => ?_)
    refine b_icmp_ge (tgt := 102) hx hb hf dX9_passInto_25 (by decide) (fun hf => ?_) (fun hf => ?_)
    · refine lv_iconst (v := (1 : Int32)) hx hb dX9_passInto_102 (by decide) ?_
      cases hf
      exact q_retz C hH isZ_1 isZ_1 dX9_passInto_103
    · refine lv_aload_n hx hb dX9_passInto_28 rfl (lv_at hl 0 rfl) ?_
      refine lv_iload_n hx hb dX9_passInto_29 rfl (lv_at hl 1 rfl) ?_
      refine lv_iload_n hx hb dX9_passInto_30 rfl (lv_at hl 2 rfl) ?_
      refine lv_aload_n hx hb dX9_passInto_31 rfl (lv_at hl 3 rfl) ?_
      refine lv_iload hx hb dX9_passInto_32 (lv_at hl 5 rfl) ?_
      refine lv_aload hx hb dX9_passInto_34 (lv_at hl 4 rfl) ?_
      rcases bdq_some hf with ⟨w4, hc, hf⟩ | ⟨r3, w5, hc, hf⟩
      · refine q_callV1 (v := .null) (As := [.int v1, .int v2, .ref (B + v3), .int v5, .ref (B + v4)]) C hH (ci := 9) rfl (by omega) gk_X9_129 yd_X9_fittingRule (by omega) (by omega) k_v0 (c_X9_fittingRule k_v0 k_v3 k_v4 z_v2 hc) hl.1 rfl (Nat.le_of_ble_eq_true rfl) dX9_passInto_36 xv_00 (fun H locs hH hP => ?_)
        refine lv_astoreN (lv' := [(7, .null), (0, .ref (B + v0)), (1, .int v1), (2, .int v2), (3, .ref (B + v3)), (4, .ref (B + v4)), (5, .int v5), (6, .int v6)]) hx hb dX9_passInto_39 hl (by decide) rfl (fun ls hl => ?_)
        refine lv_aloadN hx hb dX9_passInto_41 (lv_at hl 0 rfl) ?_
        refine lv_ifnonnullN hx hb dX9_passInto_43 ?_
        refine lv_aload hx hb dX9_passInto_46 (lv_at hl 5 rfl) ?_
        refine lv_aload_n hx hb dX9_passInto_48 rfl (lv_at hl 4 rfl) ?_
        refine lv_iload hx hb dX9_passInto_49 (lv_at hl 6 rfl) ?_
        obtain ⟨x7, w6, hc, hf⟩ := bd_some hf
        refine q_callV1 (v := .int x7) (As := [.int v5]) C hH (ci := 7) rfl (by omega) gk_X9_133 yd_X7_get (by omega) (by omega) k_v3 (c_X7_get k_v3 hc) hl.1 rfl (Nat.le_of_ble_eq_true rfl) dX9_passInto_51 xv_00 (fun H locs hH hP => ?_)
        obtain ⟨x9, w8, hc, hf⟩ := bd_some hf
        refine q_callV1 (v := .int x9) (As := [.int x7]) C hH (ci := 7) rfl (by omega) gk_X9_136 yd_X7_add (by omega) (by omega) k_v4 (c_X7_add k_v4 hc) hl.1 rfl (Nat.le_of_ble_eq_true rfl) dX9_passInto_54 xv_00 (fun H locs hH z_x9 => ?_)
        refine lv_istore (lv' := [(8, .int x9), (7, .null), (0, .ref (B + v0)), (1, .int v1), (2, .int v2), (3, .ref (B + v3)), (4, .ref (B + v4)), (5, .int v5), (6, .int v6)]) hx hb dX9_passInto_57 hl (by decide) rfl (fun ls hl => ?_)
        refine b_let hf (fun x10 he hf => ?_)
        refine lv_iinc (v := x10) (lv' := [(5, .int x10), (8, .int x9), (7, .null), (0, .ref (B + v0)), (1, .int v1), (2, .int v2), (3, .ref (B + v3)), (4, .ref (B + v4)), (6, .int v6)]) hx hb dX9_passInto_59 hl (k := 7) rfl (by rw [← he]; rfl) (by decide) rfl (fun ls hl => ?_)
        refine lv_goto (tgt := 89) hx hb dX9_passInto_62 (by decide) ?_
        exact t_X9_passInto_89 C hr_12 k_v0 k_v3 k_v4 z_v2 z_x9 hH (lv_sub hl [3, 4, 5, 6, 7, 0, 8, 1] rfl) hf
      · refine q_callV1 (v := .ref (B + r3)) (As := [.int v1, .int v2, .ref (B + v3), .int v5, .ref (B + v4)]) C hH (ci := 9) rfl (by omega) gk_X9_129 yd_X9_fittingRule (by omega) (by omega) k_v0 (c_X9_fittingRule k_v0 k_v3 k_v4 z_v2 hc) hl.1 rfl (Nat.le_of_ble_eq_true rfl) dX9_passInto_36 xv_00 (fun H locs hH k_r3 => ?_)
        refine lv_astore (lv' := [(7, .ref (B + r3)), (0, .ref (B + v0)), (1, .int v1), (2, .int v2), (3, .ref (B + v3)), (4, .ref (B + v4)), (5, .int v5), (6, .int v6)]) hx hb dX9_passInto_39 hl (by decide) rfl (fun ls hl => ?_)
        refine lv_aload hx hb dX9_passInto_41 (lv_at hl 0 rfl) ?_
        refine lv_ifnonnull (tgt := 65) hx hb dX9_passInto_43 (by decide) ?_
        refine lv_aload hx hb dX9_passInto_65 (lv_at hl 0 rfl) ?_
        refine lv_iload_n hx hb dX9_passInto_67 rfl (lv_at hl 3 rfl) ?_
        refine lv_aload hx hb dX9_passInto_68 (lv_at hl 5 rfl) ?_
        obtain ⟨x12, w11, hc, hf⟩ := bd_some hf
        refine q_callV1 (v := .int x12) (As := [.int v2, .ref (B + v4)]) C hH (ci := 8) rfl (by omega) gk_X9_140 yd_X8_putTarget (by omega) (by omega) k_r3 (c_X8_putTarget k_r3 k_v4 z_v2 hc) hl.1 rfl (Nat.le_of_ble_eq_true rfl) dX9_passInto_70 xv_00 (fun H locs hH z_x12 => ?_)
        refine lv_istore (lv' := [(8, .int x12), (7, .ref (B + r3)), (0, .ref (B + v0)), (1, .int v1), (2, .int v2), (3, .ref (B + v3)), (4, .ref (B + v4)), (5, .int v5), (6, .int v6)]) hx hb dX9_passInto_73 hl (by decide) rfl (fun ls hl => ?_)
        refine lv_iload hx hb dX9_passInto_75 (lv_at hl 7 rfl) ?_
        refine lv_aload hx hb dX9_passInto_77 (lv_at hl 1 rfl) ?_
        refine lv_iload_n hx hb dX9_passInto_79 rfl (lv_at hl 4 rfl) ?_
        obtain ⟨r14, w13, hc, hf⟩ := bd_some hf
        refine q_callV1 (v := .ref (B + r14)) (As := [.int v2]) C hH (ci := 8) rfl (by omega) gk_X9_144 yd_X8_sourceOf (by omega) (by omega) k_r3 (c_X8_sourceOf k_r3 z_v2 hc) hl.1 rfl (Nat.le_of_ble_eq_true rfl) dX9_passInto_80 xv_00 (fun H locs hH k_r14 => ?_)
        obtain ⟨x16, w15, hc, hf⟩ := bd_some hf
        refine q_callV1 (v := .int x16) (As := []) C hH (ci := 7) rfl (by omega) gk_X9_125 yd_X7_size (by omega) (by omega) k_r14 (c_X7_size k_r14 hc) hl.1 rfl (Nat.le_of_ble_eq_true rfl) dX9_passInto_83 xv_00 (fun H locs hH hP => ?_)
        refine lv_iadd hx hb dX9_passInto_86 ?_
        refine b_leti hf (fun x17 hf => ?_)
        refine lv_istore (lv' := [(5, .int x17), (8, .int x12), (7, .ref (B + r3)), (0, .ref (B + v0)), (1, .int v1), (2, .int v2), (3, .ref (B + v3)), (4, .ref (B + v4)), (6, .int v6)]) hx hb dX9_passInto_87 hl (by decide) rfl (fun ls hl => ?_)
        exact t_X9_passInto_89 C hr_12 k_v0 k_v3 k_v4 z_v2 z_x12 hH (lv_sub hl [3, 4, 5, 6, 7, 0, 8, 1] rfl) hf
set_option maxRecDepth 100000 in
set_option maxHeartbeats 4000000 in
theorem t_X9_passInto_12 {D : va_G} {B : Nat} {Y : Nat → ClassId} {p : Program} {l : Launch} {e : Env} {s : State} {m : MethodId} {args : Array Value} {below : List Frame} {meth : Method} {c : Code} {z : (Int32 × Wd)} {H : Heap} {locs : List Loc} {ls : Array Slot} {w : Wd} {v0 : Nat} {v1 : Int32} {v2 : Int32} {v3 : Nat} {v4 : Nat} {v5 : Int32} {v6 : Int32} (C : CX D B Y p s m args meth c cX9_passInto 9 RX9 (some .boolean))   (k_v0 : KD v0 = 9) (k_v3 : KD v3 = 7) (k_v4 : KD v4 = 7) (z_v2 : isZ v2) (hH : HS D B Y w s H locs) (hl : lv_has ls 9 [(0, .ref (B + v0)), (1, .int v1), (2, .int v2), (3, .ref (B + v3)), (4, .ref (B + v4)), (5, .int v5), (6, .int v6)]) (hf : f_X9_passInto_12 v0 v1 v2 v3 v4 v5 v6 w = some z) : W p l e (RM 4 0 0) s m args below meth c H locs 0 0 (MQ below (QG D B Y (some (.int z.1)) z.2 (isZ z.1)) args s 0 0 (AB B)) (F0 m 12 ls []) := by
  exact loopN_ind (z := z) (body := fun rc σ => g_X9_passInto_12 rc  σ.1 σ.2.1 σ.2.2.1 σ.2.2.2.1 σ.2.2.2.2.1 σ.2.2.2.2.2.1 σ.2.2.2.2.2.2.1 σ.2.2.2.2.2.2.2)
    (P := fun σ => KD σ.1 = 9 → KD σ.2.2.2.1 = 7 → KD σ.2.2.2.2.1 = 7 → isZ σ.2.2.1 → ∀ (H : Heap) (locs : List Loc) (ls : Array Slot), HS D B Y σ.2.2.2.2.2.2.2 s H locs → lv_has ls 9 [(0, .ref (B + σ.1)), (1, .int σ.2.1), (2, .int σ.2.2.1), (3, .ref (B + σ.2.2.2.1)), (4, .ref (B + σ.2.2.2.2.1)), (5, .int σ.2.2.2.2.2.1), (6, .int σ.2.2.2.2.2.2.1)] → W p l e (RM 4 0 0) s m args below meth c H locs 0 0 (MQ below (QG D B Y (some (.int z.1)) z.2 (isZ z.1)) args s 0 0 (AB B)) (F0 m 12 ls []))
    (fun rc hrec σ hf k_v0 k_v3 k_v4 z_v2 H locs ls hH hl => tb_X9_passInto_12 C (fun v0 v1 v2 v3 v4 v5 v6 w hr k_v0 k_v3 k_v4 z_v2 H locs ls hH hl => hrec (v0, v1, v2, v3, v4, v5, v6, w) hr k_v0 k_v3 k_v4 z_v2 H locs ls hH hl)  k_v0 k_v3 k_v4 z_v2 hH hl hf) FU (v0, v1, v2, v3, v4, v5, v6, w) hf k_v0 k_v3 k_v4 z_v2 H locs ls hH hl
set_option maxRecDepth 100000 in
set_option maxHeartbeats 4000000 in
theorem t_X9_passInto_0 {D : va_G} {B : Nat} {Y : Nat → ClassId} {p : Program} {l : Launch} {e : Env} {s : State} {m : MethodId} {args : Array Value} {below : List Frame} {meth : Method} {c : Code} {z : (Int32 × Wd)} {H : Heap} {locs : List Loc} {ls : Array Slot} {w : Wd} {v0 : Nat} {v1 : Int32} {v2 : Int32} {v3 : Nat} {v4 : Nat} (C : CX D B Y p s m args meth c cX9_passInto 9 RX9 (some .boolean))   (k_v0 : KD v0 = 9) (k_v3 : KD v3 = 7) (k_v4 : KD v4 = 7) (z_v2 : isZ v2) (hH : HS D B Y w s H locs) (hl : lv_has ls 9 [(0, .ref (B + v0)), (1, .int v1), (2, .int v2), (3, .ref (B + v3)), (4, .ref (B + v4))]) (hf : f_X9_passInto v0 v1 v2 v3 v4 w = some z) : W p l e (RM 4 0 0) s m args below meth c H locs 0 0 (MQ below (QG D B Y (some (.int z.1)) z.2 (isZ z.1)) args s 0 0 (AB B)) (F0 m 0 ls []) := by
  have hx := C.1
  have hb := C.2.1
  unfold f_X9_passInto at hf
  refine lv_aload hx hb dX9_passInto_0 (lv_at hl 4 rfl) ?_
  refine lv_iconst (v := (0 : Int32)) hx hb dX9_passInto_2 (by decide) ?_
  obtain ⟨u, w1, hc, hf⟩ := bd_some hf
  refine q_callV0 (As := [.int (0 : Int32)]) C hH (ci := 7) rfl (by omega) gk_X9_122 yd_X7_cutTo (by omega) (by omega) k_v4 (c_X7_cutTo k_v4 hc) hl.1 rfl (Nat.le_of_ble_eq_true rfl) dX9_passInto_3 xv_00 (fun H locs hH hP => ?_)
  refine lv_iconst (v := (0 : Int32)) hx hb dX9_passInto_6 (by decide) ?_
  refine lv_istore (lv' := [(5, .int (0 : Int32)), (0, .ref (B + v0)), (1, .int v1), (2, .int v2), (3, .ref (B + v3)), (4, .ref (B + v4))]) hx hb dX9_passInto_7 hl (by decide) rfl (fun ls hl => ?_)
  refine lv_iconst (v := (0 : Int32)) hx hb dX9_passInto_9 (by decide) ?_
  refine lv_istore (lv' := [(6, .int (0 : Int32)), (5, .int (0 : Int32)), (0, .ref (B + v0)), (1, .int v1), (2, .int v2), (3, .ref (B + v3)), (4, .ref (B + v4))]) hx hb dX9_passInto_10 hl (by decide) rfl (fun ls hl => ?_)
  exact t_X9_passInto_12 C k_v0 k_v3 k_v4 z_v2 hH (lv_sub hl [2, 3, 4, 5, 6, 1, 0] rfl) hf
set_option maxRecDepth 100000 in
theorem c_X9_passInto {l : Launch} {D : va_G} {B : Nat} {Y : Nat → ClassId} {v0 : Nat} {v1 : Int32} {v2 : Int32} {v3 : Nat} {v4 : Nat} {w : Wd} {r : Int32} {w1 : Wd} (k_v0 : KD v0 = 9) (k_v3 : KD v3 = 7) (k_v4 : KD v4 = 7) (z_v2 : isZ v2) (hf : f_X9_passInto v0 v1 v2 v3 v4 w = some (r, w1)) : CM l D B Y yX9_passInto cX9_passInto 9 (some .boolean) 4 [.ref (B + v0), .int v1, .int v2, .ref (B + v3), .ref (B + v4)] w (some (.int r)) w1 (isZ r) :=
  CM_of (by decide +kernel) (Nat.le_of_ble_eq_true rfl) (fun p e s m args below meth c ls C hH hl => t_X9_passInto_0 C k_v0 k_v3 k_v4 z_v2 hH (lv_sub hl [0, 1, 2, 3, 4] rfl) hf)
/-! LetterTables.transliterate -/
set_option maxRecDepth 100000 in
set_option maxHeartbeats 4000000 in
theorem t_X10_transliterate_67 {D : va_G} {B : Nat} {Y : Nat → ClassId} {p : Program} {l : Launch} {e : Env} {s : State} {m : MethodId} {args : Array Value} {below : List Frame} {meth : Method} {c : Code} {z : ((Nat ⊕ Int32) × Wd)} {H : Heap} {locs : List Loc} {ls : Array Slot} {w : Wd}  (C : CX D B Y p s m args meth c cX10_transliterate 7 RX10 (some .int)) (hxt : ∀ x ∈ c.exceptionTable.toList, False) (htr : l.stackTraces = false)     (hH : HS D B Y w s H locs) (hl : lv_has ls 7 []) (hf : f_X10_transliterate_67 w = some z) : W p l e (RM 5 (xv (zoI z.1)) (6 * xv (zoI z.1))) s m args below meth c H locs 0 0 (vx_MQ below (QX D B Y (zoI z.1) z.2 True) (XX D B Y (zoI z.1) z.2) args s (xv (zoI z.1)) (6 * xv (zoI z.1)) (AB B)) (F0 m 67 ls []) := by
  have hx := C.1
  have hb := C.2.1
  unfold f_X10_transliterate_67 at hf
  cases hf
  exact q_throwW C hH hxt htr (Or.inr (Or.inr rfl)) wd_574 wd_66 wd_584 (List.mem_of_getElem? (i := 14) rfl) hl.1 dX10_transliterate_67 dX10_transliterate_70 dX10_transliterate_71 dX10_transliterate_74 dX10_transliterate_77 (Nat.le_of_ble_eq_true rfl) (xv_1 rfl) (xv_6 rfl)
set_option maxRecDepth 100000 in
set_option maxHeartbeats 4000000 in
theorem t_X10_transliterate_23 {D : va_G} {B : Nat} {Y : Nat → ClassId} {p : Program} {l : Launch} {e : Env} {s : State} {m : MethodId} {args : Array Value} {below : List Frame} {meth : Method} {c : Code} {z : ((Nat ⊕ Int32) × Wd)} {H : Heap} {locs : List Loc} {ls : Array Slot} {w : Wd} {v3 : Int32} {v4 : Nat} {v5 : Nat} {t0 : Int32} (C : CX D B Y p s m args meth c cX10_transliterate 7 RX10 (some .int)) (hxt : ∀ x ∈ c.exceptionTable.toList, False) (htr : l.stackTraces = false)   (k_v4 : KD v4 = 7) (k_v5 : KD v5 = 7) (z_v3 : isZ v3) (z_t0 : isZ t0) (hH : HS D B Y w s H locs) (hl : lv_has ls 7 [(0, .ref (B + 0)), (3, .int v3), (4, .ref (B + v4)), (5, .ref (B + v5))]) (hf : f_X10_transliterate_23 v3 v4 v5 t0 w = some z) : W p l e (RM 5 (xv (zoI z.1)) (6 * xv (zoI z.1))) s m args below meth c H locs 0 0 (vx_MQ below (QX D B Y (zoI z.1) z.2 True) (XX D B Y (zoI z.1) z.2) args s (xv (zoI z.1)) (6 * xv (zoI z.1)) (AB B)) (F0 m 23 ls [.int t0]) := by
  have hx := C.1
  have hb := C.2.1
  unfold f_X10_transliterate_23 at hf
  refine lv_istore (lv' := [(6, .int t0), (0, .ref (B + 0)), (3, .int v3), (4, .ref (B + v4)), (5, .ref (B + v5))]) hx hb dX10_transliterate_23 hl (by decide) rfl (fun ls hl => ?_)
  refine lv_aload_n hx hb dX10_transliterate_25 rfl (lv_at hl 1 rfl) ?_
  refine fg_X10_12 C hH dX10_transliterate_26 ?_
  refine lv_iload hx hb dX10_transliterate_29 (lv_at hl 0 rfl) ?_
  refine lv_iload_n hx hb dX10_transliterate_31 rfl (lv_at hl 2 rfl) ?_
  refine lv_aload hx hb dX10_transliterate_32 (lv_at hl 3 rfl) ?_
  refine lv_aload_n hx hb dX10_transliterate_34 rfl (lv_at hl 1 rfl) ?_
  refine fg_X10_93 C hH dX10_transliterate_35 ?_
  obtain ⟨x2, w1, hc, hf⟩ := bd_some hf
  refine q_callV1 (v := .int x2) (As := [.int t0, .int v3, .ref (B + v4), .ref (B + 709)]) C hH (ci := 9) rfl (by omega) gk_X10_330 yd_X9_passInto (by omega) (by omega) kc_1 (c_X9_passInto kc_1 k_v4 kc_709 z_v3 hc) hl.1 rfl (Nat.le_of_ble_eq_true rfl) dX10_transliterate_38 xv_00 (fun H locs hH z_x2 => ?_)
  refine b_if_eq (tgt := 67) hx hb hf dX10_transliterate_41 (by decide) (fun hf => ?_) (fun hf => ?_)
  · exact t_X10_transliterate_67 C hxt htr hH (lv_sub hl [] rfl) hf
  · refine lv_aload_n hx hb dX10_transliterate_44 rfl (lv_at hl 1 rfl) ?_
    refine fg_X10_12 C hH dX10_transliterate_45 ?_
    refine lv_iconst (v := (1 : Int32)) hx hb dX10_transliterate_48 (by decide) ?_
    refine lv_iload hx hb dX10_transliterate_49 (lv_at hl 0 rfl) ?_
    refine lv_isub hx hb dX10_transliterate_51 ?_
    refine lv_iload_n hx hb dX10_transliterate_52 rfl (lv_at hl 2 rfl) ?_
    refine lv_aload_n hx hb dX10_transliterate_53 rfl (lv_at hl 1 rfl) ?_
    refine fg_X10_93 C hH dX10_transliterate_54 ?_
    refine lv_aload_n hx hb dX10_transliterate_57 rfl (lv_at hl 1 rfl) ?_
    refine fg_X10_96 C hH dX10_transliterate_58 ?_
    obtain ⟨x4, w3, hc, hf⟩ := bd_some hf
    refine q_callV1 (v := .int x4) (As := [.int ((1 : Int32) - t0), .int v3, .ref (B + 709), .ref (B + 711)]) C hH (ci := 9) rfl (by omega) gk_X10_330 yd_X9_passInto (by omega) (by omega) kc_1 (c_X9_passInto kc_1 kc_709 kc_711 z_v3 hc) hl.1 rfl (Nat.le_of_ble_eq_true rfl) dX10_transliterate_61 xv_00 (fun H locs hH z_x4 => ?_)
    refine b_if_ne (tgt := 78) hx hb hf dX10_transliterate_64 (by decide) (fun hf => ?_) (fun hf => ?_)
    · refine lv_aload hx hb dX10_transliterate_78 (lv_at hl 4 rfl) ?_
      refine lv_aload_n hx hb dX10_transliterate_80 rfl (lv_at hl 1 rfl) ?_
      refine fg_X10_96 C hH dX10_transliterate_81 ?_
      obtain ⟨u, w5, hc, hf⟩ := bd_some hf
      refine q_callV0 (As := [.ref (B + 711)]) C hH (ci := 7) rfl (by omega) gk_X10_253 yd_X7_takeOver (by omega) (by omega) k_v5 (c_X7_takeOver k_v5 kc_711 hc) hl.1 rfl (Nat.le_of_ble_eq_true rfl) dX10_transliterate_84 xv_00 (fun H locs hH hP => ?_)
      refine lv_aload hx hb dX10_transliterate_87 (lv_at hl 4 rfl) ?_
      obtain ⟨x7, w6, hc, hf⟩ := bd_some hf
      refine q_callV1 (v := .int x7) (As := []) C hH (ci := 7) rfl (by omega) gk_X10_107 yd_X7_size (by omega) (by omega) k_v5 (c_X7_size k_v5 hc) hl.1 rfl (Nat.le_of_ble_eq_true rfl) dX10_transliterate_89 xv_00 (fun H locs hH hP => ?_)
      cases hf
      exact q_x0 rfl (q_reti C hH trivial dX10_transliterate_92)
    · exact t_X10_transliterate_67 C hxt htr hH (lv_sub hl [] rfl) hf
set_option maxRecDepth 100000 in
set_option maxHeartbeats 4000000 in
theorem t_X10_transliterate_0 {D : va_G} {B : Nat} {Y : Nat → ClassId} {p : Program} {l : Launch} {e : Env} {s : State} {m : MethodId} {args : Array Value} {below : List Frame} {meth : Method} {c : Code} {z : ((Nat ⊕ Int32) × Wd)} {H : Heap} {locs : List Loc} {ls : Array Slot} {w : Wd} {v1 : Int32} {v2 : Int32} {v3 : Int32} (C : CX D B Y p s m args meth c cX10_transliterate 7 RX10 (some .int)) (hxt : ∀ x ∈ c.exceptionTable.toList, False) (htr : l.stackTraces = false)    (z_v3 : isZ v3) (hH : HS D B Y w s H locs) (hl : lv_has ls 7 [(0, .ref (B + 0)), (1, .int v1), (2, .int v2), (3, .int v3)]) (hf : f_X10_transliterate v1 v2 v3 w = some z) : W p l e (RM 5 (xv (zoI z.1)) (6 * xv (zoI z.1))) s m args below meth c H locs 0 0 (vx_MQ below (QX D B Y (zoI z.1) z.2 True) (XX D B Y (zoI z.1) z.2) args s (xv (zoI z.1)) (6 * xv (zoI z.1)) (AB B)) (F0 m 0 ls []) := by
  have hx := C.1
  have hb := C.2.1
  unfold f_X10_transliterate at hf
  refine lv_aload_n hx hb dX10_transliterate_0 rfl (lv_at hl 0 rfl) ?_
  refine lv_iload_n hx hb dX10_transliterate_1 rfl (lv_at hl 1 rfl) ?_
  rcases bdx_some hf with ⟨k, w1, hc, rfl⟩ | ⟨r2, w1, hc, hf⟩
  · exact q_xrunX (k0 := k) (q_xV (As := [.int v1]) C hH (ci := 10) rfl (by omega) gk_X10_194 yd_X10_textOf (by omega) (by omega) kc_0 (c_X10_textOf (r := .inl k) htr hc) hl.1 rfl (Nat.le_of_ble_eq_true rfl) dX10_transliterate_2 (xv_le rfl)) hH (fun H locs ce q hH h1 h2 h3 => q_out C hH hxt h1 h2 h3 (xv_1 rfl) (xv_6 rfl))
  refine q_xrun (ov := some (.ref (B + r2))) (q_xV (As := [.int v1]) C hH (ci := 10) rfl (by omega) gk_X10_194 yd_X10_textOf (by omega) (by omega) kc_0 (c_X10_textOf (r := .inr r2) htr hc) hl.1 rfl (Nat.le_of_ble_eq_true rfl) dX10_transliterate_2 (xv_0 rfl xv_00)) hH (fun H locs hH k_r2 => ?_)
  refine lv_astore (lv' := [(4, .ref (B + r2)), (0, .ref (B + 0)), (1, .int v1), (2, .int v2), (3, .int v3)]) hx hb dX10_transliterate_5 hl (by decide) rfl (fun ls hl => ?_)
  refine lv_aload_n hx hb dX10_transliterate_7 rfl (lv_at hl 1 rfl) ?_
  refine lv_iload_n hx hb dX10_transliterate_8 rfl (lv_at hl 3 rfl) ?_
  rcases bdx_some hf with ⟨k, w3, hc, rfl⟩ | ⟨r4, w3, hc, hf⟩
  · exact q_xrunX (k0 := k) (q_xV (As := [.int v2]) C hH (ci := 10) rfl (by omega) gk_X10_194 yd_X10_textOf (by omega) (by omega) kc_0 (c_X10_textOf (r := .inl k) htr hc) hl.1 rfl (Nat.le_of_ble_eq_true rfl) dX10_transliterate_9 (xv_le rfl)) hH (fun H locs ce q hH h1 h2 h3 => q_out C hH hxt h1 h2 h3 (xv_1 rfl) (xv_6 rfl))
  refine q_xrun (ov := some (.ref (B + r4))) (q_xV (As := [.int v2]) C hH (ci := 10) rfl (by omega) gk_X10_194 yd_X10_textOf (by omega) (by omega) kc_0 (c_X10_textOf (r := .inr r4) htr hc) hl.1 rfl (Nat.le_of_ble_eq_true rfl) dX10_transliterate_9 (xv_0 rfl xv_00)) hH (fun H locs hH k_r4 => ?_)
  refine lv_astore (lv' := [(5, .ref (B + r4)), (4, .ref (B + r2)), (0, .ref (B + 0)), (1, .int v1), (2, .int v2), (3, .int v3)]) hx hb dX10_transliterate_12 hl (by decide) rfl (fun ls hl => ?_)
  refine lv_iload_n hx hb dX10_transliterate_14 rfl (lv_at hl 5 rfl) ?_
  refine b_if_eq (tgt := 22) hx hb hf dX10_transliterate_15 (by decide) (fun hf => ?_) (fun hf => ?_)
  · refine lv_iconst (v := (0 : Int32)) hx hb dX10_transliterate_22 (by decide) ?_
    exact t_X10_transliterate_23 C hxt htr k_r2 k_r4 z_v3 isZ_0 hH (lv_sub hl [2, 5, 1, 0] rfl) hf
  · refine lv_iconst (v := (1 : Int32)) hx hb dX10_transliterate_18 (by decide) ?_
    refine lv_goto (tgt := 23) hx hb dX10_transliterate_19 (by decide) ?_
    exact t_X10_transliterate_23 C hxt htr k_r2 k_r4 z_v3 isZ_1 hH (lv_sub hl [2, 5, 1, 0] rfl) hf
set_option maxRecDepth 100000 in
theorem c_X10_transliterate {l : Launch} {D : va_G} {B : Nat} {Y : Nat → ClassId} {v1 : Int32} {v2 : Int32} {v3 : Int32} {w : Wd} {r : (Nat ⊕ Int32)} {w1 : Wd} (htr : l.stackTraces = false)  (z_v3 : isZ v3) (hf : f_X10_transliterate v1 v2 v3 w = some (r, w1)) : XM l D B Y yX10_transliterate cX10_transliterate 7 (some .int) 5 [.ref (B + 0), .int v1, .int v2, .int v3] w (zoI r) w1 True :=
  XM_of (by decide +kernel) (Nat.le_of_ble_eq_true rfl) (fun p e s m args below meth c ls C hxt hH hl => t_X10_transliterate_0 C hxt htr z_v3 hH (lv_sub hl [0, 1, 2, 3] rfl) hf)
/-! LetterTables.isNumber -/
set_option maxRecDepth 100000 in
set_option maxHeartbeats 4000000 in
theorem t_X10_isNumber_0 {D : va_G} {B : Nat} {Y : Nat → ClassId} {p : Program} {l : Launch} {e : Env} {s : State} {m : MethodId} {args : Array Value} {below : List Frame} {meth : Method} {c : Code} {z : (Int32 × Wd)} {H : Heap} {locs : List Loc} {ls : Array Slot} {w : Wd} {v0 : Int32} (C : CX D B Y p s m args meth c cX10_isNumber 1 RX10 (some .boolean))     (hH : HS D B Y w s H locs) (hl : lv_has ls 1 [(0, .int v0)]) (hf : f_X10_isNumber v0 w = some z) : W p l e (RM 1 0 0) s m args below meth c H locs 0 0 (MQ below (QG D B Y (some (.int z.1)) z.2 (isZ z.1)) args s 0 0 (AB B)) (F0 m 0 ls []) := by
  have hx := C.1
  have hb := C.2.1
  unfold f_X10_isNumber at hf
  refine lv_iload_n hx hb dX10_isNumber_0 rfl (lv_at hl 0 rfl) ?_
  refine lv_iconst (v := (0 : Int32)) hx hb dX10_isNumber_1 (by decide) ?_
  refine lv_ldcw (v := (999999 : Int32)) hx hb C.2.2.2.1 (C.2.2.2.2.1 _ wd_1157) dX10_isNumber_2 ?_
  obtain ⟨x2, w1, hc, hf⟩ := bd_some hf
  refine q_callS1 (v := .int x2) (As := [.int v0, .int (0 : Int32), .int (999999 : Int32)]) C hH gk_X10_99 yd_X10_isWithin (by omega) (by omega) (c_X10_isWithin hc) hl.1 rfl (Nat.le_of_ble_eq_true rfl) dX10_isNumber_5 xv_00 (fun H locs hH z_x2 => ?_)
  cases hf
  exact q_retz C hH z_x2 z_x2 dX10_isNumber_8
set_option maxRecDepth 100000 in
theorem c_X10_isNumber {l : Launch} {D : va_G} {B : Nat} {Y : Nat → ClassId} {v0 : Int32} {w : Wd} {r : Int32} {w1 : Wd}   (hf : f_X10_isNumber v0 w = some (r, w1)) : CM l D B Y yX10_isNumber cX10_isNumber 1 (some .boolean) 1 [.int v0] w (some (.int r)) w1 (isZ r) :=
  CM_of (by decide +kernel) (Nat.le_of_ble_eq_true rfl) (fun p e s m args below meth c ls C hH hl => t_X10_isNumber_0 C  hH (lv_sub hl [0] rfl) hf)
/-! LetterTables$PluralRule.remainder -/
set_option maxRecDepth 100000 in
set_option maxHeartbeats 4000000 in
theorem t_X6_remainder_0 {D : va_G} {B : Nat} {Y : Nat → ClassId} {p : Program} {l : Launch} {e : Env} {s : State} {m : MethodId} {args : Array Value} {below : List Frame} {meth : Method} {c : Code} {z : (Int32 × Wd)} {H : Heap} {locs : List Loc} {ls : Array Slot} {w : Wd} {v0 : Int32} {v1 : Int32} (C : CX D B Y p s m args meth c cX6_remainder 2 RX6 (some .int))     (hH : HS D B Y w s H locs) (hl : lv_has ls 2 [(0, .int v0), (1, .int v1)]) (hf : f_X6_remainder v0 v1 w = some z) : W p l e (RM 0 0 0) s m args below meth c H locs 0 0 (MQ below (QG D B Y (some (.int z.1)) z.2 True) args s 0 0 (AB B)) (F0 m 0 ls []) := by
  have hx := C.1
  have hb := C.2.1
  unfold f_X6_remainder at hf
  refine lv_iload_n hx hb dX6_remainder_0 rfl (lv_at hl 1 rfl) ?_
  refine lv_iconst (v := (1 : Int32)) hx hb dX6_remainder_1 (by decide) ?_
  refine b_icmp_ge (tgt := 9) hx hb hf dX6_remainder_2 (by decide) (fun hf => ?_) (fun hf => ?_)
  · refine lv_iload_n hx hb dX6_remainder_9 rfl (lv_at hl 0 rfl) ?_
    refine lv_iload_n hx hb dX6_remainder_10 rfl (lv_at hl 1 rfl) ?_
    refine g_irem hx hb hf dX6_remainder_11 (fun hf => ?_)
    cases hf
    exact q_reti C hH trivial dX6_remainder_12
  · refine lv_iconst (v := (0 : Int32)) hx hb dX6_remainder_5 (by decide) ?_
    refine lv_goto (tgt := 12) hx hb dX6_remainder_6 (by decide) ?_
    cases hf
    exact q_reti C hH trivial dX6_remainder_12
set_option maxRecDepth 100000 in
theorem c_X6_remainder {l : Launch} {D : va_G} {B : Nat} {Y : Nat → ClassId} {v0 : Int32} {v1 : Int32} {w : Wd} {r : Int32} {w1 : Wd}   (hf : f_X6_remainder v0 v1 w = some (r, w1)) : CM l D B Y yX6_remainder cX6_remainder 2 (some .int) 0 [.int v0, .int v1] w (some (.int r)) w1 True :=
  CM_of (by decide +kernel) (Nat.le_of_ble_eq_true rfl) (fun p e s m args below meth c ls C hH hl => t_X6_remainder_0 C  hH (lv_sub hl [0, 1] rfl) hf)
/-! LetterTables$PluralRule.fits -/
set_option maxRecDepth 100000 in
set_option maxHeartbeats 4000000 in
theorem t_X6_fits_34 {D : va_G} {B : Nat} {Y : Nat → ClassId} {p : Program} {l : Launch} {e : Env} {s : State} {m : MethodId} {args : Array Value} {below : List Frame} {meth : Method} {c : Code} {z : (Int32 × Wd)} {H : Heap} {locs : List Loc} {ls : Array Slot} {w : Wd} {v0 : Nat} {v1 : Int32} {t0 : Int32} (C : CX D B Y p s m args meth c cX6_fits 3 RX6 (some .boolean))   (k_v0 : KD v0 = 6) (z_t0 : isZ t0) (hH : HS D B Y w s H locs) (hl : lv_has ls 3 [(0, .ref (B + v0)), (1, .int v1)]) (hf : f_X6_fits_34 v0 v1 t0 w = some z) : W p l e (RM 1 0 0) s m args below meth c H locs 0 0 (MQ below (QG D B Y (some (.int z.1)) z.2 (isZ z.1)) args s 0 0 (AB B)) (F0 m 34 ls [.int t0]) := by
  have hx := C.1
  have hb := C.2.1
  unfold f_X6_fits_34 at hf
  refine lv_istore_n (lv' := [(2, .int t0), (0, .ref (B + v0)), (1, .int v1)]) hx hb dX6_fits_34 rfl hl (by decide) rfl (fun ls hl => ?_)
  refine lv_iload_n hx hb dX6_fits_35 rfl (lv_at hl 0 rfl) ?_
  refine b_if_ne (tgt := 65) hx hb hf dX6_fits_36 (by decide) (fun hf => ?_) (fun hf => ?_)
  · refine lv_iconst (v := (0 : Int32)) hx hb dX6_fits_65 (by decide) ?_
    cases hf
    exact q_retz C hH isZ_0 isZ_0 dX6_fits_66
  · refine lv_iload_n hx hb dX6_fits_39 rfl (lv_at hl 2 rfl) ?_
    refine lv_aload_n hx hb dX6_fits_40 rfl (lv_at hl 1 rfl) ?_
    refine fg_X6_7 C hH k_v0 dX6_fits_41 ?_
    obtain ⟨x2, w1, hc, hf⟩ := bd_some hf
    refine q_callS1 (v := .int x2) (As := [.int v1, .int (w.1 v0 1)]) C hH gk_X6_35 yd_X6_remainder (by omega) (by omega) (c_X6_remainder hc) hl.1 rfl (Nat.le_of_ble_eq_true rfl) dX6_fits_44 xv_00 (fun H locs hH hP => ?_)
    refine lv_aload_n hx hb dX6_fits_47 rfl (lv_at hl 1 rfl) ?_
    refine fg_X6_16 C hH k_v0 dX6_fits_48 ?_
    refine lv_aload_n hx hb dX6_fits_51 rfl (lv_at hl 1 rfl) ?_
    refine fg_X6_19 C hH k_v0 dX6_fits_52 ?_
    obtain ⟨x4, w3, hc, hf⟩ := bd_some hf
    refine q_callN1 (v := .int x4) (As := [.int x2, .int (w1.1 v0 2), .int (w1.1 v0 3)]) C hH (List.mem_of_getElem? (i := 9) rfl) wd_452 wd_50 wd_451 yd_X10_isWithin (by omega) (by omega) (c_X10_isWithin hc) hl.1 rfl (Nat.le_of_ble_eq_true rfl) dX6_fits_55 xv_00 (fun H locs hH z_x4 => ?_)
    refine b_if_eq (tgt := 65) hx hb hf dX6_fits_58 (by decide) (fun hf => ?_) (fun hf => ?_)
    · refine lv_iconst (v := (0 : Int32)) hx hb dX6_fits_65 (by decide) ?_
      cases hf
      exact q_retz C hH isZ_0 isZ_0 dX6_fits_66
    · refine lv_iconst (v := (1 : Int32)) hx hb dX6_fits_61 (by decide) ?_
      refine lv_goto (tgt := 66) hx hb dX6_fits_62 (by decide) ?_
      cases hf
      exact q_retz C hH isZ_1 isZ_1 dX6_fits_66
set_option maxRecDepth 100000 in
set_option maxHeartbeats 4000000 in
theorem t_X6_fits_33 {D : va_G} {B : Nat} {Y : Nat → ClassId} {p : Program} {l : Launch} {e : Env} {s : State} {m : MethodId} {args : Array Value} {below : List Frame} {meth : Method} {c : Code} {z : (Int32 × Wd)} {H : Heap} {locs : List Loc} {ls : Array Slot} {w : Wd} {v0 : Nat} {v1 : Int32} (C : CX D B Y p s m args meth c cX6_fits 3 RX6 (some .boolean))   (k_v0 : KD v0 = 6)  (hH : HS D B Y w s H locs) (hl : lv_has ls 3 [(0, .ref (B + v0)), (1, .int v1)]) (hf : f_X6_fits_33 v0 v1 w = some z) : W p l e (RM 1 0 0) s m args below meth c H locs 0 0 (MQ below (QG D B Y (some (.int z.1)) z.2 (isZ z.1)) args s 0 0 (AB B)) (F0 m 33 ls []) := by
  have hx := C.1
  have hb := C.2.1
  unfold f_X6_fits_33 at hf
  refine lv_iconst (v := (0 : Int32)) hx hb dX6_fits_33 (by decide) ?_
  exact t_X6_fits_34 C k_v0 isZ_0 hH (lv_sub hl [0, 1] rfl) hf
set_option maxRecDepth 100000 in
set_option maxHeartbeats 4000000 in
theorem t_X6_fits_0 {D : va_G} {B : Nat} {Y : Nat → ClassId} {p : Program} {l : Launch} {e : Env} {s : State} {m : MethodId} {args : Array Value} {below : List Frame} {meth : Method} {c : Code} {z : (Int32 × Wd)} {H : Heap} {locs : List Loc} {ls : Array Slot} {w : Wd} {v0 : Nat} {v1 : Int32} (C : CX D B Y p s m args meth c cX6_fits 3 RX6 (some .boolean))   (k_v0 : KD v0 = 6)  (hH : HS D B Y w s H locs) (hl : lv_has ls 3 [(0, .ref (B + v0)), (1, .int v1)]) (hf : f_X6_fits v0 v1 w = some z) : W p l e (RM 1 0 0) s m args below meth c H locs 0 0 (MQ below (QG D B Y (some (.int z.1)) z.2 (isZ z.1)) args s 0 0 (AB B)) (F0 m 0 ls []) := by
  have hx := C.1
  have hb := C.2.1
  unfold f_X6_fits at hf
  refine lv_aload_n hx hb dX6_fits_0 rfl (lv_at hl 0 rfl) ?_
  refine fg_X6_22 C hH k_v0 dX6_fits_1 ?_
  refine b_if_le (tgt := 33) hx hb hf dX6_fits_4 (by decide) (fun hf => ?_) (fun hf => ?_)
  · exact t_X6_fits_33 C k_v0 hH (lv_sub hl [0, 1] rfl) hf
  · refine lv_iload_n hx hb dX6_fits_7 rfl (lv_at hl 1 rfl) ?_
    refine lv_aload_n hx hb dX6_fits_8 rfl (lv_at hl 0 rfl) ?_
    refine fg_X6_22 C hH k_v0 dX6_fits_9 ?_
    obtain ⟨x2, w1, hc, hf⟩ := bd_some hf
    refine q_callS1 (v := .int x2) (As := [.int v1, .int (w.1 v0 4)]) C hH gk_X6_35 yd_X6_remainder (by omega) (by omega) (c_X6_remainder hc) hl.1 rfl (Nat.le_of_ble_eq_true rfl) dX6_fits_12 xv_00 (fun H locs hH hP => ?_)
    refine lv_aload_n hx hb dX6_fits_15 rfl (lv_at hl 0 rfl) ?_
    refine fg_X6_25 C hH k_v0 dX6_fits_16 ?_
    refine lv_aload_n hx hb dX6_fits_19 rfl (lv_at hl 0 rfl) ?_
    refine fg_X6_28 C hH k_v0 dX6_fits_20 ?_
    obtain ⟨x4, w3, hc, hf⟩ := bd_some hf
    refine q_callN1 (v := .int x4) (As := [.int x2, .int (w1.1 v0 5), .int (w1.1 v0 6)]) C hH (List.mem_of_getElem? (i := 9) rfl) wd_452 wd_50 wd_451 yd_X10_isWithin (by omega) (by omega) (c_X10_isWithin hc) hl.1 rfl (Nat.le_of_ble_eq_true rfl) dX6_fits_23 xv_00 (fun H locs hH z_x4 => ?_)
    refine b_if_eq (tgt := 33) hx hb hf dX6_fits_26 (by decide) (fun hf => ?_) (fun hf => ?_)
    · exact t_X6_fits_33 C k_v0 hH (lv_sub hl [0, 1] rfl) hf
    · refine lv_iconst (v := (1 : Int32)) hx hb dX6_fits_29 (by decide) ?_
      refine lv_goto (tgt := 34) hx hb dX6_fits_30 (by decide) ?_
      exact t_X6_fits_34 C k_v0 isZ_1 hH (lv_sub hl [0, 1] rfl) hf
set_option maxRecDepth 100000 in
theorem c_X6_fits {l : Launch} {D : va_G} {B : Nat} {Y : Nat → ClassId} {v0 : Nat} {v1 : Int32} {w : Wd} {r : Int32} {w1 : Wd} (k_v0 : KD v0 = 6)  (hf : f_X6_fits v0 v1 w = some (r, w1)) : CM l D B Y yX6_fits cX6_fits 3 (some .boolean) 1 [.ref (B + v0), .int v1] w (some (.int r)) w1 (isZ r) :=
  CM_of (by decide +kernel) (Nat.le_of_ble_eq_true rfl) (fun p e s m args below meth c ls C hH hl => t_X6_fits_0 C k_v0 hH (lv_sub hl [0, 1] rfl) hf)
/-! LetterTables$PluralRule.classTold -/
set_option maxRecDepth 100000 in
set_option maxHeartbeats 4000000 in
theorem t_X6_classTold_0 {D : va_G} {B : Nat} {Y : Nat → ClassId} {p : Program} {l : Launch} {e : Env} {s : State} {m : MethodId} {args : Array Value} {below : List Frame} {meth : Method} {c : Code} {z : (Int32 × Wd)} {H : Heap} {locs : List Loc} {ls : Array Slot} {w : Wd} {v0 : Nat} (C : CX D B Y p s m args meth c cX6_classTold 1 RX6 (some .int))   (k_v0 : KD v0 = 6)  (hH : HS D B Y w s H locs) (hl : lv_has ls 1 [(0, .ref (B + v0))]) (hf : f_X6_classTold v0 w = some z) : W p l e (RM 0 0 0) s m args below meth c H locs 0 0 (MQ below (QG D B Y (some (.int z.1)) z.2 True) args s 0 0 (AB B)) (F0 m 0 ls []) := by
  have hx := C.1
  have hb := C.2.1
  unfold f_X6_classTold at hf
  refine lv_aload_n hx hb dX6_classTold_0 rfl (lv_at hl 0 rfl) ?_
  refine fg_X6_13 C hH k_v0 dX6_classTold_1 ?_
  cases hf
  exact q_reti C hH trivial dX6_classTold_4
set_option maxRecDepth 100000 in
theorem c_X6_classTold {l : Launch} {D : va_G} {B : Nat} {Y : Nat → ClassId} {v0 : Nat} {w : Wd} {r : Int32} {w1 : Wd} (k_v0 : KD v0 = 6)  (hf : f_X6_classTold v0 w = some (r, w1)) : CM l D B Y yX6_classTold cX6_classTold 1 (some .int) 0 [.ref (B + v0)] w (some (.int r)) w1 True :=
  CM_of (by decide +kernel) (Nat.le_of_ble_eq_true rfl) (fun p e s m args below meth c ls C hH hl => t_X6_classTold_0 C k_v0 hH (lv_sub hl [0] rfl) hf)
/-! LetterTables$Language.classFor -/
set_option maxRecDepth 100000 in
set_option maxHeartbeats 4000000 in
theorem tb_X2_classFor_2 {D : va_G} {B : Nat} {Y : Nat → ClassId} {p : Program} {l : Launch} {e : Env} {s : State} {m : MethodId} {args : Array Value} {below : List Frame} {meth : Method} {c : Code} {z : (Int32 × Wd)} {H : Heap} {locs : List Loc} {ls : Array Slot} {w : Wd} {v0 : Nat} {v1 : Int32} {v2 : Int32} (C : CX D B Y p s m args meth c cX2_classFor 3 RX2 (some .int))  {rc_2 : Nat × Int32 × Int32 × Wd → Option (Int32 × Wd)} (hr_2 : ∀ (v0 : Nat) (v1 : Int32) (v2 : Int32) (w : Wd), rc_2 (v0, v1, v2, w) = some z → KD v0 = 2 → ∀ (H : Heap) (locs : List Loc) (ls : Array Slot), HS D B Y w s H locs → lv_has ls 3 [(0, .ref (B + v0)), (1, .int v1), (2, .int v2)] → W p l e (RM 2 0 0) s m args below meth c H locs 0 0 (MQ below (QG D B Y (some (.int z.1)) z.2 True) args s 0 0 (AB B)) (F0 m 2 ls []))  (k_v0 : KD v0 = 2)  (hH : HS D B Y w s H locs) (hl : lv_has ls 3 [(0, .ref (B + v0)), (1, .int v1), (2, .int v2)]) (hf : g_X2_classFor_2 rc_2 v0 v1 v2 w = some z) : W p l e (RM 2 0 0) s m args below meth c H locs 0 0 (MQ below (QG D B Y (some (.int z.1)) z.2 True) args s 0 0 (AB B)) (F0 m 2 ls []) := by
  have hx := C.1
  have hb := C.2.1
  unfold g_X2_classFor_2 at hf
  refine lv_iload_n hx hb dX2_classFor_2 rfl (lv_at hl 2 rfl) ?_
  refine lv_aload_n hx hb dX2_classFor_3 rfl (lv_at hl 0 rfl) ?_
  refine fg_X2_52 C hH k_v0 dX2_classFor_4 ?_
  refine b_icmp_ge (tgt := 48) hx hb hf dX2_classFor_7 (by decide) (fun hf => ?_) (fun hf => ?_)
  · refine lv_iconst (v := (-1 : Int32)) hx hb dX2_classFor_48 (by decide) ?_
    cases hf
    exact q_reti C hH trivial dX2_classFor_49
  · refine lv_iload_n hx hb dX2_classFor_10 rfl (lv_at hl 2 rfl) ?_
    refine lv_aload_n hx hb dX2_classFor_11 rfl (lv_at hl 0 rfl) ?_
    refine fg_X2_35 C hH k_v0 dX2_classFor_12 ?_
    refine q_alen C hH (t0 := 7) (ci := 27) rfl (by omega) (ko_2_5 k_v0) dX2_classFor_15 ?_
    refine b_icmp_ge (tgt := 48) hx hb hf dX2_classFor_16 (by decide) (fun hf => ?_) (fun hf => ?_)
    · refine lv_iconst (v := (-1 : Int32)) hx hb dX2_classFor_48 (by decide) ?_
      cases hf
      exact q_reti C hH trivial dX2_classFor_49
    · refine lv_aload_n hx hb dX2_classFor_19 rfl (lv_at hl 0 rfl) ?_
      refine fg_X2_35 C hH k_v0 dX2_classFor_20 ?_
      refine lv_iload_n hx hb dX2_classFor_23 rfl (lv_at hl 2 rfl) ?_
      refine g_aald C hH (t0 := 7) (ci := 27) (K := 6) rfl (by omega) (fun _ h => ka_27 (ko_2_5 k_v0) h) (ko_2_5 k_v0) hf dX2_classFor_24 (fun r1 k_r1 hf => ?_)
      refine lv_iload_n hx hb dX2_classFor_25 rfl (lv_at hl 1 rfl) ?_
      obtain ⟨x3, w2, hc, hf⟩ := bd_some hf
      refine q_callV1 (v := .int x3) (As := [.int v1]) C hH (ci := 6) rfl (by omega) gk_X2_90 yd_X6_fits (by omega) (by omega) k_r1 (c_X6_fits k_r1 hc) hl.1 rfl (Nat.le_of_ble_eq_true rfl) dX2_classFor_26 xv_00 (fun H locs hH z_x3 => ?_)
      refine b_if_eq (tgt := 42) hx hb hf dX2_classFor_29 (by decide) (fun hf => ?_) (fun hf => ?_)
      · refine b_let hf (fun x4 he hf => ?_)
        refine lv_iinc (v := x4) (lv' := [(2, .int x4), (0, .ref (B + v0)), (1, .int v1)]) hx hb dX2_classFor_42 hl (k := 2) rfl (by rw [← he]; rfl) (by decide) rfl (fun ls hl => ?_)
        refine lv_goto (tgt := 2) hx hb dX2_classFor_45 (by decide) ?_
        exact hr_2 v0 v1 x4 w2 hf k_v0 _ _ _ hH (lv_sub hl [1, 2, 0] rfl)
      · refine lv_aload_n hx hb dX2_classFor_32 rfl (lv_at hl 0 rfl) ?_
        refine fg_X2_35 C hH k_v0 dX2_classFor_33 ?_
        refine lv_iload_n hx hb dX2_classFor_36 rfl (lv_at hl 2 rfl) ?_
        refine g_aald C hH (t0 := 7) (ci := 27) (K := 6) rfl (by omega) (fun _ h => ka_27 (ko_2_5 k_v0) h) (ko_2_5 k_v0) hf dX2_classFor_37 (fun r5 k_r5 hf => ?_)
        obtain ⟨x7, w6, hc, hf⟩ := bd_some hf
        refine q_callV1 (v := .int x7) (As := []) C hH (ci := 6) rfl (by omega) gk_X2_93 yd_X6_classTold (by omega) (by omega) k_r5 (c_X6_classTold k_r5 hc) hl.1 rfl (Nat.le_of_ble_eq_true rfl) dX2_classFor_38 xv_00 (fun H locs hH hP => ?_)
        cases hf
        exact q_reti C hH trivial dX2_classFor_41
set_option maxRecDepth 100000 in
set_option maxHeartbeats 4000000 in
theorem t_X2_classFor_2 {D : va_G} {B : Nat} {Y : Nat → ClassId} {p : Program} {l : Launch} {e : Env} {s : State} {m : MethodId} {args : Array Value} {below : List Frame} {meth : Method} {c : Code} {z : (Int32 × Wd)} {H : Heap} {locs : List Loc} {ls : Array Slot} {w : Wd} {v0 : Nat} {v1 : Int32} {v2 : Int32} (C : CX D B Y p s m args meth c cX2_classFor 3 RX2 (some .int))   (k_v0 : KD v0 = 2)  (hH : HS D B Y w s H locs) (hl : lv_has ls 3 [(0, .ref (B + v0)), (1, .int v1), (2, .int v2)]) (hf : f_X2_classFor_2 v0 v1 v2 w = some z) : W p l e (RM 2 0 0) s m args below meth c H locs 0 0 (MQ below (QG D B Y (some (.int z.1)) z.2 True) args s 0 0 (AB B)) (F0 m 2 ls []) := by
  exact loopN_ind (z := z) (body := fun rc σ => g_X2_classFor_2 rc  σ.1 σ.2.1 σ.2.2.1 σ.2.2.2)
    (P := fun σ => KD σ.1 = 2 → ∀ (H : Heap) (locs : List Loc) (ls : Array Slot), HS D B Y σ.2.2.2 s H locs → lv_has ls 3 [(0, .ref (B + σ.1)), (1, .int σ.2.1), (2, .int σ.2.2.1)] → W p l e (RM 2 0 0) s m args below meth c H locs 0 0 (MQ below (QG D B Y (some (.int z.1)) z.2 True) args s 0 0 (AB B)) (F0 m 2 ls []))
    (fun rc hrec σ hf k_v0 H locs ls hH hl => tb_X2_classFor_2 C (fun v0 v1 v2 w hr k_v0 H locs ls hH hl => hrec (v0, v1, v2, w) hr k_v0 H locs ls hH hl)  k_v0 hH hl hf) FU (v0, v1, v2, w) hf k_v0 H locs ls hH hl
set_option maxRecDepth 100000 in
set_option maxHeartbeats 4000000 in
theorem t_X2_classFor_0 {D : va_G} {B : Nat} {Y : Nat → ClassId} {p : Program} {l : Launch} {e : Env} {s : State} {m : MethodId} {args : Array Value} {below : List Frame} {meth : Method} {c : Code} {z : (Int32 × Wd)} {H : Heap} {locs : List Loc} {ls : Array Slot} {w : Wd} {v0 : Nat} {v1 : Int32} (C : CX D B Y p s m args meth c cX2_classFor 3 RX2 (some .int))   (k_v0 : KD v0 = 2)  (hH : HS D B Y w s H locs) (hl : lv_has ls 3 [(0, .ref (B + v0)), (1, .int v1)]) (hf : f_X2_classFor v0 v1 w = some z) : W p l e (RM 2 0 0) s m args below meth c H locs 0 0 (MQ below (QG D B Y (some (.int z.1)) z.2 True) args s 0 0 (AB B)) (F0 m 0 ls []) := by
  have hx := C.1
  have hb := C.2.1
  unfold f_X2_classFor at hf
  refine lv_iconst (v := (0 : Int32)) hx hb dX2_classFor_0 (by decide) ?_
  refine lv_istore_n (lv' := [(2, .int (0 : Int32)), (0, .ref (B + v0)), (1, .int v1)]) hx hb dX2_classFor_1 rfl hl (by decide) rfl (fun ls hl => ?_)
  exact t_X2_classFor_2 C k_v0 hH (lv_sub hl [1, 2, 0] rfl) hf
set_option maxRecDepth 100000 in
theorem c_X2_classFor {l : Launch} {D : va_G} {B : Nat} {Y : Nat → ClassId} {v0 : Nat} {v1 : Int32} {w : Wd} {r : Int32} {w1 : Wd} (k_v0 : KD v0 = 2)  (hf : f_X2_classFor v0 v1 w = some (r, w1)) : CM l D B Y yX2_classFor cX2_classFor 3 (some .int) 2 [.ref (B + v0), .int v1] w (some (.int r)) w1 True :=
  CM_of (by decide +kernel) (Nat.le_of_ble_eq_true rfl) (fun p e s m args below meth c ls C hH hl => t_X2_classFor_0 C k_v0 hH (lv_sub hl [0, 1] rfl) hf)
