/-! LetterTables.bySense -/
set_option maxRecDepth 100000 in
set_option maxHeartbeats 4000000 in
theorem tb_X10_bySense_50 {D : va_G} {B : Nat} {Y : Nat → ClassId} {p : Program} {l : Launch} {e : Env} {s : State} {m : MethodId} {args : Array Value} {below : List Frame} {meth : Method} {c : Code} {z : ((Nat ⊕ Int32) × Wd)} {H : Heap} {locs : List Loc} {ls : Array Slot} {w : Wd} {v2 : Int32} {v5 : Int32} {v6 : Int64} {v8 : Int32} {v9 : Int32} (C : CX D B Y p s m args meth c cX10_bySense 10 RX10 (some .int)) (hxt : ∀ x ∈ c.exceptionTable.toList, False) (htr : l.stackTraces = false)  {rc_50 : Int32 × Int32 × Int64 × Int32 × Int32 × Wd → Option ((Nat ⊕ Int32) × Wd)} (hr_50 : ∀ (v2 : Int32) (v5 : Int32) (v6 : Int64) (v8 : Int32) (v9 : Int32) (w : Wd), rc_50 (v2, v5, v6, v8, v9, w) = some z → ∀ (H : Heap) (locs : List Loc) (ls : Array Slot), HS D B Y w s H locs → lv_has ls 10 [(2, .int v2), (5, .int v5), (6, .long v6), (8, .int v8), (9, .int v9)] → W p l e (RM 4 (xv (zoI z.1)) (6 * xv (zoI z.1))) s m args below meth c H locs 0 0 (vx_MQ below (QX D B Y (zoI z.1) z.2 True) (XX D B Y (zoI z.1) z.2) args s (xv (zoI z.1)) (6 * xv (zoI z.1)) (AB B)) (F0 m 50 ls []))    (hH : HS D B Y w s H locs) (hl : lv_has ls 10 [(2, .int v2), (5, .int v5), (6, .long v6), (8, .int v8), (9, .int v9)]) (hf : g_X10_bySense_50 rc_50 v2 v5 v6 v8 v9 w = some z) : W p l e (RM 4 (xv (zoI z.1)) (6 * xv (zoI z.1))) s m args below meth c H locs 0 0 (vx_MQ below (QX D B Y (zoI z.1) z.2 True) (XX D B Y (zoI z.1) z.2) args s (xv (zoI z.1)) (6 * xv (zoI z.1)) (AB B)) (F0 m 50 ls []) := by
  have hx := C.1
  have hb := C.2.1
  unfold g_X10_bySense_50 at hf
  refine lv_iload hx hb dX10_bySense_50 (lv_at hl 4 rfl) ?_
  refine b_if_lt (tgt := 92) hx hb hf dX10_bySense_52 (by decide) (fun hf => ?_) (fun hf => ?_)
  · refine lv_iload_n hx hb dX10_bySense_92 rfl (lv_at hl 0 rfl) ?_
    cases hf
    exact q_x0 rfl (q_reti C hH trivial dX10_bySense_93)
  · refine lv_iload hx hb dX10_bySense_55 (lv_at hl 4 rfl) ?_
    refine lv_iload hx hb dX10_bySense_57 (lv_at hl 1 rfl) ?_
    refine b_icmp_gt (tgt := 92) hx hb hf dX10_bySense_59 (by decide) (fun hf => ?_) (fun hf => ?_)
    · refine lv_iload_n hx hb dX10_bySense_92 rfl (lv_at hl 0 rfl) ?_
      cases hf
      exact q_x0 rfl (q_reti C hH trivial dX10_bySense_93)
    · refine lv_iload hx hb dX10_bySense_62 (lv_at hl 4 rfl) ?_
      refine lv_iload hx hb dX10_bySense_64 (lv_at hl 1 rfl) ?_
      refine b_icmp_eq (tgt := 79) hx hb hf dX10_bySense_66 (by decide) (fun hf => ?_) (fun hf => ?_)
      · refine lv_iload hx hb dX10_bySense_79 (lv_at hl 4 rfl) ?_
        cases hf
        exact q_x0 rfl (q_reti C hH trivial dX10_bySense_81)
      · refine lv_lload hx hb dX10_bySense_69 (lv_at hl 2 rfl) ?_
        refine lv_iload hx hb dX10_bySense_71 (lv_at hl 4 rfl) ?_
        obtain ⟨x2, w1, hc, hf⟩ := bd_some hf
        refine q_callS1 (v := .int x2) (As := [.long v6, .int v9]) C hH gk_X10_285 yd_X0_isBeginning (by omega) (by omega) (c_X0_isBeginning hc) hl.1 rfl (Nat.le_of_ble_eq_true rfl) dX10_bySense_73 xv_00 (fun H locs hH z_x2 => ?_)
        refine b_if_eq (tgt := 82) hx hb hf dX10_bySense_76 (by decide) (fun hf => ?_) (fun hf => ?_)
        · refine lv_iload hx hb dX10_bySense_82 (lv_at hl 4 rfl) ?_
          refine lv_iload hx hb dX10_bySense_84 (lv_at hl 3 rfl) ?_
          refine lv_iadd hx hb dX10_bySense_86 ?_
          refine b_leti hf (fun x3 hf => ?_)
          refine lv_istore (lv' := [(9, .int x3), (2, .int v2), (5, .int v5), (6, .long v6), (8, .int v8)]) hx hb dX10_bySense_87 hl (by decide) rfl (fun ls hl => ?_)
          refine lv_goto (tgt := 50) hx hb dX10_bySense_89 (by decide) ?_
          exact hr_50 v2 v5 v6 v8 x3 w1 hf _ _ _ hH (lv_sub hl [1, 2, 3, 4, 0] rfl)
        · refine lv_iload hx hb dX10_bySense_79 (lv_at hl 4 rfl) ?_
          cases hf
          exact q_x0 rfl (q_reti C hH trivial dX10_bySense_81)
set_option maxRecDepth 100000 in
set_option maxHeartbeats 4000000 in
theorem t_X10_bySense_50 {D : va_G} {B : Nat} {Y : Nat → ClassId} {p : Program} {l : Launch} {e : Env} {s : State} {m : MethodId} {args : Array Value} {below : List Frame} {meth : Method} {c : Code} {z : ((Nat ⊕ Int32) × Wd)} {H : Heap} {locs : List Loc} {ls : Array Slot} {w : Wd} {v2 : Int32} {v5 : Int32} {v6 : Int64} {v8 : Int32} {v9 : Int32} (C : CX D B Y p s m args meth c cX10_bySense 10 RX10 (some .int)) (hxt : ∀ x ∈ c.exceptionTable.toList, False) (htr : l.stackTraces = false)     (hH : HS D B Y w s H locs) (hl : lv_has ls 10 [(2, .int v2), (5, .int v5), (6, .long v6), (8, .int v8), (9, .int v9)]) (hf : f_X10_bySense_50 v2 v5 v6 v8 v9 w = some z) : W p l e (RM 4 (xv (zoI z.1)) (6 * xv (zoI z.1))) s m args below meth c H locs 0 0 (vx_MQ below (QX D B Y (zoI z.1) z.2 True) (XX D B Y (zoI z.1) z.2) args s (xv (zoI z.1)) (6 * xv (zoI z.1)) (AB B)) (F0 m 50 ls []) := by
  exact loopN_ind (z := z) (body := fun rc σ => g_X10_bySense_50 rc  σ.1 σ.2.1 σ.2.2.1 σ.2.2.2.1 σ.2.2.2.2.1 σ.2.2.2.2.2)
    (P := fun σ => ∀ (H : Heap) (locs : List Loc) (ls : Array Slot), HS D B Y σ.2.2.2.2.2 s H locs → lv_has ls 10 [(2, .int σ.1), (5, .int σ.2.1), (6, .long σ.2.2.1), (8, .int σ.2.2.2.1), (9, .int σ.2.2.2.2.1)] → W p l e (RM 4 (xv (zoI z.1)) (6 * xv (zoI z.1))) s m args below meth c H locs 0 0 (vx_MQ below (QX D B Y (zoI z.1) z.2 True) (XX D B Y (zoI z.1) z.2) args s (xv (zoI z.1)) (6 * xv (zoI z.1)) (AB B)) (F0 m 50 ls []))
    (fun rc hrec σ hf  H locs ls hH hl => tb_X10_bySense_50 C hxt htr (fun v2 v5 v6 v8 v9 w hr  H locs ls hH hl => hrec (v2, v5, v6, v8, v9, w) hr  H locs ls hH hl)   hH hl hf) FU (v2, v5, v6, v8, v9, w) hf  H locs ls hH hl
set_option maxRecDepth 100000 in
set_option maxHeartbeats 4000000 in
theorem t_X10_bySense_42 {D : va_G} {B : Nat} {Y : Nat → ClassId} {p : Program} {l : Launch} {e : Env} {s : State} {m : MethodId} {args : Array Value} {below : List Frame} {meth : Method} {c : Code} {z : ((Nat ⊕ Int32) × Wd)} {H : Heap} {locs : List Loc} {ls : Array Slot} {w : Wd} {v2 : Int32} {v5 : Int32} {v6 : Int64} {t0 : Int32} (C : CX D B Y p s m args meth c cX10_bySense 10 RX10 (some .int)) (hxt : ∀ x ∈ c.exceptionTable.toList, False) (htr : l.stackTraces = false)     (hH : HS D B Y w s H locs) (hl : lv_has ls 10 [(2, .int v2), (5, .int v5), (6, .long v6)]) (hf : f_X10_bySense_42 v2 v5 v6 t0 w = some z) : W p l e (RM 4 (xv (zoI z.1)) (6 * xv (zoI z.1))) s m args below meth c H locs 0 0 (vx_MQ below (QX D B Y (zoI z.1) z.2 True) (XX D B Y (zoI z.1) z.2) args s (xv (zoI z.1)) (6 * xv (zoI z.1)) (AB B)) (F0 m 42 ls [.int t0]) := by
  have hx := C.1
  have hb := C.2.1
  unfold f_X10_bySense_42 at hf
  refine lv_istore (lv' := [(8, .int t0), (2, .int v2), (5, .int v5), (6, .long v6)]) hx hb dX10_bySense_42 hl (by decide) rfl (fun ls hl => ?_)
  refine lv_iload_n hx hb dX10_bySense_44 rfl (lv_at hl 1 rfl) ?_
  refine lv_iload hx hb dX10_bySense_45 (lv_at hl 0 rfl) ?_
  refine lv_iadd hx hb dX10_bySense_47 ?_
  refine b_leti hf (fun x1 hf => ?_)
  refine lv_istore (lv' := [(9, .int x1), (8, .int t0), (2, .int v2), (5, .int v5), (6, .long v6)]) hx hb dX10_bySense_48 hl (by decide) rfl (fun ls hl => ?_)
  exact t_X10_bySense_50 C hxt htr hH (lv_sub hl [2, 3, 4, 1, 0] rfl) hf
set_option maxRecDepth 100000 in
set_option maxHeartbeats 4000000 in
theorem t_X10_bySense_0 {D : va_G} {B : Nat} {Y : Nat → ClassId} {p : Program} {l : Launch} {e : Env} {s : State} {m : MethodId} {args : Array Value} {below : List Frame} {meth : Method} {c : Code} {z : ((Nat ⊕ Int32) × Wd)} {H : Heap} {locs : List Loc} {ls : Array Slot} {w : Wd} {v1 : Int32} {v2 : Int32} {v3 : Int32} (C : CX D B Y p s m args meth c cX10_bySense 10 RX10 (some .int)) (hxt : ∀ x ∈ c.exceptionTable.toList, False) (htr : l.stackTraces = false)    (z_v3 : isZ v3) (hH : HS D B Y w s H locs) (hl : lv_has ls 10 [(0, .ref (B + 0)), (1, .int v1), (2, .int v2), (3, .int v3)]) (hf : f_X10_bySense v1 v2 v3 w = some z) : W p l e (RM 4 (xv (zoI z.1)) (6 * xv (zoI z.1))) s m args below meth c H locs 0 0 (vx_MQ below (QX D B Y (zoI z.1) z.2 True) (XX D B Y (zoI z.1) z.2) args s (xv (zoI z.1)) (6 * xv (zoI z.1)) (AB B)) (F0 m 0 ls []) := by
  have hx := C.1
  have hb := C.2.1
  unfold f_X10_bySense at hf
  refine lv_aload_n hx hb dX10_bySense_0 rfl (lv_at hl 0 rfl) ?_
  refine lv_iload_n hx hb dX10_bySense_1 rfl (lv_at hl 1 rfl) ?_
  rcases bdx_some hf with ⟨k, w1, hc, rfl⟩ | ⟨r2, w1, hc, hf⟩
  · exact q_xrunX (k0 := k) (q_xV (As := [.int v1]) C hH (ci := 10) rfl (by omega) gk_X10_194 yd_X10_textOf (by omega) (by omega) kc_0 (c_X10_textOf (r := .inl k) htr hc) hl.1 rfl (Nat.le_of_ble_eq_true rfl) dX10_bySense_2 (xv_le rfl)) hH (fun H locs ce q hH h1 h2 h3 => q_out C hH hxt h1 h2 h3 (xv_1 rfl) (xv_6 rfl))
  refine q_xrun (ov := some (.ref (B + r2))) (q_xV (As := [.int v1]) C hH (ci := 10) rfl (by omega) gk_X10_194 yd_X10_textOf (by omega) (by omega) kc_0 (c_X10_textOf (r := .inr r2) htr hc) hl.1 rfl (Nat.le_of_ble_eq_true rfl) dX10_bySense_2 (xv_0 rfl xv_00)) hH (fun H locs hH k_r2 => ?_)
  refine lv_astore (lv' := [(4, .ref (B + r2)), (0, .ref (B + 0)), (1, .int v1), (2, .int v2), (3, .int v3)]) hx hb dX10_bySense_5 hl (by decide) rfl (fun ls hl => ?_)
  refine lv_aload hx hb dX10_bySense_7 (lv_at hl 0 rfl) ?_
  obtain ⟨x4, w3, hc, hf⟩ := bd_some hf
  refine q_callV1 (v := .int x4) (As := []) C hH (ci := 7) rfl (by omega) gk_X10_107 yd_X7_size (by omega) (by omega) k_r2 (c_X7_size k_r2 hc) hl.1 rfl (Nat.le_of_ble_eq_true rfl) dX10_bySense_9 xv_00 (fun H locs hH hP => ?_)
  refine lv_istore (lv' := [(5, .int x4), (4, .ref (B + r2)), (0, .ref (B + 0)), (1, .int v1), (2, .int v2), (3, .int v3)]) hx hb dX10_bySense_12 hl (by decide) rfl (fun ls hl => ?_)
  refine lv_iload_n hx hb dX10_bySense_14 rfl (lv_at hl 4 rfl) ?_
  refine lv_iload hx hb dX10_bySense_15 (lv_at hl 0 rfl) ?_
  refine lv_iconst (v := (1 : Int32)) hx hb dX10_bySense_17 (by decide) ?_
  refine lv_iadd hx hb dX10_bySense_18 ?_
  rcases bdx_some hf with ⟨k, w5, hc, rfl⟩ | ⟨u, w5, hc, hf⟩
  · exact q_xrunX (k0 := k) (q_xS (As := [.int v2, .int (x4 + (1 : Int32))]) C hH gk_X10_240 yd_X10_checkPlace (by omega) (by omega) (c_X10_checkPlace (r := .inl k) htr hc) hl.1 rfl (Nat.le_of_ble_eq_true rfl) dX10_bySense_19 (xv_le rfl)) hH (fun H locs ce q hH h1 h2 h3 => q_out C hH hxt h1 h2 h3 (xv_1 rfl) (xv_6 rfl))
  refine q_xrun (ov := none) (q_xS (As := [.int v2, .int (x4 + (1 : Int32))]) C hH gk_X10_240 yd_X10_checkPlace (by omega) (by omega) (c_X10_checkPlace (r := .inr u) htr hc) hl.1 rfl (Nat.le_of_ble_eq_true rfl) dX10_bySense_19 (xv_0 rfl xv_00)) hH (fun H locs hH hP => ?_)
  refine lv_aload_n hx hb dX10_bySense_22 rfl (lv_at hl 2 rfl) ?_
  refine fg_X10_55 C hH dX10_bySense_23 ?_
  refine lv_aload hx hb dX10_bySense_26 (lv_at hl 1 rfl) ?_
  obtain ⟨y7, w6, hc, hf⟩ := bd_some hf
  refine q_callV1 (v := .long y7) (As := [.ref (B + r2)]) C hH (ci := 0) rfl (by omega) gk_X10_278 yd_X0_clusterBreaks (by omega) (by omega) kc_673 (c_X0_clusterBreaks k_r2 hc) hl.1 rfl (Nat.le_of_ble_eq_true rfl) dX10_bySense_28 xv_00 (fun H locs hH hP => ?_)
  refine lv_lstore (lv' := [(6, .long y7), (5, .int x4), (4, .ref (B + r2)), (0, .ref (B + 0)), (1, .int v1), (2, .int v2), (3, .int v3)]) hx hb dX10_bySense_31 hl (by decide) rfl (fun ls hl => ?_)
  refine lv_iload_n hx hb dX10_bySense_33 rfl (lv_at hl 6 rfl) ?_
  refine b_if_eq (tgt := 41) hx hb hf dX10_bySense_34 (by decide) (fun hf => ?_) (fun hf => ?_)
  · refine lv_iconst (v := (-1 : Int32)) hx hb dX10_bySense_41 (by decide) ?_
    exact t_X10_bySense_42 C hxt htr hH (lv_sub hl [5, 1, 0] rfl) hf
  · refine lv_iconst (v := (1 : Int32)) hx hb dX10_bySense_37 (by decide) ?_
    refine lv_goto (tgt := 42) hx hb dX10_bySense_38 (by decide) ?_
    exact t_X10_bySense_42 C hxt htr hH (lv_sub hl [5, 1, 0] rfl) hf
set_option maxRecDepth 100000 in
theorem c_X10_bySense {l : Launch} {D : va_G} {B : Nat} {Y : Nat → ClassId} {v1 : Int32} {v2 : Int32} {v3 : Int32} {w : Wd} {r : (Nat ⊕ Int32)} {w1 : Wd} (htr : l.stackTraces = false)  (z_v3 : isZ v3) (hf : f_X10_bySense v1 v2 v3 w = some (r, w1)) : XM l D B Y yX10_bySense cX10_bySense 10 (some .int) 4 [.ref (B + 0), .int v1, .int v2, .int v3] w (zoI r) w1 True :=
  XM_of (by decide +kernel) (Nat.le_of_ble_eq_true rfl) (fun p e s m args below meth c ls C hxt hH hl => t_X10_bySense_0 C hxt htr z_v3 hH (lv_sub hl [0, 1, 2, 3] rfl) hf)
/-! LetterTables$Language.unitsInto -/
set_option maxRecDepth 100000 in
set_option maxHeartbeats 4000000 in
theorem tb_X2_unitsInto_7 {D : va_G} {B : Nat} {Y : Nat → ClassId} {p : Program} {l : Launch} {e : Env} {s : State} {m : MethodId} {args : Array Value} {below : List Frame} {meth : Method} {c : Code} {z : (Unit × Wd)} {H : Heap} {locs : List Loc} {ls : Array Slot} {w : Wd} {v0 : Nat} {v1 : Nat} {v2 : Nat} {v3 : Int32} (C : CX D B Y p s m args meth c cX2_unitsInto 5 RX2 none)  {rc_7 : Nat × Nat × Nat × Int32 × Wd → Option (Unit × Wd)} (hr_7 : ∀ (v0 : Nat) (v1 : Nat) (v2 : Nat) (v3 : Int32) (w : Wd), rc_7 (v0, v1, v2, v3, w) = some z → KD v0 = 2 → KD v1 = 7 → KD v2 = 7 → ∀ (H : Heap) (locs : List Loc) (ls : Array Slot), HS D B Y w s H locs → lv_has ls 5 [(0, .ref (B + v0)), (1, .ref (B + v1)), (2, .ref (B + v2)), (3, .int v3)] → W p l e (RM 2 0 0) s m args below meth c H locs 0 0 (MQ below (QG D B Y none z.2 True) args s 0 0 (AB B)) (F0 m 7 ls []))  (k_v0 : KD v0 = 2) (k_v1 : KD v1 = 7) (k_v2 : KD v2 = 7)  (hH : HS D B Y w s H locs) (hl : lv_has ls 5 [(0, .ref (B + v0)), (1, .ref (B + v1)), (2, .ref (B + v2)), (3, .int v3)]) (hf : g_X2_unitsInto_7 rc_7 v0 v1 v2 v3 w = some z) : W p l e (RM 2 0 0) s m args below meth c H locs 0 0 (MQ below (QG D B Y none z.2 True) args s 0 0 (AB B)) (F0 m 7 ls []) := by
  have hx := C.1
  have hb := C.2.1
  unfold g_X2_unitsInto_7 at hf
  refine lv_iload_n hx hb dX2_unitsInto_7 rfl (lv_at hl 3 rfl) ?_
  refine lv_aload_n hx hb dX2_unitsInto_8 rfl (lv_at hl 1 rfl) ?_
  obtain ⟨x2, w1, hc, hf⟩ := bd_some hf
  refine q_callV1 (v := .int x2) (As := []) C hH (ci := 7) rfl (by omega) gk_X2_60 yd_X7_size (by omega) (by omega) k_v1 (c_X7_size k_v1 hc) hl.1 rfl (Nat.le_of_ble_eq_true rfl) dX2_unitsInto_9 xv_00 (fun H locs hH hP => ?_)
  refine b_icmp_ge (tgt := 68) hx hb hf dX2_unitsInto_12 (by decide) (fun hf => ?_) (fun hf => ?_)
  · cases hf
    exact q_retv C hH trivial dX2_unitsInto_68
  · refine lv_aload_n hx hb dX2_unitsInto_15 rfl (lv_at hl 0 rfl) ?_
    refine lv_aload_n hx hb dX2_unitsInto_16 rfl (lv_at hl 1 rfl) ?_
    refine lv_iload_n hx hb dX2_unitsInto_17 rfl (lv_at hl 3 rfl) ?_
    obtain ⟨x4, w3, hc, hf⟩ := bd_some hf
    refine q_callV1 (v := .int x4) (As := [.int v3]) C hH (ci := 7) rfl (by omega) gk_X2_64 yd_X7_get (by omega) (by omega) k_v1 (c_X7_get k_v1 hc) hl.1 rfl (Nat.le_of_ble_eq_true rfl) dX2_unitsInto_18 xv_00 (fun H locs hH hP => ?_)
    refine lv_aload_n hx hb dX2_unitsInto_21 rfl (lv_at hl 1 rfl) ?_
    refine lv_iload_n hx hb dX2_unitsInto_22 rfl (lv_at hl 3 rfl) ?_
    refine lv_iconst (v := (1 : Int32)) hx hb dX2_unitsInto_23 (by decide) ?_
    refine lv_iadd hx hb dX2_unitsInto_24 ?_
    obtain ⟨x6, w5, hc, hf⟩ := bd_some hf
    refine q_callV1 (v := .int x6) (As := [.int (v3 + (1 : Int32))]) C hH (ci := 7) rfl (by omega) gk_X2_64 yd_X7_get (by omega) (by omega) k_v1 (c_X7_get k_v1 hc) hl.1 rfl (Nat.le_of_ble_eq_true rfl) dX2_unitsInto_25 xv_00 (fun H locs hH hP => ?_)
    obtain ⟨x8, w7, hc, hf⟩ := bd_some hf
    refine q_callV1 (v := .int x8) (As := [.int x4, .int x6]) C hH (ci := 2) rfl (by omega) gk_X2_75 yd_X2_contractionOf (by omega) (by omega) k_v0 (c_X2_contractionOf k_v0 hc) hl.1 rfl (Nat.le_of_ble_eq_true rfl) dX2_unitsInto_28 xv_00 (fun H locs hH hP => ?_)
    refine lv_istore (lv' := [(4, .int x8), (0, .ref (B + v0)), (1, .ref (B + v1)), (2, .ref (B + v2)), (3, .int v3)]) hx hb dX2_unitsInto_31 hl (by decide) rfl (fun ls hl => ?_)
    refine lv_iload hx hb dX2_unitsInto_33 (lv_at hl 0 rfl) ?_
    refine lv_iconst (v := (-1 : Int32)) hx hb dX2_unitsInto_35 (by decide) ?_
    refine b_icmp_ne (tgt := 52) hx hb hf dX2_unitsInto_36 (by decide) (fun hf => ?_) (fun hf => ?_)
    · refine lv_aload_n hx hb dX2_unitsInto_52 rfl (lv_at hl 3 rfl) ?_
      refine lv_iload hx hb dX2_unitsInto_53 (lv_at hl 0 rfl) ?_
      obtain ⟨x10, w9, hc, hf⟩ := bd_some hf
      refine q_callV1 (v := .int x10) (As := [.int x8]) C hH (ci := 7) rfl (by omega) gk_X2_68 yd_X7_add (by omega) (by omega) k_v2 (c_X7_add k_v2 hc) hl.1 rfl (Nat.le_of_ble_eq_true rfl) dX2_unitsInto_55 xv_00 (fun H locs hH z_x10 => ?_)
      refine lv_pop hx hb dX2_unitsInto_58 rfl ?_
      refine b_let hf (fun x11 he hf => ?_)
      refine lv_iinc (v := x11) (lv' := [(3, .int x11), (4, .int x8), (0, .ref (B + v0)), (1, .ref (B + v1)), (2, .ref (B + v2))]) hx hb dX2_unitsInto_59 hl (k := 4) rfl (by rw [← he]; rfl) (by decide) rfl (fun ls hl => ?_)
      refine b_let hf (fun x12 he hf => ?_)
      refine lv_iinc (v := x12) (lv' := [(3, .int x12), (4, .int x8), (0, .ref (B + v0)), (1, .ref (B + v1)), (2, .ref (B + v2))]) hx hb dX2_unitsInto_62 hl (k := 0) rfl (by rw [← he]; rfl) (by decide) rfl (fun ls hl => ?_)
      refine lv_goto (tgt := 7) hx hb dX2_unitsInto_65 (by decide) ?_
      exact hr_7 v0 v1 v2 x12 w9 hf k_v0 k_v1 k_v2 _ _ _ hH (lv_sub hl [2, 3, 4, 0] rfl)
    · refine lv_aload_n hx hb dX2_unitsInto_39 rfl (lv_at hl 3 rfl) ?_
      refine lv_aload_n hx hb dX2_unitsInto_40 rfl (lv_at hl 2 rfl) ?_
      refine lv_iload_n hx hb dX2_unitsInto_41 rfl (lv_at hl 4 rfl) ?_
      obtain ⟨x14, w13, hc, hf⟩ := bd_some hf
      refine q_callV1 (v := .int x14) (As := [.int v3]) C hH (ci := 7) rfl (by omega) gk_X2_64 yd_X7_get (by omega) (by omega) k_v1 (c_X7_get k_v1 hc) hl.1 rfl (Nat.le_of_ble_eq_true rfl) dX2_unitsInto_42 xv_00 (fun H locs hH hP => ?_)
      obtain ⟨x16, w15, hc, hf⟩ := bd_some hf
      refine q_callV1 (v := .int x16) (As := [.int x14]) C hH (ci := 7) rfl (by omega) gk_X2_68 yd_X7_add (by omega) (by omega) k_v2 (c_X7_add k_v2 hc) hl.1 rfl (Nat.le_of_ble_eq_true rfl) dX2_unitsInto_45 xv_00 (fun H locs hH z_x16 => ?_)
      refine lv_pop hx hb dX2_unitsInto_48 rfl ?_
      refine lv_goto (tgt := 62) hx hb dX2_unitsInto_49 (by decide) ?_
      refine b_let hf (fun x17 he hf => ?_)
      refine lv_iinc (v := x17) (lv' := [(3, .int x17), (4, .int x8), (0, .ref (B + v0)), (1, .ref (B + v1)), (2, .ref (B + v2))]) hx hb dX2_unitsInto_62 hl (k := 4) rfl (by rw [← he]; rfl) (by decide) rfl (fun ls hl => ?_)
      refine lv_goto (tgt := 7) hx hb dX2_unitsInto_65 (by decide) ?_
      exact hr_7 v0 v1 v2 x17 w15 hf k_v0 k_v1 k_v2 _ _ _ hH (lv_sub hl [2, 3, 4, 0] rfl)
set_option maxRecDepth 100000 in
set_option maxHeartbeats 4000000 in
theorem t_X2_unitsInto_7 {D : va_G} {B : Nat} {Y : Nat → ClassId} {p : Program} {l : Launch} {e : Env} {s : State} {m : MethodId} {args : Array Value} {below : List Frame} {meth : Method} {c : Code} {z : (Unit × Wd)} {H : Heap} {locs : List Loc} {ls : Array Slot} {w : Wd} {v0 : Nat} {v1 : Nat} {v2 : Nat} {v3 : Int32} (C : CX D B Y p s m args meth c cX2_unitsInto 5 RX2 none)   (k_v0 : KD v0 = 2) (k_v1 : KD v1 = 7) (k_v2 : KD v2 = 7)  (hH : HS D B Y w s H locs) (hl : lv_has ls 5 [(0, .ref (B + v0)), (1, .ref (B + v1)), (2, .ref (B + v2)), (3, .int v3)]) (hf : f_X2_unitsInto_7 v0 v1 v2 v3 w = some z) : W p l e (RM 2 0 0) s m args below meth c H locs 0 0 (MQ below (QG D B Y none z.2 True) args s 0 0 (AB B)) (F0 m 7 ls []) := by
  exact loopN_ind (z := z) (body := fun rc σ => g_X2_unitsInto_7 rc  σ.1 σ.2.1 σ.2.2.1 σ.2.2.2.1 σ.2.2.2.2)
    (P := fun σ => KD σ.1 = 2 → KD σ.2.1 = 7 → KD σ.2.2.1 = 7 → ∀ (H : Heap) (locs : List Loc) (ls : Array Slot), HS D B Y σ.2.2.2.2 s H locs → lv_has ls 5 [(0, .ref (B + σ.1)), (1, .ref (B + σ.2.1)), (2, .ref (B + σ.2.2.1)), (3, .int σ.2.2.2.1)] → W p l e (RM 2 0 0) s m args below meth c H locs 0 0 (MQ below (QG D B Y none z.2 True) args s 0 0 (AB B)) (F0 m 7 ls []))
    (fun rc hrec σ hf k_v0 k_v1 k_v2 H locs ls hH hl => tb_X2_unitsInto_7 C (fun v0 v1 v2 v3 w hr k_v0 k_v1 k_v2 H locs ls hH hl => hrec (v0, v1, v2, v3, w) hr k_v0 k_v1 k_v2 H locs ls hH hl)  k_v0 k_v1 k_v2 hH hl hf) FU (v0, v1, v2, v3, w) hf k_v0 k_v1 k_v2 H locs ls hH hl
set_option maxRecDepth 100000 in
set_option maxHeartbeats 4000000 in
theorem t_X2_unitsInto_0 {D : va_G} {B : Nat} {Y : Nat → ClassId} {p : Program} {l : Launch} {e : Env} {s : State} {m : MethodId} {args : Array Value} {below : List Frame} {meth : Method} {c : Code} {z : (Unit × Wd)} {H : Heap} {locs : List Loc} {ls : Array Slot} {w : Wd} {v0 : Nat} {v1 : Nat} {v2 : Nat} (C : CX D B Y p s m args meth c cX2_unitsInto 5 RX2 none)   (k_v0 : KD v0 = 2) (k_v1 : KD v1 = 7) (k_v2 : KD v2 = 7)  (hH : HS D B Y w s H locs) (hl : lv_has ls 5 [(0, .ref (B + v0)), (1, .ref (B + v1)), (2, .ref (B + v2))]) (hf : f_X2_unitsInto v0 v1 v2 w = some z) : W p l e (RM 2 0 0) s m args below meth c H locs 0 0 (MQ below (QG D B Y none z.2 True) args s 0 0 (AB B)) (F0 m 0 ls []) := by
  have hx := C.1
  have hb := C.2.1
  unfold f_X2_unitsInto at hf
  refine lv_aload_n hx hb dX2_unitsInto_0 rfl (lv_at hl 2 rfl) ?_
  refine lv_iconst (v := (0 : Int32)) hx hb dX2_unitsInto_1 (by decide) ?_
  obtain ⟨u, w1, hc, hf⟩ := bd_some hf
  refine q_callV0 (As := [.int (0 : Int32)]) C hH (ci := 7) rfl (by omega) gk_X2_72 yd_X7_cutTo (by omega) (by omega) k_v2 (c_X7_cutTo k_v2 hc) hl.1 rfl (Nat.le_of_ble_eq_true rfl) dX2_unitsInto_2 xv_00 (fun H locs hH hP => ?_)
  refine lv_iconst (v := (0 : Int32)) hx hb dX2_unitsInto_5 (by decide) ?_
  refine lv_istore_n (lv' := [(3, .int (0 : Int32)), (0, .ref (B + v0)), (1, .ref (B + v1)), (2, .ref (B + v2))]) hx hb dX2_unitsInto_6 rfl hl (by decide) rfl (fun ls hl => ?_)
  exact t_X2_unitsInto_7 C k_v0 k_v1 k_v2 hH (lv_sub hl [1, 2, 3, 0] rfl) hf
set_option maxRecDepth 100000 in
theorem c_X2_unitsInto {l : Launch} {D : va_G} {B : Nat} {Y : Nat → ClassId} {v0 : Nat} {v1 : Nat} {v2 : Nat} {w : Wd} {r : Unit} {w1 : Wd} (k_v0 : KD v0 = 2) (k_v1 : KD v1 = 7) (k_v2 : KD v2 = 7)  (hf : f_X2_unitsInto v0 v1 v2 w = some (r, w1)) : CM l D B Y yX2_unitsInto cX2_unitsInto 5 none 2 [.ref (B + v0), .ref (B + v1), .ref (B + v2)] w none w1 True :=
  CM_of (by decide +kernel) (Nat.le_of_ble_eq_true rfl) (fun p e s m args below meth c ls C hH hl => t_X2_unitsInto_0 C k_v0 k_v1 k_v2 hH (lv_sub hl [0, 1, 2] rfl) hf)
/-! LetterTables$Language.weightOf -/
set_option maxRecDepth 100000 in
set_option maxHeartbeats 4000000 in
theorem t_X2_weightOf_27 {D : va_G} {B : Nat} {Y : Nat → ClassId} {p : Program} {l : Launch} {e : Env} {s : State} {m : MethodId} {args : Array Value} {below : List Frame} {meth : Method} {c : Code} {z : (Int32 × Wd)} {H : Heap} {locs : List Loc} {ls : Array Slot} {w : Wd} {v1 : Int32} {t0 : Nat} (C : CX D B Y p s m args meth c cX2_weightOf 3 RX2 (some .int))   (k_t0 : KD t0 = 20)  (hH : HS D B Y w s H locs) (hl : lv_has ls 3 [(1, .int v1)]) (hf : f_X2_weightOf_27 v1 t0 w = some z) : W p l e (RM 1 0 0) s m args below meth c H locs 0 0 (MQ below (QG D B Y (some (.int z.1)) z.2 True) args s 0 0 (AB B)) (F0 m 27 ls [.ref (B + t0)]) := by
  have hx := C.1
  have hb := C.2.1
  unfold f_X2_weightOf_27 at hf
  refine lv_iload_n hx hb dX2_weightOf_27 rfl (lv_at hl 0 rfl) ?_
  refine lv_iconst (v := (0 : Int32)) hx hb dX2_weightOf_28 (by decide) ?_
  obtain ⟨x2, w1, hc, hf⟩ := bd_some hf
  refine q_callN1 (v := .int x2) (As := [.ref (B + t0), .int v1, .int (0 : Int32)]) C hH (List.mem_of_getElem? (i := 6) rfl) wd_573 wd_50 wd_572 yd_X10_cellOf (by omega) (by omega) (c_X10_cellOf k_t0 hc) hl.1 rfl (Nat.le_of_ble_eq_true rfl) dX2_weightOf_29 xv_00 (fun H locs hH hP => ?_)
  cases hf
  exact q_reti C hH trivial dX2_weightOf_32
set_option maxRecDepth 100000 in
set_option maxHeartbeats 4000000 in
theorem t_X2_weightOf_0 {D : va_G} {B : Nat} {Y : Nat → ClassId} {p : Program} {l : Launch} {e : Env} {s : State} {m : MethodId} {args : Array Value} {below : List Frame} {meth : Method} {c : Code} {z : (Int32 × Wd)} {H : Heap} {locs : List Loc} {ls : Array Slot} {w : Wd} {v0 : Nat} {v1 : Int32} {v2 : Int32} (C : CX D B Y p s m args meth c cX2_weightOf 3 RX2 (some .int))   (k_v0 : KD v0 = 2)  (hH : HS D B Y w s H locs) (hl : lv_has ls 3 [(0, .ref (B + v0)), (1, .int v1), (2, .int v2)]) (hf : f_X2_weightOf v0 v1 v2 w = some z) : W p l e (RM 1 0 0) s m args below meth c H locs 0 0 (MQ below (QG D B Y (some (.int z.1)) z.2 True) args s 0 0 (AB B)) (F0 m 0 ls []) := by
  have hx := C.1
  have hb := C.2.1
  unfold f_X2_weightOf at hf
  refine lv_iload_n hx hb dX2_weightOf_0 rfl (lv_at hl 2 rfl) ?_
  refine b_if_ne (tgt := 11) hx hb hf dX2_weightOf_1 (by decide) (fun hf => ?_) (fun hf => ?_)
  · refine lv_iload_n hx hb dX2_weightOf_11 rfl (lv_at hl 2 rfl) ?_
    refine lv_iconst (v := (1 : Int32)) hx hb dX2_weightOf_12 (by decide) ?_
    refine b_icmp_ne (tgt := 23) hx hb hf dX2_weightOf_13 (by decide) (fun hf => ?_) (fun hf => ?_)
    · refine lv_aload_n hx hb dX2_weightOf_23 rfl (lv_at hl 0 rfl) ?_
      refine fg_X2_18 C hH k_v0 dX2_weightOf_24 ?_
      exact t_X2_weightOf_27 C (ko_2_2 k_v0) hH (lv_sub hl [1] rfl) hf
    · refine lv_aload_n hx hb dX2_weightOf_16 rfl (lv_at hl 0 rfl) ?_
      refine fg_X2_15 C hH k_v0 dX2_weightOf_17 ?_
      refine lv_goto (tgt := 27) hx hb dX2_weightOf_20 (by decide) ?_
      exact t_X2_weightOf_27 C (ko_2_1 k_v0) hH (lv_sub hl [1] rfl) hf
  · refine lv_aload_n hx hb dX2_weightOf_4 rfl (lv_at hl 0 rfl) ?_
    refine fg_X2_9 C hH k_v0 dX2_weightOf_5 ?_
    refine lv_goto (tgt := 27) hx hb dX2_weightOf_8 (by decide) ?_
    exact t_X2_weightOf_27 C (ko_2_0 k_v0) hH (lv_sub hl [1] rfl) hf
set_option maxRecDepth 100000 in
theorem c_X2_weightOf {l : Launch} {D : va_G} {B : Nat} {Y : Nat → ClassId} {v0 : Nat} {v1 : Int32} {v2 : Int32} {w : Wd} {r : Int32} {w1 : Wd} (k_v0 : KD v0 = 2)  (hf : f_X2_weightOf v0 v1 v2 w = some (r, w1)) : CM l D B Y yX2_weightOf cX2_weightOf 3 (some .int) 1 [.ref (B + v0), .int v1, .int v2] w (some (.int r)) w1 True :=
  CM_of (by decide +kernel) (Nat.le_of_ble_eq_true rfl) (fun p e s m args below meth c ls C hH hl => t_X2_weightOf_0 C k_v0 hH (lv_sub hl [0, 1, 2] rfl) hf)
/-! LetterTables$Language.nextWeighing -/
set_option maxRecDepth 100000 in
set_option maxHeartbeats 4000000 in
theorem tb_X2_nextWeighing_3 {D : va_G} {B : Nat} {Y : Nat → ClassId} {p : Program} {l : Launch} {e : Env} {s : State} {m : MethodId} {args : Array Value} {below : List Frame} {meth : Method} {c : Code} {z : (Int32 × Wd)} {H : Heap} {locs : List Loc} {ls : Array Slot} {w : Wd} {v0 : Nat} {v1 : Nat} {v3 : Int32} {v4 : Int32} (C : CX D B Y p s m args meth c cX2_nextWeighing 5 RX2 (some .int))  {rc_3 : Nat × Nat × Int32 × Int32 × Wd → Option (Int32 × Wd)} (hr_3 : ∀ (v0 : Nat) (v1 : Nat) (v3 : Int32) (v4 : Int32) (w : Wd), rc_3 (v0, v1, v3, v4, w) = some z → KD v0 = 2 → KD v1 = 7 → ∀ (H : Heap) (locs : List Loc) (ls : Array Slot), HS D B Y w s H locs → lv_has ls 5 [(0, .ref (B + v0)), (1, .ref (B + v1)), (3, .int v3), (4, .int v4)] → W p l e (RM 2 0 0) s m args below meth c H locs 0 0 (MQ below (QG D B Y (some (.int z.1)) z.2 True) args s 0 0 (AB B)) (F0 m 3 ls []))  (k_v0 : KD v0 = 2) (k_v1 : KD v1 = 7)  (hH : HS D B Y w s H locs) (hl : lv_has ls 5 [(0, .ref (B + v0)), (1, .ref (B + v1)), (3, .int v3), (4, .int v4)]) (hf : g_X2_nextWeighing_3 rc_3 v0 v1 v3 v4 w = some z) : W p l e (RM 2 0 0) s m args below meth c H locs 0 0 (MQ below (QG D B Y (some (.int z.1)) z.2 True) args s 0 0 (AB B)) (F0 m 3 ls []) := by
  have hx := C.1
  have hb := C.2.1
  unfold g_X2_nextWeighing_3 at hf
  refine lv_iload hx hb dX2_nextWeighing_3 (lv_at hl 3 rfl) ?_
  refine lv_aload_n hx hb dX2_nextWeighing_5 rfl (lv_at hl 1 rfl) ?_
  obtain ⟨x2, w1, hc, hf⟩ := bd_some hf
  refine q_callV1 (v := .int x2) (As := []) C hH (ci := 7) rfl (by omega) gk_X2_60 yd_X7_size (by omega) (by omega) k_v1 (c_X7_size k_v1 hc) hl.1 rfl (Nat.le_of_ble_eq_true rfl) dX2_nextWeighing_6 xv_00 (fun H locs hH hP => ?_)
  refine b_icmp_ge (tgt := 35) hx hb hf dX2_nextWeighing_9 (by decide) (fun hf => ?_) (fun hf => ?_)
  · refine lv_aload_n hx hb dX2_nextWeighing_35 rfl (lv_at hl 1 rfl) ?_
    obtain ⟨x4, w3, hc, hf⟩ := bd_some hf
    refine q_callV1 (v := .int x4) (As := []) C hH (ci := 7) rfl (by omega) gk_X2_60 yd_X7_size (by omega) (by omega) k_v1 (c_X7_size k_v1 hc) hl.1 rfl (Nat.le_of_ble_eq_true rfl) dX2_nextWeighing_36 xv_00 (fun H locs hH hP => ?_)
    cases hf
    exact q_reti C hH trivial dX2_nextWeighing_39
  · refine lv_aload_n hx hb dX2_nextWeighing_12 rfl (lv_at hl 0 rfl) ?_
    refine lv_aload_n hx hb dX2_nextWeighing_13 rfl (lv_at hl 1 rfl) ?_
    refine lv_iload hx hb dX2_nextWeighing_14 (lv_at hl 3 rfl) ?_
    obtain ⟨x6, w5, hc, hf⟩ := bd_some hf
    refine q_callV1 (v := .int x6) (As := [.int v4]) C hH (ci := 7) rfl (by omega) gk_X2_64 yd_X7_get (by omega) (by omega) k_v1 (c_X7_get k_v1 hc) hl.1 rfl (Nat.le_of_ble_eq_true rfl) dX2_nextWeighing_16 xv_00 (fun H locs hH hP => ?_)
    refine lv_iload_n hx hb dX2_nextWeighing_19 rfl (lv_at hl 2 rfl) ?_
    obtain ⟨x8, w7, hc, hf⟩ := bd_some hf
    refine q_callV1 (v := .int x8) (As := [.int x6, .int v3]) C hH (ci := 2) rfl (by omega) gk_X2_79 yd_X2_weightOf (by omega) (by omega) k_v0 (c_X2_weightOf k_v0 hc) hl.1 rfl (Nat.le_of_ble_eq_true rfl) dX2_nextWeighing_20 xv_00 (fun H locs hH hP => ?_)
    refine b_if_le (tgt := 29) hx hb hf dX2_nextWeighing_23 (by decide) (fun hf => ?_) (fun hf => ?_)
    · refine b_let hf (fun x9 he hf => ?_)
      refine lv_iinc (v := x9) (lv' := [(4, .int x9), (0, .ref (B + v0)), (1, .ref (B + v1)), (3, .int v3)]) hx hb dX2_nextWeighing_29 hl (k := 3) rfl (by rw [← he]; rfl) (by decide) rfl (fun ls hl => ?_)
      refine lv_goto (tgt := 3) hx hb dX2_nextWeighing_32 (by decide) ?_
      exact hr_3 v0 v1 v3 x9 w7 hf k_v0 k_v1 _ _ _ hH (lv_sub hl [1, 2, 3, 0] rfl)
    · refine lv_iload hx hb dX2_nextWeighing_26 (lv_at hl 3 rfl) ?_
      cases hf
      exact q_reti C hH trivial dX2_nextWeighing_28
set_option maxRecDepth 100000 in
set_option maxHeartbeats 4000000 in
theorem t_X2_nextWeighing_3 {D : va_G} {B : Nat} {Y : Nat → ClassId} {p : Program} {l : Launch} {e : Env} {s : State} {m : MethodId} {args : Array Value} {below : List Frame} {meth : Method} {c : Code} {z : (Int32 × Wd)} {H : Heap} {locs : List Loc} {ls : Array Slot} {w : Wd} {v0 : Nat} {v1 : Nat} {v3 : Int32} {v4 : Int32} (C : CX D B Y p s m args meth c cX2_nextWeighing 5 RX2 (some .int))   (k_v0 : KD v0 = 2) (k_v1 : KD v1 = 7)  (hH : HS D B Y w s H locs) (hl : lv_has ls 5 [(0, .ref (B + v0)), (1, .ref (B + v1)), (3, .int v3), (4, .int v4)]) (hf : f_X2_nextWeighing_3 v0 v1 v3 v4 w = some z) : W p l e (RM 2 0 0) s m args below meth c H locs 0 0 (MQ below (QG D B Y (some (.int z.1)) z.2 True) args s 0 0 (AB B)) (F0 m 3 ls []) := by
  exact loopN_ind (z := z) (body := fun rc σ => g_X2_nextWeighing_3 rc  σ.1 σ.2.1 σ.2.2.1 σ.2.2.2.1 σ.2.2.2.2)
    (P := fun σ => KD σ.1 = 2 → KD σ.2.1 = 7 → ∀ (H : Heap) (locs : List Loc) (ls : Array Slot), HS D B Y σ.2.2.2.2 s H locs → lv_has ls 5 [(0, .ref (B + σ.1)), (1, .ref (B + σ.2.1)), (3, .int σ.2.2.1), (4, .int σ.2.2.2.1)] → W p l e (RM 2 0 0) s m args below meth c H locs 0 0 (MQ below (QG D B Y (some (.int z.1)) z.2 True) args s 0 0 (AB B)) (F0 m 3 ls []))
    (fun rc hrec σ hf k_v0 k_v1 H locs ls hH hl => tb_X2_nextWeighing_3 C (fun v0 v1 v3 v4 w hr k_v0 k_v1 H locs ls hH hl => hrec (v0, v1, v3, v4, w) hr k_v0 k_v1 H locs ls hH hl)  k_v0 k_v1 hH hl hf) FU (v0, v1, v3, v4, w) hf k_v0 k_v1 H locs ls hH hl
set_option maxRecDepth 100000 in
set_option maxHeartbeats 4000000 in
theorem t_X2_nextWeighing_0 {D : va_G} {B : Nat} {Y : Nat → ClassId} {p : Program} {l : Launch} {e : Env} {s : State} {m : MethodId} {args : Array Value} {below : List Frame} {meth : Method} {c : Code} {z : (Int32 × Wd)} {H : Heap} {locs : List Loc} {ls : Array Slot} {w : Wd} {v0 : Nat} {v1 : Nat} {v2 : Int32} {v3 : Int32} (C : CX D B Y p s m args meth c cX2_nextWeighing 5 RX2 (some .int))   (k_v0 : KD v0 = 2) (k_v1 : KD v1 = 7)  (hH : HS D B Y w s H locs) (hl : lv_has ls 5 [(0, .ref (B + v0)), (1, .ref (B + v1)), (2, .int v2), (3, .int v3)]) (hf : f_X2_nextWeighing v0 v1 v2 v3 w = some z) : W p l e (RM 2 0 0) s m args below meth c H locs 0 0 (MQ below (QG D B Y (some (.int z.1)) z.2 True) args s 0 0 (AB B)) (F0 m 0 ls []) := by
  have hx := C.1
  have hb := C.2.1
  unfold f_X2_nextWeighing at hf
  refine lv_iload_n hx hb dX2_nextWeighing_0 rfl (lv_at hl 2 rfl) ?_
  refine lv_istore (lv' := [(4, .int v2), (0, .ref (B + v0)), (1, .ref (B + v1)), (2, .int v2), (3, .int v3)]) hx hb dX2_nextWeighing_1 hl (by decide) rfl (fun ls hl => ?_)
  exact t_X2_nextWeighing_3 C k_v0 k_v1 hH (lv_sub hl [1, 2, 4, 0] rfl) hf
set_option maxRecDepth 100000 in
theorem c_X2_nextWeighing {l : Launch} {D : va_G} {B : Nat} {Y : Nat → ClassId} {v0 : Nat} {v1 : Nat} {v2 : Int32} {v3 : Int32} {w : Wd} {r : Int32} {w1 : Wd} (k_v0 : KD v0 = 2) (k_v1 : KD v1 = 7)  (hf : f_X2_nextWeighing v0 v1 v2 v3 w = some (r, w1)) : CM l D B Y yX2_nextWeighing cX2_nextWeighing 5 (some .int) 2 [.ref (B + v0), .ref (B + v1), .int v2, .int v3] w (some (.int r)) w1 True :=
  CM_of (by decide +kernel) (Nat.le_of_ble_eq_true rfl) (fun p e s m args below meth c ls C hH hl => t_X2_nextWeighing_0 C k_v0 k_v1 hH (lv_sub hl [0, 1, 2, 3] rfl) hf)
/-! LetterTables$Language.orderOf -/
set_option maxRecDepth 100000 in
set_option maxHeartbeats 4000000 in
theorem t_X2_orderOf_152 {D : va_G} {B : Nat} {Y : Nat → ClassId} {p : Program} {l : Launch} {e : Env} {s : State} {m : MethodId} {args : Array Value} {below : List Frame} {meth : Method} {c : Code} {z : (Int32 × Wd)} {H : Heap} {locs : List Loc} {ls : Array Slot} {w : Wd} {v6 : Int32} {t0 : Int32} (C : CX D B Y p s m args meth c cX2_orderOf 9 RX2 (some .int))    (z_v6 : isZ v6) (z_t0 : isZ t0) (hH : HS D B Y w s H locs) (hl : lv_has ls 9 [(6, .int v6)]) (hf : f_X2_orderOf_152 v6 t0 w = some z) : W p l e (RM 3 0 0) s m args below meth c H locs 0 0 (MQ below (QG D B Y (some (.int z.1)) z.2 True) args s 0 0 (AB B)) (F0 m 152 ls [.int t0]) := by
  have hx := C.1
  have hb := C.2.1
  unfold f_X2_orderOf_152 at hf
  refine lv_istore (lv' := [(7, .int t0), (6, .int v6)]) hx hb dX2_orderOf_152 hl (by decide) rfl (fun ls hl => ?_)
  refine lv_iload hx hb dX2_orderOf_154 (lv_at hl 1 rfl) ?_
  refine lv_iload hx hb dX2_orderOf_156 (lv_at hl 0 rfl) ?_
  refine b_icmp_ne (tgt := 165) hx hb hf dX2_orderOf_158 (by decide) (fun hf => ?_) (fun hf => ?_)
  · refine lv_iload hx hb dX2_orderOf_165 (lv_at hl 0 rfl) ?_
    refine b_if_eq (tgt := 174) hx hb hf dX2_orderOf_167 (by decide) (fun hf => ?_) (fun hf => ?_)
    · refine lv_iconst (v := (1 : Int32)) hx hb dX2_orderOf_174 (by decide) ?_
      cases hf
      exact q_reti C hH trivial dX2_orderOf_175
    · refine lv_iconst (v := (-1 : Int32)) hx hb dX2_orderOf_170 (by decide) ?_
      refine lv_goto (tgt := 175) hx hb dX2_orderOf_171 (by decide) ?_
      cases hf
      exact q_reti C hH trivial dX2_orderOf_175
  · refine lv_iconst (v := (0 : Int32)) hx hb dX2_orderOf_161 (by decide) ?_
    refine lv_goto (tgt := 175) hx hb dX2_orderOf_162 (by decide) ?_
    cases hf
    exact q_reti C hH trivial dX2_orderOf_175
set_option maxRecDepth 100000 in
set_option maxHeartbeats 4000000 in
theorem t_X2_orderOf_136 {D : va_G} {B : Nat} {Y : Nat → ClassId} {p : Program} {l : Launch} {e : Env} {s : State} {m : MethodId} {args : Array Value} {below : List Frame} {meth : Method} {c : Code} {z : (Int32 × Wd)} {H : Heap} {locs : List Loc} {ls : Array Slot} {w : Wd} {v2 : Nat} {v5 : Int32} {t0 : Int32} (C : CX D B Y p s m args meth c cX2_orderOf 9 RX2 (some .int))   (k_v2 : KD v2 = 7) (z_t0 : isZ t0) (hH : HS D B Y w s H locs) (hl : lv_has ls 9 [(2, .ref (B + v2)), (5, .int v5)]) (hf : f_X2_orderOf_136 v2 v5 t0 w = some z) : W p l e (RM 3 0 0) s m args below meth c H locs 0 0 (MQ below (QG D B Y (some (.int z.1)) z.2 True) args s 0 0 (AB B)) (F0 m 136 ls [.int t0]) := by
  have hx := C.1
  have hb := C.2.1
  unfold f_X2_orderOf_136 at hf
  refine lv_istore (lv' := [(6, .int t0), (2, .ref (B + v2)), (5, .int v5)]) hx hb dX2_orderOf_136 hl (by decide) rfl (fun ls hl => ?_)
  refine lv_iload hx hb dX2_orderOf_138 (lv_at hl 2 rfl) ?_
  refine lv_aload_n hx hb dX2_orderOf_140 rfl (lv_at hl 1 rfl) ?_
  obtain ⟨x2, w1, hc, hf⟩ := bd_some hf
  refine q_callV1 (v := .int x2) (As := []) C hH (ci := 7) rfl (by omega) gk_X2_60 yd_X7_size (by omega) (by omega) k_v2 (c_X7_size k_v2 hc) hl.1 rfl (Nat.le_of_ble_eq_true rfl) dX2_orderOf_141 xv_00 (fun H locs hH hP => ?_)
  refine b_icmp_ge (tgt := 151) hx hb hf dX2_orderOf_144 (by decide) (fun hf => ?_) (fun hf => ?_)
  · refine lv_iconst (v := (0 : Int32)) hx hb dX2_orderOf_151 (by decide) ?_
    exact t_X2_orderOf_152 C z_t0 isZ_0 hH (lv_sub hl [0] rfl) hf
  · refine lv_iconst (v := (1 : Int32)) hx hb dX2_orderOf_147 (by decide) ?_
    refine lv_goto (tgt := 152) hx hb dX2_orderOf_148 (by decide) ?_
    exact t_X2_orderOf_152 C z_t0 isZ_1 hH (lv_sub hl [0] rfl) hf
set_option maxRecDepth 100000 in
set_option maxHeartbeats 4000000 in
theorem t_X2_orderOf_122 {D : va_G} {B : Nat} {Y : Nat → ClassId} {p : Program} {l : Launch} {e : Env} {s : State} {m : MethodId} {args : Array Value} {below : List Frame} {meth : Method} {c : Code} {z : (Int32 × Wd)} {H : Heap} {locs : List Loc} {ls : Array Slot} {w : Wd} {v1 : Nat} {v2 : Nat} {v4 : Int32} {v5 : Int32} (C : CX D B Y p s m args meth c cX2_orderOf 9 RX2 (some .int))   (k_v1 : KD v1 = 7) (k_v2 : KD v2 = 7)  (hH : HS D B Y w s H locs) (hl : lv_has ls 9 [(1, .ref (B + v1)), (2, .ref (B + v2)), (4, .int v4), (5, .int v5)]) (hf : f_X2_orderOf_122 v1 v2 v4 v5 w = some z) : W p l e (RM 3 0 0) s m args below meth c H locs 0 0 (MQ below (QG D B Y (some (.int z.1)) z.2 True) args s 0 0 (AB B)) (F0 m 122 ls []) := by
  have hx := C.1
  have hb := C.2.1
  unfold f_X2_orderOf_122 at hf
  refine lv_iload hx hb dX2_orderOf_122 (lv_at hl 2 rfl) ?_
  refine lv_aload_n hx hb dX2_orderOf_124 rfl (lv_at hl 0 rfl) ?_
  obtain ⟨x2, w1, hc, hf⟩ := bd_some hf
  refine q_callV1 (v := .int x2) (As := []) C hH (ci := 7) rfl (by omega) gk_X2_60 yd_X7_size (by omega) (by omega) k_v1 (c_X7_size k_v1 hc) hl.1 rfl (Nat.le_of_ble_eq_true rfl) dX2_orderOf_125 xv_00 (fun H locs hH hP => ?_)
  refine b_icmp_ge (tgt := 135) hx hb hf dX2_orderOf_128 (by decide) (fun hf => ?_) (fun hf => ?_)
  · refine lv_iconst (v := (0 : Int32)) hx hb dX2_orderOf_135 (by decide) ?_
    exact t_X2_orderOf_136 C k_v2 isZ_0 hH (lv_sub hl [1, 3] rfl) hf
  · refine lv_iconst (v := (1 : Int32)) hx hb dX2_orderOf_131 (by decide) ?_
    refine lv_goto (tgt := 136) hx hb dX2_orderOf_132 (by decide) ?_
    exact t_X2_orderOf_136 C k_v2 isZ_1 hH (lv_sub hl [1, 3] rfl) hf
set_option maxRecDepth 100000 in
set_option maxHeartbeats 4000000 in
theorem tb_X2_orderOf_21 {D : va_G} {B : Nat} {Y : Nat → ClassId} {p : Program} {l : Launch} {e : Env} {s : State} {m : MethodId} {args : Array Value} {below : List Frame} {meth : Method} {c : Code} {z : (Int32 × Wd)} {H : Heap} {locs : List Loc} {ls : Array Slot} {w : Wd} {v0 : Nat} {v1 : Nat} {v2 : Nat} {v3 : Int32} {v4 : Int32} {v5 : Int32} {v6 : Int32} (C : CX D B Y p s m args meth c cX2_orderOf 9 RX2 (some .int))  {rc_21 : Nat × Nat × Nat × Int32 × Int32 × Int32 × Int32 × Wd → Option (Int32 × Wd)} (hr_21 : ∀ (v0 : Nat) (v1 : Nat) (v2 : Nat) (v3 : Int32) (v4 : Int32) (v5 : Int32) (v6 : Int32) (w : Wd), rc_21 (v0, v1, v2, v3, v4, v5, v6, w) = some z → KD v0 = 2 → KD v1 = 7 → KD v2 = 7 → ∀ (H : Heap) (locs : List Loc) (ls : Array Slot), HS D B Y w s H locs → lv_has ls 9 [(0, .ref (B + v0)), (1, .ref (B + v1)), (2, .ref (B + v2)), (3, .int v3), (4, .int v4), (5, .int v5), (6, .int v6)] → W p l e (RM 3 0 0) s m args below meth c H locs 0 0 (MQ below (QG D B Y (some (.int z.1)) z.2 True) args s 0 0 (AB B)) (F0 m 21 ls []))  (k_v0 : KD v0 = 2) (k_v1 : KD v1 = 7) (k_v2 : KD v2 = 7)  (hH : HS D B Y w s H locs) (hl : lv_has ls 9 [(0, .ref (B + v0)), (1, .ref (B + v1)), (2, .ref (B + v2)), (3, .int v3), (4, .int v4), (5, .int v5), (6, .int v6)]) (hf : g_X2_orderOf_21 rc_21 v0 v1 v2 v3 v4 v5 v6 w = some z) : W p l e (RM 3 0 0) s m args below meth c H locs 0 0 (MQ below (QG D B Y (some (.int z.1)) z.2 True) args s 0 0 (AB B)) (F0 m 21 ls []) := by
  have hx := C.1
  have hb := C.2.1
  unfold g_X2_orderOf_21 at hf
  refine lv_iload hx hb dX2_orderOf_21 (lv_at hl 6 rfl) ?_
  refine lv_bipush (v := (80 : Int32)) hx hb dX2_orderOf_23 (by decide) ?_
  refine b_icmp_ge (tgt := 122) hx hb hf dX2_orderOf_25 (by decide) (fun hf => ?_) (fun hf => ?_)
  · exact t_X2_orderOf_122 C k_v1 k_v2 hH (lv_sub hl [1, 2, 4, 5] rfl) hf
  · refine lv_iload hx hb dX2_orderOf_28 (lv_at hl 4 rfl) ?_
    refine lv_aload_n hx hb dX2_orderOf_30 rfl (lv_at hl 1 rfl) ?_
    obtain ⟨x2, w1, hc, hf⟩ := bd_some hf
    refine q_callV1 (v := .int x2) (As := []) C hH (ci := 7) rfl (by omega) gk_X2_60 yd_X7_size (by omega) (by omega) k_v1 (c_X7_size k_v1 hc) hl.1 rfl (Nat.le_of_ble_eq_true rfl) dX2_orderOf_31 xv_00 (fun H locs hH hP => ?_)
    refine b_icmp_ge (tgt := 122) hx hb hf dX2_orderOf_34 (by decide) (fun hf => ?_) (fun hf => ?_)
    · exact t_X2_orderOf_122 C k_v1 k_v2 hH (lv_sub hl [1, 2, 4, 5] rfl) hf
    · refine lv_iload hx hb dX2_orderOf_37 (lv_at hl 5 rfl) ?_
      refine lv_aload_n hx hb dX2_orderOf_39 rfl (lv_at hl 2 rfl) ?_
      obtain ⟨x4, w3, hc, hf⟩ := bd_some hf
      refine q_callV1 (v := .int x4) (As := []) C hH (ci := 7) rfl (by omega) gk_X2_60 yd_X7_size (by omega) (by omega) k_v2 (c_X7_size k_v2 hc) hl.1 rfl (Nat.le_of_ble_eq_true rfl) dX2_orderOf_40 xv_00 (fun H locs hH hP => ?_)
      refine b_icmp_ge (tgt := 122) hx hb hf dX2_orderOf_43 (by decide) (fun hf => ?_) (fun hf => ?_)
      · exact t_X2_orderOf_122 C k_v1 k_v2 hH (lv_sub hl [1, 2, 4, 5] rfl) hf
      · refine lv_aload_n hx hb dX2_orderOf_46 rfl (lv_at hl 0 rfl) ?_
        refine lv_aload_n hx hb dX2_orderOf_47 rfl (lv_at hl 1 rfl) ?_
        refine lv_iload hx hb dX2_orderOf_48 (lv_at hl 4 rfl) ?_
        obtain ⟨x6, w5, hc, hf⟩ := bd_some hf
        refine q_callV1 (v := .int x6) (As := [.int v4]) C hH (ci := 7) rfl (by omega) gk_X2_64 yd_X7_get (by omega) (by omega) k_v1 (c_X7_get k_v1 hc) hl.1 rfl (Nat.le_of_ble_eq_true rfl) dX2_orderOf_50 xv_00 (fun H locs hH hP => ?_)
        refine lv_iload_n hx hb dX2_orderOf_53 rfl (lv_at hl 3 rfl) ?_
        obtain ⟨x8, w7, hc, hf⟩ := bd_some hf
        refine q_callV1 (v := .int x8) (As := [.int x6, .int v3]) C hH (ci := 2) rfl (by omega) gk_X2_79 yd_X2_weightOf (by omega) (by omega) k_v0 (c_X2_weightOf k_v0 hc) hl.1 rfl (Nat.le_of_ble_eq_true rfl) dX2_orderOf_54 xv_00 (fun H locs hH hP => ?_)
        refine lv_istore (lv' := [(7, .int x8), (0, .ref (B + v0)), (1, .ref (B + v1)), (2, .ref (B + v2)), (3, .int v3), (4, .int v4), (5, .int v5), (6, .int v6)]) hx hb dX2_orderOf_57 hl (by decide) rfl (fun ls hl => ?_)
        refine lv_aload_n hx hb dX2_orderOf_59 rfl (lv_at hl 1 rfl) ?_
        refine lv_aload_n hx hb dX2_orderOf_60 rfl (lv_at hl 3 rfl) ?_
        refine lv_iload hx hb dX2_orderOf_61 (lv_at hl 6 rfl) ?_
        obtain ⟨x10, w9, hc, hf⟩ := bd_some hf
        refine q_callV1 (v := .int x10) (As := [.int v5]) C hH (ci := 7) rfl (by omega) gk_X2_64 yd_X7_get (by omega) (by omega) k_v2 (c_X7_get k_v2 hc) hl.1 rfl (Nat.le_of_ble_eq_true rfl) dX2_orderOf_63 xv_00 (fun H locs hH hP => ?_)
        refine lv_iload_n hx hb dX2_orderOf_66 rfl (lv_at hl 4 rfl) ?_
        obtain ⟨x12, w11, hc, hf⟩ := bd_some hf
        refine q_callV1 (v := .int x12) (As := [.int x10, .int v3]) C hH (ci := 2) rfl (by omega) gk_X2_79 yd_X2_weightOf (by omega) (by omega) k_v0 (c_X2_weightOf k_v0 hc) hl.1 rfl (Nat.le_of_ble_eq_true rfl) dX2_orderOf_67 xv_00 (fun H locs hH hP => ?_)
        refine lv_istore (lv' := [(8, .int x12), (7, .int x8), (0, .ref (B + v0)), (1, .ref (B + v1)), (2, .ref (B + v2)), (3, .int v3), (4, .int v4), (5, .int v5), (6, .int v6)]) hx hb dX2_orderOf_70 hl (by decide) rfl (fun ls hl => ?_)
        refine lv_iload hx hb dX2_orderOf_72 (lv_at hl 1 rfl) ?_
        refine lv_iload hx hb dX2_orderOf_74 (lv_at hl 0 rfl) ?_
        refine b_icmp_eq (tgt := 92) hx hb hf dX2_orderOf_76 (by decide) (fun hf => ?_) (fun hf => ?_)
        · refine lv_aload_n hx hb dX2_orderOf_92 rfl (lv_at hl 2 rfl) ?_
          refine lv_aload_n hx hb dX2_orderOf_93 rfl (lv_at hl 3 rfl) ?_
          refine lv_iload hx hb dX2_orderOf_94 (lv_at hl 6 rfl) ?_
          refine lv_iconst (v := (1 : Int32)) hx hb dX2_orderOf_96 (by decide) ?_
          refine lv_iadd hx hb dX2_orderOf_97 ?_
          refine lv_iload_n hx hb dX2_orderOf_98 rfl (lv_at hl 5 rfl) ?_
          obtain ⟨x14, w13, hc, hf⟩ := bd_some hf
          refine q_callV1 (v := .int x14) (As := [.ref (B + v1), .int (v4 + (1 : Int32)), .int v3]) C hH (ci := 2) rfl (by omega) gk_X2_82 yd_X2_nextWeighing (by omega) (by omega) k_v0 (c_X2_nextWeighing k_v0 k_v1 hc) hl.1 rfl (Nat.le_of_ble_eq_true rfl) dX2_orderOf_99 xv_00 (fun H locs hH hP => ?_)
          refine lv_istore (lv' := [(4, .int x14), (8, .int x12), (7, .int x8), (0, .ref (B + v0)), (1, .ref (B + v1)), (2, .ref (B + v2)), (3, .int v3), (5, .int v5), (6, .int v6)]) hx hb dX2_orderOf_102 hl (by decide) rfl (fun ls hl => ?_)
          refine lv_aload_n hx hb dX2_orderOf_104 rfl (lv_at hl 3 rfl) ?_
          refine lv_aload_n hx hb dX2_orderOf_105 rfl (lv_at hl 5 rfl) ?_
          refine lv_iload hx hb dX2_orderOf_106 (lv_at hl 7 rfl) ?_
          refine lv_iconst (v := (1 : Int32)) hx hb dX2_orderOf_108 (by decide) ?_
          refine lv_iadd hx hb dX2_orderOf_109 ?_
          refine lv_iload_n hx hb dX2_orderOf_110 rfl (lv_at hl 6 rfl) ?_
          obtain ⟨x16, w15, hc, hf⟩ := bd_some hf
          refine q_callV1 (v := .int x16) (As := [.ref (B + v2), .int (v5 + (1 : Int32)), .int v3]) C hH (ci := 2) rfl (by omega) gk_X2_82 yd_X2_nextWeighing (by omega) (by omega) k_v0 (c_X2_nextWeighing k_v0 k_v2 hc) hl.1 rfl (Nat.le_of_ble_eq_true rfl) dX2_orderOf_111 xv_00 (fun H locs hH hP => ?_)
          refine lv_istore (lv' := [(5, .int x16), (4, .int x14), (8, .int x12), (7, .int x8), (0, .ref (B + v0)), (1, .ref (B + v1)), (2, .ref (B + v2)), (3, .int v3), (6, .int v6)]) hx hb dX2_orderOf_114 hl (by decide) rfl (fun ls hl => ?_)
          refine b_let hf (fun x17 he hf => ?_)
          refine lv_iinc (v := x17) (lv' := [(6, .int x17), (5, .int x16), (4, .int x14), (8, .int x12), (7, .int x8), (0, .ref (B + v0)), (1, .ref (B + v1)), (2, .ref (B + v2)), (3, .int v3)]) hx hb dX2_orderOf_116 hl (k := 8) rfl (by rw [← he]; rfl) (by decide) rfl (fun ls hl => ?_)
          refine lv_goto (tgt := 21) hx hb dX2_orderOf_119 (by decide) ?_
          exact hr_21 v0 v1 v2 v3 x14 x16 x17 w15 hf k_v0 k_v1 k_v2 _ _ _ hH (lv_sub hl [5, 6, 7, 8, 2, 1, 0] rfl)
        · refine lv_iload hx hb dX2_orderOf_79 (lv_at hl 1 rfl) ?_
          refine lv_iload hx hb dX2_orderOf_81 (lv_at hl 0 rfl) ?_
          refine b_icmp_ge (tgt := 90) hx hb hf dX2_orderOf_83 (by decide) (fun hf => ?_) (fun hf => ?_)
          · refine lv_iconst (v := (1 : Int32)) hx hb dX2_orderOf_90 (by decide) ?_
            cases hf
            exact q_reti C hH trivial dX2_orderOf_91
          · refine lv_iconst (v := (-1 : Int32)) hx hb dX2_orderOf_86 (by decide) ?_
            refine lv_goto (tgt := 91) hx hb dX2_orderOf_87 (by decide) ?_
            cases hf
            exact q_reti C hH trivial dX2_orderOf_91
set_option maxRecDepth 100000 in
set_option maxHeartbeats 4000000 in
theorem t_X2_orderOf_21 {D : va_G} {B : Nat} {Y : Nat → ClassId} {p : Program} {l : Launch} {e : Env} {s : State} {m : MethodId} {args : Array Value} {below : List Frame} {meth : Method} {c : Code} {z : (Int32 × Wd)} {H : Heap} {locs : List Loc} {ls : Array Slot} {w : Wd} {v0 : Nat} {v1 : Nat} {v2 : Nat} {v3 : Int32} {v4 : Int32} {v5 : Int32} {v6 : Int32} (C : CX D B Y p s m args meth c cX2_orderOf 9 RX2 (some .int))   (k_v0 : KD v0 = 2) (k_v1 : KD v1 = 7) (k_v2 : KD v2 = 7)  (hH : HS D B Y w s H locs) (hl : lv_has ls 9 [(0, .ref (B + v0)), (1, .ref (B + v1)), (2, .ref (B + v2)), (3, .int v3), (4, .int v4), (5, .int v5), (6, .int v6)]) (hf : f_X2_orderOf_21 v0 v1 v2 v3 v4 v5 v6 w = some z) : W p l e (RM 3 0 0) s m args below meth c H locs 0 0 (MQ below (QG D B Y (some (.int z.1)) z.2 True) args s 0 0 (AB B)) (F0 m 21 ls []) := by
  exact loopN_ind (z := z) (body := fun rc σ => g_X2_orderOf_21 rc  σ.1 σ.2.1 σ.2.2.1 σ.2.2.2.1 σ.2.2.2.2.1 σ.2.2.2.2.2.1 σ.2.2.2.2.2.2.1 σ.2.2.2.2.2.2.2)
    (P := fun σ => KD σ.1 = 2 → KD σ.2.1 = 7 → KD σ.2.2.1 = 7 → ∀ (H : Heap) (locs : List Loc) (ls : Array Slot), HS D B Y σ.2.2.2.2.2.2.2 s H locs → lv_has ls 9 [(0, .ref (B + σ.1)), (1, .ref (B + σ.2.1)), (2, .ref (B + σ.2.2.1)), (3, .int σ.2.2.2.1), (4, .int σ.2.2.2.2.1), (5, .int σ.2.2.2.2.2.1), (6, .int σ.2.2.2.2.2.2.1)] → W p l e (RM 3 0 0) s m args below meth c H locs 0 0 (MQ below (QG D B Y (some (.int z.1)) z.2 True) args s 0 0 (AB B)) (F0 m 21 ls []))
    (fun rc hrec σ hf k_v0 k_v1 k_v2 H locs ls hH hl => tb_X2_orderOf_21 C (fun v0 v1 v2 v3 v4 v5 v6 w hr k_v0 k_v1 k_v2 H locs ls hH hl => hrec (v0, v1, v2, v3, v4, v5, v6, w) hr k_v0 k_v1 k_v2 H locs ls hH hl)  k_v0 k_v1 k_v2 hH hl hf) FU (v0, v1, v2, v3, v4, v5, v6, w) hf k_v0 k_v1 k_v2 H locs ls hH hl
set_option maxRecDepth 100000 in
set_option maxHeartbeats 4000000 in
theorem t_X2_orderOf_0 {D : va_G} {B : Nat} {Y : Nat → ClassId} {p : Program} {l : Launch} {e : Env} {s : State} {m : MethodId} {args : Array Value} {below : List Frame} {meth : Method} {c : Code} {z : (Int32 × Wd)} {H : Heap} {locs : List Loc} {ls : Array Slot} {w : Wd} {v0 : Nat} {v1 : Nat} {v2 : Nat} {v3 : Int32} (C : CX D B Y p s m args meth c cX2_orderOf 9 RX2 (some .int))   (k_v0 : KD v0 = 2) (k_v1 : KD v1 = 7) (k_v2 : KD v2 = 7)  (hH : HS D B Y w s H locs) (hl : lv_has ls 9 [(0, .ref (B + v0)), (1, .ref (B + v1)), (2, .ref (B + v2)), (3, .int v3)]) (hf : f_X2_orderOf v0 v1 v2 v3 w = some z) : W p l e (RM 3 0 0) s m args below meth c H locs 0 0 (MQ below (QG D B Y (some (.int z.1)) z.2 True) args s 0 0 (AB B)) (F0 m 0 ls []) := by
  have hx := C.1
  have hb := C.2.1
  unfold f_X2_orderOf at hf
  refine lv_aload_n hx hb dX2_orderOf_0 rfl (lv_at hl 0 rfl) ?_
  refine lv_aload_n hx hb dX2_orderOf_1 rfl (lv_at hl 1 rfl) ?_
  refine lv_iconst (v := (0 : Int32)) hx hb dX2_orderOf_2 (by decide) ?_
  refine lv_iload_n hx hb dX2_orderOf_3 rfl (lv_at hl 3 rfl) ?_
  obtain ⟨x2, w1, hc, hf⟩ := bd_some hf
  refine q_callV1 (v := .int x2) (As := [.ref (B + v1), .int (0 : Int32), .int v3]) C hH (ci := 2) rfl (by omega) gk_X2_82 yd_X2_nextWeighing (by omega) (by omega) k_v0 (c_X2_nextWeighing k_v0 k_v1 hc) hl.1 rfl (Nat.le_of_ble_eq_true rfl) dX2_orderOf_4 xv_00 (fun H locs hH hP => ?_)
  refine lv_istore (lv' := [(4, .int x2), (0, .ref (B + v0)), (1, .ref (B + v1)), (2, .ref (B + v2)), (3, .int v3)]) hx hb dX2_orderOf_7 hl (by decide) rfl (fun ls hl => ?_)
  refine lv_aload_n hx hb dX2_orderOf_9 rfl (lv_at hl 1 rfl) ?_
  refine lv_aload_n hx hb dX2_orderOf_10 rfl (lv_at hl 3 rfl) ?_
  refine lv_iconst (v := (0 : Int32)) hx hb dX2_orderOf_11 (by decide) ?_
  refine lv_iload_n hx hb dX2_orderOf_12 rfl (lv_at hl 4 rfl) ?_
  obtain ⟨x4, w3, hc, hf⟩ := bd_some hf
  refine q_callV1 (v := .int x4) (As := [.ref (B + v2), .int (0 : Int32), .int v3]) C hH (ci := 2) rfl (by omega) gk_X2_82 yd_X2_nextWeighing (by omega) (by omega) k_v0 (c_X2_nextWeighing k_v0 k_v2 hc) hl.1 rfl (Nat.le_of_ble_eq_true rfl) dX2_orderOf_13 xv_00 (fun H locs hH hP => ?_)
  refine lv_istore (lv' := [(5, .int x4), (4, .int x2), (0, .ref (B + v0)), (1, .ref (B + v1)), (2, .ref (B + v2)), (3, .int v3)]) hx hb dX2_orderOf_16 hl (by decide) rfl (fun ls hl => ?_)
  refine lv_iconst (v := (0 : Int32)) hx hb dX2_orderOf_18 (by decide) ?_
  refine lv_istore (lv' := [(6, .int (0 : Int32)), (5, .int x4), (4, .int x2), (0, .ref (B + v0)), (1, .ref (B + v1)), (2, .ref (B + v2)), (3, .int v3)]) hx hb dX2_orderOf_19 hl (by decide) rfl (fun ls hl => ?_)
  exact t_X2_orderOf_21 C k_v0 k_v1 k_v2 hH (lv_sub hl [3, 4, 5, 6, 2, 1, 0] rfl) hf
set_option maxRecDepth 100000 in
theorem c_X2_orderOf {l : Launch} {D : va_G} {B : Nat} {Y : Nat → ClassId} {v0 : Nat} {v1 : Nat} {v2 : Nat} {v3 : Int32} {w : Wd} {r : Int32} {w1 : Wd} (k_v0 : KD v0 = 2) (k_v1 : KD v1 = 7) (k_v2 : KD v2 = 7)  (hf : f_X2_orderOf v0 v1 v2 v3 w = some (r, w1)) : CM l D B Y yX2_orderOf cX2_orderOf 9 (some .int) 3 [.ref (B + v0), .ref (B + v1), .ref (B + v2), .int v3] w (some (.int r)) w1 True :=
  CM_of (by decide +kernel) (Nat.le_of_ble_eq_true rfl) (fun p e s m args below meth c ls C hH hl => t_X2_orderOf_0 C k_v0 k_v1 k_v2 hH (lv_sub hl [0, 1, 2, 3] rfl) hf)
/-! LetterTables.compare -/
set_option maxRecDepth 100000 in
set_option maxHeartbeats 4000000 in
theorem tb_X10_compare_93 {D : va_G} {B : Nat} {Y : Nat → ClassId} {p : Program} {l : Launch} {e : Env} {s : State} {m : MethodId} {args : Array Value} {below : List Frame} {meth : Method} {c : Code} {z : ((Nat ⊕ Int32) × Wd)} {H : Heap} {locs : List Loc} {ls : Array Slot} {w : Wd} {v4 : Nat} {v7 : Int32} {v8 : Int32} (C : CX D B Y p s m args meth c cX10_compare 9 RX10 (some .int)) (hxt : ∀ x ∈ c.exceptionTable.toList, False) (htr : l.stackTraces = false)  {rc_93 : Nat × Int32 × Int32 × Wd → Option ((Nat ⊕ Int32) × Wd)} (hr_93 : ∀ (v4 : Nat) (v7 : Int32) (v8 : Int32) (w : Wd), rc_93 (v4, v7, v8, w) = some z → KD v4 = 2 → ∀ (H : Heap) (locs : List Loc) (ls : Array Slot), HS D B Y w s H locs → lv_has ls 9 [(0, .ref (B + 0)), (4, .ref (B + v4)), (7, .int v7), (8, .int v8)] → W p l e (RM 4 (xv (zoI z.1)) (6 * xv (zoI z.1))) s m args below meth c H locs 0 0 (vx_MQ below (QX D B Y (zoI z.1) z.2 True) (XX D B Y (zoI z.1) z.2) args s (xv (zoI z.1)) (6 * xv (zoI z.1)) (AB B)) (F0 m 93 ls []))  (k_v4 : KD v4 = 2)  (hH : HS D B Y w s H locs) (hl : lv_has ls 9 [(0, .ref (B + 0)), (4, .ref (B + v4)), (7, .int v7), (8, .int v8)]) (hf : g_X10_compare_93 rc_93 v4 v7 v8 w = some z) : W p l e (RM 4 (xv (zoI z.1)) (6 * xv (zoI z.1))) s m args below meth c H locs 0 0 (vx_MQ below (QX D B Y (zoI z.1) z.2 True) (XX D B Y (zoI z.1) z.2) args s (xv (zoI z.1)) (6 * xv (zoI z.1)) (AB B)) (F0 m 93 ls []) := by
  have hx := C.1
  have hb := C.2.1
  unfold g_X10_compare_93 at hf
  refine lv_iload hx hb dX10_compare_93 (lv_at hl 3 rfl) ?_
  refine lv_iconst (v := (3 : Int32)) hx hb dX10_compare_95 (by decide) ?_
  refine b_icmp_ge (tgt := 127) hx hb hf dX10_compare_96 (by decide) (fun hf => ?_) (fun hf => ?_)
  · refine lv_iload hx hb dX10_compare_127 (lv_at hl 2 rfl) ?_
    cases hf
    exact q_x0 rfl (q_reti C hH trivial dX10_compare_129)
  · refine lv_iload hx hb dX10_compare_99 (lv_at hl 2 rfl) ?_
    refine b_if_ne (tgt := 127) hx hb hf dX10_compare_101 (by decide) (fun hf => ?_) (fun hf => ?_)
    · refine lv_iload hx hb dX10_compare_127 (lv_at hl 2 rfl) ?_
      cases hf
      exact q_x0 rfl (q_reti C hH trivial dX10_compare_129)
    · refine lv_aload hx hb dX10_compare_104 (lv_at hl 1 rfl) ?_
      refine lv_aload_n hx hb dX10_compare_106 rfl (lv_at hl 0 rfl) ?_
      refine fg_X10_84 C hH dX10_compare_107 ?_
      refine lv_aload_n hx hb dX10_compare_110 rfl (lv_at hl 0 rfl) ?_
      refine fg_X10_87 C hH dX10_compare_111 ?_
      refine lv_iload hx hb dX10_compare_114 (lv_at hl 3 rfl) ?_
      obtain ⟨x2, w1, hc, hf⟩ := bd_some hf
      refine q_callV1 (v := .int x2) (As := [.ref (B + 703), .ref (B + 705), .int v8]) C hH (ci := 2) rfl (by omega) gk_X10_300 yd_X2_orderOf (by omega) (by omega) k_v4 (c_X2_orderOf k_v4 kc_703 kc_705 hc) hl.1 rfl (Nat.le_of_ble_eq_true rfl) dX10_compare_116 xv_00 (fun H locs hH hP => ?_)
      refine lv_istore (lv' := [(7, .int x2), (0, .ref (B + 0)), (4, .ref (B + v4)), (8, .int v8)]) hx hb dX10_compare_119 hl (by decide) rfl (fun ls hl => ?_)
      refine b_let hf (fun x3 he hf => ?_)
      refine lv_iinc (v := x3) (lv' := [(8, .int x3), (7, .int x2), (0, .ref (B + 0)), (4, .ref (B + v4))]) hx hb dX10_compare_121 hl (k := 3) rfl (by rw [← he]; rfl) (by decide) rfl (fun ls hl => ?_)
      refine lv_goto (tgt := 93) hx hb dX10_compare_124 (by decide) ?_
      exact hr_93 v4 x2 x3 w1 hf k_v4 _ _ _ hH (lv_sub hl [2, 3, 1, 0] rfl)
set_option maxRecDepth 100000 in
set_option maxHeartbeats 4000000 in
theorem t_X10_compare_93 {D : va_G} {B : Nat} {Y : Nat → ClassId} {p : Program} {l : Launch} {e : Env} {s : State} {m : MethodId} {args : Array Value} {below : List Frame} {meth : Method} {c : Code} {z : ((Nat ⊕ Int32) × Wd)} {H : Heap} {locs : List Loc} {ls : Array Slot} {w : Wd} {v4 : Nat} {v7 : Int32} {v8 : Int32} (C : CX D B Y p s m args meth c cX10_compare 9 RX10 (some .int)) (hxt : ∀ x ∈ c.exceptionTable.toList, False) (htr : l.stackTraces = false)   (k_v4 : KD v4 = 2)  (hH : HS D B Y w s H locs) (hl : lv_has ls 9 [(0, .ref (B + 0)), (4, .ref (B + v4)), (7, .int v7), (8, .int v8)]) (hf : f_X10_compare_93 v4 v7 v8 w = some z) : W p l e (RM 4 (xv (zoI z.1)) (6 * xv (zoI z.1))) s m args below meth c H locs 0 0 (vx_MQ below (QX D B Y (zoI z.1) z.2 True) (XX D B Y (zoI z.1) z.2) args s (xv (zoI z.1)) (6 * xv (zoI z.1)) (AB B)) (F0 m 93 ls []) := by
  exact loopN_ind (z := z) (body := fun rc σ => g_X10_compare_93 rc  σ.1 σ.2.1 σ.2.2.1 σ.2.2.2)
    (P := fun σ => KD σ.1 = 2 → ∀ (H : Heap) (locs : List Loc) (ls : Array Slot), HS D B Y σ.2.2.2 s H locs → lv_has ls 9 [(0, .ref (B + 0)), (4, .ref (B + σ.1)), (7, .int σ.2.1), (8, .int σ.2.2.1)] → W p l e (RM 4 (xv (zoI z.1)) (6 * xv (zoI z.1))) s m args below meth c H locs 0 0 (vx_MQ below (QX D B Y (zoI z.1) z.2 True) (XX D B Y (zoI z.1) z.2) args s (xv (zoI z.1)) (6 * xv (zoI z.1)) (AB B)) (F0 m 93 ls []))
    (fun rc hrec σ hf k_v4 H locs ls hH hl => tb_X10_compare_93 C hxt htr (fun v4 v7 v8 w hr k_v4 H locs ls hH hl => hrec (v4, v7, v8, w) hr k_v4 H locs ls hH hl)  k_v4 hH hl hf) FU (v4, v7, v8, w) hf k_v4 H locs ls hH hl
set_option maxRecDepth 100000 in
set_option maxHeartbeats 4000000 in
theorem t_X10_compare_58 {D : va_G} {B : Nat} {Y : Nat → ClassId} {p : Program} {l : Launch} {e : Env} {s : State} {m : MethodId} {args : Array Value} {below : List Frame} {meth : Method} {c : Code} {z : ((Nat ⊕ Int32) × Wd)} {H : Heap} {locs : List Loc} {ls : Array Slot} {w : Wd} {v4 : Nat} {t0 : Int32} (C : CX D B Y p s m args meth c cX10_compare 9 RX10 (some .int)) (hxt : ∀ x ∈ c.exceptionTable.toList, False) (htr : l.stackTraces = false)   (k_v4 : KD v4 = 2) (z_t0 : isZ t0) (hH : HS D B Y w s H locs) (hl : lv_has ls 9 [(0, .ref (B + 0)), (4, .ref (B + v4))]) (hf : f_X10_compare_58 v4 t0 w = some z) : W p l e (RM 4 (xv (zoI z.1)) (6 * xv (zoI z.1))) s m args below meth c H locs 0 0 (vx_MQ below (QX D B Y (zoI z.1) z.2 True) (XX D B Y (zoI z.1) z.2) args s (xv (zoI z.1)) (6 * xv (zoI z.1)) (AB B)) (F0 m 58 ls [.int t0]) := by
  have hx := C.1
  have hb := C.2.1
  unfold f_X10_compare_58 at hf
  rcases bdx_some hf with ⟨k, w1, hc, rfl⟩ | ⟨u, w1, hc, hf⟩
  · exact q_xrunX (k0 := k) (q_xS (As := [.int t0]) C hH gk_X10_250 yd_X10_checkForm (by omega) (by omega) (c_X10_checkForm (r := .inl k) htr z_t0 hc) hl.1 rfl (Nat.le_of_ble_eq_true rfl) dX10_compare_58 (xv_le rfl)) hH (fun H locs ce q hH h1 h2 h3 => q_out C hH hxt h1 h2 h3 (xv_1 rfl) (xv_6 rfl))
  refine q_xrun (ov := none) (q_xS (As := [.int t0]) C hH gk_X10_250 yd_X10_checkForm (by omega) (by omega) (c_X10_checkForm (r := .inr u) htr z_t0 hc) hl.1 rfl (Nat.le_of_ble_eq_true rfl) dX10_compare_58 (xv_0 rfl xv_00)) hH (fun H locs hH hP => ?_)
  refine lv_aload hx hb dX10_compare_61 (lv_at hl 1 rfl) ?_
  refine lv_aload_n hx hb dX10_compare_63 rfl (lv_at hl 0 rfl) ?_
  refine fg_X10_78 C hH dX10_compare_64 ?_
  refine lv_aload_n hx hb dX10_compare_67 rfl (lv_at hl 0 rfl) ?_
  refine fg_X10_84 C hH dX10_compare_68 ?_
  obtain ⟨u, w2, hc, hf⟩ := bd_some hf
  refine q_callV0 (As := [.ref (B + 699), .ref (B + 703)]) C hH (ci := 2) rfl (by omega) gk_X10_296 yd_X2_unitsInto (by omega) (by omega) k_v4 (c_X2_unitsInto k_v4 kc_699 kc_703 hc) hl.1 rfl (Nat.le_of_ble_eq_true rfl) dX10_compare_71 xv_00 (fun H locs hH hP => ?_)
  refine lv_aload hx hb dX10_compare_74 (lv_at hl 1 rfl) ?_
  refine lv_aload_n hx hb dX10_compare_76 rfl (lv_at hl 0 rfl) ?_
  refine fg_X10_81 C hH dX10_compare_77 ?_
  refine lv_aload_n hx hb dX10_compare_80 rfl (lv_at hl 0 rfl) ?_
  refine fg_X10_87 C hH dX10_compare_81 ?_
  obtain ⟨u, w3, hc, hf⟩ := bd_some hf
  refine q_callV0 (As := [.ref (B + 701), .ref (B + 705)]) C hH (ci := 2) rfl (by omega) gk_X10_296 yd_X2_unitsInto (by omega) (by omega) k_v4 (c_X2_unitsInto k_v4 kc_701 kc_705 hc) hl.1 rfl (Nat.le_of_ble_eq_true rfl) dX10_compare_84 xv_00 (fun H locs hH hP => ?_)
  refine lv_iconst (v := (0 : Int32)) hx hb dX10_compare_87 (by decide) ?_
  refine lv_istore (lv' := [(7, .int (0 : Int32)), (0, .ref (B + 0)), (4, .ref (B + v4))]) hx hb dX10_compare_88 hl (by decide) rfl (fun ls hl => ?_)
  refine lv_iconst (v := (0 : Int32)) hx hb dX10_compare_90 (by decide) ?_
  refine lv_istore (lv' := [(8, .int (0 : Int32)), (7, .int (0 : Int32)), (0, .ref (B + 0)), (4, .ref (B + v4))]) hx hb dX10_compare_91 hl (by decide) rfl (fun ls hl => ?_)
  exact t_X10_compare_93 C hxt htr k_v4 hH (lv_sub hl [2, 3, 1, 0] rfl) hf
set_option maxRecDepth 100000 in
set_option maxHeartbeats 4000000 in
theorem t_X10_compare_57 {D : va_G} {B : Nat} {Y : Nat → ClassId} {p : Program} {l : Launch} {e : Env} {s : State} {m : MethodId} {args : Array Value} {below : List Frame} {meth : Method} {c : Code} {z : ((Nat ⊕ Int32) × Wd)} {H : Heap} {locs : List Loc} {ls : Array Slot} {w : Wd} {v4 : Nat} (C : CX D B Y p s m args meth c cX10_compare 9 RX10 (some .int)) (hxt : ∀ x ∈ c.exceptionTable.toList, False) (htr : l.stackTraces = false)   (k_v4 : KD v4 = 2)  (hH : HS D B Y w s H locs) (hl : lv_has ls 9 [(0, .ref (B + 0)), (4, .ref (B + v4))]) (hf : f_X10_compare_57 v4 w = some z) : W p l e (RM 4 (xv (zoI z.1)) (6 * xv (zoI z.1))) s m args below meth c H locs 0 0 (vx_MQ below (QX D B Y (zoI z.1) z.2 True) (XX D B Y (zoI z.1) z.2) args s (xv (zoI z.1)) (6 * xv (zoI z.1)) (AB B)) (F0 m 57 ls []) := by
  have hx := C.1
  have hb := C.2.1
  unfold f_X10_compare_57 at hf
  refine lv_iconst (v := (0 : Int32)) hx hb dX10_compare_57 (by decide) ?_
  exact t_X10_compare_58 C hxt htr k_v4 isZ_0 hH (lv_sub hl [0, 1] rfl) hf
set_option maxRecDepth 100000 in
set_option maxHeartbeats 4000000 in
theorem t_X10_compare_0 {D : va_G} {B : Nat} {Y : Nat → ClassId} {p : Program} {l : Launch} {e : Env} {s : State} {m : MethodId} {args : Array Value} {below : List Frame} {meth : Method} {c : Code} {z : ((Nat ⊕ Int32) × Wd)} {H : Heap} {locs : List Loc} {ls : Array Slot} {w : Wd} {v1 : Int32} {v2 : Int32} {v3 : Int32} (C : CX D B Y p s m args meth c cX10_compare 9 RX10 (some .int)) (hxt : ∀ x ∈ c.exceptionTable.toList, False) (htr : l.stackTraces = false)     (hH : HS D B Y w s H locs) (hl : lv_has ls 9 [(0, .ref (B + 0)), (1, .int v1), (2, .int v2), (3, .int v3)]) (hf : f_X10_compare v1 v2 v3 w = some z) : W p l e (RM 4 (xv (zoI z.1)) (6 * xv (zoI z.1))) s m args below meth c H locs 0 0 (vx_MQ below (QX D B Y (zoI z.1) z.2 True) (XX D B Y (zoI z.1) z.2) args s (xv (zoI z.1)) (6 * xv (zoI z.1)) (AB B)) (F0 m 0 ls []) := by
  have hx := C.1
  have hb := C.2.1
  unfold f_X10_compare at hf
  refine lv_aload_n hx hb dX10_compare_0 rfl (lv_at hl 0 rfl) ?_
  refine lv_iload_n hx hb dX10_compare_1 rfl (lv_at hl 1 rfl) ?_
  rcases bdx_some hf with ⟨k, w1, hc, rfl⟩ | ⟨r2, w1, hc, hf⟩
  · exact q_xrunX (k0 := k) (q_xV (As := [.int v1]) C hH (ci := 10) rfl (by omega) gk_X10_151 yd_X10_languageOf (by omega) (by omega) kc_0 (c_X10_languageOf (r := .inl k) htr hc) hl.1 rfl (Nat.le_of_ble_eq_true rfl) dX10_compare_2 (xv_le rfl)) hH (fun H locs ce q hH h1 h2 h3 => q_out C hH hxt h1 h2 h3 (xv_1 rfl) (xv_6 rfl))
  refine q_xrun (ov := some (.ref (B + r2))) (q_xV (As := [.int v1]) C hH (ci := 10) rfl (by omega) gk_X10_151 yd_X10_languageOf (by omega) (by omega) kc_0 (c_X10_languageOf (r := .inr r2) htr hc) hl.1 rfl (Nat.le_of_ble_eq_true rfl) dX10_compare_2 (xv_0 rfl xv_00)) hH (fun H locs hH k_r2 => ?_)
  refine lv_astore (lv' := [(4, .ref (B + r2)), (0, .ref (B + 0)), (1, .int v1), (2, .int v2), (3, .int v3)]) hx hb dX10_compare_5 hl (by decide) rfl (fun ls hl => ?_)
  refine lv_aload_n hx hb dX10_compare_7 rfl (lv_at hl 1 rfl) ?_
  refine lv_iload_n hx hb dX10_compare_8 rfl (lv_at hl 3 rfl) ?_
  rcases bdx_some hf with ⟨k, w3, hc, rfl⟩ | ⟨r4, w3, hc, hf⟩
  · exact q_xrunX (k0 := k) (q_xV (As := [.int v2]) C hH (ci := 10) rfl (by omega) gk_X10_194 yd_X10_textOf (by omega) (by omega) kc_0 (c_X10_textOf (r := .inl k) htr hc) hl.1 rfl (Nat.le_of_ble_eq_true rfl) dX10_compare_9 (xv_le rfl)) hH (fun H locs ce q hH h1 h2 h3 => q_out C hH hxt h1 h2 h3 (xv_1 rfl) (xv_6 rfl))
  refine q_xrun (ov := some (.ref (B + r4))) (q_xV (As := [.int v2]) C hH (ci := 10) rfl (by omega) gk_X10_194 yd_X10_textOf (by omega) (by omega) kc_0 (c_X10_textOf (r := .inr r4) htr hc) hl.1 rfl (Nat.le_of_ble_eq_true rfl) dX10_compare_9 (xv_0 rfl xv_00)) hH (fun H locs hH k_r4 => ?_)
  refine lv_astore (lv' := [(5, .ref (B + r4)), (4, .ref (B + r2)), (0, .ref (B + 0)), (1, .int v1), (2, .int v2), (3, .int v3)]) hx hb dX10_compare_12 hl (by decide) rfl (fun ls hl => ?_)
  refine lv_aload_n hx hb dX10_compare_14 rfl (lv_at hl 2 rfl) ?_
  refine lv_iload_n hx hb dX10_compare_15 rfl (lv_at hl 5 rfl) ?_
  rcases bdx_some hf with ⟨k, w5, hc, rfl⟩ | ⟨r6, w5, hc, hf⟩
  · exact q_xrunX (k0 := k) (q_xV (As := [.int v3]) C hH (ci := 10) rfl (by omega) gk_X10_194 yd_X10_textOf (by omega) (by omega) kc_0 (c_X10_textOf (r := .inl k) htr hc) hl.1 rfl (Nat.le_of_ble_eq_true rfl) dX10_compare_16 (xv_le rfl)) hH (fun H locs ce q hH h1 h2 h3 => q_out C hH hxt h1 h2 h3 (xv_1 rfl) (xv_6 rfl))
  refine q_xrun (ov := some (.ref (B + r6))) (q_xV (As := [.int v3]) C hH (ci := 10) rfl (by omega) gk_X10_194 yd_X10_textOf (by omega) (by omega) kc_0 (c_X10_textOf (r := .inr r6) htr hc) hl.1 rfl (Nat.le_of_ble_eq_true rfl) dX10_compare_16 (xv_0 rfl xv_00)) hH (fun H locs hH k_r6 => ?_)
  refine lv_astore (lv' := [(6, .ref (B + r6)), (5, .ref (B + r4)), (4, .ref (B + r2)), (0, .ref (B + 0)), (1, .int v1), (2, .int v2), (3, .int v3)]) hx hb dX10_compare_19 hl (by decide) rfl (fun ls hl => ?_)
  refine lv_aload_n hx hb dX10_compare_21 rfl (lv_at hl 3 rfl) ?_
  refine fg_X10_41 C hH dX10_compare_22 ?_
  refine lv_aload hx hb dX10_compare_25 (lv_at hl 1 rfl) ?_
  refine lv_aload_n hx hb dX10_compare_27 rfl (lv_at hl 3 rfl) ?_
  refine fg_X10_78 C hH dX10_compare_28 ?_
  obtain ⟨x8, w7, hc, hf⟩ := bd_some hf
  refine q_callV1 (v := .int x8) (As := [.ref (B + r4), .ref (B + 699)]) C hH (ci := 1) rfl (by omega) gk_X10_293 yd_X1_splitInto (by omega) (by omega) kc_639 (c_X1_splitInto k_r4 kc_699 hc) hl.1 rfl (Nat.le_of_ble_eq_true rfl) dX10_compare_31 xv_00 (fun H locs hH z_x8 => ?_)
  refine b_if_eq (tgt := 57) hx hb hf dX10_compare_34 (by decide) (fun hf => ?_) (fun hf => ?_)
  · exact t_X10_compare_57 C hxt htr k_r2 hH (lv_sub hl [3, 2] rfl) hf
  · refine lv_aload_n hx hb dX10_compare_37 rfl (lv_at hl 3 rfl) ?_
    refine fg_X10_41 C hH dX10_compare_38 ?_
    refine lv_aload hx hb dX10_compare_41 (lv_at hl 0 rfl) ?_
    refine lv_aload_n hx hb dX10_compare_43 rfl (lv_at hl 3 rfl) ?_
    refine fg_X10_81 C hH dX10_compare_44 ?_
    obtain ⟨x10, w9, hc, hf⟩ := bd_some hf
    refine q_callV1 (v := .int x10) (As := [.ref (B + r6), .ref (B + 701)]) C hH (ci := 1) rfl (by omega) gk_X10_293 yd_X1_splitInto (by omega) (by omega) kc_639 (c_X1_splitInto k_r6 kc_701 hc) hl.1 rfl (Nat.le_of_ble_eq_true rfl) dX10_compare_47 xv_00 (fun H locs hH z_x10 => ?_)
    refine b_if_eq (tgt := 57) hx hb hf dX10_compare_50 (by decide) (fun hf => ?_) (fun hf => ?_)
    · exact t_X10_compare_57 C hxt htr k_r2 hH (lv_sub hl [3, 2] rfl) hf
    · refine lv_iconst (v := (1 : Int32)) hx hb dX10_compare_53 (by decide) ?_
      refine lv_goto (tgt := 58) hx hb dX10_compare_54 (by decide) ?_
      exact t_X10_compare_58 C hxt htr k_r2 isZ_1 hH (lv_sub hl [3, 2] rfl) hf
set_option maxRecDepth 100000 in
theorem c_X10_compare {l : Launch} {D : va_G} {B : Nat} {Y : Nat → ClassId} {v1 : Int32} {v2 : Int32} {v3 : Int32} {w : Wd} {r : (Nat ⊕ Int32)} {w1 : Wd} (htr : l.stackTraces = false)   (hf : f_X10_compare v1 v2 v3 w = some (r, w1)) : XM l D B Y yX10_compare cX10_compare 9 (some .int) 4 [.ref (B + 0), .int v1, .int v2, .int v3] w (zoI r) w1 True :=
  XM_of (by decide +kernel) (Nat.le_of_ble_eq_true rfl) (fun p e s m args below meth c ls C hxt hH hl => t_X10_compare_0 C hxt htr  hH (lv_sub hl [0, 1, 2, 3] rfl) hf)
/-! LetterTables$Language.keyInto -/
set_option maxRecDepth 100000 in
set_option maxHeartbeats 4000000 in
theorem tb_X2_keyInto_25 {D : va_G} {B : Nat} {Y : Nat → ClassId} {p : Program} {l : Launch} {e : Env} {s : State} {m : MethodId} {args : Array Value} {below : List Frame} {meth : Method} {c : Code} {z : (Unit × Wd)} {H : Heap} {locs : List Loc} {ls : Array Slot} {w : Wd} {v0 : Nat} {v1 : Nat} {v2 : Nat} {v3 : Int32} {v4 : Int32} (C : CX D B Y p s m args meth c cX2_keyInto 6 RX2 none)  {rc_25 : Nat × Nat × Nat × Int32 × Int32 × Wd → Option (Unit × Wd)} (hr_25 : ∀ (v0 : Nat) (v1 : Nat) (v2 : Nat) (v3 : Int32) (v4 : Int32) (w : Wd), rc_25 (v0, v1, v2, v3, v4, w) = some z → KD v0 = 2 → KD v1 = 7 → KD v2 = 7 → ∀ (H : Heap) (locs : List Loc) (ls : Array Slot), HS D B Y w s H locs → lv_has ls 6 [(0, .ref (B + v0)), (1, .ref (B + v1)), (2, .ref (B + v2)), (3, .int v3), (4, .int v4)] → W p l e (RM 2 0 0) s m args below meth c H locs 0 0 (MQ below (QG D B Y none z.2 True) args s 0 0 (AB B)) (F0 m 25 ls [])) {rc_7 : Nat × Nat × Nat × Int32 × Wd → Option (Unit × Wd)} (hr_7 : ∀ (v0 : Nat) (v1 : Nat) (v2 : Nat) (v3 : Int32) (w : Wd), rc_7 (v0, v1, v2, v3, w) = some z → KD v0 = 2 → KD v1 = 7 → KD v2 = 7 → ∀ (H : Heap) (locs : List Loc) (ls : Array Slot), HS D B Y w s H locs → lv_has ls 6 [(0, .ref (B + v0)), (1, .ref (B + v1)), (2, .ref (B + v2)), (3, .int v3)] → W p l e (RM 2 0 0) s m args below meth c H locs 0 0 (MQ below (QG D B Y none z.2 True) args s 0 0 (AB B)) (F0 m 7 ls []))  (k_v0 : KD v0 = 2) (k_v1 : KD v1 = 7) (k_v2 : KD v2 = 7)  (hH : HS D B Y w s H locs) (hl : lv_has ls 6 [(0, .ref (B + v0)), (1, .ref (B + v1)), (2, .ref (B + v2)), (3, .int v3), (4, .int v4)]) (hf : g_X2_keyInto_25 rc_25 rc_7 v0 v1 v2 v3 v4 w = some z) : W p l e (RM 2 0 0) s m args below meth c H locs 0 0 (MQ below (QG D B Y none z.2 True) args s 0 0 (AB B)) (F0 m 25 ls []) := by
  have hx := C.1
  have hb := C.2.1
  unfold g_X2_keyInto_25 at hf
  refine lv_iload hx hb dX2_keyInto_25 (lv_at hl 4 rfl) ?_
  refine lv_aload_n hx hb dX2_keyInto_27 rfl (lv_at hl 1 rfl) ?_
  obtain ⟨x2, w1, hc, hf⟩ := bd_some hf
  refine q_callV1 (v := .int x2) (As := []) C hH (ci := 7) rfl (by omega) gk_X2_60 yd_X7_size (by omega) (by omega) k_v1 (c_X7_size k_v1 hc) hl.1 rfl (Nat.le_of_ble_eq_true rfl) dX2_keyInto_28 xv_00 (fun H locs hH hP => ?_)
  refine b_icmp_ge (tgt := 65) hx hb hf dX2_keyInto_31 (by decide) (fun hf => ?_) (fun hf => ?_)
  · refine b_let hf (fun x3 he hf => ?_)
    refine lv_iinc (v := x3) (lv' := [(3, .int x3), (0, .ref (B + v0)), (1, .ref (B + v1)), (2, .ref (B + v2)), (4, .int v4)]) hx hb dX2_keyInto_65 hl (k := 3) rfl (by rw [← he]; rfl) (by decide) rfl (fun ls hl => ?_)
    refine lv_goto (tgt := 7) hx hb dX2_keyInto_68 (by decide) ?_
    exact hr_7 v0 v1 v2 x3 w1 hf k_v0 k_v1 k_v2 _ _ _ hH (lv_sub hl [1, 2, 3, 0] rfl)
  · refine lv_aload_n hx hb dX2_keyInto_34 rfl (lv_at hl 0 rfl) ?_
    refine lv_aload_n hx hb dX2_keyInto_35 rfl (lv_at hl 1 rfl) ?_
    refine lv_iload hx hb dX2_keyInto_36 (lv_at hl 4 rfl) ?_
    obtain ⟨x5, w4, hc, hf⟩ := bd_some hf
    refine q_callV1 (v := .int x5) (As := [.int v4]) C hH (ci := 7) rfl (by omega) gk_X2_64 yd_X7_get (by omega) (by omega) k_v1 (c_X7_get k_v1 hc) hl.1 rfl (Nat.le_of_ble_eq_true rfl) dX2_keyInto_38 xv_00 (fun H locs hH hP => ?_)
    refine lv_iload_n hx hb dX2_keyInto_41 rfl (lv_at hl 3 rfl) ?_
    obtain ⟨x7, w6, hc, hf⟩ := bd_some hf
    refine q_callV1 (v := .int x7) (As := [.int x5, .int v3]) C hH (ci := 2) rfl (by omega) gk_X2_79 yd_X2_weightOf (by omega) (by omega) k_v0 (c_X2_weightOf k_v0 hc) hl.1 rfl (Nat.le_of_ble_eq_true rfl) dX2_keyInto_42 xv_00 (fun H locs hH hP => ?_)
    refine lv_istore (lv' := [(5, .int x7), (0, .ref (B + v0)), (1, .ref (B + v1)), (2, .ref (B + v2)), (3, .int v3), (4, .int v4)]) hx hb dX2_keyInto_45 hl (by decide) rfl (fun ls hl => ?_)
    refine lv_iload hx hb dX2_keyInto_47 (lv_at hl 0 rfl) ?_
    refine b_if_le (tgt := 59) hx hb hf dX2_keyInto_49 (by decide) (fun hf => ?_) (fun hf => ?_)
    · refine b_let hf (fun x8 he hf => ?_)
      refine lv_iinc (v := x8) (lv' := [(4, .int x8), (5, .int x7), (0, .ref (B + v0)), (1, .ref (B + v1)), (2, .ref (B + v2)), (3, .int v3)]) hx hb dX2_keyInto_59 hl (k := 5) rfl (by rw [← he]; rfl) (by decide) rfl (fun ls hl => ?_)
      refine lv_goto (tgt := 25) hx hb dX2_keyInto_62 (by decide) ?_
      exact hr_25 v0 v1 v2 v3 x8 w6 hf k_v0 k_v1 k_v2 _ _ _ hH (lv_sub hl [2, 3, 4, 5, 0] rfl)
    · refine lv_aload_n hx hb dX2_keyInto_52 rfl (lv_at hl 3 rfl) ?_
      refine lv_iload hx hb dX2_keyInto_53 (lv_at hl 0 rfl) ?_
      obtain ⟨x10, w9, hc, hf⟩ := bd_some hf
      refine q_callV1 (v := .int x10) (As := [.int x7]) C hH (ci := 7) rfl (by omega) gk_X2_68 yd_X7_add (by omega) (by omega) k_v2 (c_X7_add k_v2 hc) hl.1 rfl (Nat.le_of_ble_eq_true rfl) dX2_keyInto_55 xv_00 (fun H locs hH z_x10 => ?_)
      refine lv_pop hx hb dX2_keyInto_58 rfl ?_
      refine b_let hf (fun x11 he hf => ?_)
      refine lv_iinc (v := x11) (lv' := [(4, .int x11), (5, .int x7), (0, .ref (B + v0)), (1, .ref (B + v1)), (2, .ref (B + v2)), (3, .int v3)]) hx hb dX2_keyInto_59 hl (k := 5) rfl (by rw [← he]; rfl) (by decide) rfl (fun ls hl => ?_)
      refine lv_goto (tgt := 25) hx hb dX2_keyInto_62 (by decide) ?_
      exact hr_25 v0 v1 v2 v3 x11 w9 hf k_v0 k_v1 k_v2 _ _ _ hH (lv_sub hl [2, 3, 4, 5, 0] rfl)
set_option maxRecDepth 100000 in
set_option maxHeartbeats 4000000 in
theorem t_X2_keyInto_25 {D : va_G} {B : Nat} {Y : Nat → ClassId} {p : Program} {l : Launch} {e : Env} {s : State} {m : MethodId} {args : Array Value} {below : List Frame} {meth : Method} {c : Code} {z : (Unit × Wd)} {H : Heap} {locs : List Loc} {ls : Array Slot} {w : Wd} {v0 : Nat} {v1 : Nat} {v2 : Nat} {v3 : Int32} {v4 : Int32} (C : CX D B Y p s m args meth c cX2_keyInto 6 RX2 none)  {rc_7 : Nat × Nat × Nat × Int32 × Wd → Option (Unit × Wd)} (hr_7 : ∀ (v0 : Nat) (v1 : Nat) (v2 : Nat) (v3 : Int32) (w : Wd), rc_7 (v0, v1, v2, v3, w) = some z → KD v0 = 2 → KD v1 = 7 → KD v2 = 7 → ∀ (H : Heap) (locs : List Loc) (ls : Array Slot), HS D B Y w s H locs → lv_has ls 6 [(0, .ref (B + v0)), (1, .ref (B + v1)), (2, .ref (B + v2)), (3, .int v3)] → W p l e (RM 2 0 0) s m args below meth c H locs 0 0 (MQ below (QG D B Y none z.2 True) args s 0 0 (AB B)) (F0 m 7 ls []))  (k_v0 : KD v0 = 2) (k_v1 : KD v1 = 7) (k_v2 : KD v2 = 7)  (hH : HS D B Y w s H locs) (hl : lv_has ls 6 [(0, .ref (B + v0)), (1, .ref (B + v1)), (2, .ref (B + v2)), (3, .int v3), (4, .int v4)]) (hf : f_X2_keyInto_25 rc_7 v0 v1 v2 v3 v4 w = some z) : W p l e (RM 2 0 0) s m args below meth c H locs 0 0 (MQ below (QG D B Y none z.2 True) args s 0 0 (AB B)) (F0 m 25 ls []) := by
  exact loopN_ind (z := z) (body := fun rc σ => g_X2_keyInto_25 rc rc_7 σ.1 σ.2.1 σ.2.2.1 σ.2.2.2.1 σ.2.2.2.2.1 σ.2.2.2.2.2)
    (P := fun σ => KD σ.1 = 2 → KD σ.2.1 = 7 → KD σ.2.2.1 = 7 → ∀ (H : Heap) (locs : List Loc) (ls : Array Slot), HS D B Y σ.2.2.2.2.2 s H locs → lv_has ls 6 [(0, .ref (B + σ.1)), (1, .ref (B + σ.2.1)), (2, .ref (B + σ.2.2.1)), (3, .int σ.2.2.2.1), (4, .int σ.2.2.2.2.1)] → W p l e (RM 2 0 0) s m args below meth c H locs 0 0 (MQ below (QG D B Y none z.2 True) args s 0 0 (AB B)) (F0 m 25 ls []))
    (fun rc hrec σ hf k_v0 k_v1 k_v2 H locs ls hH hl => tb_X2_keyInto_25 C (fun v0 v1 v2 v3 v4 w hr k_v0 k_v1 k_v2 H locs ls hH hl => hrec (v0, v1, v2, v3, v4, w) hr k_v0 k_v1 k_v2 H locs ls hH hl) hr_7 k_v0 k_v1 k_v2 hH hl hf) FU (v0, v1, v2, v3, v4, w) hf k_v0 k_v1 k_v2 H locs ls hH hl
set_option maxRecDepth 100000 in
set_option maxHeartbeats 4000000 in
theorem t_X2_keyInto_22 {D : va_G} {B : Nat} {Y : Nat → ClassId} {p : Program} {l : Launch} {e : Env} {s : State} {m : MethodId} {args : Array Value} {below : List Frame} {meth : Method} {c : Code} {z : (Unit × Wd)} {H : Heap} {locs : List Loc} {ls : Array Slot} {w : Wd} {v0 : Nat} {v1 : Nat} {v2 : Nat} {v3 : Int32} (C : CX D B Y p s m args meth c cX2_keyInto 6 RX2 none)  {rc_7 : Nat × Nat × Nat × Int32 × Wd → Option (Unit × Wd)} (hr_7 : ∀ (v0 : Nat) (v1 : Nat) (v2 : Nat) (v3 : Int32) (w : Wd), rc_7 (v0, v1, v2, v3, w) = some z → KD v0 = 2 → KD v1 = 7 → KD v2 = 7 → ∀ (H : Heap) (locs : List Loc) (ls : Array Slot), HS D B Y w s H locs → lv_has ls 6 [(0, .ref (B + v0)), (1, .ref (B + v1)), (2, .ref (B + v2)), (3, .int v3)] → W p l e (RM 2 0 0) s m args below meth c H locs 0 0 (MQ below (QG D B Y none z.2 True) args s 0 0 (AB B)) (F0 m 7 ls []))  (k_v0 : KD v0 = 2) (k_v1 : KD v1 = 7) (k_v2 : KD v2 = 7)  (hH : HS D B Y w s H locs) (hl : lv_has ls 6 [(0, .ref (B + v0)), (1, .ref (B + v1)), (2, .ref (B + v2)), (3, .int v3)]) (hf : f_X2_keyInto_22 rc_7 v0 v1 v2 v3 w = some z) : W p l e (RM 2 0 0) s m args below meth c H locs 0 0 (MQ below (QG D B Y none z.2 True) args s 0 0 (AB B)) (F0 m 22 ls []) := by
  have hx := C.1
  have hb := C.2.1
  unfold f_X2_keyInto_22 at hf
  refine lv_iconst (v := (0 : Int32)) hx hb dX2_keyInto_22 (by decide) ?_
  refine lv_istore (lv' := [(4, .int (0 : Int32)), (0, .ref (B + v0)), (1, .ref (B + v1)), (2, .ref (B + v2)), (3, .int v3)]) hx hb dX2_keyInto_23 hl (by decide) rfl (fun ls hl => ?_)
  exact t_X2_keyInto_25 C hr_7 k_v0 k_v1 k_v2 hH (lv_sub hl [1, 2, 3, 4, 0] rfl) hf
set_option maxRecDepth 100000 in
set_option maxHeartbeats 4000000 in
theorem tb_X2_keyInto_7 {D : va_G} {B : Nat} {Y : Nat → ClassId} {p : Program} {l : Launch} {e : Env} {s : State} {m : MethodId} {args : Array Value} {below : List Frame} {meth : Method} {c : Code} {z : (Unit × Wd)} {H : Heap} {locs : List Loc} {ls : Array Slot} {w : Wd} {v0 : Nat} {v1 : Nat} {v2 : Nat} {v3 : Int32} (C : CX D B Y p s m args meth c cX2_keyInto 6 RX2 none)  {rc_7 : Nat × Nat × Nat × Int32 × Wd → Option (Unit × Wd)} (hr_7 : ∀ (v0 : Nat) (v1 : Nat) (v2 : Nat) (v3 : Int32) (w : Wd), rc_7 (v0, v1, v2, v3, w) = some z → KD v0 = 2 → KD v1 = 7 → KD v2 = 7 → ∀ (H : Heap) (locs : List Loc) (ls : Array Slot), HS D B Y w s H locs → lv_has ls 6 [(0, .ref (B + v0)), (1, .ref (B + v1)), (2, .ref (B + v2)), (3, .int v3)] → W p l e (RM 2 0 0) s m args below meth c H locs 0 0 (MQ below (QG D B Y none z.2 True) args s 0 0 (AB B)) (F0 m 7 ls []))  (k_v0 : KD v0 = 2) (k_v1 : KD v1 = 7) (k_v2 : KD v2 = 7)  (hH : HS D B Y w s H locs) (hl : lv_has ls 6 [(0, .ref (B + v0)), (1, .ref (B + v1)), (2, .ref (B + v2)), (3, .int v3)]) (hf : g_X2_keyInto_7 rc_7 v0 v1 v2 v3 w = some z) : W p l e (RM 2 0 0) s m args below meth c H locs 0 0 (MQ below (QG D B Y none z.2 True) args s 0 0 (AB B)) (F0 m 7 ls []) := by
  have hx := C.1
  have hb := C.2.1
  unfold g_X2_keyInto_7 at hf
  refine lv_iload_n hx hb dX2_keyInto_7 rfl (lv_at hl 3 rfl) ?_
  refine lv_iconst (v := (3 : Int32)) hx hb dX2_keyInto_8 (by decide) ?_
  refine b_icmp_ge (tgt := 71) hx hb hf dX2_keyInto_9 (by decide) (fun hf => ?_) (fun hf => ?_)
  · cases hf
    exact q_retv C hH trivial dX2_keyInto_71
  · refine lv_iload_n hx hb dX2_keyInto_12 rfl (lv_at hl 3 rfl) ?_
    refine b_if_le (tgt := 22) hx hb hf dX2_keyInto_13 (by decide) (fun hf => ?_) (fun hf => ?_)
    · exact t_X2_keyInto_22 C hr_7 k_v0 k_v1 k_v2 hH (lv_sub hl [0, 1, 2, 3] rfl) hf
    · refine lv_aload_n hx hb dX2_keyInto_16 rfl (lv_at hl 2 rfl) ?_
      refine lv_iconst (v := (0 : Int32)) hx hb dX2_keyInto_17 (by decide) ?_
      obtain ⟨x2, w1, hc, hf⟩ := bd_some hf
      refine q_callV1 (v := .int x2) (As := [.int (0 : Int32)]) C hH (ci := 7) rfl (by omega) gk_X2_68 yd_X7_add (by omega) (by omega) k_v2 (c_X7_add k_v2 hc) hl.1 rfl (Nat.le_of_ble_eq_true rfl) dX2_keyInto_18 xv_00 (fun H locs hH z_x2 => ?_)
      refine lv_pop hx hb dX2_keyInto_21 rfl ?_
      exact t_X2_keyInto_22 C hr_7 k_v0 k_v1 k_v2 hH (lv_sub hl [0, 1, 2, 3] rfl) hf
set_option maxRecDepth 100000 in
set_option maxHeartbeats 4000000 in
theorem t_X2_keyInto_7 {D : va_G} {B : Nat} {Y : Nat → ClassId} {p : Program} {l : Launch} {e : Env} {s : State} {m : MethodId} {args : Array Value} {below : List Frame} {meth : Method} {c : Code} {z : (Unit × Wd)} {H : Heap} {locs : List Loc} {ls : Array Slot} {w : Wd} {v0 : Nat} {v1 : Nat} {v2 : Nat} {v3 : Int32} (C : CX D B Y p s m args meth c cX2_keyInto 6 RX2 none)   (k_v0 : KD v0 = 2) (k_v1 : KD v1 = 7) (k_v2 : KD v2 = 7)  (hH : HS D B Y w s H locs) (hl : lv_has ls 6 [(0, .ref (B + v0)), (1, .ref (B + v1)), (2, .ref (B + v2)), (3, .int v3)]) (hf : f_X2_keyInto_7 v0 v1 v2 v3 w = some z) : W p l e (RM 2 0 0) s m args below meth c H locs 0 0 (MQ below (QG D B Y none z.2 True) args s 0 0 (AB B)) (F0 m 7 ls []) := by
  exact loopN_ind (z := z) (body := fun rc σ => g_X2_keyInto_7 rc  σ.1 σ.2.1 σ.2.2.1 σ.2.2.2.1 σ.2.2.2.2)
    (P := fun σ => KD σ.1 = 2 → KD σ.2.1 = 7 → KD σ.2.2.1 = 7 → ∀ (H : Heap) (locs : List Loc) (ls : Array Slot), HS D B Y σ.2.2.2.2 s H locs → lv_has ls 6 [(0, .ref (B + σ.1)), (1, .ref (B + σ.2.1)), (2, .ref (B + σ.2.2.1)), (3, .int σ.2.2.2.1)] → W p l e (RM 2 0 0) s m args below meth c H locs 0 0 (MQ below (QG D B Y none z.2 True) args s 0 0 (AB B)) (F0 m 7 ls []))
    (fun rc hrec σ hf k_v0 k_v1 k_v2 H locs ls hH hl => tb_X2_keyInto_7 C (fun v0 v1 v2 v3 w hr k_v0 k_v1 k_v2 H locs ls hH hl => hrec (v0, v1, v2, v3, w) hr k_v0 k_v1 k_v2 H locs ls hH hl)  k_v0 k_v1 k_v2 hH hl hf) FU (v0, v1, v2, v3, w) hf k_v0 k_v1 k_v2 H locs ls hH hl
set_option maxRecDepth 100000 in
set_option maxHeartbeats 4000000 in
theorem t_X2_keyInto_0 {D : va_G} {B : Nat} {Y : Nat → ClassId} {p : Program} {l : Launch} {e : Env} {s : State} {m : MethodId} {args : Array Value} {below : List Frame} {meth : Method} {c : Code} {z : (Unit × Wd)} {H : Heap} {locs : List Loc} {ls : Array Slot} {w : Wd} {v0 : Nat} {v1 : Nat} {v2 : Nat} (C : CX D B Y p s m args meth c cX2_keyInto 6 RX2 none)   (k_v0 : KD v0 = 2) (k_v1 : KD v1 = 7) (k_v2 : KD v2 = 7)  (hH : HS D B Y w s H locs) (hl : lv_has ls 6 [(0, .ref (B + v0)), (1, .ref (B + v1)), (2, .ref (B + v2))]) (hf : f_X2_keyInto v0 v1 v2 w = some z) : W p l e (RM 2 0 0) s m args below meth c H locs 0 0 (MQ below (QG D B Y none z.2 True) args s 0 0 (AB B)) (F0 m 0 ls []) := by
  have hx := C.1
  have hb := C.2.1
  unfold f_X2_keyInto at hf
  refine lv_aload_n hx hb dX2_keyInto_0 rfl (lv_at hl 2 rfl) ?_
  refine lv_iconst (v := (0 : Int32)) hx hb dX2_keyInto_1 (by decide) ?_
  obtain ⟨u, w1, hc, hf⟩ := bd_some hf
  refine q_callV0 (As := [.int (0 : Int32)]) C hH (ci := 7) rfl (by omega) gk_X2_72 yd_X7_cutTo (by omega) (by omega) k_v2 (c_X7_cutTo k_v2 hc) hl.1 rfl (Nat.le_of_ble_eq_true rfl) dX2_keyInto_2 xv_00 (fun H locs hH hP => ?_)
  refine lv_iconst (v := (0 : Int32)) hx hb dX2_keyInto_5 (by decide) ?_
  refine lv_istore_n (lv' := [(3, .int (0 : Int32)), (0, .ref (B + v0)), (1, .ref (B + v1)), (2, .ref (B + v2))]) hx hb dX2_keyInto_6 rfl hl (by decide) rfl (fun ls hl => ?_)
  exact t_X2_keyInto_7 C k_v0 k_v1 k_v2 hH (lv_sub hl [1, 2, 3, 0] rfl) hf
set_option maxRecDepth 100000 in
theorem c_X2_keyInto {l : Launch} {D : va_G} {B : Nat} {Y : Nat → ClassId} {v0 : Nat} {v1 : Nat} {v2 : Nat} {w : Wd} {r : Unit} {w1 : Wd} (k_v0 : KD v0 = 2) (k_v1 : KD v1 = 7) (k_v2 : KD v2 = 7)  (hf : f_X2_keyInto v0 v1 v2 w = some (r, w1)) : CM l D B Y yX2_keyInto cX2_keyInto 6 none 2 [.ref (B + v0), .ref (B + v1), .ref (B + v2)] w none w1 True :=
  CM_of (by decide +kernel) (Nat.le_of_ble_eq_true rfl) (fun p e s m args below meth c ls C hH hl => t_X2_keyInto_0 C k_v0 k_v1 k_v2 hH (lv_sub hl [0, 1, 2] rfl) hf)
/-! LetterTables.key -/
set_option maxRecDepth 100000 in
set_option maxHeartbeats 4000000 in
theorem t_X10_key_0 {D : va_G} {B : Nat} {Y : Nat → ClassId} {p : Program} {l : Launch} {e : Env} {s : State} {m : MethodId} {args : Array Value} {below : List Frame} {meth : Method} {c : Code} {z : ((Nat ⊕ Int32) × Wd)} {H : Heap} {locs : List Loc} {ls : Array Slot} {w : Wd} {v1 : Int32} {v2 : Int32} {v3 : Int32} (C : CX D B Y p s m args meth c cX10_key 6 RX10 (some .int)) (hxt : ∀ x ∈ c.exceptionTable.toList, False) (htr : l.stackTraces = false)     (hH : HS D B Y w s H locs) (hl : lv_has ls 6 [(0, .ref (B + 0)), (1, .int v1), (2, .int v2), (3, .int v3)]) (hf : f_X10_key v1 v2 v3 w = some z) : W p l e (RM 4 (xv (zoI z.1)) (6 * xv (zoI z.1))) s m args below meth c H locs 0 0 (vx_MQ below (QX D B Y (zoI z.1) z.2 True) (XX D B Y (zoI z.1) z.2) args s (xv (zoI z.1)) (6 * xv (zoI z.1)) (AB B)) (F0 m 0 ls []) := by
  have hx := C.1
  have hb := C.2.1
  unfold f_X10_key at hf
  refine lv_aload_n hx hb dX10_key_0 rfl (lv_at hl 0 rfl) ?_
  refine lv_iload_n hx hb dX10_key_1 rfl (lv_at hl 1 rfl) ?_
  rcases bdx_some hf with ⟨k, w1, hc, rfl⟩ | ⟨r2, w1, hc, hf⟩
  · exact q_xrunX (k0 := k) (q_xV (As := [.int v1]) C hH (ci := 10) rfl (by omega) gk_X10_151 yd_X10_languageOf (by omega) (by omega) kc_0 (c_X10_languageOf (r := .inl k) htr hc) hl.1 rfl (Nat.le_of_ble_eq_true rfl) dX10_key_2 (xv_le rfl)) hH (fun H locs ce q hH h1 h2 h3 => q_out C hH hxt h1 h2 h3 (xv_1 rfl) (xv_6 rfl))
  refine q_xrun (ov := some (.ref (B + r2))) (q_xV (As := [.int v1]) C hH (ci := 10) rfl (by omega) gk_X10_151 yd_X10_languageOf (by omega) (by omega) kc_0 (c_X10_languageOf (r := .inr r2) htr hc) hl.1 rfl (Nat.le_of_ble_eq_true rfl) dX10_key_2 (xv_0 rfl xv_00)) hH (fun H locs hH k_r2 => ?_)
  refine lv_astore (lv' := [(4, .ref (B + r2)), (0, .ref (B + 0)), (1, .int v1), (2, .int v2), (3, .int v3)]) hx hb dX10_key_5 hl (by decide) rfl (fun ls hl => ?_)
  refine lv_aload_n hx hb dX10_key_7 rfl (lv_at hl 1 rfl) ?_
  refine lv_iload_n hx hb dX10_key_8 rfl (lv_at hl 3 rfl) ?_
  rcases bdx_some hf with ⟨k, w3, hc, rfl⟩ | ⟨r4, w3, hc, hf⟩
  · exact q_xrunX (k0 := k) (q_xV (As := [.int v2]) C hH (ci := 10) rfl (by omega) gk_X10_194 yd_X10_textOf (by omega) (by omega) kc_0 (c_X10_textOf (r := .inl k) htr hc) hl.1 rfl (Nat.le_of_ble_eq_true rfl) dX10_key_9 (xv_le rfl)) hH (fun H locs ce q hH h1 h2 h3 => q_out C hH hxt h1 h2 h3 (xv_1 rfl) (xv_6 rfl))
  refine q_xrun (ov := some (.ref (B + r4))) (q_xV (As := [.int v2]) C hH (ci := 10) rfl (by omega) gk_X10_194 yd_X10_textOf (by omega) (by omega) kc_0 (c_X10_textOf (r := .inr r4) htr hc) hl.1 rfl (Nat.le_of_ble_eq_true rfl) dX10_key_9 (xv_0 rfl xv_00)) hH (fun H locs hH k_r4 => ?_)
  refine lv_astore (lv' := [(5, .ref (B + r4)), (4, .ref (B + r2)), (0, .ref (B + 0)), (1, .int v1), (2, .int v2), (3, .int v3)]) hx hb dX10_key_12 hl (by decide) rfl (fun ls hl => ?_)
  refine lv_aload_n hx hb dX10_key_14 rfl (lv_at hl 2 rfl) ?_
  refine fg_X10_41 C hH dX10_key_15 ?_
  refine lv_aload hx hb dX10_key_18 (lv_at hl 0 rfl) ?_
  refine lv_aload_n hx hb dX10_key_20 rfl (lv_at hl 2 rfl) ?_
  refine fg_X10_78 C hH dX10_key_21 ?_
  obtain ⟨x6, w5, hc, hf⟩ := bd_some hf
  refine q_callV1 (v := .int x6) (As := [.ref (B + r4), .ref (B + 699)]) C hH (ci := 1) rfl (by omega) gk_X10_293 yd_X1_splitInto (by omega) (by omega) kc_639 (c_X1_splitInto k_r4 kc_699 hc) hl.1 rfl (Nat.le_of_ble_eq_true rfl) dX10_key_24 xv_00 (fun H locs hH z_x6 => ?_)
  rcases bdx_some hf with ⟨k, w7, hc, rfl⟩ | ⟨u, w7, hc, hf⟩
  · exact q_xrunX (k0 := k) (q_xS (As := [.int x6]) C hH gk_X10_250 yd_X10_checkForm (by omega) (by omega) (c_X10_checkForm (r := .inl k) htr z_x6 hc) hl.1 rfl (Nat.le_of_ble_eq_true rfl) dX10_key_27 (xv_le rfl)) hH (fun H locs ce q hH h1 h2 h3 => q_out C hH hxt h1 h2 h3 (xv_1 rfl) (xv_6 rfl))
  refine q_xrun (ov := none) (q_xS (As := [.int x6]) C hH gk_X10_250 yd_X10_checkForm (by omega) (by omega) (c_X10_checkForm (r := .inr u) htr z_x6 hc) hl.1 rfl (Nat.le_of_ble_eq_true rfl) dX10_key_27 (xv_0 rfl xv_00)) hH (fun H locs hH hP => ?_)
  refine lv_aload hx hb dX10_key_30 (lv_at hl 1 rfl) ?_
  refine lv_aload_n hx hb dX10_key_32 rfl (lv_at hl 2 rfl) ?_
  refine fg_X10_78 C hH dX10_key_33 ?_
  refine lv_aload_n hx hb dX10_key_36 rfl (lv_at hl 2 rfl) ?_
  refine fg_X10_84 C hH dX10_key_37 ?_
  obtain ⟨u, w8, hc, hf⟩ := bd_some hf
  refine q_callV0 (As := [.ref (B + 699), .ref (B + 703)]) C hH (ci := 2) rfl (by omega) gk_X10_296 yd_X2_unitsInto (by omega) (by omega) k_r2 (c_X2_unitsInto k_r2 kc_699 kc_703 hc) hl.1 rfl (Nat.le_of_ble_eq_true rfl) dX10_key_40 xv_00 (fun H locs hH hP => ?_)
  refine lv_aload hx hb dX10_key_43 (lv_at hl 1 rfl) ?_
  refine lv_aload_n hx hb dX10_key_45 rfl (lv_at hl 2 rfl) ?_
  refine fg_X10_84 C hH dX10_key_46 ?_
  refine lv_aload_n hx hb dX10_key_49 rfl (lv_at hl 2 rfl) ?_
  refine fg_X10_90 C hH dX10_key_50 ?_
  obtain ⟨u, w9, hc, hf⟩ := bd_some hf
  refine q_callV0 (As := [.ref (B + 703), .ref (B + 707)]) C hH (ci := 2) rfl (by omega) gk_X10_304 yd_X2_keyInto (by omega) (by omega) k_r2 (c_X2_keyInto k_r2 kc_703 kc_707 hc) hl.1 rfl (Nat.le_of_ble_eq_true rfl) dX10_key_53 xv_00 (fun H locs hH hP => ?_)
  refine lv_iload_n hx hb dX10_key_56 rfl (lv_at hl 5 rfl) ?_
  refine lv_iconst (v := (-1 : Int32)) hx hb dX10_key_57 (by decide) ?_
  refine b_icmp_ne (tgt := 69) hx hb hf dX10_key_58 (by decide) (fun hf => ?_) (fun hf => ?_)
  · refine lv_iload_n hx hb dX10_key_69 rfl (lv_at hl 5 rfl) ?_
    refine lv_aload_n hx hb dX10_key_70 rfl (lv_at hl 2 rfl) ?_
    refine fg_X10_90 C hH dX10_key_71 ?_
    obtain ⟨x11, w10, hc, hf⟩ := bd_some hf
    refine q_callV1 (v := .int x11) (As := []) C hH (ci := 7) rfl (by omega) gk_X10_107 yd_X7_size (by omega) (by omega) kc_707 (c_X7_size kc_707 hc) hl.1 rfl (Nat.le_of_ble_eq_true rfl) dX10_key_74 xv_00 (fun H locs hH hP => ?_)
    rcases bdx_some hf with ⟨k, w12, hc, rfl⟩ | ⟨u, w12, hc, hf⟩
    · exact q_xrunX (k0 := k) (q_xS (As := [.int v3, .int x11]) C hH gk_X10_240 yd_X10_checkPlace (by omega) (by omega) (c_X10_checkPlace (r := .inl k) htr hc) hl.1 rfl (Nat.le_of_ble_eq_true rfl) dX10_key_77 (xv_le rfl)) hH (fun H locs ce q hH h1 h2 h3 => q_out C hH hxt h1 h2 h3 (xv_1 rfl) (xv_6 rfl))
    refine q_xrun (ov := none) (q_xS (As := [.int v3, .int x11]) C hH gk_X10_240 yd_X10_checkPlace (by omega) (by omega) (c_X10_checkPlace (r := .inr u) htr hc) hl.1 rfl (Nat.le_of_ble_eq_true rfl) dX10_key_77 (xv_0 rfl xv_00)) hH (fun H locs hH hP => ?_)
    refine lv_aload_n hx hb dX10_key_80 rfl (lv_at hl 2 rfl) ?_
    refine fg_X10_90 C hH dX10_key_81 ?_
    refine lv_iload_n hx hb dX10_key_84 rfl (lv_at hl 5 rfl) ?_
    obtain ⟨x14, w13, hc, hf⟩ := bd_some hf
    refine q_callV1 (v := .int x14) (As := [.int v3]) C hH (ci := 7) rfl (by omega) gk_X10_243 yd_X7_get (by omega) (by omega) kc_707 (c_X7_get kc_707 hc) hl.1 rfl (Nat.le_of_ble_eq_true rfl) dX10_key_85 xv_00 (fun H locs hH hP => ?_)
    cases hf
    exact q_x0 rfl (q_reti C hH trivial dX10_key_88)
  · refine lv_aload_n hx hb dX10_key_61 rfl (lv_at hl 2 rfl) ?_
    refine fg_X10_90 C hH dX10_key_62 ?_
    obtain ⟨x16, w15, hc, hf⟩ := bd_some hf
    refine q_callV1 (v := .int x16) (As := []) C hH (ci := 7) rfl (by omega) gk_X10_107 yd_X7_size (by omega) (by omega) kc_707 (c_X7_size kc_707 hc) hl.1 rfl (Nat.le_of_ble_eq_true rfl) dX10_key_65 xv_00 (fun H locs hH hP => ?_)
    cases hf
    exact q_x0 rfl (q_reti C hH trivial dX10_key_68)
set_option maxRecDepth 100000 in
theorem c_X10_key {l : Launch} {D : va_G} {B : Nat} {Y : Nat → ClassId} {v1 : Int32} {v2 : Int32} {v3 : Int32} {w : Wd} {r : (Nat ⊕ Int32)} {w1 : Wd} (htr : l.stackTraces = false)   (hf : f_X10_key v1 v2 v3 w = some (r, w1)) : XM l D B Y yX10_key cX10_key 6 (some .int) 4 [.ref (B + 0), .int v1, .int v2, .int v3] w (zoI r) w1 True :=
  XM_of (by decide +kernel) (Nat.le_of_ble_eq_true rfl) (fun p e s m args below meth c ls C hxt hH hl => t_X10_key_0 C hxt htr  hH (lv_sub hl [0, 1, 2, 3] rfl) hf)
/-! LetterTables$Forms.foldedEnd -/
set_option maxRecDepth 100000 in
set_option maxHeartbeats 4000000 in
theorem t_X1_foldedEnd_0 {D : va_G} {B : Nat} {Y : Nat → ClassId} {p : Program} {l : Launch} {e : Env} {s : State} {m : MethodId} {args : Array Value} {below : List Frame} {meth : Method} {c : Code} {z : (Int32 × Wd)} {H : Heap} {locs : List Loc} {ls : Array Slot} {w : Wd} {v1 : Int32} (C : CX D B Y p s m args meth c cX1_foldedEnd 2 RX1 (some .int))     (hH : HS D B Y w s H locs) (hl : lv_has ls 2 [(0, .ref (B + 639)), (1, .int v1)]) (hf : f_X1_foldedEnd v1 w = some z) : W p l e (RM 1 0 0) s m args below meth c H locs 0 0 (MQ below (QG D B Y (some (.int z.1)) z.2 True) args s 0 0 (AB B)) (F0 m 0 ls []) := by
  have hx := C.1
  have hb := C.2.1
  unfold f_X1_foldedEnd at hf
  refine lv_iload_n hx hb dX1_foldedEnd_0 rfl (lv_at hl 1 rfl) ?_
  refine lv_iconst (v := (1 : Int32)) hx hb dX1_foldedEnd_1 (by decide) ?_
  refine b_icmp_ge (tgt := 9) hx hb hf dX1_foldedEnd_2 (by decide) (fun hf => ?_) (fun hf => ?_)
  · refine lv_aload_n hx hb dX1_foldedEnd_9 rfl (lv_at hl 0 rfl) ?_
    refine fg_X1_33 C hH dX1_foldedEnd_10 ?_
    refine lv_iload_n hx hb dX1_foldedEnd_13 rfl (lv_at hl 1 rfl) ?_
    refine lv_iconst (v := (1 : Int32)) hx hb dX1_foldedEnd_14 (by decide) ?_
    refine lv_isub hx hb dX1_foldedEnd_15 ?_
    obtain ⟨x2, w1, hc, hf⟩ := bd_some hf
    refine q_callV1 (v := .int x2) (As := [.int (v1 - (1 : Int32))]) C hH (ci := 7) rfl (by omega) gk_X1_56 yd_X7_get (by omega) (by omega) kc_648 (c_X7_get kc_648 hc) hl.1 rfl (Nat.le_of_ble_eq_true rfl) dX1_foldedEnd_16 xv_00 (fun H locs hH hP => ?_)
    cases hf
    exact q_reti C hH trivial dX1_foldedEnd_19
  · refine lv_iconst (v := (0 : Int32)) hx hb dX1_foldedEnd_5 (by decide) ?_
    refine lv_goto (tgt := 19) hx hb dX1_foldedEnd_6 (by decide) ?_
    cases hf
    exact q_reti C hH trivial dX1_foldedEnd_19
set_option maxRecDepth 100000 in
theorem c_X1_foldedEnd {l : Launch} {D : va_G} {B : Nat} {Y : Nat → ClassId} {v1 : Int32} {w : Wd} {r : Int32} {w1 : Wd}   (hf : f_X1_foldedEnd v1 w = some (r, w1)) : CM l D B Y yX1_foldedEnd cX1_foldedEnd 2 (some .int) 1 [.ref (B + 639), .int v1] w (some (.int r)) w1 True :=
  CM_of (by decide +kernel) (Nat.le_of_ble_eq_true rfl) (fun p e s m args below meth c ls C hH hl => t_X1_foldedEnd_0 C  hH (lv_sub hl [0, 1] rfl) hf)
/-! LetterTables.endOfFound -/
set_option maxRecDepth 100000 in
set_option maxHeartbeats 4000000 in
theorem t_X10_endOfFound_71 {D : va_G} {B : Nat} {Y : Nat → ClassId} {p : Program} {l : Launch} {e : Env} {s : State} {m : MethodId} {args : Array Value} {below : List Frame} {meth : Method} {c : Code} {z : (Int32 × Wd)} {H : Heap} {locs : List Loc} {ls : Array Slot} {w : Wd} {v2 : Int32} {v3 : Int64} {v6 : Int32} {v7 : Int32} {t0 : Int32} (C : CX D B Y p s m args meth c cX10_endOfFound 9 RX10 (some .int))  {rc_45 : Int32 × Int64 × Int32 × Int32 × Wd → Option (Int32 × Wd)} (hr_45 : ∀ (v2 : Int32) (v3 : Int64) (v6 : Int32) (v7 : Int32) (w : Wd), rc_45 (v2, v3, v6, v7, w) = some z → ∀ (H : Heap) (locs : List Loc) (ls : Array Slot), HS D B Y w s H locs → lv_has ls 9 [(0, .ref (B + 0)), (2, .int v2), (3, .long v3), (6, .int v6), (7, .int v7)] → W p l e (RM 2 0 0) s m args below meth c H locs 0 0 (MQ below (QG D B Y (some (.int z.1)) z.2 True) args s 0 0 (AB B)) (F0 m 45 ls []))   (z_t0 : isZ t0) (hH : HS D B Y w s H locs) (hl : lv_has ls 9 [(0, .ref (B + 0)), (2, .int v2), (3, .long v3), (6, .int v6), (7, .int v7)]) (hf : f_X10_endOfFound_71 rc_45 v2 v3 v6 v7 t0 w = some z) : W p l e (RM 2 0 0) s m args below meth c H locs 0 0 (MQ below (QG D B Y (some (.int z.1)) z.2 True) args s 0 0 (AB B)) (F0 m 71 ls [.int t0]) := by
  have hx := C.1
  have hb := C.2.1
  unfold f_X10_endOfFound_71 at hf
  refine lv_istore (lv' := [(8, .int t0), (0, .ref (B + 0)), (2, .int v2), (3, .long v3), (6, .int v6), (7, .int v7)]) hx hb dX10_endOfFound_71 hl (by decide) rfl (fun ls hl => ?_)
  refine lv_iload hx hb dX10_endOfFound_73 (lv_at hl 0 rfl) ?_
  refine b_if_eq (tgt := 95) hx hb hf dX10_endOfFound_75 (by decide) (fun hf => ?_) (fun hf => ?_)
  · refine b_let hf (fun x1 he hf => ?_)
    refine lv_iinc (v := x1) (lv' := [(7, .int x1), (8, .int t0), (0, .ref (B + 0)), (2, .int v2), (3, .long v3), (6, .int v6)]) hx hb dX10_endOfFound_95 hl (k := 5) rfl (by rw [← he]; rfl) (by decide) rfl (fun ls hl => ?_)
    refine lv_goto (tgt := 45) hx hb dX10_endOfFound_98 (by decide) ?_
    exact hr_45 v2 v3 v6 x1 w hf _ _ _ hH (lv_sub hl [2, 3, 4, 5, 0] rfl)
  · refine lv_aload_n hx hb dX10_endOfFound_78 rfl (lv_at hl 1 rfl) ?_
    refine fg_X10_41 C hH dX10_endOfFound_79 ?_
    refine lv_iload hx hb dX10_endOfFound_82 (lv_at hl 5 rfl) ?_
    obtain ⟨x3, w2, hc, hf⟩ := bd_some hf
    refine q_callV1 (v := .int x3) (As := [.int v7]) C hH (ci := 1) rfl (by omega) gk_X10_384 yd_X1_foldedEnd (by omega) (by omega) kc_639 (c_X1_foldedEnd hc) hl.1 rfl (Nat.le_of_ble_eq_true rfl) dX10_endOfFound_84 xv_00 (fun H locs hH hP => ?_)
    refine lv_iload hx hb dX10_endOfFound_87 (lv_at hl 4 rfl) ?_
    refine b_icmp_ne (tgt := 95) hx hb hf dX10_endOfFound_89 (by decide) (fun hf => ?_) (fun hf => ?_)
    · refine b_let hf (fun x4 he hf => ?_)
      refine lv_iinc (v := x4) (lv' := [(7, .int x4), (8, .int t0), (0, .ref (B + 0)), (2, .int v2), (3, .long v3), (6, .int v6)]) hx hb dX10_endOfFound_95 hl (k := 5) rfl (by rw [← he]; rfl) (by decide) rfl (fun ls hl => ?_)
      refine lv_goto (tgt := 45) hx hb dX10_endOfFound_98 (by decide) ?_
      exact hr_45 v2 v3 v6 x4 w2 hf _ _ _ hH (lv_sub hl [2, 3, 4, 5, 0] rfl)
    · refine lv_iload hx hb dX10_endOfFound_92 (lv_at hl 5 rfl) ?_
      cases hf
      exact q_reti C hH trivial dX10_endOfFound_94
set_option maxRecDepth 100000 in
set_option maxHeartbeats 4000000 in
theorem tb_X10_endOfFound_45 {D : va_G} {B : Nat} {Y : Nat → ClassId} {p : Program} {l : Launch} {e : Env} {s : State} {m : MethodId} {args : Array Value} {below : List Frame} {meth : Method} {c : Code} {z : (Int32 × Wd)} {H : Heap} {locs : List Loc} {ls : Array Slot} {w : Wd} {v2 : Int32} {v3 : Int64} {v6 : Int32} {v7 : Int32} (C : CX D B Y p s m args meth c cX10_endOfFound 9 RX10 (some .int))  {rc_45 : Int32 × Int64 × Int32 × Int32 × Wd → Option (Int32 × Wd)} (hr_45 : ∀ (v2 : Int32) (v3 : Int64) (v6 : Int32) (v7 : Int32) (w : Wd), rc_45 (v2, v3, v6, v7, w) = some z → ∀ (H : Heap) (locs : List Loc) (ls : Array Slot), HS D B Y w s H locs → lv_has ls 9 [(0, .ref (B + 0)), (2, .int v2), (3, .long v3), (6, .int v6), (7, .int v7)] → W p l e (RM 2 0 0) s m args below meth c H locs 0 0 (MQ below (QG D B Y (some (.int z.1)) z.2 True) args s 0 0 (AB B)) (F0 m 45 ls []))    (hH : HS D B Y w s H locs) (hl : lv_has ls 9 [(0, .ref (B + 0)), (2, .int v2), (3, .long v3), (6, .int v6), (7, .int v7)]) (hf : g_X10_endOfFound_45 rc_45 v2 v3 v6 v7 w = some z) : W p l e (RM 2 0 0) s m args below meth c H locs 0 0 (MQ below (QG D B Y (some (.int z.1)) z.2 True) args s 0 0 (AB B)) (F0 m 45 ls []) := by
  have hx := C.1
  have hb := C.2.1
  unfold g_X10_endOfFound_45 at hf
  refine lv_iload hx hb dX10_endOfFound_45 (lv_at hl 4 rfl) ?_
  refine lv_iload_n hx hb dX10_endOfFound_47 rfl (lv_at hl 1 rfl) ?_
  refine b_icmp_gt (tgt := 101) hx hb hf dX10_endOfFound_48 (by decide) (fun hf => ?_) (fun hf => ?_)
  · refine lv_iconst (v := (-1 : Int32)) hx hb dX10_endOfFound_101 (by decide) ?_
    cases hf
    exact q_reti C hH trivial dX10_endOfFound_102
  · refine lv_iload hx hb dX10_endOfFound_51 (lv_at hl 4 rfl) ?_
    refine lv_iload_n hx hb dX10_endOfFound_53 rfl (lv_at hl 1 rfl) ?_
    refine b_icmp_eq (tgt := 66) hx hb hf dX10_endOfFound_54 (by decide) (fun hf => ?_) (fun hf => ?_)
    · refine lv_iconst (v := (1 : Int32)) hx hb dX10_endOfFound_66 (by decide) ?_
      refine lv_goto (tgt := 71) hx hb dX10_endOfFound_67 (by decide) ?_
      exact t_X10_endOfFound_71 C hr_45 isZ_1 hH (lv_sub hl [0, 1, 2, 3, 4] rfl) hf
    · refine lv_lload_n hx hb dX10_endOfFound_57 rfl (lv_at hl 2 rfl) ?_
      refine lv_iload hx hb dX10_endOfFound_58 (lv_at hl 4 rfl) ?_
      obtain ⟨x2, w1, hc, hf⟩ := bd_some hf
      refine q_callS1 (v := .int x2) (As := [.long v3, .int v7]) C hH gk_X10_285 yd_X0_isBeginning (by omega) (by omega) (c_X0_isBeginning hc) hl.1 rfl (Nat.le_of_ble_eq_true rfl) dX10_endOfFound_60 xv_00 (fun H locs hH z_x2 => ?_)
      refine b_if_eq (tgt := 70) hx hb hf dX10_endOfFound_63 (by decide) (fun hf => ?_) (fun hf => ?_)
      · refine lv_iconst (v := (0 : Int32)) hx hb dX10_endOfFound_70 (by decide) ?_
        exact t_X10_endOfFound_71 C hr_45 isZ_0 hH (lv_sub hl [0, 1, 2, 3, 4] rfl) hf
      · refine lv_iconst (v := (1 : Int32)) hx hb dX10_endOfFound_66 (by decide) ?_
        refine lv_goto (tgt := 71) hx hb dX10_endOfFound_67 (by decide) ?_
        exact t_X10_endOfFound_71 C hr_45 isZ_1 hH (lv_sub hl [0, 1, 2, 3, 4] rfl) hf
set_option maxRecDepth 100000 in
set_option maxHeartbeats 4000000 in
theorem t_X10_endOfFound_45 {D : va_G} {B : Nat} {Y : Nat → ClassId} {p : Program} {l : Launch} {e : Env} {s : State} {m : MethodId} {args : Array Value} {below : List Frame} {meth : Method} {c : Code} {z : (Int32 × Wd)} {H : Heap} {locs : List Loc} {ls : Array Slot} {w : Wd} {v2 : Int32} {v3 : Int64} {v6 : Int32} {v7 : Int32} (C : CX D B Y p s m args meth c cX10_endOfFound 9 RX10 (some .int))     (hH : HS D B Y w s H locs) (hl : lv_has ls 9 [(0, .ref (B + 0)), (2, .int v2), (3, .long v3), (6, .int v6), (7, .int v7)]) (hf : f_X10_endOfFound_45 v2 v3 v6 v7 w = some z) : W p l e (RM 2 0 0) s m args below meth c H locs 0 0 (MQ below (QG D B Y (some (.int z.1)) z.2 True) args s 0 0 (AB B)) (F0 m 45 ls []) := by
  exact loopN_ind (z := z) (body := fun rc σ => g_X10_endOfFound_45 rc  σ.1 σ.2.1 σ.2.2.1 σ.2.2.2.1 σ.2.2.2.2)
    (P := fun σ => ∀ (H : Heap) (locs : List Loc) (ls : Array Slot), HS D B Y σ.2.2.2.2 s H locs → lv_has ls 9 [(0, .ref (B + 0)), (2, .int σ.1), (3, .long σ.2.1), (6, .int σ.2.2.1), (7, .int σ.2.2.2.1)] → W p l e (RM 2 0 0) s m args below meth c H locs 0 0 (MQ below (QG D B Y (some (.int z.1)) z.2 True) args s 0 0 (AB B)) (F0 m 45 ls []))
    (fun rc hrec σ hf  H locs ls hH hl => tb_X10_endOfFound_45 C (fun v2 v3 v6 v7 w hr  H locs ls hH hl => hrec (v2, v3, v6, v7, w) hr  H locs ls hH hl)   hH hl hf) FU (v2, v3, v6, v7, w) hf  H locs ls hH hl
set_option maxRecDepth 100000 in
set_option maxHeartbeats 4000000 in
theorem t_X10_endOfFound_0 {D : va_G} {B : Nat} {Y : Nat → ClassId} {p : Program} {l : Launch} {e : Env} {s : State} {m : MethodId} {args : Array Value} {below : List Frame} {meth : Method} {c : Code} {z : (Int32 × Wd)} {H : Heap} {locs : List Loc} {ls : Array Slot} {w : Wd} {v1 : Int32} {v2 : Int32} {v3 : Int64} (C : CX D B Y p s m args meth c cX10_endOfFound 9 RX10 (some .int))     (hH : HS D B Y w s H locs) (hl : lv_has ls 9 [(0, .ref (B + 0)), (1, .int v1), (2, .int v2), (3, .long v3)]) (hf : f_X10_endOfFound v1 v2 v3 w = some z) : W p l e (RM 2 0 0) s m args below meth c H locs 0 0 (MQ below (QG D B Y (some (.int z.1)) z.2 True) args s 0 0 (AB B)) (F0 m 0 ls []) := by
  have hx := C.1
  have hb := C.2.1
  unfold f_X10_endOfFound at hf
  refine lv_aload_n hx hb dX10_endOfFound_0 rfl (lv_at hl 0 rfl) ?_
  refine fg_X10_41 C hH dX10_endOfFound_1 ?_
  refine lv_iload_n hx hb dX10_endOfFound_4 rfl (lv_at hl 1 rfl) ?_
  obtain ⟨x2, w1, hc, hf⟩ := bd_some hf
  refine q_callV1 (v := .int x2) (As := [.int v1]) C hH (ci := 1) rfl (by omega) gk_X10_384 yd_X1_foldedEnd (by omega) (by omega) kc_639 (c_X1_foldedEnd hc) hl.1 rfl (Nat.le_of_ble_eq_true rfl) dX10_endOfFound_5 xv_00 (fun H locs hH hP => ?_)
  refine lv_istore (lv' := [(5, .int x2), (0, .ref (B + 0)), (1, .int v1), (2, .int v2), (3, .long v3)]) hx hb dX10_endOfFound_8 hl (by decide) rfl (fun ls hl => ?_)
  refine lv_aload_n hx hb dX10_endOfFound_10 rfl (lv_at hl 1 rfl) ?_
  refine fg_X10_78 C hH dX10_endOfFound_11 ?_
  refine lv_aload_n hx hb dX10_endOfFound_14 rfl (lv_at hl 1 rfl) ?_
  refine fg_X10_81 C hH dX10_endOfFound_15 ?_
  refine lv_iload hx hb dX10_endOfFound_18 (lv_at hl 0 rfl) ?_
  obtain ⟨x4, w3, hc, hf⟩ := bd_some hf
  refine q_callV1 (v := .int x4) (As := [.ref (B + 701), .int x2]) C hH (ci := 7) rfl (by omega) gk_X10_387 yd_X7_holds (by omega) (by omega) kc_699 (c_X7_holds kc_699 kc_701 hc) hl.1 rfl (Nat.le_of_ble_eq_true rfl) dX10_endOfFound_20 xv_00 (fun H locs hH z_x4 => ?_)
  refine b_if_ne (tgt := 28) hx hb hf dX10_endOfFound_23 (by decide) (fun hf => ?_) (fun hf => ?_)
  · refine lv_iload hx hb dX10_endOfFound_28 (lv_at hl 0 rfl) ?_
    refine lv_aload_n hx hb dX10_endOfFound_30 rfl (lv_at hl 1 rfl) ?_
    refine fg_X10_81 C hH dX10_endOfFound_31 ?_
    obtain ⟨x6, w5, hc, hf⟩ := bd_some hf
    refine q_callV1 (v := .int x6) (As := []) C hH (ci := 7) rfl (by omega) gk_X10_107 yd_X7_size (by omega) (by omega) kc_701 (c_X7_size kc_701 hc) hl.1 rfl (Nat.le_of_ble_eq_true rfl) dX10_endOfFound_34 xv_00 (fun H locs hH hP => ?_)
    refine lv_iadd hx hb dX10_endOfFound_37 ?_
    refine b_leti hf (fun x7 hf => ?_)
    refine lv_istore (lv' := [(6, .int x7), (5, .int x2), (0, .ref (B + 0)), (1, .int v1), (2, .int v2), (3, .long v3)]) hx hb dX10_endOfFound_38 hl (by decide) rfl (fun ls hl => ?_)
    refine lv_iload_n hx hb dX10_endOfFound_40 rfl (lv_at hl 3 rfl) ?_
    refine lv_iconst (v := (1 : Int32)) hx hb dX10_endOfFound_41 (by decide) ?_
    refine lv_iadd hx hb dX10_endOfFound_42 ?_
    refine b_leti hf (fun x8 hf => ?_)
    refine lv_istore (lv' := [(7, .int x8), (6, .int x7), (5, .int x2), (0, .ref (B + 0)), (1, .int v1), (2, .int v2), (3, .long v3)]) hx hb dX10_endOfFound_43 hl (by decide) rfl (fun ls hl => ?_)
    exact t_X10_endOfFound_45 C hH (lv_sub hl [3, 5, 6, 1, 0] rfl) hf
  · refine lv_iconst (v := (-1 : Int32)) hx hb dX10_endOfFound_26 (by decide) ?_
    cases hf
    exact q_reti C hH trivial dX10_endOfFound_27
set_option maxRecDepth 100000 in
theorem c_X10_endOfFound {l : Launch} {D : va_G} {B : Nat} {Y : Nat → ClassId} {v1 : Int32} {v2 : Int32} {v3 : Int64} {w : Wd} {r : Int32} {w1 : Wd}   (hf : f_X10_endOfFound v1 v2 v3 w = some (r, w1)) : CM l D B Y yX10_endOfFound cX10_endOfFound 9 (some .int) 2 [.ref (B + 0), .int v1, .int v2, .long v3] w (some (.int r)) w1 True :=
  CM_of (by decide +kernel) (Nat.le_of_ble_eq_true rfl) (fun p e s m args below meth c ls C hH hl => t_X10_endOfFound_0 C  hH (lv_sub hl [0, 1, 2, 3] rfl) hf)
/-! LetterTables.find -/
set_option maxRecDepth 100000 in
set_option maxHeartbeats 4000000 in
theorem t_X10_find_127 {D : va_G} {B : Nat} {Y : Nat → ClassId} {p : Program} {l : Launch} {e : Env} {s : State} {m : MethodId} {args : Array Value} {below : List Frame} {meth : Method} {c : Code} {z : ((Nat ⊕ Int32) × Wd)} {H : Heap} {locs : List Loc} {ls : Array Slot} {w : Wd} {v4 : Nat} {v6 : Int64} {v8 : Int32} {t0 : Int32} (C : CX D B Y p s m args meth c cX10_find 10 RX10 (some .int)) (hxt : ∀ x ∈ c.exceptionTable.toList, False) (htr : l.stackTraces = false)  {rc_90 : Nat × Int64 × Int32 × Wd → Option ((Nat ⊕ Int32) × Wd)} (hr_90 : ∀ (v4 : Nat) (v6 : Int64) (v8 : Int32) (w : Wd), rc_90 (v4, v6, v8, w) = some z → KD v4 = 7 → ∀ (H : Heap) (locs : List Loc) (ls : Array Slot), HS D B Y w s H locs → lv_has ls 10 [(0, .ref (B + 0)), (4, .ref (B + v4)), (6, .long v6), (8, .int v8)] → W p l e (RM 5 (xv (zoI z.1)) (6 * xv (zoI z.1))) s m args below meth c H locs 0 0 (vx_MQ below (QX D B Y (zoI z.1) z.2 True) (XX D B Y (zoI z.1) z.2) args s (xv (zoI z.1)) (6 * xv (zoI z.1)) (AB B)) (F0 m 90 ls []))  (k_v4 : KD v4 = 7)  (hH : HS D B Y w s H locs) (hl : lv_has ls 10 [(0, .ref (B + 0)), (4, .ref (B + v4)), (6, .long v6), (8, .int v8)]) (hf : f_X10_find_127 rc_90 v4 v6 v8 t0 w = some z) : W p l e (RM 5 (xv (zoI z.1)) (6 * xv (zoI z.1))) s m args below meth c H locs 0 0 (vx_MQ below (QX D B Y (zoI z.1) z.2 True) (XX D B Y (zoI z.1) z.2) args s (xv (zoI z.1)) (6 * xv (zoI z.1)) (AB B)) (F0 m 127 ls [.int t0]) := by
  have hx := C.1
  have hb := C.2.1
  unfold f_X10_find_127 at hf
  refine lv_istore (lv' := [(9, .int t0), (0, .ref (B + 0)), (4, .ref (B + v4)), (6, .long v6), (8, .int v8)]) hx hb dX10_find_127 hl (by decide) rfl (fun ls hl => ?_)
  refine lv_iload hx hb dX10_find_129 (lv_at hl 0 rfl) ?_
  refine lv_iconst (v := (-1 : Int32)) hx hb dX10_find_131 (by decide) ?_
  refine b_icmp_eq (tgt := 144) hx hb hf dX10_find_132 (by decide) (fun hf => ?_) (fun hf => ?_)
  · refine b_let hf (fun x1 he hf => ?_)
    refine lv_iinc (v := x1) (lv' := [(8, .int x1), (9, .int t0), (0, .ref (B + 0)), (4, .ref (B + v4)), (6, .long v6)]) hx hb dX10_find_144 hl (k := 4) rfl (by rw [← he]; rfl) (by decide) rfl (fun ls hl => ?_)
    refine lv_goto (tgt := 90) hx hb dX10_find_147 (by decide) ?_
    exact hr_90 v4 v6 x1 w hf k_v4 _ _ _ hH (lv_sub hl [2, 3, 4, 0] rfl)
  · refine lv_bipush (v := (100 : Int32)) hx hb dX10_find_135 (by decide) ?_
    refine lv_iload hx hb dX10_find_137 (lv_at hl 4 rfl) ?_
    refine lv_imul hx hb dX10_find_139 ?_
    refine lv_iload hx hb dX10_find_140 (lv_at hl 0 rfl) ?_
    refine lv_iadd hx hb dX10_find_142 ?_
    cases hf
    exact q_x0 rfl (q_reti C hH trivial dX10_find_143)
set_option maxRecDepth 100000 in
set_option maxHeartbeats 4000000 in
theorem tb_X10_find_90 {D : va_G} {B : Nat} {Y : Nat → ClassId} {p : Program} {l : Launch} {e : Env} {s : State} {m : MethodId} {args : Array Value} {below : List Frame} {meth : Method} {c : Code} {z : ((Nat ⊕ Int32) × Wd)} {H : Heap} {locs : List Loc} {ls : Array Slot} {w : Wd} {v4 : Nat} {v6 : Int64} {v8 : Int32} (C : CX D B Y p s m args meth c cX10_find 10 RX10 (some .int)) (hxt : ∀ x ∈ c.exceptionTable.toList, False) (htr : l.stackTraces = false)  {rc_90 : Nat × Int64 × Int32 × Wd → Option ((Nat ⊕ Int32) × Wd)} (hr_90 : ∀ (v4 : Nat) (v6 : Int64) (v8 : Int32) (w : Wd), rc_90 (v4, v6, v8, w) = some z → KD v4 = 7 → ∀ (H : Heap) (locs : List Loc) (ls : Array Slot), HS D B Y w s H locs → lv_has ls 10 [(0, .ref (B + 0)), (4, .ref (B + v4)), (6, .long v6), (8, .int v8)] → W p l e (RM 5 (xv (zoI z.1)) (6 * xv (zoI z.1))) s m args below meth c H locs 0 0 (vx_MQ below (QX D B Y (zoI z.1) z.2 True) (XX D B Y (zoI z.1) z.2) args s (xv (zoI z.1)) (6 * xv (zoI z.1)) (AB B)) (F0 m 90 ls []))  (k_v4 : KD v4 = 7)  (hH : HS D B Y w s H locs) (hl : lv_has ls 10 [(0, .ref (B + 0)), (4, .ref (B + v4)), (6, .long v6), (8, .int v8)]) (hf : g_X10_find_90 rc_90 v4 v6 v8 w = some z) : W p l e (RM 5 (xv (zoI z.1)) (6 * xv (zoI z.1))) s m args below meth c H locs 0 0 (vx_MQ below (QX D B Y (zoI z.1) z.2 True) (XX D B Y (zoI z.1) z.2) args s (xv (zoI z.1)) (6 * xv (zoI z.1)) (AB B)) (F0 m 90 ls []) := by
  have hx := C.1
  have hb := C.2.1
  unfold g_X10_find_90 at hf
  refine lv_iload hx hb dX10_find_90 (lv_at hl 3 rfl) ?_
  refine lv_aload hx hb dX10_find_92 (lv_at hl 1 rfl) ?_
  obtain ⟨x2, w1, hc, hf⟩ := bd_some hf
  refine q_callV1 (v := .int x2) (As := []) C hH (ci := 7) rfl (by omega) gk_X10_107 yd_X7_size (by omega) (by omega) k_v4 (c_X7_size k_v4 hc) hl.1 rfl (Nat.le_of_ble_eq_true rfl) dX10_find_94 xv_00 (fun H locs hH hP => ?_)
  refine b_icmp_ge (tgt := 150) hx hb hf dX10_find_97 (by decide) (fun hf => ?_) (fun hf => ?_)
  · refine lv_iconst (v := (-1 : Int32)) hx hb dX10_find_150 (by decide) ?_
    cases hf
    exact q_x0 rfl (q_reti C hH trivial dX10_find_151)
  · refine lv_lload hx hb dX10_find_100 (lv_at hl 2 rfl) ?_
    refine lv_iload hx hb dX10_find_102 (lv_at hl 3 rfl) ?_
    obtain ⟨x4, w3, hc, hf⟩ := bd_some hf
    refine q_callS1 (v := .int x4) (As := [.long v6, .int v8]) C hH gk_X10_285 yd_X0_isBeginning (by omega) (by omega) (c_X0_isBeginning hc) hl.1 rfl (Nat.le_of_ble_eq_true rfl) dX10_find_104 xv_00 (fun H locs hH z_x4 => ?_)
    refine b_if_eq (tgt := 126) hx hb hf dX10_find_107 (by decide) (fun hf => ?_) (fun hf => ?_)
    · refine lv_iconst (v := (-1 : Int32)) hx hb dX10_find_126 (by decide) ?_
      exact t_X10_find_127 C hxt htr hr_90 k_v4 hH (lv_sub hl [0, 1, 2, 3] rfl) hf
    · refine lv_aload_n hx hb dX10_find_110 rfl (lv_at hl 0 rfl) ?_
      refine lv_iload hx hb dX10_find_111 (lv_at hl 3 rfl) ?_
      refine lv_aload hx hb dX10_find_113 (lv_at hl 1 rfl) ?_
      obtain ⟨x6, w5, hc, hf⟩ := bd_some hf
      refine q_callV1 (v := .int x6) (As := []) C hH (ci := 7) rfl (by omega) gk_X10_107 yd_X7_size (by omega) (by omega) k_v4 (c_X7_size k_v4 hc) hl.1 rfl (Nat.le_of_ble_eq_true rfl) dX10_find_115 xv_00 (fun H locs hH hP => ?_)
      refine lv_lload hx hb dX10_find_118 (lv_at hl 2 rfl) ?_
      obtain ⟨x8, w7, hc, hf⟩ := bd_some hf
      refine q_callV1 (v := .int x8) (As := [.int v8, .int x6, .long v6]) C hH (ci := 10) rfl (by omega) gk_X10_310 yd_X10_endOfFound (by omega) (by omega) kc_0 (c_X10_endOfFound hc) hl.1 rfl (Nat.le_of_ble_eq_true rfl) dX10_find_120 xv_00 (fun H locs hH hP => ?_)
      refine lv_goto (tgt := 127) hx hb dX10_find_123 (by decide) ?_
      exact t_X10_find_127 C hxt htr hr_90 k_v4 hH (lv_sub hl [0, 1, 2, 3] rfl) hf
set_option maxRecDepth 100000 in
set_option maxHeartbeats 4000000 in
theorem t_X10_find_90 {D : va_G} {B : Nat} {Y : Nat → ClassId} {p : Program} {l : Launch} {e : Env} {s : State} {m : MethodId} {args : Array Value} {below : List Frame} {meth : Method} {c : Code} {z : ((Nat ⊕ Int32) × Wd)} {H : Heap} {locs : List Loc} {ls : Array Slot} {w : Wd} {v4 : Nat} {v6 : Int64} {v8 : Int32} (C : CX D B Y p s m args meth c cX10_find 10 RX10 (some .int)) (hxt : ∀ x ∈ c.exceptionTable.toList, False) (htr : l.stackTraces = false)   (k_v4 : KD v4 = 7)  (hH : HS D B Y w s H locs) (hl : lv_has ls 10 [(0, .ref (B + 0)), (4, .ref (B + v4)), (6, .long v6), (8, .int v8)]) (hf : f_X10_find_90 v4 v6 v8 w = some z) : W p l e (RM 5 (xv (zoI z.1)) (6 * xv (zoI z.1))) s m args below meth c H locs 0 0 (vx_MQ below (QX D B Y (zoI z.1) z.2 True) (XX D B Y (zoI z.1) z.2) args s (xv (zoI z.1)) (6 * xv (zoI z.1)) (AB B)) (F0 m 90 ls []) := by
  exact loopN_ind (z := z) (body := fun rc σ => g_X10_find_90 rc  σ.1 σ.2.1 σ.2.2.1 σ.2.2.2)
    (P := fun σ => KD σ.1 = 7 → ∀ (H : Heap) (locs : List Loc) (ls : Array Slot), HS D B Y σ.2.2.2 s H locs → lv_has ls 10 [(0, .ref (B + 0)), (4, .ref (B + σ.1)), (6, .long σ.2.1), (8, .int σ.2.2.1)] → W p l e (RM 5 (xv (zoI z.1)) (6 * xv (zoI z.1))) s m args below meth c H locs 0 0 (vx_MQ below (QX D B Y (zoI z.1) z.2 True) (XX D B Y (zoI z.1) z.2) args s (xv (zoI z.1)) (6 * xv (zoI z.1)) (AB B)) (F0 m 90 ls []))
    (fun rc hrec σ hf k_v4 H locs ls hH hl => tb_X10_find_90 C hxt htr (fun v4 v6 v8 w hr k_v4 H locs ls hH hl => hrec (v4, v6, v8, w) hr k_v4 H locs ls hH hl)  k_v4 hH hl hf) FU (v4, v6, v8, w) hf k_v4 H locs ls hH hl
set_option maxRecDepth 100000 in
set_option maxHeartbeats 4000000 in
theorem t_X10_find_61 {D : va_G} {B : Nat} {Y : Nat → ClassId} {p : Program} {l : Launch} {e : Env} {s : State} {m : MethodId} {args : Array Value} {below : List Frame} {meth : Method} {c : Code} {z : ((Nat ⊕ Int32) × Wd)} {H : Heap} {locs : List Loc} {ls : Array Slot} {w : Wd} {v3 : Int32} {v4 : Nat} {t0 : Int32} (C : CX D B Y p s m args meth c cX10_find 10 RX10 (some .int)) (hxt : ∀ x ∈ c.exceptionTable.toList, False) (htr : l.stackTraces = false)   (k_v4 : KD v4 = 7) (z_t0 : isZ t0) (hH : HS D B Y w s H locs) (hl : lv_has ls 10 [(0, .ref (B + 0)), (3, .int v3), (4, .ref (B + v4))]) (hf : f_X10_find_61 v3 v4 t0 w = some z) : W p l e (RM 5 (xv (zoI z.1)) (6 * xv (zoI z.1))) s m args below meth c H locs 0 0 (vx_MQ below (QX D B Y (zoI z.1) z.2 True) (XX D B Y (zoI z.1) z.2) args s (xv (zoI z.1)) (6 * xv (zoI z.1)) (AB B)) (F0 m 61 ls [.int t0]) := by
  have hx := C.1
  have hb := C.2.1
  unfold f_X10_find_61 at hf
  rcases bdx_some hf with ⟨k, w1, hc, rfl⟩ | ⟨u, w1, hc, hf⟩
  · exact q_xrunX (k0 := k) (q_xS (As := [.int t0]) C hH gk_X10_250 yd_X10_checkForm (by omega) (by omega) (c_X10_checkForm (r := .inl k) htr z_t0 hc) hl.1 rfl (Nat.le_of_ble_eq_true rfl) dX10_find_61 (xv_le rfl)) hH (fun H locs ce q hH h1 h2 h3 => q_out C hH hxt h1 h2 h3 (xv_1 rfl) (xv_6 rfl))
  refine q_xrun (ov := none) (q_xS (As := [.int t0]) C hH gk_X10_250 yd_X10_checkForm (by omega) (by omega) (c_X10_checkForm (r := .inr u) htr z_t0 hc) hl.1 rfl (Nat.le_of_ble_eq_true rfl) dX10_find_61 (xv_0 rfl xv_00)) hH (fun H locs hH hP => ?_)
  refine lv_aload_n hx hb dX10_find_64 rfl (lv_at hl 0 rfl) ?_
  refine fg_X10_81 C hH dX10_find_65 ?_
  obtain ⟨x3, w2, hc, hf⟩ := bd_some hf
  refine q_callV1 (v := .int x3) (As := []) C hH (ci := 7) rfl (by omega) gk_X10_107 yd_X7_size (by omega) (by omega) kc_701 (c_X7_size kc_701 hc) hl.1 rfl (Nat.le_of_ble_eq_true rfl) dX10_find_68 xv_00 (fun H locs hH hP => ?_)
  refine b_if_ne (tgt := 76) hx hb hf dX10_find_71 (by decide) (fun hf => ?_) (fun hf => ?_)
  · refine lv_aload_n hx hb dX10_find_76 rfl (lv_at hl 0 rfl) ?_
    refine fg_X10_55 C hH dX10_find_77 ?_
    refine lv_aload hx hb dX10_find_80 (lv_at hl 2 rfl) ?_
    obtain ⟨y5, w4, hc, hf⟩ := bd_some hf
    refine q_callV1 (v := .long y5) (As := [.ref (B + v4)]) C hH (ci := 0) rfl (by omega) gk_X10_278 yd_X0_clusterBreaks (by omega) (by omega) kc_673 (c_X0_clusterBreaks k_v4 hc) hl.1 rfl (Nat.le_of_ble_eq_true rfl) dX10_find_82 xv_00 (fun H locs hH hP => ?_)
    refine lv_lstore (lv' := [(6, .long y5), (0, .ref (B + 0)), (3, .int v3), (4, .ref (B + v4))]) hx hb dX10_find_85 hl (by decide) rfl (fun ls hl => ?_)
    refine lv_iload_n hx hb dX10_find_87 rfl (lv_at hl 2 rfl) ?_
    refine lv_istore (lv' := [(8, .int v3), (6, .long y5), (0, .ref (B + 0)), (3, .int v3), (4, .ref (B + v4))]) hx hb dX10_find_88 hl (by decide) rfl (fun ls hl => ?_)
    exact t_X10_find_90 C hxt htr k_v4 hH (lv_sub hl [2, 4, 1, 0] rfl) hf
  · refine lv_iconst (v := (-1 : Int32)) hx hb dX10_find_74 (by decide) ?_
    cases hf
    exact q_x0 rfl (q_reti C hH trivial dX10_find_75)
set_option maxRecDepth 100000 in
set_option maxHeartbeats 4000000 in
theorem t_X10_find_60 {D : va_G} {B : Nat} {Y : Nat → ClassId} {p : Program} {l : Launch} {e : Env} {s : State} {m : MethodId} {args : Array Value} {below : List Frame} {meth : Method} {c : Code} {z : ((Nat ⊕ Int32) × Wd)} {H : Heap} {locs : List Loc} {ls : Array Slot} {w : Wd} {v3 : Int32} {v4 : Nat} (C : CX D B Y p s m args meth c cX10_find 10 RX10 (some .int)) (hxt : ∀ x ∈ c.exceptionTable.toList, False) (htr : l.stackTraces = false)   (k_v4 : KD v4 = 7)  (hH : HS D B Y w s H locs) (hl : lv_has ls 10 [(0, .ref (B + 0)), (3, .int v3), (4, .ref (B + v4))]) (hf : f_X10_find_60 v3 v4 w = some z) : W p l e (RM 5 (xv (zoI z.1)) (6 * xv (zoI z.1))) s m args below meth c H locs 0 0 (vx_MQ below (QX D B Y (zoI z.1) z.2 True) (XX D B Y (zoI z.1) z.2) args s (xv (zoI z.1)) (6 * xv (zoI z.1)) (AB B)) (F0 m 60 ls []) := by
  have hx := C.1
  have hb := C.2.1
  unfold f_X10_find_60 at hf
  refine lv_iconst (v := (0 : Int32)) hx hb dX10_find_60 (by decide) ?_
  exact t_X10_find_61 C hxt htr k_v4 isZ_0 hH (lv_sub hl [0, 1, 2] rfl) hf
set_option maxRecDepth 100000 in
set_option maxHeartbeats 4000000 in
theorem t_X10_find_0 {D : va_G} {B : Nat} {Y : Nat → ClassId} {p : Program} {l : Launch} {e : Env} {s : State} {m : MethodId} {args : Array Value} {below : List Frame} {meth : Method} {c : Code} {z : ((Nat ⊕ Int32) × Wd)} {H : Heap} {locs : List Loc} {ls : Array Slot} {w : Wd} {v1 : Int32} {v2 : Int32} {v3 : Int32} (C : CX D B Y p s m args meth c cX10_find 10 RX10 (some .int)) (hxt : ∀ x ∈ c.exceptionTable.toList, False) (htr : l.stackTraces = false)     (hH : HS D B Y w s H locs) (hl : lv_has ls 10 [(0, .ref (B + 0)), (1, .int v1), (2, .int v2), (3, .int v3)]) (hf : f_X10_find v1 v2 v3 w = some z) : W p l e (RM 5 (xv (zoI z.1)) (6 * xv (zoI z.1))) s m args below meth c H locs 0 0 (vx_MQ below (QX D B Y (zoI z.1) z.2 True) (XX D B Y (zoI z.1) z.2) args s (xv (zoI z.1)) (6 * xv (zoI z.1)) (AB B)) (F0 m 0 ls []) := by
  have hx := C.1
  have hb := C.2.1
  unfold f_X10_find at hf
  refine lv_aload_n hx hb dX10_find_0 rfl (lv_at hl 0 rfl) ?_
  refine lv_iload_n hx hb dX10_find_1 rfl (lv_at hl 1 rfl) ?_
  rcases bdx_some hf with ⟨k, w1, hc, rfl⟩ | ⟨r2, w1, hc, hf⟩
  · exact q_xrunX (k0 := k) (q_xV (As := [.int v1]) C hH (ci := 10) rfl (by omega) gk_X10_194 yd_X10_textOf (by omega) (by omega) kc_0 (c_X10_textOf (r := .inl k) htr hc) hl.1 rfl (Nat.le_of_ble_eq_true rfl) dX10_find_2 (xv_le rfl)) hH (fun H locs ce q hH h1 h2 h3 => q_out C hH hxt h1 h2 h3 (xv_1 rfl) (xv_6 rfl))
  refine q_xrun (ov := some (.ref (B + r2))) (q_xV (As := [.int v1]) C hH (ci := 10) rfl (by omega) gk_X10_194 yd_X10_textOf (by omega) (by omega) kc_0 (c_X10_textOf (r := .inr r2) htr hc) hl.1 rfl (Nat.le_of_ble_eq_true rfl) dX10_find_2 (xv_0 rfl xv_00)) hH (fun H locs hH k_r2 => ?_)
  refine lv_astore (lv' := [(4, .ref (B + r2)), (0, .ref (B + 0)), (1, .int v1), (2, .int v2), (3, .int v3)]) hx hb dX10_find_5 hl (by decide) rfl (fun ls hl => ?_)
  refine lv_aload_n hx hb dX10_find_7 rfl (lv_at hl 1 rfl) ?_
  refine lv_iload_n hx hb dX10_find_8 rfl (lv_at hl 3 rfl) ?_
  rcases bdx_some hf with ⟨k, w3, hc, rfl⟩ | ⟨r4, w3, hc, hf⟩
  · exact q_xrunX (k0 := k) (q_xV (As := [.int v2]) C hH (ci := 10) rfl (by omega) gk_X10_194 yd_X10_textOf (by omega) (by omega) kc_0 (c_X10_textOf (r := .inl k) htr hc) hl.1 rfl (Nat.le_of_ble_eq_true rfl) dX10_find_9 (xv_le rfl)) hH (fun H locs ce q hH h1 h2 h3 => q_out C hH hxt h1 h2 h3 (xv_1 rfl) (xv_6 rfl))
  refine q_xrun (ov := some (.ref (B + r4))) (q_xV (As := [.int v2]) C hH (ci := 10) rfl (by omega) gk_X10_194 yd_X10_textOf (by omega) (by omega) kc_0 (c_X10_textOf (r := .inr r4) htr hc) hl.1 rfl (Nat.le_of_ble_eq_true rfl) dX10_find_9 (xv_0 rfl xv_00)) hH (fun H locs hH k_r4 => ?_)
  refine lv_astore (lv' := [(5, .ref (B + r4)), (4, .ref (B + r2)), (0, .ref (B + 0)), (1, .int v1), (2, .int v2), (3, .int v3)]) hx hb dX10_find_12 hl (by decide) rfl (fun ls hl => ?_)
  refine lv_iload_n hx hb dX10_find_14 rfl (lv_at hl 5 rfl) ?_
  refine lv_iconst (v := (0 : Int32)) hx hb dX10_find_15 (by decide) ?_
  refine lv_bipush (v := (40 : Int32)) hx hb dX10_find_16 (by decide) ?_
  obtain ⟨x6, w5, hc, hf⟩ := bd_some hf
  refine q_callS1 (v := .int x6) (As := [.int v3, .int (0 : Int32), .int (40 : Int32)]) C hH gk_X10_99 yd_X10_isWithin (by omega) (by omega) (c_X10_isWithin hc) hl.1 rfl (Nat.le_of_ble_eq_true rfl) dX10_find_18 xv_00 (fun H locs hH z_x6 => ?_)
  rcases bdx_some hf with ⟨k, w7, hc, rfl⟩ | ⟨u, w7, hc, hf⟩
  · exact q_xrunX (k0 := k) (q_xS (As := [.int x6]) C hH gk_X10_103 yd_X10_checkArgument (by omega) (by omega) (c_X10_checkArgument (r := .inl k) htr z_x6 hc) hl.1 rfl (Nat.le_of_ble_eq_true rfl) dX10_find_21 (xv_le rfl)) hH (fun H locs ce q hH h1 h2 h3 => q_out C hH hxt h1 h2 h3 (xv_1 rfl) (xv_6 rfl))
  refine q_xrun (ov := none) (q_xS (As := [.int x6]) C hH gk_X10_103 yd_X10_checkArgument (by omega) (by omega) (c_X10_checkArgument (r := .inr u) htr z_x6 hc) hl.1 rfl (Nat.le_of_ble_eq_true rfl) dX10_find_21 (xv_0 rfl xv_00)) hH (fun H locs hH hP => ?_)
  refine lv_aload_n hx hb dX10_find_24 rfl (lv_at hl 2 rfl) ?_
  refine fg_X10_41 C hH dX10_find_25 ?_
  refine lv_aload hx hb dX10_find_28 (lv_at hl 0 rfl) ?_
  refine lv_aload_n hx hb dX10_find_30 rfl (lv_at hl 2 rfl) ?_
  refine fg_X10_81 C hH dX10_find_31 ?_
  obtain ⟨x9, w8, hc, hf⟩ := bd_some hf
  refine q_callV1 (v := .int x9) (As := [.ref (B + r4), .ref (B + 701)]) C hH (ci := 1) rfl (by omega) gk_X10_307 yd_X1_foldInto (by omega) (by omega) kc_639 (c_X1_foldInto k_r4 kc_701 hc) hl.1 rfl (Nat.le_of_ble_eq_true rfl) dX10_find_34 xv_00 (fun H locs hH z_x9 => ?_)
  refine b_if_eq (tgt := 60) hx hb hf dX10_find_37 (by decide) (fun hf => ?_) (fun hf => ?_)
  · exact t_X10_find_60 C hxt htr k_r2 hH (lv_sub hl [2, 5, 1] rfl) hf
  · refine lv_aload_n hx hb dX10_find_40 rfl (lv_at hl 2 rfl) ?_
    refine fg_X10_41 C hH dX10_find_41 ?_
    refine lv_aload hx hb dX10_find_44 (lv_at hl 1 rfl) ?_
    refine lv_aload_n hx hb dX10_find_46 rfl (lv_at hl 2 rfl) ?_
    refine fg_X10_78 C hH dX10_find_47 ?_
    obtain ⟨x11, w10, hc, hf⟩ := bd_some hf
    refine q_callV1 (v := .int x11) (As := [.ref (B + r2), .ref (B + 699)]) C hH (ci := 1) rfl (by omega) gk_X10_307 yd_X1_foldInto (by omega) (by omega) kc_639 (c_X1_foldInto k_r2 kc_699 hc) hl.1 rfl (Nat.le_of_ble_eq_true rfl) dX10_find_50 xv_00 (fun H locs hH z_x11 => ?_)
    refine b_if_eq (tgt := 60) hx hb hf dX10_find_53 (by decide) (fun hf => ?_) (fun hf => ?_)
    · exact t_X10_find_60 C hxt htr k_r2 hH (lv_sub hl [2, 5, 1] rfl) hf
    · refine lv_iconst (v := (1 : Int32)) hx hb dX10_find_56 (by decide) ?_
      refine lv_goto (tgt := 61) hx hb dX10_find_57 (by decide) ?_
      exact t_X10_find_61 C hxt htr k_r2 isZ_1 hH (lv_sub hl [2, 5, 1] rfl) hf
set_option maxRecDepth 100000 in
theorem c_X10_find {l : Launch} {D : va_G} {B : Nat} {Y : Nat → ClassId} {v1 : Int32} {v2 : Int32} {v3 : Int32} {w : Wd} {r : (Nat ⊕ Int32)} {w1 : Wd} (htr : l.stackTraces = false)   (hf : f_X10_find v1 v2 v3 w = some (r, w1)) : XM l D B Y yX10_find cX10_find 10 (some .int) 5 [.ref (B + 0), .int v1, .int v2, .int v3] w (zoI r) w1 True :=
  XM_of (by decide +kernel) (Nat.le_of_ble_eq_true rfl) (fun p e s m args below meth c ls C hxt hH hl => t_X10_find_0 C hxt htr  hH (lv_sub hl [0, 1, 2, 3] rfl) hf)
/-! LetterTables$Pattern.readLetter -/
set_option maxRecDepth 100000 in
set_option maxHeartbeats 4000000 in
theorem t_X5_readLetter_0 {D : va_G} {B : Nat} {Y : Nat → ClassId} {p : Program} {l : Launch} {e : Env} {s : State} {m : MethodId} {args : Array Value} {below : List Frame} {meth : Method} {c : Code} {z : (Int32 × Wd)} {H : Heap} {locs : List Loc} {ls : Array Slot} {w : Wd} {v0 : Nat} {v1 : Nat} (C : CX D B Y p s m args meth c cX5_readLetter 5 RX5 (some .int))   (k_v0 : KD v0 = 5) (k_v1 : KD v1 = 7)  (hH : HS D B Y w s H locs) (hl : lv_has ls 5 [(0, .ref (B + v0)), (1, .ref (B + v1))]) (hf : f_X5_readLetter v0 v1 w = some z) : W p l e (RM 2 0 0) s m args below meth c H locs 0 0 (MQ below (QG D B Y (some (.int z.1)) z.2 True) args s 0 0 (AB B)) (F0 m 0 ls []) := by
  have hx := C.1
  have hb := C.2.1
  unfold f_X5_readLetter at hf
  refine lv_aload_n hx hb dX5_readLetter_0 rfl (lv_at hl 1 rfl) ?_
  refine lv_aload_n hx hb dX5_readLetter_1 rfl (lv_at hl 0 rfl) ?_
  refine fg_X5_36 C hH k_v0 dX5_readLetter_2 ?_
  refine lv_iconst (v := (1 : Int32)) hx hb dX5_readLetter_5 (by decide) ?_
  refine lv_iadd hx hb dX5_readLetter_6 ?_
  obtain ⟨x2, w1, hc, hf⟩ := bd_some hf
  refine q_callV1 (v := .int x2) (As := [.int ((w.1 v0 4) + (1 : Int32))]) C hH (ci := 7) rfl (by omega) gk_X5_44 yd_X7_get (by omega) (by omega) k_v1 (c_X7_get k_v1 hc) hl.1 rfl (Nat.le_of_ble_eq_true rfl) dX5_readLetter_7 xv_00 (fun H locs hH hP => ?_)
  refine lv_bipush (v := (48 : Int32)) hx hb dX5_readLetter_10 (by decide) ?_
  refine lv_isub hx hb dX5_readLetter_12 ?_
  refine b_leti hf (fun x3 hf => ?_)
  refine lv_istore_n (lv' := [(2, .int x3), (0, .ref (B + v0)), (1, .ref (B + v1))]) hx hb dX5_readLetter_13 rfl hl (by decide) rfl (fun ls hl => ?_)
  refine lv_aload_n hx hb dX5_readLetter_14 rfl (lv_at hl 2 rfl) ?_
  refine lv_aload_n hx hb dX5_readLetter_15 rfl (lv_at hl 1 rfl) ?_
  refine fg_X5_36 C hH k_v0 dX5_readLetter_16 ?_
  refine lv_iconst (v := (2 : Int32)) hx hb dX5_readLetter_19 (by decide) ?_
  refine lv_iadd hx hb dX5_readLetter_20 ?_
  obtain ⟨x5, w4, hc, hf⟩ := bd_some hf
  refine q_callV1 (v := .int x5) (As := [.int ((w1.1 v0 4) + (2 : Int32))]) C hH (ci := 7) rfl (by omega) gk_X5_44 yd_X7_get (by omega) (by omega) k_v1 (c_X7_get k_v1 hc) hl.1 rfl (Nat.le_of_ble_eq_true rfl) dX5_readLetter_21 xv_00 (fun H locs hH hP => ?_)
  refine lv_bipush (v := (48 : Int32)) hx hb dX5_readLetter_24 (by decide) ?_
  refine lv_isub hx hb dX5_readLetter_26 ?_
  refine b_leti hf (fun x6 hf => ?_)
  refine lv_istore_n (lv' := [(3, .int x6), (2, .int x3), (0, .ref (B + v0)), (1, .ref (B + v1))]) hx hb dX5_readLetter_27 rfl hl (by decide) rfl (fun ls hl => ?_)
  refine lv_bipush (v := (10 : Int32)) hx hb dX5_readLetter_28 (by decide) ?_
  refine lv_iload_n hx hb dX5_readLetter_30 rfl (lv_at hl 1 rfl) ?_
  refine lv_imul hx hb dX5_readLetter_31 ?_
  refine lv_iload_n hx hb dX5_readLetter_32 rfl (lv_at hl 0 rfl) ?_
  refine lv_iadd hx hb dX5_readLetter_33 ?_
  refine b_leti hf (fun x7 hf => ?_)
  refine lv_istore (lv' := [(4, .int x7), (3, .int x6), (2, .int x3), (0, .ref (B + v0)), (1, .ref (B + v1))]) hx hb dX5_readLetter_34 hl (by decide) rfl (fun ls hl => ?_)
  refine lv_iload_n hx hb dX5_readLetter_36 rfl (lv_at hl 2 rfl) ?_
  refine lv_iconst (v := (0 : Int32)) hx hb dX5_readLetter_37 (by decide) ?_
  refine lv_bipush (v := (9 : Int32)) hx hb dX5_readLetter_38 (by decide) ?_
  obtain ⟨x9, w8, hc, hf⟩ := bd_some hf
  refine q_callN1 (v := .int x9) (As := [.int x3, .int (0 : Int32), .int (9 : Int32)]) C hH (List.mem_of_getElem? (i := 7) rfl) wd_452 wd_50 wd_451 yd_X10_isWithin (by omega) (by omega) (c_X10_isWithin hc) hl.1 rfl (Nat.le_of_ble_eq_true rfl) dX5_readLetter_40 xv_00 (fun H locs hH z_x9 => ?_)
  refine b_if_eq (tgt := 69) hx hb hf dX5_readLetter_43 (by decide) (fun hf => ?_) (fun hf => ?_)
  · refine lv_iconst (v := (-1 : Int32)) hx hb dX5_readLetter_69 (by decide) ?_
    cases hf
    exact q_reti C hH trivial dX5_readLetter_70
  · refine lv_iload_n hx hb dX5_readLetter_46 rfl (lv_at hl 1 rfl) ?_
    refine lv_iconst (v := (0 : Int32)) hx hb dX5_readLetter_47 (by decide) ?_
    refine lv_bipush (v := (9 : Int32)) hx hb dX5_readLetter_48 (by decide) ?_
    obtain ⟨x11, w10, hc, hf⟩ := bd_some hf
    refine q_callN1 (v := .int x11) (As := [.int x6, .int (0 : Int32), .int (9 : Int32)]) C hH (List.mem_of_getElem? (i := 7) rfl) wd_452 wd_50 wd_451 yd_X10_isWithin (by omega) (by omega) (c_X10_isWithin hc) hl.1 rfl (Nat.le_of_ble_eq_true rfl) dX5_readLetter_50 xv_00 (fun H locs hH z_x11 => ?_)
    refine b_if_eq (tgt := 69) hx hb hf dX5_readLetter_53 (by decide) (fun hf => ?_) (fun hf => ?_)
    · refine lv_iconst (v := (-1 : Int32)) hx hb dX5_readLetter_69 (by decide) ?_
      cases hf
      exact q_reti C hH trivial dX5_readLetter_70
    · refine lv_iload hx hb dX5_readLetter_56 (lv_at hl 0 rfl) ?_
      obtain ⟨x13, w12, hc, hf⟩ := bd_some hf
      refine q_callN1 (v := .int x13) (As := [.int x7]) C hH (List.mem_of_getElem? (i := 8) rfl) wd_449 wd_50 wd_448 yd_X10_isLetter (by omega) (by omega) (c_X10_isLetter hc) hl.1 rfl (Nat.le_of_ble_eq_true rfl) dX5_readLetter_58 xv_00 (fun H locs hH z_x13 => ?_)
      refine b_if_eq (tgt := 69) hx hb hf dX5_readLetter_61 (by decide) (fun hf => ?_) (fun hf => ?_)
      · refine lv_iconst (v := (-1 : Int32)) hx hb dX5_readLetter_69 (by decide) ?_
        cases hf
        exact q_reti C hH trivial dX5_readLetter_70
      · refine lv_iload hx hb dX5_readLetter_64 (lv_at hl 0 rfl) ?_
        refine lv_goto (tgt := 70) hx hb dX5_readLetter_66 (by decide) ?_
        cases hf
        exact q_reti C hH trivial dX5_readLetter_70
set_option maxRecDepth 100000 in
theorem c_X5_readLetter {l : Launch} {D : va_G} {B : Nat} {Y : Nat → ClassId} {v0 : Nat} {v1 : Nat} {w : Wd} {r : Int32} {w1 : Wd} (k_v0 : KD v0 = 5) (k_v1 : KD v1 = 7)  (hf : f_X5_readLetter v0 v1 w = some (r, w1)) : CM l D B Y yX5_readLetter cX5_readLetter 5 (some .int) 2 [.ref (B + v0), .ref (B + v1)] w (some (.int r)) w1 True :=
  CM_of (by decide +kernel) (Nat.le_of_ble_eq_true rfl) (fun p e s m args below meth c ls C hH hl => t_X5_readLetter_0 C k_v0 k_v1 hH (lv_sub hl [0, 1] rfl) hf)
/-! LetterTables$Pattern.setOf -/
set_option maxRecDepth 100000 in
set_option maxHeartbeats 4000000 in
theorem t_X5_setOf_0 {D : va_G} {B : Nat} {Y : Nat → ClassId} {p : Program} {l : Launch} {e : Env} {s : State} {m : MethodId} {args : Array Value} {below : List Frame} {meth : Method} {c : Code} {z : (Int32 × Wd)} {H : Heap} {locs : List Loc} {ls : Array Slot} {w : Wd} {v0 : Int32} (C : CX D B Y p s m args meth c cX5_setOf 1 RX5 (some .int))     (hH : HS D B Y w s H locs) (hl : lv_has ls 1 [(0, .int v0)]) (hf : f_X5_setOf v0 w = some z) : W p l e (RM 0 0 0) s m args below meth c H locs 0 0 (MQ below (QG D B Y (some (.int z.1)) z.2 True) args s 0 0 (AB B)) (F0 m 0 ls []) := by
  have hx := C.1
  have hb := C.2.1
  unfold f_X5_setOf at hf
  refine lv_iload_n hx hb dX5_setOf_0 rfl (lv_at hl 0 rfl) ?_
  by_cases h_46 : v0 = 46
  · rw [if_pos h_46] at hf
    refine lv_lookup (tgt := 68) hx hb dX5_setOf_1 (by decide) (by rw [h_46]; try rfl) (by decide) ?_
    refine lv_bipush (v := (96 : Int32)) hx hb dX5_setOf_68 (by decide) ?_
    cases hf
    exact q_reti C hH trivial dX5_setOf_70
  rw [if_neg h_46] at hf
  by_cases h_66 : v0 = 66
  · rw [if_pos h_66] at hf
    refine lv_lookup (tgt := 77) hx hb dX5_setOf_1 (by decide) (by rw [h_66]; try rfl) (by decide) ?_
    refine lv_bipush (v := (103 : Int32)) hx hb dX5_setOf_77 (by decide) ?_
    cases hf
    exact q_reti C hH trivial dX5_setOf_79
  rw [if_neg h_66] at hf
  by_cases h_67 : v0 = 67
  · rw [if_pos h_67] at hf
    refine lv_lookup (tgt := 86) hx hb dX5_setOf_1 (by decide) (by rw [h_67]; try rfl) (by decide) ?_
    refine lv_bipush (v := (97 : Int32)) hx hb dX5_setOf_86 (by decide) ?_
    cases hf
    exact q_reti C hH trivial dX5_setOf_88
  rw [if_neg h_67] at hf
  by_cases h_68 : v0 = 68
  · rw [if_pos h_68] at hf
    refine lv_lookup (tgt := 80) hx hb dX5_setOf_1 (by decide) (by rw [h_68]; try rfl) (by decide) ?_
    refine lv_bipush (v := (104 : Int32)) hx hb dX5_setOf_80 (by decide) ?_
    cases hf
    exact q_reti C hH trivial dX5_setOf_82
  rw [if_neg h_68] at hf
  by_cases h_76 : v0 = 76
  · rw [if_pos h_76] at hf
    refine lv_lookup (tgt := 71) hx hb dX5_setOf_1 (by decide) (by rw [h_76]; try rfl) (by decide) ?_
    refine lv_bipush (v := (101 : Int32)) hx hb dX5_setOf_71 (by decide) ?_
    cases hf
    exact q_reti C hH trivial dX5_setOf_73
  rw [if_neg h_76] at hf
  by_cases h_77 : v0 = 77
  · rw [if_pos h_77] at hf
    refine lv_lookup (tgt := 74) hx hb dX5_setOf_1 (by decide) (by rw [h_77]; try rfl) (by decide) ?_
    refine lv_bipush (v := (102 : Int32)) hx hb dX5_setOf_74 (by decide) ?_
    cases hf
    exact q_reti C hH trivial dX5_setOf_76
  rw [if_neg h_77] at hf
  by_cases h_83 : v0 = 83
  · rw [if_pos h_83] at hf
    refine lv_lookup (tgt := 83) hx hb dX5_setOf_1 (by decide) (by rw [h_83]; try rfl) (by decide) ?_
    refine lv_bipush (v := (106 : Int32)) hx hb dX5_setOf_83 (by decide) ?_
    cases hf
    exact q_reti C hH trivial dX5_setOf_85
  rw [if_neg h_83] at hf
  refine lv_lookup (off := 88) (tgt := 89) hx hb dX5_setOf_1 (by decide) (by have q_46 : ¬ (46 : Int) = _ := fun e => sw_ne2 h_46 (by decide) e.symm; have q_66 : ¬ (66 : Int) = _ := fun e => sw_ne2 h_66 (by decide) e.symm; have q_67 : ¬ (67 : Int) = _ := fun e => sw_ne2 h_67 (by decide) e.symm; have q_68 : ¬ (68 : Int) = _ := fun e => sw_ne2 h_68 (by decide) e.symm; have q_76 : ¬ (76 : Int) = _ := fun e => sw_ne2 h_76 (by decide) e.symm; have q_77 : ¬ (77 : Int) = _ := fun e => sw_ne2 h_77 (by decide) e.symm; have q_83 : ¬ (83 : Int) = _ := fun e => sw_ne2 h_83 (by decide) e.symm; simp [Op.lookupswitch.offset, q_46, q_66, q_67, q_68, q_76, q_77, q_83]) (by decide) ?_
  refine lv_iconst (v := (-1 : Int32)) hx hb dX5_setOf_89 (by decide) ?_
  cases hf
  exact q_reti C hH trivial dX5_setOf_90
set_option maxRecDepth 100000 in
theorem c_X5_setOf {l : Launch} {D : va_G} {B : Nat} {Y : Nat → ClassId} {v0 : Int32} {w : Wd} {r : Int32} {w1 : Wd}   (hf : f_X5_setOf v0 w = some (r, w1)) : CM l D B Y yX5_setOf cX5_setOf 1 (some .int) 0 [.int v0] w (some (.int r)) w1 True :=
  CM_of (by decide +kernel) (Nat.le_of_ble_eq_true rfl) (fun p e s m args below meth c ls C hH hl => t_X5_setOf_0 C  hH (lv_sub hl [0] rfl) hf)
/-! LetterTables$Pattern.readSet -/
set_option maxRecDepth 100000 in
set_option maxHeartbeats 4000000 in
theorem t_X5_readSet_78 {D : va_G} {B : Nat} {Y : Nat → ClassId} {p : Program} {l : Launch} {e : Env} {s : State} {m : MethodId} {args : Array Value} {below : List Frame} {meth : Method} {c : Code} {z : (Int32 × Wd)} {H : Heap} {locs : List Loc} {ls : Array Slot} {w : Wd} {v2 : Int32} {v4 : Int32} {t0 : Nat} {t1 : Int32} {t2 : Int32} (C : CX D B Y p s m args meth c cX5_readSet 5 RX5 (some .int))   (k_t0 : KD t0 = 5) (z_v2 : isZ v2) (hH : HS D B Y w s H locs) (hl : lv_has ls 5 [(2, .int v2), (4, .int v4)]) (hf : f_X5_readSet_78 v2 v4 t0 t1 t2 w = some z) : W p l e (RM 3 0 0) s m args below meth c H locs 0 0 (MQ below (QG D B Y (some (.int z.1)) z.2 True) args s 0 0 (AB B)) (F0 m 78 ls [.int t2, .int t1, .ref (B + t0)]) := by
  have hx := C.1
  have hb := C.2.1
  unfold f_X5_readSet_78 at hf
  refine lv_iadd hx hb dX5_readSet_78 ?_
  refine fp_X5_36 C hH k_t0 dX5_readSet_79 (fun H locs hH => ?_)
  refine b_w hf hH (fun w1 hf hH => ?_)
  refine lv_iload hx hb dX5_readSet_82 (lv_at hl 1 rfl) ?_
  refine lv_iconst (v := (-1 : Int32)) hx hb dX5_readSet_84 (by decide) ?_
  refine b_icmp_eq (tgt := 101) hx hb hf dX5_readSet_85 (by decide) (fun hf => ?_) (fun hf => ?_)
  · refine lv_iload hx hb dX5_readSet_101 (lv_at hl 1 rfl) ?_
    cases hf
    exact q_reti C hH trivial dX5_readSet_103
  · refine lv_iload_n hx hb dX5_readSet_88 rfl (lv_at hl 0 rfl) ?_
    refine b_if_eq (tgt := 101) hx hb hf dX5_readSet_89 (by decide) (fun hf => ?_) (fun hf => ?_)
    · refine lv_iload hx hb dX5_readSet_101 (lv_at hl 1 rfl) ?_
      cases hf
      exact q_reti C hH trivial dX5_readSet_103
    · refine lv_sipush (v := (1000 : Int32)) hx hb dX5_readSet_92 (by decide) ?_
      refine lv_iload hx hb dX5_readSet_95 (lv_at hl 1 rfl) ?_
      refine lv_iadd hx hb dX5_readSet_97 ?_
      refine lv_goto (tgt := 103) hx hb dX5_readSet_98 (by decide) ?_
      cases hf
      exact q_reti C hH trivial dX5_readSet_103
set_option maxRecDepth 100000 in
set_option maxHeartbeats 4000000 in
theorem t_X5_readSet_60 {D : va_G} {B : Nat} {Y : Nat → ClassId} {p : Program} {l : Launch} {e : Env} {s : State} {m : MethodId} {args : Array Value} {below : List Frame} {meth : Method} {c : Code} {z : (Int32 × Wd)} {H : Heap} {locs : List Loc} {ls : Array Slot} {w : Wd} {v0 : Nat} {v2 : Int32} {v3 : Int32} {t0 : Int32} (C : CX D B Y p s m args meth c cX5_readSet 5 RX5 (some .int))   (k_v0 : KD v0 = 5) (z_v2 : isZ v2) (hH : HS D B Y w s H locs) (hl : lv_has ls 5 [(0, .ref (B + v0)), (2, .int v2), (3, .int v3)]) (hf : f_X5_readSet_60 v0 v2 v3 t0 w = some z) : W p l e (RM 3 0 0) s m args below meth c H locs 0 0 (MQ below (QG D B Y (some (.int z.1)) z.2 True) args s 0 0 (AB B)) (F0 m 60 ls [.int t0]) := by
  have hx := C.1
  have hb := C.2.1
  unfold f_X5_readSet_60 at hf
  refine lv_istore (lv' := [(4, .int t0), (0, .ref (B + v0)), (2, .int v2), (3, .int v3)]) hx hb dX5_readSet_60 hl (by decide) rfl (fun ls hl => ?_)
  refine lv_aload_n hx hb dX5_readSet_62 rfl (lv_at hl 1 rfl) ?_
  refine lv_dup hx hb dX5_readSet_63 rfl ?_
  refine fg_X5_36 C hH k_v0 dX5_readSet_64 ?_
  refine lv_iload_n hx hb dX5_readSet_67 rfl (lv_at hl 3 rfl) ?_
  refine lv_bipush (v := (35 : Int32)) hx hb dX5_readSet_68 (by decide) ?_
  refine b_icmp_ne (tgt := 77) hx hb hf dX5_readSet_70 (by decide) (fun hf => ?_) (fun hf => ?_)
  · refine lv_iconst (v := (1 : Int32)) hx hb dX5_readSet_77 (by decide) ?_
    exact t_X5_readSet_78 C k_v0 z_v2 hH (lv_sub hl [2, 0] rfl) hf
  · refine lv_iconst (v := (3 : Int32)) hx hb dX5_readSet_73 (by decide) ?_
    refine lv_goto (tgt := 78) hx hb dX5_readSet_74 (by decide) ?_
    exact t_X5_readSet_78 C k_v0 z_v2 hH (lv_sub hl [2, 0] rfl) hf
set_option maxRecDepth 100000 in
set_option maxHeartbeats 4000000 in
theorem t_X5_readSet_33 {D : va_G} {B : Nat} {Y : Nat → ClassId} {p : Program} {l : Launch} {e : Env} {s : State} {m : MethodId} {args : Array Value} {below : List Frame} {meth : Method} {c : Code} {z : (Int32 × Wd)} {H : Heap} {locs : List Loc} {ls : Array Slot} {w : Wd} {v0 : Nat} {v1 : Nat} {v2 : Int32} (C : CX D B Y p s m args meth c cX5_readSet 5 RX5 (some .int))   (k_v0 : KD v0 = 5) (k_v1 : KD v1 = 7) (z_v2 : isZ v2) (hH : HS D B Y w s H locs) (hl : lv_has ls 5 [(0, .ref (B + v0)), (1, .ref (B + v1)), (2, .int v2)]) (hf : f_X5_readSet_33 v0 v1 v2 w = some z) : W p l e (RM 3 0 0) s m args below meth c H locs 0 0 (MQ below (QG D B Y (some (.int z.1)) z.2 True) args s 0 0 (AB B)) (F0 m 33 ls []) := by
  have hx := C.1
  have hb := C.2.1
  unfold f_X5_readSet_33 at hf
  refine lv_aload_n hx hb dX5_readSet_33 rfl (lv_at hl 1 rfl) ?_
  refine lv_aload_n hx hb dX5_readSet_34 rfl (lv_at hl 0 rfl) ?_
  refine fg_X5_36 C hH k_v0 dX5_readSet_35 ?_
  obtain ⟨x2, w1, hc, hf⟩ := bd_some hf
  refine q_callV1 (v := .int x2) (As := [.int (w.1 v0 4)]) C hH (ci := 7) rfl (by omega) gk_X5_44 yd_X7_get (by omega) (by omega) k_v1 (c_X7_get k_v1 hc) hl.1 rfl (Nat.le_of_ble_eq_true rfl) dX5_readSet_38 xv_00 (fun H locs hH hP => ?_)
  refine lv_istore_n (lv' := [(3, .int x2), (0, .ref (B + v0)), (1, .ref (B + v1)), (2, .int v2)]) hx hb dX5_readSet_41 rfl hl (by decide) rfl (fun ls hl => ?_)
  refine lv_iload_n hx hb dX5_readSet_42 rfl (lv_at hl 0 rfl) ?_
  refine lv_bipush (v := (35 : Int32)) hx hb dX5_readSet_43 (by decide) ?_
  refine b_icmp_ne (tgt := 56) hx hb hf dX5_readSet_45 (by decide) (fun hf => ?_) (fun hf => ?_)
  · refine lv_iload_n hx hb dX5_readSet_56 rfl (lv_at hl 0 rfl) ?_
    obtain ⟨x4, w3, hc, hf⟩ := bd_some hf
    refine q_callS1 (v := .int x4) (As := [.int x2]) C hH gk_X5_59 yd_X5_setOf (by omega) (by omega) (c_X5_setOf hc) hl.1 rfl (Nat.le_of_ble_eq_true rfl) dX5_readSet_57 xv_00 (fun H locs hH hP => ?_)
    exact t_X5_readSet_60 C k_v0 z_v2 hH (lv_sub hl [1, 3, 0] rfl) hf
  · refine lv_aload_n hx hb dX5_readSet_48 rfl (lv_at hl 1 rfl) ?_
    refine lv_aload_n hx hb dX5_readSet_49 rfl (lv_at hl 2 rfl) ?_
    obtain ⟨x6, w5, hc, hf⟩ := bd_some hf
    refine q_callV1 (v := .int x6) (As := [.ref (B + v1)]) C hH (ci := 5) rfl (by omega) gk_X5_56 yd_X5_readLetter (by omega) (by omega) k_v0 (c_X5_readLetter k_v0 k_v1 hc) hl.1 rfl (Nat.le_of_ble_eq_true rfl) dX5_readSet_50 xv_00 (fun H locs hH hP => ?_)
    refine lv_goto (tgt := 60) hx hb dX5_readSet_53 (by decide) ?_
    exact t_X5_readSet_60 C k_v0 z_v2 hH (lv_sub hl [1, 3, 0] rfl) hf
set_option maxRecDepth 100000 in
set_option maxHeartbeats 4000000 in
theorem t_X5_readSet_18 {D : va_G} {B : Nat} {Y : Nat → ClassId} {p : Program} {l : Launch} {e : Env} {s : State} {m : MethodId} {args : Array Value} {below : List Frame} {meth : Method} {c : Code} {z : (Int32 × Wd)} {H : Heap} {locs : List Loc} {ls : Array Slot} {w : Wd} {v0 : Nat} {v1 : Nat} {t0 : Int32} (C : CX D B Y p s m args meth c cX5_readSet 5 RX5 (some .int))   (k_v0 : KD v0 = 5) (k_v1 : KD v1 = 7) (z_t0 : isZ t0) (hH : HS D B Y w s H locs) (hl : lv_has ls 5 [(0, .ref (B + v0)), (1, .ref (B + v1))]) (hf : f_X5_readSet_18 v0 v1 t0 w = some z) : W p l e (RM 3 0 0) s m args below meth c H locs 0 0 (MQ below (QG D B Y (some (.int z.1)) z.2 True) args s 0 0 (AB B)) (F0 m 18 ls [.int t0]) := by
  have hx := C.1
  have hb := C.2.1
  unfold f_X5_readSet_18 at hf
  refine lv_istore_n (lv' := [(2, .int t0), (0, .ref (B + v0)), (1, .ref (B + v1))]) hx hb dX5_readSet_18 rfl hl (by decide) rfl (fun ls hl => ?_)
  refine lv_iload_n hx hb dX5_readSet_19 rfl (lv_at hl 0 rfl) ?_
  refine b_if_eq (tgt := 33) hx hb hf dX5_readSet_20 (by decide) (fun hf => ?_) (fun hf => ?_)
  · exact t_X5_readSet_33 C k_v0 k_v1 z_t0 hH (lv_sub hl [1, 2, 0] rfl) hf
  · refine lv_aload_n hx hb dX5_readSet_23 rfl (lv_at hl 1 rfl) ?_
    refine lv_dup hx hb dX5_readSet_24 rfl ?_
    refine fg_X5_36 C hH k_v0 dX5_readSet_25 ?_
    refine lv_iconst (v := (1 : Int32)) hx hb dX5_readSet_28 (by decide) ?_
    refine lv_iadd hx hb dX5_readSet_29 ?_
    refine fp_X5_36 C hH k_v0 dX5_readSet_30 (fun H locs hH => ?_)
    refine b_w hf hH (fun w1 hf hH => ?_)
    exact t_X5_readSet_33 C k_v0 k_v1 z_t0 hH (lv_sub hl [1, 2, 0] rfl) hf
set_option maxRecDepth 100000 in
set_option maxHeartbeats 4000000 in
theorem t_X5_readSet_0 {D : va_G} {B : Nat} {Y : Nat → ClassId} {p : Program} {l : Launch} {e : Env} {s : State} {m : MethodId} {args : Array Value} {below : List Frame} {meth : Method} {c : Code} {z : (Int32 × Wd)} {H : Heap} {locs : List Loc} {ls : Array Slot} {w : Wd} {v0 : Nat} {v1 : Nat} (C : CX D B Y p s m args meth c cX5_readSet 5 RX5 (some .int))   (k_v0 : KD v0 = 5) (k_v1 : KD v1 = 7)  (hH : HS D B Y w s H locs) (hl : lv_has ls 5 [(0, .ref (B + v0)), (1, .ref (B + v1))]) (hf : f_X5_readSet v0 v1 w = some z) : W p l e (RM 3 0 0) s m args below meth c H locs 0 0 (MQ below (QG D B Y (some (.int z.1)) z.2 True) args s 0 0 (AB B)) (F0 m 0 ls []) := by
  have hx := C.1
  have hb := C.2.1
  unfold f_X5_readSet at hf
  refine lv_aload_n hx hb dX5_readSet_0 rfl (lv_at hl 1 rfl) ?_
  refine lv_aload_n hx hb dX5_readSet_1 rfl (lv_at hl 0 rfl) ?_
  refine fg_X5_36 C hH k_v0 dX5_readSet_2 ?_
  obtain ⟨x2, w1, hc, hf⟩ := bd_some hf
  refine q_callV1 (v := .int x2) (As := [.int (w.1 v0 4)]) C hH (ci := 7) rfl (by omega) gk_X5_44 yd_X7_get (by omega) (by omega) k_v1 (c_X7_get k_v1 hc) hl.1 rfl (Nat.le_of_ble_eq_true rfl) dX5_readSet_5 xv_00 (fun H locs hH hP => ?_)
  refine lv_bipush (v := (33 : Int32)) hx hb dX5_readSet_8 (by decide) ?_
  refine b_icmp_ne (tgt := 17) hx hb hf dX5_readSet_10 (by decide) (fun hf => ?_) (fun hf => ?_)
  · refine lv_iconst (v := (0 : Int32)) hx hb dX5_readSet_17 (by decide) ?_
    exact t_X5_readSet_18 C k_v0 k_v1 isZ_0 hH (lv_sub hl [0, 1] rfl) hf
  · refine lv_iconst (v := (1 : Int32)) hx hb dX5_readSet_13 (by decide) ?_
    refine lv_goto (tgt := 18) hx hb dX5_readSet_14 (by decide) ?_
    exact t_X5_readSet_18 C k_v0 k_v1 isZ_1 hH (lv_sub hl [0, 1] rfl) hf
set_option maxRecDepth 100000 in
theorem c_X5_readSet {l : Launch} {D : va_G} {B : Nat} {Y : Nat → ClassId} {v0 : Nat} {v1 : Nat} {w : Wd} {r : Int32} {w1 : Wd} (k_v0 : KD v0 = 5) (k_v1 : KD v1 = 7)  (hf : f_X5_readSet v0 v1 w = some (r, w1)) : CM l D B Y yX5_readSet cX5_readSet 5 (some .int) 3 [.ref (B + v0), .ref (B + v1)] w (some (.int r)) w1 True :=
  CM_of (by decide +kernel) (Nat.le_of_ble_eq_true rfl) (fun p e s m args below meth c ls C hH hl => t_X5_readSet_0 C k_v0 k_v1 hH (lv_sub hl [0, 1] rfl) hf)
/-! LetterTables$Pattern.readPiece -/
set_option maxRecDepth 100000 in
set_option maxHeartbeats 4000000 in
theorem t_X5_readPiece_134 {D : va_G} {B : Nat} {Y : Nat → ClassId} {p : Program} {l : Launch} {e : Env} {s : State} {m : MethodId} {args : Array Value} {below : List Frame} {meth : Method} {c : Code} {z : (Int32 × Wd)} {H : Heap} {locs : List Loc} {ls : Array Slot} {w : Wd} {t0 : Nat} {t1 : Int32} (C : CX D B Y p s m args meth c cX5_readPiece 6 RX5 (some .boolean))   (k_t0 : KD t0 = 7)  (hH : HS D B Y w s H locs) (hl : lv_has ls 6 []) (hf : f_X5_readPiece_134 t0 t1 w = some z) : W p l e (RM 4 0 0) s m args below meth c H locs 0 0 (MQ below (QG D B Y (some (.int z.1)) z.2 (isZ z.1)) args s 0 0 (AB B)) (F0 m 134 ls [.int t1, .ref (B + t0)]) := by
  have hx := C.1
  have hb := C.2.1
  unfold f_X5_readPiece_134 at hf
  obtain ⟨x2, w1, hc, hf⟩ := bd_some hf
  refine q_callV1 (v := .int x2) (As := [.int t1]) C hH (ci := 7) rfl (by omega) gk_X5_52 yd_X7_add (by omega) (by omega) k_t0 (c_X7_add k_t0 hc) hl.1 rfl (Nat.le_of_ble_eq_true rfl) dX5_readPiece_134 xv_00 (fun H locs hH z_x2 => ?_)
  refine b_if_eq (tgt := 144) hx hb hf dX5_readPiece_137 (by decide) (fun hf => ?_) (fun hf => ?_)
  · refine lv_iconst (v := (0 : Int32)) hx hb dX5_readPiece_144 (by decide) ?_
    cases hf
    exact q_retz C hH isZ_0 isZ_0 dX5_readPiece_145
  · refine lv_iconst (v := (1 : Int32)) hx hb dX5_readPiece_140 (by decide) ?_
    refine lv_goto (tgt := 145) hx hb dX5_readPiece_141 (by decide) ?_
    cases hf
    exact q_retz C hH isZ_1 isZ_1 dX5_readPiece_145
set_option maxRecDepth 100000 in
set_option maxHeartbeats 4000000 in
theorem t_X5_readPiece_97 {D : va_G} {B : Nat} {Y : Nat → ClassId} {p : Program} {l : Launch} {e : Env} {s : State} {m : MethodId} {args : Array Value} {below : List Frame} {meth : Method} {c : Code} {z : (Int32 × Wd)} {H : Heap} {locs : List Loc} {ls : Array Slot} {w : Wd} {v0 : Nat} {v2 : Int32} {v3 : Int32} {v4 : Int32} {v5 : Int32} (C : CX D B Y p s m args meth c cX5_readPiece 6 RX5 (some .boolean))   (k_v0 : KD v0 = 5) (z_v5 : isZ v5) (hH : HS D B Y w s H locs) (hl : lv_has ls 6 [(0, .ref (B + v0)), (2, .int v2), (3, .int v3), (4, .int v4), (5, .int v5)]) (hf : f_X5_readPiece_97 v0 v2 v3 v4 v5 w = some z) : W p l e (RM 4 0 0) s m args below meth c H locs 0 0 (MQ below (QG D B Y (some (.int z.1)) z.2 (isZ z.1)) args s 0 0 (AB B)) (F0 m 97 ls []) := by
  have hx := C.1
  have hb := C.2.1
  unfold f_X5_readPiece_97 at hf
  refine lv_aload_n hx hb dX5_readPiece_97 rfl (lv_at hl 0 rfl) ?_
  refine fg_X5_14 C hH k_v0 dX5_readPiece_98 ?_
  refine lv_iload_n hx hb dX5_readPiece_101 rfl (lv_at hl 1 rfl) ?_
  obtain ⟨x2, w1, hc, hf⟩ := bd_some hf
  refine q_callV1 (v := .int x2) (As := [.int v2]) C hH (ci := 7) rfl (by omega) gk_X5_52 yd_X7_add (by omega) (by omega) (ko_5_0 k_v0) (c_X7_add (ko_5_0 k_v0) hc) hl.1 rfl (Nat.le_of_ble_eq_true rfl) dX5_readPiece_102 xv_00 (fun H locs hH z_x2 => ?_)
  refine b_if_eq (tgt := 144) hx hb hf dX5_readPiece_105 (by decide) (fun hf => ?_) (fun hf => ?_)
  · refine lv_iconst (v := (0 : Int32)) hx hb dX5_readPiece_144 (by decide) ?_
    cases hf
    exact q_retz C hH isZ_0 isZ_0 dX5_readPiece_145
  · refine lv_aload_n hx hb dX5_readPiece_108 rfl (lv_at hl 0 rfl) ?_
    refine fg_X5_20 C hH k_v0 dX5_readPiece_109 ?_
    refine lv_iload_n hx hb dX5_readPiece_112 rfl (lv_at hl 2 rfl) ?_
    obtain ⟨x4, w3, hc, hf⟩ := bd_some hf
    refine q_callV1 (v := .int x4) (As := [.int v3]) C hH (ci := 7) rfl (by omega) gk_X5_52 yd_X7_add (by omega) (by omega) (ko_5_1 k_v0) (c_X7_add (ko_5_1 k_v0) hc) hl.1 rfl (Nat.le_of_ble_eq_true rfl) dX5_readPiece_113 xv_00 (fun H locs hH z_x4 => ?_)
    refine b_if_eq (tgt := 144) hx hb hf dX5_readPiece_116 (by decide) (fun hf => ?_) (fun hf => ?_)
    · refine lv_iconst (v := (0 : Int32)) hx hb dX5_readPiece_144 (by decide) ?_
      cases hf
      exact q_retz C hH isZ_0 isZ_0 dX5_readPiece_145
    · refine lv_aload_n hx hb dX5_readPiece_119 rfl (lv_at hl 0 rfl) ?_
      refine fg_X5_23 C hH k_v0 dX5_readPiece_120 ?_
      refine lv_iload hx hb dX5_readPiece_123 (lv_at hl 4 rfl) ?_
      refine b_if_eq (tgt := 133) hx hb hf dX5_readPiece_125 (by decide) (fun hf => ?_) (fun hf => ?_)
      · refine lv_iconst (v := (-1 : Int32)) hx hb dX5_readPiece_133 (by decide) ?_
        exact t_X5_readPiece_134 C (ko_5_2 k_v0) hH (lv_sub hl [] rfl) hf
      · refine lv_iload hx hb dX5_readPiece_128 (lv_at hl 3 rfl) ?_
        refine lv_goto (tgt := 134) hx hb dX5_readPiece_130 (by decide) ?_
        exact t_X5_readPiece_134 C (ko_5_2 k_v0) hH (lv_sub hl [] rfl) hf
set_option maxRecDepth 100000 in
set_option maxHeartbeats 4000000 in
theorem t_X5_readPiece_80 {D : va_G} {B : Nat} {Y : Nat → ClassId} {p : Program} {l : Launch} {e : Env} {s : State} {m : MethodId} {args : Array Value} {below : List Frame} {meth : Method} {c : Code} {z : (Int32 × Wd)} {H : Heap} {locs : List Loc} {ls : Array Slot} {w : Wd} {v0 : Nat} {v2 : Int32} {v3 : Int32} {v4 : Int32} {t0 : Int32} (C : CX D B Y p s m args meth c cX5_readPiece 6 RX5 (some .boolean))   (k_v0 : KD v0 = 5) (z_t0 : isZ t0) (hH : HS D B Y w s H locs) (hl : lv_has ls 6 [(0, .ref (B + v0)), (2, .int v2), (3, .int v3), (4, .int v4)]) (hf : f_X5_readPiece_80 v0 v2 v3 v4 t0 w = some z) : W p l e (RM 4 0 0) s m args below meth c H locs 0 0 (MQ below (QG D B Y (some (.int z.1)) z.2 (isZ z.1)) args s 0 0 (AB B)) (F0 m 80 ls [.int t0]) := by
  have hx := C.1
  have hb := C.2.1
  unfold f_X5_readPiece_80 at hf
  refine lv_istore (lv' := [(5, .int t0), (0, .ref (B + v0)), (2, .int v2), (3, .int v3), (4, .int v4)]) hx hb dX5_readPiece_80 hl (by decide) rfl (fun ls hl => ?_)
  refine lv_iload hx hb dX5_readPiece_82 (lv_at hl 0 rfl) ?_
  refine b_if_eq (tgt := 97) hx hb hf dX5_readPiece_84 (by decide) (fun hf => ?_) (fun hf => ?_)
  · exact t_X5_readPiece_97 C k_v0 z_t0 hH (lv_sub hl [1, 2, 3, 4, 0] rfl) hf
  · refine lv_aload_n hx hb dX5_readPiece_87 rfl (lv_at hl 1 rfl) ?_
    refine lv_dup hx hb dX5_readPiece_88 rfl ?_
    refine fg_X5_36 C hH k_v0 dX5_readPiece_89 ?_
    refine lv_iconst (v := (1 : Int32)) hx hb dX5_readPiece_92 (by decide) ?_
    refine lv_iadd hx hb dX5_readPiece_93 ?_
    refine fp_X5_36 C hH k_v0 dX5_readPiece_94 (fun H locs hH => ?_)
    refine b_w hf hH (fun w1 hf hH => ?_)
    exact t_X5_readPiece_97 C k_v0 z_t0 hH (lv_sub hl [1, 2, 3, 4, 0] rfl) hf
set_option maxRecDepth 100000 in
set_option maxHeartbeats 4000000 in
theorem t_X5_readPiece_38 {D : va_G} {B : Nat} {Y : Nat → ClassId} {p : Program} {l : Launch} {e : Env} {s : State} {m : MethodId} {args : Array Value} {below : List Frame} {meth : Method} {c : Code} {z : (Int32 × Wd)} {H : Heap} {locs : List Loc} {ls : Array Slot} {w : Wd} {v0 : Nat} {v1 : Nat} {v2 : Int32} (C : CX D B Y p s m args meth c cX5_readPiece 6 RX5 (some .boolean))   (k_v0 : KD v0 = 5) (k_v1 : KD v1 = 7)  (hH : HS D B Y w s H locs) (hl : lv_has ls 6 [(0, .ref (B + v0)), (1, .ref (B + v1)), (2, .int v2)]) (hf : f_X5_readPiece_38 v0 v1 v2 w = some z) : W p l e (RM 4 0 0) s m args below meth c H locs 0 0 (MQ below (QG D B Y (some (.int z.1)) z.2 (isZ z.1)) args s 0 0 (AB B)) (F0 m 38 ls []) := by
  have hx := C.1
  have hb := C.2.1
  unfold f_X5_readPiece_38 at hf
  refine lv_aload_n hx hb dX5_readPiece_38 rfl (lv_at hl 0 rfl) ?_
  refine lv_aload_n hx hb dX5_readPiece_39 rfl (lv_at hl 1 rfl) ?_
  obtain ⟨x2, w1, hc, hf⟩ := bd_some hf
  refine q_callV1 (v := .int x2) (As := [.ref (B + v1)]) C hH (ci := 5) rfl (by omega) gk_X5_48 yd_X5_readSet (by omega) (by omega) k_v0 (c_X5_readSet k_v0 k_v1 hc) hl.1 rfl (Nat.le_of_ble_eq_true rfl) dX5_readPiece_40 xv_00 (fun H locs hH hP => ?_)
  refine lv_istore_n (lv' := [(3, .int x2), (0, .ref (B + v0)), (1, .ref (B + v1)), (2, .int v2)]) hx hb dX5_readPiece_43 rfl hl (by decide) rfl (fun ls hl => ?_)
  refine lv_iload_n hx hb dX5_readPiece_44 rfl (lv_at hl 0 rfl) ?_
  refine lv_iconst (v := (-1 : Int32)) hx hb dX5_readPiece_45 (by decide) ?_
  refine b_icmp_ne (tgt := 51) hx hb hf dX5_readPiece_46 (by decide) (fun hf => ?_) (fun hf => ?_)
  · refine lv_aload_n hx hb dX5_readPiece_51 rfl (lv_at hl 2 rfl) ?_
    refine lv_aload_n hx hb dX5_readPiece_52 rfl (lv_at hl 1 rfl) ?_
    refine fg_X5_36 C hH k_v0 dX5_readPiece_53 ?_
    obtain ⟨x4, w3, hc, hf⟩ := bd_some hf
    refine q_callV1 (v := .int x4) (As := [.int (w1.1 v0 4)]) C hH (ci := 7) rfl (by omega) gk_X5_44 yd_X7_get (by omega) (by omega) k_v1 (c_X7_get k_v1 hc) hl.1 rfl (Nat.le_of_ble_eq_true rfl) dX5_readPiece_56 xv_00 (fun H locs hH hP => ?_)
    refine lv_istore (lv' := [(4, .int x4), (3, .int x2), (0, .ref (B + v0)), (1, .ref (B + v1)), (2, .int v2)]) hx hb dX5_readPiece_59 hl (by decide) rfl (fun ls hl => ?_)
    refine lv_iload hx hb dX5_readPiece_61 (lv_at hl 0 rfl) ?_
    refine lv_bipush (v := (42 : Int32)) hx hb dX5_readPiece_63 (by decide) ?_
    refine b_icmp_eq (tgt := 75) hx hb hf dX5_readPiece_65 (by decide) (fun hf => ?_) (fun hf => ?_)
    · refine lv_iconst (v := (1 : Int32)) hx hb dX5_readPiece_75 (by decide) ?_
      refine lv_goto (tgt := 80) hx hb dX5_readPiece_76 (by decide) ?_
      exact t_X5_readPiece_80 C k_v0 isZ_1 hH (lv_sub hl [2, 4, 1, 0] rfl) hf
    · refine lv_iload hx hb dX5_readPiece_68 (lv_at hl 0 rfl) ?_
      refine lv_bipush (v := (63 : Int32)) hx hb dX5_readPiece_70 (by decide) ?_
      refine b_icmp_ne (tgt := 79) hx hb hf dX5_readPiece_72 (by decide) (fun hf => ?_) (fun hf => ?_)
      · refine lv_iconst (v := (0 : Int32)) hx hb dX5_readPiece_79 (by decide) ?_
        exact t_X5_readPiece_80 C k_v0 isZ_0 hH (lv_sub hl [2, 4, 1, 0] rfl) hf
      · refine lv_iconst (v := (1 : Int32)) hx hb dX5_readPiece_75 (by decide) ?_
        refine lv_goto (tgt := 80) hx hb dX5_readPiece_76 (by decide) ?_
        exact t_X5_readPiece_80 C k_v0 isZ_1 hH (lv_sub hl [2, 4, 1, 0] rfl) hf
  · refine lv_iconst (v := (0 : Int32)) hx hb dX5_readPiece_49 (by decide) ?_
    cases hf
    exact q_retz C hH isZ_0 isZ_0 dX5_readPiece_50
set_option maxRecDepth 100000 in
set_option maxHeartbeats 4000000 in
theorem t_X5_readPiece_0 {D : va_G} {B : Nat} {Y : Nat → ClassId} {p : Program} {l : Launch} {e : Env} {s : State} {m : MethodId} {args : Array Value} {below : List Frame} {meth : Method} {c : Code} {z : (Int32 × Wd)} {H : Heap} {locs : List Loc} {ls : Array Slot} {w : Wd} {v0 : Nat} {v1 : Nat} (C : CX D B Y p s m args meth c cX5_readPiece 6 RX5 (some .boolean))   (k_v0 : KD v0 = 5) (k_v1 : KD v1 = 7)  (hH : HS D B Y w s H locs) (hl : lv_has ls 6 [(0, .ref (B + v0)), (1, .ref (B + v1))]) (hf : f_X5_readPiece v0 v1 w = some z) : W p l e (RM 4 0 0) s m args below meth c H locs 0 0 (MQ below (QG D B Y (some (.int z.1)) z.2 (isZ z.1)) args s 0 0 (AB B)) (F0 m 0 ls []) := by
  have hx := C.1
  have hb := C.2.1
  unfold f_X5_readPiece at hf
  refine lv_iconst (v := (-1 : Int32)) hx hb dX5_readPiece_0 (by decide) ?_
  refine lv_istore_n (lv' := [(2, .int (-1 : Int32)), (0, .ref (B + v0)), (1, .ref (B + v1))]) hx hb dX5_readPiece_1 rfl hl (by decide) rfl (fun ls hl => ?_)
  refine lv_aload_n hx hb dX5_readPiece_2 rfl (lv_at hl 2 rfl) ?_
  refine lv_aload_n hx hb dX5_readPiece_3 rfl (lv_at hl 1 rfl) ?_
  refine fg_X5_36 C hH k_v0 dX5_readPiece_4 ?_
  obtain ⟨x2, w1, hc, hf⟩ := bd_some hf
  refine q_callV1 (v := .int x2) (As := [.int (w.1 v0 4)]) C hH (ci := 7) rfl (by omega) gk_X5_44 yd_X7_get (by omega) (by omega) k_v1 (c_X7_get k_v1 hc) hl.1 rfl (Nat.le_of_ble_eq_true rfl) dX5_readPiece_7 xv_00 (fun H locs hH hP => ?_)
  refine lv_bipush (v := (60 : Int32)) hx hb dX5_readPiece_10 (by decide) ?_
  refine b_icmp_ne (tgt := 38) hx hb hf dX5_readPiece_12 (by decide) (fun hf => ?_) (fun hf => ?_)
  · exact t_X5_readPiece_38 C k_v0 k_v1 hH (lv_sub hl [1, 2, 0] rfl) hf
  · refine lv_aload_n hx hb dX5_readPiece_15 rfl (lv_at hl 1 rfl) ?_
    refine lv_dup hx hb dX5_readPiece_16 rfl ?_
    refine fg_X5_36 C hH k_v0 dX5_readPiece_17 ?_
    refine lv_iconst (v := (1 : Int32)) hx hb dX5_readPiece_20 (by decide) ?_
    refine lv_iadd hx hb dX5_readPiece_21 ?_
    refine fp_X5_36 C hH k_v0 dX5_readPiece_22 (fun H locs hH => ?_)
    refine b_w hf hH (fun w3 hf hH => ?_)
    refine lv_aload_n hx hb dX5_readPiece_25 rfl (lv_at hl 1 rfl) ?_
    refine lv_aload_n hx hb dX5_readPiece_26 rfl (lv_at hl 2 rfl) ?_
    obtain ⟨x5, w4, hc, hf⟩ := bd_some hf
    refine q_callV1 (v := .int x5) (As := [.ref (B + v1)]) C hH (ci := 5) rfl (by omega) gk_X5_48 yd_X5_readSet (by omega) (by omega) k_v0 (c_X5_readSet k_v0 k_v1 hc) hl.1 rfl (Nat.le_of_ble_eq_true rfl) dX5_readPiece_27 xv_00 (fun H locs hH hP => ?_)
    refine lv_istore_n (lv' := [(2, .int x5), (0, .ref (B + v0)), (1, .ref (B + v1))]) hx hb dX5_readPiece_30 rfl hl (by decide) rfl (fun ls hl => ?_)
    refine lv_iload_n hx hb dX5_readPiece_31 rfl (lv_at hl 0 rfl) ?_
    refine lv_iconst (v := (-1 : Int32)) hx hb dX5_readPiece_32 (by decide) ?_
    refine b_icmp_ne (tgt := 38) hx hb hf dX5_readPiece_33 (by decide) (fun hf => ?_) (fun hf => ?_)
    · exact t_X5_readPiece_38 C k_v0 k_v1 hH (lv_sub hl [1, 2, 0] rfl) hf
    · refine lv_iconst (v := (0 : Int32)) hx hb dX5_readPiece_36 (by decide) ?_
      cases hf
      exact q_retz C hH isZ_0 isZ_0 dX5_readPiece_37
set_option maxRecDepth 100000 in
theorem c_X5_readPiece {l : Launch} {D : va_G} {B : Nat} {Y : Nat → ClassId} {v0 : Nat} {v1 : Nat} {w : Wd} {r : Int32} {w1 : Wd} (k_v0 : KD v0 = 5) (k_v1 : KD v1 = 7)  (hf : f_X5_readPiece v0 v1 w = some (r, w1)) : CM l D B Y yX5_readPiece cX5_readPiece 6 (some .boolean) 4 [.ref (B + v0), .ref (B + v1)] w (some (.int r)) w1 (isZ r) :=
  CM_of (by decide +kernel) (Nat.le_of_ble_eq_true rfl) (fun p e s m args below meth c ls C hH hl => t_X5_readPiece_0 C k_v0 k_v1 hH (lv_sub hl [0, 1] rfl) hf)
