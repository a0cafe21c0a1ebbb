/-! LetterTables.textOf -/
set_option maxRecDepth 100000 in
set_option maxHeartbeats 4000000 in
theorem t_X10_textOf_13 {D : va_G} {B : Nat} {Y : Nat → ClassId} {p : Program} {l : Launch} {e : Env} {s : State} {m : MethodId} {args : Array Value} {below : List Frame} {meth : Method} {c : Code} {z : ((Nat ⊕ Nat) × Wd)} {H : Heap} {locs : List Loc} {ls : Array Slot} {w : Wd}  (C : CX D B Y p s m args meth c cX10_textOf 2 RX10 (some (.object "LetterTables$Row"))) (hxt : ∀ x ∈ c.exceptionTable.toList, False) (htr : l.stackTraces = false)     (hH : HS D B Y w s H locs) (hl : lv_has ls 2 []) (hf : f_X10_textOf_13 w = some z) : W p l e (RM 0 (xv (zoR B z.1)) (6 * xv (zoR B z.1))) s m args below meth c H locs 0 0 (vx_MQ below (QX D B Y (zoR B z.1) z.2 (pK 7 z.1)) (XX D B Y (zoR B z.1) z.2) args s (xv (zoR B z.1)) (6 * xv (zoR B z.1)) (AB B)) (F0 m 13 ls []) := by
  have hx := C.1
  have hb := C.2.1
  unfold f_X10_textOf_13 at hf
  cases hf
  exact q_throwW C hH hxt htr (Or.inl rfl) wd_453 wd_64 wd_495 (List.mem_of_getElem? (i := 5) rfl) hl.1 dX10_textOf_13 dX10_textOf_16 dX10_textOf_17 dX10_textOf_20 dX10_textOf_23 (Nat.le_of_ble_eq_true rfl) (xv_1 rfl) (xv_6 rfl)
set_option maxRecDepth 100000 in
set_option maxHeartbeats 4000000 in
theorem t_X10_textOf_0 {D : va_G} {B : Nat} {Y : Nat → ClassId} {p : Program} {l : Launch} {e : Env} {s : State} {m : MethodId} {args : Array Value} {below : List Frame} {meth : Method} {c : Code} {z : ((Nat ⊕ Nat) × Wd)} {H : Heap} {locs : List Loc} {ls : Array Slot} {w : Wd} {v1 : Int32} (C : CX D B Y p s m args meth c cX10_textOf 2 RX10 (some (.object "LetterTables$Row"))) (hxt : ∀ x ∈ c.exceptionTable.toList, False) (htr : l.stackTraces = false)     (hH : HS D B Y w s H locs) (hl : lv_has ls 2 [(0, .ref (B + 0)), (1, .int v1)]) (hf : f_X10_textOf v1 w = some z) : W p l e (RM 0 (xv (zoR B z.1)) (6 * xv (zoR B z.1))) s m args below meth c H locs 0 0 (vx_MQ below (QX D B Y (zoR B z.1) z.2 (pK 7 z.1)) (XX D B Y (zoR B z.1) z.2) args s (xv (zoR B z.1)) (6 * xv (zoR B z.1)) (AB B)) (F0 m 0 ls []) := by
  have hx := C.1
  have hb := C.2.1
  unfold f_X10_textOf at hf
  refine lv_iload_n hx hb dX10_textOf_0 rfl (lv_at hl 1 rfl) ?_
  refine b_if_lt (tgt := 13) hx hb hf dX10_textOf_1 (by decide) (fun hf => ?_) (fun hf => ?_)
  · exact t_X10_textOf_13 C hxt htr hH (lv_sub hl [] rfl) hf
  · refine lv_iload_n hx hb dX10_textOf_4 rfl (lv_at hl 1 rfl) ?_
    refine lv_aload_n hx hb dX10_textOf_5 rfl (lv_at hl 0 rfl) ?_
    refine fg_X10_22 C hH dX10_textOf_6 ?_
    refine q_alen C hH (t0 := 3) (ci := 23) rfl (by omega) kc_622 dX10_textOf_9 ?_
    refine b_icmp_lt (tgt := 24) hx hb hf dX10_textOf_10 (by decide) (fun hf => ?_) (fun hf => ?_)
    · refine lv_aload_n hx hb dX10_textOf_24 rfl (lv_at hl 0 rfl) ?_
      refine fg_X10_22 C hH dX10_textOf_25 ?_
      refine lv_iload_n hx hb dX10_textOf_28 rfl (lv_at hl 1 rfl) ?_
      refine g_aald C hH (t0 := 3) (ci := 23) (K := 7) rfl (by omega) (fun _ h => ka_23 kc_622 h) kc_622 hf dX10_textOf_29 (fun r1 k_r1 hf => ?_)
      cases hf
      exact q_x0 rfl (q_retr C hH k_r1 dX10_textOf_30)
    · exact t_X10_textOf_13 C hxt htr hH (lv_sub hl [] rfl) hf
set_option maxRecDepth 100000 in
theorem c_X10_textOf {l : Launch} {D : va_G} {B : Nat} {Y : Nat → ClassId} {v1 : Int32} {w : Wd} {r : (Nat ⊕ Nat)} {w1 : Wd} (htr : l.stackTraces = false)   (hf : f_X10_textOf v1 w = some (r, w1)) : XM l D B Y yX10_textOf cX10_textOf 2 (some (.object "LetterTables$Row")) 0 [.ref (B + 0), .int v1] w (zoR B r) w1 (pK 7 r) :=
  XM_of (by decide +kernel) (Nat.le_of_ble_eq_true rfl) (fun p e s m args below meth c ls C hxt hH hl => t_X10_textOf_0 C hxt htr  hH (lv_sub hl [0, 1] rfl) hf)
/-! LetterTables$Row.takeOver -/
set_option maxRecDepth 100000 in
set_option maxHeartbeats 4000000 in
theorem tb_X7_takeOver_13 {D : va_G} {B : Nat} {Y : Nat → ClassId} {p : Program} {l : Launch} {e : Env} {s : State} {m : MethodId} {args : Array Value} {below : List Frame} {meth : Method} {c : Code} {z : (Unit × Wd)} {H : Heap} {locs : List Loc} {ls : Array Slot} {w : Wd} {v0 : Nat} {v1 : Nat} {v2 : Int32} (C : CX D B Y p s m args meth c cX7_takeOver 3 RX7 none)  {rc_13 : Nat × Nat × Int32 × Wd → Option (Unit × Wd)} (hr_13 : ∀ (v0 : Nat) (v1 : Nat) (v2 : Int32) (w : Wd), rc_13 (v0, v1, v2, w) = some z → KD v0 = 7 → KD v1 = 7 → ∀ (H : Heap) (locs : List Loc) (ls : Array Slot), HS D B Y w s H locs → lv_has ls 3 [(0, .ref (B + v0)), (1, .ref (B + v1)), (2, .int v2)] → W p l e (RM 1 0 0) s m args below meth c H locs 0 0 (MQ below (QG D B Y none z.2 True) args s 0 0 (AB B)) (F0 m 13 ls []))  (k_v0 : KD v0 = 7) (k_v1 : KD v1 = 7)  (hH : HS D B Y w s H locs) (hl : lv_has ls 3 [(0, .ref (B + v0)), (1, .ref (B + v1)), (2, .int v2)]) (hf : g_X7_takeOver_13 rc_13 v0 v1 v2 w = some z) : W p l e (RM 1 0 0) s m args below meth c H locs 0 0 (MQ below (QG D B Y none z.2 True) args s 0 0 (AB B)) (F0 m 13 ls []) := by
  have hx := C.1
  have hb := C.2.1
  unfold g_X7_takeOver_13 at hf
  refine lv_iload_n hx hb dX7_takeOver_13 rfl (lv_at hl 2 rfl) ?_
  refine lv_aload_n hx hb dX7_takeOver_14 rfl (lv_at hl 1 rfl) ?_
  refine fg_X7_15 C hH k_v1 dX7_takeOver_15 ?_
  refine b_icmp_ge (tgt := 37) hx hb hf dX7_takeOver_18 (by decide) (fun hf => ?_) (fun hf => ?_)
  · cases hf
    exact q_retv C hH trivial dX7_takeOver_37
  · refine lv_aload_n hx hb dX7_takeOver_21 rfl (lv_at hl 0 rfl) ?_
    refine lv_aload_n hx hb dX7_takeOver_22 rfl (lv_at hl 1 rfl) ?_
    refine lv_iload_n hx hb dX7_takeOver_23 rfl (lv_at hl 2 rfl) ?_
    obtain ⟨x2, w1, hc, hf⟩ := bd_some hf
    refine q_callV1 (v := .int x2) (As := [.int v2]) C hH (ci := 7) rfl (by omega) gk_X7_19 yd_X7_get (by omega) (by omega) k_v1 (c_X7_get k_v1 hc) hl.1 rfl (Nat.le_of_ble_eq_true rfl) dX7_takeOver_24 xv_00 (fun H locs hH hP => ?_)
    obtain ⟨x4, w3, hc, hf⟩ := bd_some hf
    refine q_callV1 (v := .int x4) (As := [.int x2]) C hH (ci := 7) rfl (by omega) gk_X7_27 yd_X7_add (by omega) (by omega) k_v0 (c_X7_add k_v0 hc) hl.1 rfl (Nat.le_of_ble_eq_true rfl) dX7_takeOver_27 xv_00 (fun H locs hH z_x4 => ?_)
    refine lv_pop hx hb dX7_takeOver_30 rfl ?_
    refine b_let hf (fun x5 he hf => ?_)
    refine lv_iinc (v := x5) (lv' := [(2, .int x5), (0, .ref (B + v0)), (1, .ref (B + v1))]) hx hb dX7_takeOver_31 hl (k := 2) rfl (by rw [← he]; rfl) (by decide) rfl (fun ls hl => ?_)
    refine lv_goto (tgt := 13) hx hb dX7_takeOver_34 (by decide) ?_
    exact hr_13 v0 v1 x5 w3 hf k_v0 k_v1 _ _ _ hH (lv_sub hl [1, 2, 0] rfl)
set_option maxRecDepth 100000 in
set_option maxHeartbeats 4000000 in
theorem t_X7_takeOver_13 {D : va_G} {B : Nat} {Y : Nat → ClassId} {p : Program} {l : Launch} {e : Env} {s : State} {m : MethodId} {args : Array Value} {below : List Frame} {meth : Method} {c : Code} {z : (Unit × Wd)} {H : Heap} {locs : List Loc} {ls : Array Slot} {w : Wd} {v0 : Nat} {v1 : Nat} {v2 : Int32} (C : CX D B Y p s m args meth c cX7_takeOver 3 RX7 none)   (k_v0 : KD v0 = 7) (k_v1 : KD v1 = 7)  (hH : HS D B Y w s H locs) (hl : lv_has ls 3 [(0, .ref (B + v0)), (1, .ref (B + v1)), (2, .int v2)]) (hf : f_X7_takeOver_13 v0 v1 v2 w = some z) : W p l e (RM 1 0 0) s m args below meth c H locs 0 0 (MQ below (QG D B Y none z.2 True) args s 0 0 (AB B)) (F0 m 13 ls []) := by
  exact loopN_ind (z := z) (body := fun rc σ => g_X7_takeOver_13 rc  σ.1 σ.2.1 σ.2.2.1 σ.2.2.2)
    (P := fun σ => KD σ.1 = 7 → KD σ.2.1 = 7 → ∀ (H : Heap) (locs : List Loc) (ls : Array Slot), HS D B Y σ.2.2.2 s H locs → lv_has ls 3 [(0, .ref (B + σ.1)), (1, .ref (B + σ.2.1)), (2, .int σ.2.2.1)] → W p l e (RM 1 0 0) s m args below meth c H locs 0 0 (MQ below (QG D B Y none z.2 True) args s 0 0 (AB B)) (F0 m 13 ls []))
    (fun rc hrec σ hf k_v0 k_v1 H locs ls hH hl => tb_X7_takeOver_13 C (fun v0 v1 v2 w hr k_v0 k_v1 H locs ls hH hl => hrec (v0, v1, v2, w) hr k_v0 k_v1 H locs ls hH hl)  k_v0 k_v1 hH hl hf) FU (v0, v1, v2, w) hf k_v0 k_v1 H locs ls hH hl
set_option maxRecDepth 100000 in
set_option maxHeartbeats 4000000 in
theorem t_X7_takeOver_0 {D : va_G} {B : Nat} {Y : Nat → ClassId} {p : Program} {l : Launch} {e : Env} {s : State} {m : MethodId} {args : Array Value} {below : List Frame} {meth : Method} {c : Code} {z : (Unit × Wd)} {H : Heap} {locs : List Loc} {ls : Array Slot} {w : Wd} {v0 : Nat} {v1 : Nat} (C : CX D B Y p s m args meth c cX7_takeOver 3 RX7 none)   (k_v0 : KD v0 = 7) (k_v1 : KD v1 = 7)  (hH : HS D B Y w s H locs) (hl : lv_has ls 3 [(0, .ref (B + v0)), (1, .ref (B + v1))]) (hf : f_X7_takeOver v0 v1 w = some z) : W p l e (RM 1 0 0) s m args below meth c H locs 0 0 (MQ below (QG D B Y none z.2 True) args s 0 0 (AB B)) (F0 m 0 ls []) := by
  have hx := C.1
  have hb := C.2.1
  unfold f_X7_takeOver at hf
  refine lv_aload_n hx hb dX7_takeOver_0 rfl (lv_at hl 1 rfl) ?_
  refine lv_aload_n hx hb dX7_takeOver_1 rfl (lv_at hl 0 rfl) ?_
  refine b_acmp_ne (tgt := 6) hx hb hf dX7_takeOver_2 (by decide) (fun hf => ?_) (fun hf => ?_)
  · refine lv_aload_n hx hb dX7_takeOver_6 rfl (lv_at hl 0 rfl) ?_
    refine lv_iconst (v := (0 : Int32)) hx hb dX7_takeOver_7 (by decide) ?_
    refine fp_X7_15 C hH k_v0 dX7_takeOver_8 (fun H locs hH => ?_)
    refine b_w hf hH (fun w1 hf hH => ?_)
    refine lv_iconst (v := (0 : Int32)) hx hb dX7_takeOver_11 (by decide) ?_
    refine lv_istore_n (lv' := [(2, .int (0 : Int32)), (0, .ref (B + v0)), (1, .ref (B + v1))]) hx hb dX7_takeOver_12 rfl hl (by decide) rfl (fun ls hl => ?_)
    exact t_X7_takeOver_13 C k_v0 k_v1 hH (lv_sub hl [1, 2, 0] rfl) hf
  · cases hf
    exact q_retv C hH trivial dX7_takeOver_5
set_option maxRecDepth 100000 in
theorem c_X7_takeOver {l : Launch} {D : va_G} {B : Nat} {Y : Nat → ClassId} {v0 : Nat} {v1 : Nat} {w : Wd} {r : Unit} {w1 : Wd} (k_v0 : KD v0 = 7) (k_v1 : KD v1 = 7)  (hf : f_X7_takeOver v0 v1 w = some (r, w1)) : CM l D B Y yX7_takeOver cX7_takeOver 3 none 1 [.ref (B + v0), .ref (B + v1)] w none w1 True :=
  CM_of (by decide +kernel) (Nat.le_of_ble_eq_true rfl) (fun p e s m args below meth c ls C hH hl => t_X7_takeOver_0 C k_v0 k_v1 hH (lv_sub hl [0, 1] rfl) hf)
/-! LetterTables$Tables.takeWord -/
set_option maxRecDepth 100000 in
set_option maxHeartbeats 4000000 in
theorem t_X9_takeWord_0 {D : va_G} {B : Nat} {Y : Nat → ClassId} {p : Program} {l : Launch} {e : Env} {s : State} {m : MethodId} {args : Array Value} {below : List Frame} {meth : Method} {c : Code} {z : (Int32 × Wd)} {H : Heap} {locs : List Loc} {ls : Array Slot} {w : Wd} {v0 : Nat} {v1 : Nat} (C : CX D B Y p s m args meth c cX9_takeWord 2 RX9 (some .boolean))   (k_v0 : KD v0 = 9) (k_v1 : KD v1 = 7)  (hH : HS D B Y w s H locs) (hl : lv_has ls 2 [(0, .ref (B + v0)), (1, .ref (B + v1))]) (hf : f_X9_takeWord v0 v1 w = some z) : W p l e (RM 2 0 0) s m args below meth c H locs 0 0 (MQ below (QG D B Y (some (.int z.1)) z.2 (isZ z.1)) args s 0 0 (AB B)) (F0 m 0 ls []) := by
  have hx := C.1
  have hb := C.2.1
  unfold f_X9_takeWord at hf
  refine lv_aload_n hx hb dX9_takeWord_0 rfl (lv_at hl 0 rfl) ?_
  refine fg_X9_81 C hH k_v0 dX9_takeWord_1 ?_
  refine b_if_lt (tgt := 19) hx hb hf dX9_takeWord_4 (by decide) (fun hf => ?_) (fun hf => ?_)
  · refine lv_iconst (v := (0 : Int32)) hx hb dX9_takeWord_19 (by decide) ?_
    cases hf
    exact q_retz C hH isZ_0 isZ_0 dX9_takeWord_20
  · refine lv_aload_n hx hb dX9_takeWord_7 rfl (lv_at hl 0 rfl) ?_
    refine fg_X9_81 C hH k_v0 dX9_takeWord_8 ?_
    refine lv_aload_n hx hb dX9_takeWord_11 rfl (lv_at hl 0 rfl) ?_
    refine fg_X9_55 C hH k_v0 dX9_takeWord_12 ?_
    refine q_alen C hH (t0 := 3) (ci := 23) rfl (by omega) (ko_9_11 k_v0) dX9_takeWord_15 ?_
    refine b_icmp_lt (tgt := 21) hx hb hf dX9_takeWord_16 (by decide) (fun hf => ?_) (fun hf => ?_)
    · refine lv_aload_n hx hb dX9_takeWord_21 rfl (lv_at hl 0 rfl) ?_
      refine fg_X9_55 C hH k_v0 dX9_takeWord_22 ?_
      refine lv_aload_n hx hb dX9_takeWord_25 rfl (lv_at hl 0 rfl) ?_
      refine fg_X9_81 C hH k_v0 dX9_takeWord_26 ?_
      refine g_aald C hH (t0 := 3) (ci := 23) (K := 7) rfl (by omega) (fun _ h => ka_23 (ko_9_11 k_v0) h) (ko_9_11 k_v0) hf dX9_takeWord_29 (fun r1 k_r1 hf => ?_)
      refine lv_aload_n hx hb dX9_takeWord_30 rfl (lv_at hl 1 rfl) ?_
      obtain ⟨u, w2, hc, hf⟩ := bd_some hf
      refine q_callV0 (As := [.ref (B + v1)]) C hH (ci := 7) rfl (by omega) gk_X9_77 yd_X7_takeOver (by omega) (by omega) k_r1 (c_X7_takeOver k_r1 k_v1 hc) hl.1 rfl (Nat.le_of_ble_eq_true rfl) dX9_takeWord_31 xv_00 (fun H locs hH hP => ?_)
      refine lv_aload_n hx hb dX9_takeWord_34 rfl (lv_at hl 0 rfl) ?_
      refine lv_dup hx hb dX9_takeWord_35 rfl ?_
      refine fg_X9_81 C hH k_v0 dX9_takeWord_36 ?_
      refine lv_iconst (v := (1 : Int32)) hx hb dX9_takeWord_39 (by decide) ?_
      refine lv_iadd hx hb dX9_takeWord_40 ?_
      refine fp_X9_81 C hH k_v0 dX9_takeWord_41 (fun H locs hH => ?_)
      refine b_w hf hH (fun w3 hf hH => ?_)
      refine lv_iconst (v := (1 : Int32)) hx hb dX9_takeWord_44 (by decide) ?_
      cases hf
      exact q_retz C hH isZ_1 isZ_1 dX9_takeWord_45
    · refine lv_iconst (v := (0 : Int32)) hx hb dX9_takeWord_19 (by decide) ?_
      cases hf
      exact q_retz C hH isZ_0 isZ_0 dX9_takeWord_20
set_option maxRecDepth 100000 in
theorem c_X9_takeWord {l : Launch} {D : va_G} {B : Nat} {Y : Nat → ClassId} {v0 : Nat} {v1 : Nat} {w : Wd} {r : Int32} {w1 : Wd} (k_v0 : KD v0 = 9) (k_v1 : KD v1 = 7)  (hf : f_X9_takeWord v0 v1 w = some (r, w1)) : CM l D B Y yX9_takeWord cX9_takeWord 2 (some .boolean) 2 [.ref (B + v0), .ref (B + v1)] w (some (.int r)) w1 (isZ r) :=
  CM_of (by decide +kernel) (Nat.le_of_ble_eq_true rfl) (fun p e s m args below meth c ls C hH hl => t_X9_takeWord_0 C k_v0 k_v1 hH (lv_sub hl [0, 1] rfl) hf)
/-! LetterTables$Tables.wordCount -/
set_option maxRecDepth 100000 in
set_option maxHeartbeats 4000000 in
theorem t_X9_wordCount_0 {D : va_G} {B : Nat} {Y : Nat → ClassId} {p : Program} {l : Launch} {e : Env} {s : State} {m : MethodId} {args : Array Value} {below : List Frame} {meth : Method} {c : Code} {z : (Int32 × Wd)} {H : Heap} {locs : List Loc} {ls : Array Slot} {w : Wd} {v0 : Nat} (C : CX D B Y p s m args meth c cX9_wordCount 1 RX9 (some .int))   (k_v0 : KD v0 = 9)  (hH : HS D B Y w s H locs) (hl : lv_has ls 1 [(0, .ref (B + v0))]) (hf : f_X9_wordCount v0 w = some z) : W p l e (RM 0 0 0) s m args below meth c H locs 0 0 (MQ below (QG D B Y (some (.int z.1)) z.2 True) args s 0 0 (AB B)) (F0 m 0 ls []) := by
  have hx := C.1
  have hb := C.2.1
  unfold f_X9_wordCount at hf
  refine lv_aload_n hx hb dX9_wordCount_0 rfl (lv_at hl 0 rfl) ?_
  refine fg_X9_81 C hH k_v0 dX9_wordCount_1 ?_
  cases hf
  exact q_reti C hH trivial dX9_wordCount_4
set_option maxRecDepth 100000 in
theorem c_X9_wordCount {l : Launch} {D : va_G} {B : Nat} {Y : Nat → ClassId} {v0 : Nat} {w : Wd} {r : Int32} {w1 : Wd} (k_v0 : KD v0 = 9)  (hf : f_X9_wordCount v0 w = some (r, w1)) : CM l D B Y yX9_wordCount cX9_wordCount 1 (some .int) 0 [.ref (B + v0)] w (some (.int r)) w1 True :=
  CM_of (by decide +kernel) (Nat.le_of_ble_eq_true rfl) (fun p e s m args below meth c ls C hH hl => t_X9_wordCount_0 C k_v0 hH (lv_sub hl [0] rfl) hf)
/-! LetterTables.addWord -/
set_option maxRecDepth 100000 in
set_option maxHeartbeats 4000000 in
theorem t_X10_addWord_30 {D : va_G} {B : Nat} {Y : Nat → ClassId} {p : Program} {l : Launch} {e : Env} {s : State} {m : MethodId} {args : Array Value} {below : List Frame} {meth : Method} {c : Code} {z : ((Nat ⊕ Int32) × Wd)} {H : Heap} {locs : List Loc} {ls : Array Slot} {w : Wd}  (C : CX D B Y p s m args meth c cX10_addWord 3 RX10 (some .int)) (hxt : ∀ x ∈ c.exceptionTable.toList, False) (htr : l.stackTraces = false)     (hH : HS D B Y w s H locs) (hl : lv_has ls 3 []) (hf : f_X10_addWord_30 w = some z) : W p l e (RM 3 (xv (zoI z.1)) (6 * xv (zoI z.1))) s m args below meth c H locs 0 0 (vx_MQ below (QX D B Y (zoI z.1) z.2 True) (XX D B Y (zoI z.1) z.2) args s (xv (zoI z.1)) (6 * xv (zoI z.1)) (AB B)) (F0 m 30 ls []) := by
  have hx := C.1
  have hb := C.2.1
  unfold f_X10_addWord_30 at hf
  cases hf
  exact q_throw C hH hxt htr (Or.inr (Or.inr rfl)) wd_574 wd_66 wd_584 (List.mem_of_getElem? (i := 6) rfl) hl.1 dX10_addWord_30 dX10_addWord_33 dX10_addWord_34 dX10_addWord_36 dX10_addWord_39 (Nat.le_of_ble_eq_true rfl) (xv_1 rfl) (xv_6 rfl)
set_option maxRecDepth 100000 in
set_option maxHeartbeats 4000000 in
theorem t_X10_addWord_0 {D : va_G} {B : Nat} {Y : Nat → ClassId} {p : Program} {l : Launch} {e : Env} {s : State} {m : MethodId} {args : Array Value} {below : List Frame} {meth : Method} {c : Code} {z : ((Nat ⊕ Int32) × Wd)} {H : Heap} {locs : List Loc} {ls : Array Slot} {w : Wd} {v1 : Int32} (C : CX D B Y p s m args meth c cX10_addWord 3 RX10 (some .int)) (hxt : ∀ x ∈ c.exceptionTable.toList, False) (htr : l.stackTraces = false)     (hH : HS D B Y w s H locs) (hl : lv_has ls 3 [(0, .ref (B + 0)), (1, .int v1)]) (hf : f_X10_addWord v1 w = some z) : W p l e (RM 3 (xv (zoI z.1)) (6 * xv (zoI z.1))) s m args below meth c H locs 0 0 (vx_MQ below (QX D B Y (zoI z.1) z.2 True) (XX D B Y (zoI z.1) z.2) args s (xv (zoI z.1)) (6 * xv (zoI z.1)) (AB B)) (F0 m 0 ls []) := by
  have hx := C.1
  have hb := C.2.1
  unfold f_X10_addWord at hf
  refine lv_aload_n hx hb dX10_addWord_0 rfl (lv_at hl 0 rfl) ?_
  refine lv_iload_n hx hb dX10_addWord_1 rfl (lv_at hl 1 rfl) ?_
  rcases bdx_some hf with ⟨k, w1, hc, rfl⟩ | ⟨r2, w1, hc, hf⟩
  · exact q_xrunX (k0 := k) (q_xV (As := [.int v1]) C hH (ci := 10) rfl (by omega) gk_X10_194 yd_X10_textOf (by omega) (by omega) kc_0 (c_X10_textOf (r := .inl k) htr hc) hl.1 rfl (Nat.le_of_ble_eq_true rfl) dX10_addWord_2 (xv_le rfl)) hH (fun H locs ce q hH h1 h2 h3 => q_out C hH hxt h1 h2 h3 (xv_1 rfl) (xv_6 rfl))
  refine q_xrun (ov := some (.ref (B + r2))) (q_xV (As := [.int v1]) C hH (ci := 10) rfl (by omega) gk_X10_194 yd_X10_textOf (by omega) (by omega) kc_0 (c_X10_textOf (r := .inr r2) htr hc) hl.1 rfl (Nat.le_of_ble_eq_true rfl) dX10_addWord_2 (xv_0 rfl xv_00)) hH (fun H locs hH k_r2 => ?_)
  refine lv_astore_n (lv' := [(2, .ref (B + r2)), (0, .ref (B + 0)), (1, .int v1)]) hx hb dX10_addWord_5 rfl hl (by decide) rfl (fun ls hl => ?_)
  refine lv_aload_n hx hb dX10_addWord_6 rfl (lv_at hl 0 rfl) ?_
  obtain ⟨x4, w3, hc, hf⟩ := bd_some hf
  refine q_callV1 (v := .int x4) (As := []) C hH (ci := 7) rfl (by omega) gk_X10_107 yd_X7_size (by omega) (by omega) k_r2 (c_X7_size k_r2 hc) hl.1 rfl (Nat.le_of_ble_eq_true rfl) dX10_addWord_7 xv_00 (fun H locs hH hP => ?_)
  refine lv_iconst (v := (1 : Int32)) hx hb dX10_addWord_10 (by decide) ?_
  refine lv_bipush (v := (8 : Int32)) hx hb dX10_addWord_11 (by decide) ?_
  obtain ⟨x6, w5, hc, hf⟩ := bd_some hf
  refine q_callS1 (v := .int x6) (As := [.int x4, .int (1 : Int32), .int (8 : Int32)]) C hH gk_X10_99 yd_X10_isWithin (by omega) (by omega) (c_X10_isWithin hc) hl.1 rfl (Nat.le_of_ble_eq_true rfl) dX10_addWord_13 xv_00 (fun H locs hH z_x6 => ?_)
  refine b_if_eq (tgt := 30) hx hb hf dX10_addWord_16 (by decide) (fun hf => ?_) (fun hf => ?_)
  · exact t_X10_addWord_30 C hxt htr hH (lv_sub hl [] rfl) hf
  · refine lv_aload_n hx hb dX10_addWord_19 rfl (lv_at hl 1 rfl) ?_
    refine fg_X10_12 C hH dX10_addWord_20 ?_
    refine lv_aload_n hx hb dX10_addWord_23 rfl (lv_at hl 0 rfl) ?_
    obtain ⟨x8, w7, hc, hf⟩ := bd_some hf
    refine q_callV1 (v := .int x8) (As := [.ref (B + r2)]) C hH (ci := 9) rfl (by omega) gk_X10_198 yd_X9_takeWord (by omega) (by omega) kc_1 (c_X9_takeWord kc_1 k_r2 hc) hl.1 rfl (Nat.le_of_ble_eq_true rfl) dX10_addWord_24 xv_00 (fun H locs hH z_x8 => ?_)
    refine b_if_ne (tgt := 40) hx hb hf dX10_addWord_27 (by decide) (fun hf => ?_) (fun hf => ?_)
    · refine lv_aload_n hx hb dX10_addWord_40 rfl (lv_at hl 1 rfl) ?_
      refine fg_X10_12 C hH dX10_addWord_41 ?_
      obtain ⟨x10, w9, hc, hf⟩ := bd_some hf
      refine q_callV1 (v := .int x10) (As := []) C hH (ci := 9) rfl (by omega) gk_X10_204 yd_X9_wordCount (by omega) (by omega) kc_1 (c_X9_wordCount kc_1 hc) hl.1 rfl (Nat.le_of_ble_eq_true rfl) dX10_addWord_44 xv_00 (fun H locs hH hP => ?_)
      cases hf
      exact q_x0 rfl (q_reti C hH trivial dX10_addWord_47)
    · exact t_X10_addWord_30 C hxt htr hH (lv_sub hl [] rfl) hf
set_option maxRecDepth 100000 in
theorem c_X10_addWord {l : Launch} {D : va_G} {B : Nat} {Y : Nat → ClassId} {v1 : Int32} {w : Wd} {r : (Nat ⊕ Int32)} {w1 : Wd} (htr : l.stackTraces = false)   (hf : f_X10_addWord v1 w = some (r, w1)) : XM l D B Y yX10_addWord cX10_addWord 3 (some .int) 3 [.ref (B + 0), .int v1] w (zoI r) w1 True :=
  XM_of (by decide +kernel) (Nat.le_of_ble_eq_true rfl) (fun p e s m args below meth c ls C hxt hH hl => t_X10_addWord_0 C hxt htr  hH (lv_sub hl [0, 1] rfl) hf)
/-! LetterTables$Tables.nextRule -/
set_option maxRecDepth 100000 in
set_option maxHeartbeats 4000000 in
theorem t_X9_nextRule_0 {D : va_G} {B : Nat} {Y : Nat → ClassId} {p : Program} {l : Launch} {e : Env} {s : State} {m : MethodId} {args : Array Value} {below : List Frame} {meth : Method} {c : Code} {z : (Option Nat × Wd)} {H : Heap} {locs : List Loc} {ls : Array Slot} {w : Wd} {v0 : Nat} (C : CX D B Y p s m args meth c cX9_nextRule 1 RX9 (some (.object "LetterTables$Rule")))   (k_v0 : KD v0 = 9)  (hH : HS D B Y w s H locs) (hl : lv_has ls 1 [(0, .ref (B + v0))]) (hf : f_X9_nextRule v0 w = some z) : W p l e (RM 0 0 0) s m args below meth c H locs 0 0 (MQ below (QG D B Y (some (vq B z.1)) z.2 (pQ 8 z.1)) args s 0 0 (AB B)) (F0 m 0 ls []) := by
  have hx := C.1
  have hb := C.2.1
  unfold f_X9_nextRule at hf
  refine lv_aload_n hx hb dX9_nextRule_0 rfl (lv_at hl 0 rfl) ?_
  refine fg_X9_88 C hH k_v0 dX9_nextRule_1 ?_
  refine b_if_lt (tgt := 19) hx hb hf dX9_nextRule_4 (by decide) (fun hf => ?_) (fun hf => ?_)
  · refine lv_null hx hb dX9_nextRule_19 ?_
    refine lv_goto (tgt := 32) hx hb dX9_nextRule_20 (by decide) ?_
    cases hf
    exact q_retn C hH trivial dX9_nextRule_32
  · refine lv_aload_n hx hb dX9_nextRule_7 rfl (lv_at hl 0 rfl) ?_
    refine fg_X9_88 C hH k_v0 dX9_nextRule_8 ?_
    refine lv_aload_n hx hb dX9_nextRule_11 rfl (lv_at hl 0 rfl) ?_
    refine fg_X9_64 C hH k_v0 dX9_nextRule_12 ?_
    refine q_alen C hH (t0 := 6) (ci := 26) rfl (by omega) (ko_9_13 k_v0) dX9_nextRule_15 ?_
    refine b_icmp_lt (tgt := 23) hx hb hf dX9_nextRule_16 (by decide) (fun hf => ?_) (fun hf => ?_)
    · refine lv_aload_n hx hb dX9_nextRule_23 rfl (lv_at hl 0 rfl) ?_
      refine fg_X9_64 C hH k_v0 dX9_nextRule_24 ?_
      refine lv_aload_n hx hb dX9_nextRule_27 rfl (lv_at hl 0 rfl) ?_
      refine fg_X9_88 C hH k_v0 dX9_nextRule_28 ?_
      refine g_aald C hH (t0 := 6) (ci := 26) (K := 8) rfl (by omega) (fun _ h => ka_26 (ko_9_13 k_v0) h) (ko_9_13 k_v0) hf dX9_nextRule_31 (fun r1 k_r1 hf => ?_)
      cases hf
      exact q_retr C hH k_r1 dX9_nextRule_32
    · refine lv_null hx hb dX9_nextRule_19 ?_
      refine lv_goto (tgt := 32) hx hb dX9_nextRule_20 (by decide) ?_
      cases hf
      exact q_retn C hH trivial dX9_nextRule_32
set_option maxRecDepth 100000 in
theorem c_X9_nextRule {l : Launch} {D : va_G} {B : Nat} {Y : Nat → ClassId} {v0 : Nat} {w : Wd} {r : Option Nat} {w1 : Wd} (k_v0 : KD v0 = 9)  (hf : f_X9_nextRule v0 w = some (r, w1)) : CM l D B Y yX9_nextRule cX9_nextRule 1 (some (.object "LetterTables$Rule")) 0 [.ref (B + v0)] w (some (vq B r)) w1 (pQ 8 r) :=
  CM_of (by decide +kernel) (Nat.le_of_ble_eq_true rfl) (fun p e s m args below meth c ls C hH hl => t_X9_nextRule_0 C k_v0 hH (lv_sub hl [0] rfl) hf)
/-! LetterTables$Rule.tell -/
set_option maxRecDepth 100000 in
set_option maxHeartbeats 4000000 in
theorem t_X8_tell_0 {D : va_G} {B : Nat} {Y : Nat → ClassId} {p : Program} {l : Launch} {e : Env} {s : State} {m : MethodId} {args : Array Value} {below : List Frame} {meth : Method} {c : Code} {z : (Unit × Wd)} {H : Heap} {locs : List Loc} {ls : Array Slot} {w : Wd} {v0 : Nat} {v1 : Int32} {v2 : Nat} {v3 : Nat} {v4 : Nat} {v5 : Nat} (C : CX D B Y p s m args meth c cX8_tell 6 RX8 none)   (k_v0 : KD v0 = 8) (k_v2 : KD v2 = 7) (k_v3 : KD v3 = 7) (k_v4 : KD v4 = 7) (k_v5 : KD v5 = 7)  (hH : HS D B Y w s H locs) (hl : lv_has ls 6 [(0, .ref (B + v0)), (1, .int v1), (2, .ref (B + v2)), (3, .ref (B + v3)), (4, .ref (B + v4)), (5, .ref (B + v5))]) (hf : f_X8_tell v0 v1 v2 v3 v4 v5 w = some z) : W p l e (RM 2 0 0) s m args below meth c H locs 0 0 (MQ below (QG D B Y none z.2 True) args s 0 0 (AB B)) (F0 m 0 ls []) := by
  have hx := C.1
  have hb := C.2.1
  unfold f_X8_tell at hf
  refine lv_aload_n hx hb dX8_tell_0 rfl (lv_at hl 0 rfl) ?_
  refine lv_iload_n hx hb dX8_tell_1 rfl (lv_at hl 1 rfl) ?_
  refine fp_X8_29 C hH k_v0 dX8_tell_2 (fun H locs hH => ?_)
  refine b_w hf hH (fun w1 hf hH => ?_)
  refine lv_aload_n hx hb dX8_tell_5 rfl (lv_at hl 0 rfl) ?_
  refine fg_X8_14 C hH k_v0 dX8_tell_6 ?_
  refine lv_aload_n hx hb dX8_tell_9 rfl (lv_at hl 2 rfl) ?_
  obtain ⟨u, w2, hc, hf⟩ := bd_some hf
  refine q_callV0 (As := [.ref (B + v2)]) C hH (ci := 7) rfl (by omega) gk_X8_33 yd_X7_takeOver (by omega) (by omega) (ko_8_1 k_v0) (c_X7_takeOver (ko_8_1 k_v0) k_v2 hc) hl.1 rfl (Nat.le_of_ble_eq_true rfl) dX8_tell_10 xv_00 (fun H locs hH hP => ?_)
  refine lv_aload_n hx hb dX8_tell_13 rfl (lv_at hl 0 rfl) ?_
  refine fg_X8_20 C hH k_v0 dX8_tell_14 ?_
  refine lv_aload_n hx hb dX8_tell_17 rfl (lv_at hl 3 rfl) ?_
  obtain ⟨u, w3, hc, hf⟩ := bd_some hf
  refine q_callV0 (As := [.ref (B + v3)]) C hH (ci := 7) rfl (by omega) gk_X8_33 yd_X7_takeOver (by omega) (by omega) (ko_8_2 k_v0) (c_X7_takeOver (ko_8_2 k_v0) k_v3 hc) hl.1 rfl (Nat.le_of_ble_eq_true rfl) dX8_tell_18 xv_00 (fun H locs hH hP => ?_)
  refine lv_aload_n hx hb dX8_tell_21 rfl (lv_at hl 0 rfl) ?_
  refine fg_X8_23 C hH k_v0 dX8_tell_22 ?_
  refine lv_aload hx hb dX8_tell_25 (lv_at hl 4 rfl) ?_
  obtain ⟨u, w4, hc, hf⟩ := bd_some hf
  refine q_callV0 (As := [.ref (B + v4)]) C hH (ci := 7) rfl (by omega) gk_X8_33 yd_X7_takeOver (by omega) (by omega) (ko_8_3 k_v0) (c_X7_takeOver (ko_8_3 k_v0) k_v4 hc) hl.1 rfl (Nat.le_of_ble_eq_true rfl) dX8_tell_27 xv_00 (fun H locs hH hP => ?_)
  refine lv_aload_n hx hb dX8_tell_30 rfl (lv_at hl 0 rfl) ?_
  refine fg_X8_26 C hH k_v0 dX8_tell_31 ?_
  refine lv_aload hx hb dX8_tell_34 (lv_at hl 5 rfl) ?_
  obtain ⟨u, w5, hc, hf⟩ := bd_some hf
  refine q_callV0 (As := [.ref (B + v5)]) C hH (ci := 7) rfl (by omega) gk_X8_33 yd_X7_takeOver (by omega) (by omega) (ko_8_4 k_v0) (c_X7_takeOver (ko_8_4 k_v0) k_v5 hc) hl.1 rfl (Nat.le_of_ble_eq_true rfl) dX8_tell_36 xv_00 (fun H locs hH hP => ?_)
  cases hf
  exact q_retv C hH trivial dX8_tell_39
set_option maxRecDepth 100000 in
theorem c_X8_tell {l : Launch} {D : va_G} {B : Nat} {Y : Nat → ClassId} {v0 : Nat} {v1 : Int32} {v2 : Nat} {v3 : Nat} {v4 : Nat} {v5 : Nat} {w : Wd} {r : Unit} {w1 : Wd} (k_v0 : KD v0 = 8) (k_v2 : KD v2 = 7) (k_v3 : KD v3 = 7) (k_v4 : KD v4 = 7) (k_v5 : KD v5 = 7)  (hf : f_X8_tell v0 v1 v2 v3 v4 v5 w = some (r, w1)) : CM l D B Y yX8_tell cX8_tell 6 none 2 [.ref (B + v0), .int v1, .ref (B + v2), .ref (B + v3), .ref (B + v4), .ref (B + v5)] w none w1 True :=
  CM_of (by decide +kernel) (Nat.le_of_ble_eq_true rfl) (fun p e s m args below meth c ls C hH hl => t_X8_tell_0 C k_v0 k_v2 k_v3 k_v4 k_v5 hH (lv_sub hl [0, 1, 2, 3, 4, 5] rfl) hf)
/-! LetterTables$Tables.countRule -/
set_option maxRecDepth 100000 in
set_option maxHeartbeats 4000000 in
theorem t_X9_countRule_0 {D : va_G} {B : Nat} {Y : Nat → ClassId} {p : Program} {l : Launch} {e : Env} {s : State} {m : MethodId} {args : Array Value} {below : List Frame} {meth : Method} {c : Code} {z : (Int32 × Wd)} {H : Heap} {locs : List Loc} {ls : Array Slot} {w : Wd} {v0 : Nat} (C : CX D B Y p s m args meth c cX9_countRule 1 RX9 (some .int))   (k_v0 : KD v0 = 9)  (hH : HS D B Y w s H locs) (hl : lv_has ls 1 [(0, .ref (B + v0))]) (hf : f_X9_countRule v0 w = some z) : W p l e (RM 0 0 0) s m args below meth c H locs 0 0 (MQ below (QG D B Y (some (.int z.1)) z.2 True) args s 0 0 (AB B)) (F0 m 0 ls []) := by
  have hx := C.1
  have hb := C.2.1
  unfold f_X9_countRule at hf
  refine lv_aload_n hx hb dX9_countRule_0 rfl (lv_at hl 0 rfl) ?_
  refine lv_dup hx hb dX9_countRule_1 rfl ?_
  refine fg_X9_88 C hH k_v0 dX9_countRule_2 ?_
  refine lv_iconst (v := (1 : Int32)) hx hb dX9_countRule_5 (by decide) ?_
  refine lv_iadd hx hb dX9_countRule_6 ?_
  refine fp_X9_88 C hH k_v0 dX9_countRule_7 (fun H locs hH => ?_)
  refine b_w hf hH (fun w1 hf hH => ?_)
  refine lv_aload_n hx hb dX9_countRule_10 rfl (lv_at hl 0 rfl) ?_
  refine fg_X9_88 C hH k_v0 dX9_countRule_11 ?_
  cases hf
  exact q_reti C hH trivial dX9_countRule_14
set_option maxRecDepth 100000 in
theorem c_X9_countRule {l : Launch} {D : va_G} {B : Nat} {Y : Nat → ClassId} {v0 : Nat} {w : Wd} {r : Int32} {w1 : Wd} (k_v0 : KD v0 = 9)  (hf : f_X9_countRule v0 w = some (r, w1)) : CM l D B Y yX9_countRule cX9_countRule 1 (some .int) 0 [.ref (B + v0)] w (some (.int r)) w1 True :=
  CM_of (by decide +kernel) (Nat.le_of_ble_eq_true rfl) (fun p e s m args below meth c ls C hH hl => t_X9_countRule_0 C k_v0 hH (lv_sub hl [0] rfl) hf)
/-! LetterTables.addRule -/
set_option maxRecDepth 100000 in
set_option maxHeartbeats 4000000 in
theorem t_X10_addRule_105 {D : va_G} {B : Nat} {Y : Nat → ClassId} {p : Program} {l : Launch} {e : Env} {s : State} {m : MethodId} {args : Array Value} {below : List Frame} {meth : Method} {c : Code} {z : ((Nat ⊕ Int32) × Wd)} {H : Heap} {locs : List Loc} {ls : Array Slot} {w : Wd}  (C : CX D B Y p s m args meth c cX10_addRule 12 RX10 (some .int)) (hxt : ∀ x ∈ c.exceptionTable.toList, False) (htr : l.stackTraces = false)     (hH : HS D B Y w s H locs) (hl : lv_has ls 12 []) (hf : f_X10_addRule_105 w = some z) : W p l e (RM 3 (xv (zoI z.1)) (6 * xv (zoI z.1))) s m args below meth c H locs 0 0 (vx_MQ below (QX D B Y (zoI z.1) z.2 True) (XX D B Y (zoI z.1) z.2) args s (xv (zoI z.1)) (6 * xv (zoI z.1)) (AB B)) (F0 m 105 ls []) := by
  have hx := C.1
  have hb := C.2.1
  unfold f_X10_addRule_105 at hf
  cases hf
  exact q_throw C hH hxt htr (Or.inr (Or.inr rfl)) wd_574 wd_66 wd_584 (List.mem_of_getElem? (i := 7) rfl) hl.1 dX10_addRule_105 dX10_addRule_108 dX10_addRule_109 dX10_addRule_111 dX10_addRule_114 (Nat.le_of_ble_eq_true rfl) (xv_1 rfl) (xv_6 rfl)
set_option maxRecDepth 100000 in
set_option maxHeartbeats 4000000 in
theorem t_X10_addRule_84 {D : va_G} {B : Nat} {Y : Nat → ClassId} {p : Program} {l : Launch} {e : Env} {s : State} {m : MethodId} {args : Array Value} {below : List Frame} {meth : Method} {c : Code} {z : ((Nat ⊕ Int32) × Wd)} {H : Heap} {locs : List Loc} {ls : Array Slot} {w : Wd} {v1 : Int32} {v6 : Nat} {v7 : Nat} {v8 : Nat} {v9 : Nat} {t0 : Int32} (C : CX D B Y p s m args meth c cX10_addRule 12 RX10 (some .int)) (hxt : ∀ x ∈ c.exceptionTable.toList, False) (htr : l.stackTraces = false)   (k_v6 : KD v6 = 7) (k_v7 : KD v7 = 7) (k_v8 : KD v8 = 7) (k_v9 : KD v9 = 7) (z_t0 : isZ t0) (hH : HS D B Y w s H locs) (hl : lv_has ls 12 [(0, .ref (B + 0)), (1, .int v1), (6, .ref (B + v6)), (7, .ref (B + v7)), (8, .ref (B + v8)), (9, .ref (B + v9))]) (hf : f_X10_addRule_84 v1 v6 v7 v8 v9 t0 w = some z) : W p l e (RM 3 (xv (zoI z.1)) (6 * xv (zoI z.1))) s m args below meth c H locs 0 0 (vx_MQ below (QX D B Y (zoI z.1) z.2 True) (XX D B Y (zoI z.1) z.2) args s (xv (zoI z.1)) (6 * xv (zoI z.1)) (AB B)) (F0 m 84 ls [.int t0]) := by
  have hx := C.1
  have hb := C.2.1
  unfold f_X10_addRule_84 at hf
  refine lv_istore (lv' := [(10, .int t0), (0, .ref (B + 0)), (1, .int v1), (6, .ref (B + v6)), (7, .ref (B + v7)), (8, .ref (B + v8)), (9, .ref (B + v9))]) hx hb dX10_addRule_84 hl (by decide) rfl (fun ls hl => ?_)
  refine lv_aload_n hx hb dX10_addRule_86 rfl (lv_at hl 1 rfl) ?_
  refine fg_X10_12 C hH dX10_addRule_87 ?_
  rcases bdq_some hf with ⟨w2, hc, hf⟩ | ⟨r1, w3, hc, hf⟩
  · refine q_callV1 (v := .null) (As := []) C hH (ci := 9) rfl (by omega) gk_X10_207 yd_X9_nextRule (by omega) (by omega) kc_1 (c_X9_nextRule kc_1 hc) hl.1 rfl (Nat.le_of_ble_eq_true rfl) dX10_addRule_90 xv_00 (fun H locs hH hP => ?_)
    refine lv_astoreN (lv' := [(11, .null), (10, .int t0), (0, .ref (B + 0)), (1, .int v1), (6, .ref (B + v6)), (7, .ref (B + v7)), (8, .ref (B + v8)), (9, .ref (B + v9))]) hx hb dX10_addRule_93 hl (by decide) rfl (fun ls hl => ?_)
    refine lv_iload hx hb dX10_addRule_95 (lv_at hl 1 rfl) ?_
    refine b_if_eq (tgt := 105) hx hb hf dX10_addRule_97 (by decide) (fun hf => ?_) (fun hf => ?_)
    · exact t_X10_addRule_105 C hxt htr hH (lv_sub hl [] rfl) hf
    · refine lv_aloadN hx hb dX10_addRule_100 (lv_at hl 0 rfl) ?_
      refine lv_ifnonnullN hx hb dX10_addRule_102 ?_
      exact t_X10_addRule_105 C hxt htr hH (lv_sub hl [] rfl) hf
  · refine q_callV1 (v := .ref (B + r1)) (As := []) C hH (ci := 9) rfl (by omega) gk_X10_207 yd_X9_nextRule (by omega) (by omega) kc_1 (c_X9_nextRule kc_1 hc) hl.1 rfl (Nat.le_of_ble_eq_true rfl) dX10_addRule_90 xv_00 (fun H locs hH k_r1 => ?_)
    refine lv_astore (lv' := [(11, .ref (B + r1)), (10, .int t0), (0, .ref (B + 0)), (1, .int v1), (6, .ref (B + v6)), (7, .ref (B + v7)), (8, .ref (B + v8)), (9, .ref (B + v9))]) hx hb dX10_addRule_93 hl (by decide) rfl (fun ls hl => ?_)
    refine lv_iload hx hb dX10_addRule_95 (lv_at hl 1 rfl) ?_
    refine b_if_eq (tgt := 105) hx hb hf dX10_addRule_97 (by decide) (fun hf => ?_) (fun hf => ?_)
    · exact t_X10_addRule_105 C hxt htr hH (lv_sub hl [] rfl) hf
    · refine lv_aload hx hb dX10_addRule_100 (lv_at hl 0 rfl) ?_
      refine lv_ifnonnull (tgt := 115) hx hb dX10_addRule_102 (by decide) ?_
      refine lv_aload hx hb dX10_addRule_115 (lv_at hl 0 rfl) ?_
      refine lv_iload_n hx hb dX10_addRule_117 rfl (lv_at hl 3 rfl) ?_
      refine lv_aload hx hb dX10_addRule_118 (lv_at hl 4 rfl) ?_
      refine lv_aload hx hb dX10_addRule_120 (lv_at hl 5 rfl) ?_
      refine lv_aload hx hb dX10_addRule_122 (lv_at hl 6 rfl) ?_
      refine lv_aload hx hb dX10_addRule_124 (lv_at hl 7 rfl) ?_
      obtain ⟨u, w4, hc, hf⟩ := bd_some hf
      refine q_callV0 (As := [.int v1, .ref (B + v6), .ref (B + v7), .ref (B + v8), .ref (B + v9)]) C hH (ci := 8) rfl (by omega) gk_X10_213 yd_X8_tell (by omega) (by omega) k_r1 (c_X8_tell k_r1 k_v6 k_v7 k_v8 k_v9 hc) hl.1 rfl (Nat.le_of_ble_eq_true rfl) dX10_addRule_126 xv_00 (fun H locs hH hP => ?_)
      refine lv_aload_n hx hb dX10_addRule_129 rfl (lv_at hl 2 rfl) ?_
      refine fg_X10_12 C hH dX10_addRule_130 ?_
      obtain ⟨x6, w5, hc, hf⟩ := bd_some hf
      refine q_callV1 (v := .int x6) (As := []) C hH (ci := 9) rfl (by omega) gk_X10_218 yd_X9_countRule (by omega) (by omega) kc_1 (c_X9_countRule kc_1 hc) hl.1 rfl (Nat.le_of_ble_eq_true rfl) dX10_addRule_133 xv_00 (fun H locs hH hP => ?_)
      cases hf
      exact q_x0 rfl (q_reti C hH trivial dX10_addRule_136)
set_option maxRecDepth 100000 in
set_option maxHeartbeats 4000000 in
theorem t_X10_addRule_83 {D : va_G} {B : Nat} {Y : Nat → ClassId} {p : Program} {l : Launch} {e : Env} {s : State} {m : MethodId} {args : Array Value} {below : List Frame} {meth : Method} {c : Code} {z : ((Nat ⊕ Int32) × Wd)} {H : Heap} {locs : List Loc} {ls : Array Slot} {w : Wd} {v1 : Int32} {v6 : Nat} {v7 : Nat} {v8 : Nat} {v9 : Nat} (C : CX D B Y p s m args meth c cX10_addRule 12 RX10 (some .int)) (hxt : ∀ x ∈ c.exceptionTable.toList, False) (htr : l.stackTraces = false)   (k_v6 : KD v6 = 7) (k_v7 : KD v7 = 7) (k_v8 : KD v8 = 7) (k_v9 : KD v9 = 7)  (hH : HS D B Y w s H locs) (hl : lv_has ls 12 [(0, .ref (B + 0)), (1, .int v1), (6, .ref (B + v6)), (7, .ref (B + v7)), (8, .ref (B + v8)), (9, .ref (B + v9))]) (hf : f_X10_addRule_83 v1 v6 v7 v8 v9 w = some z) : W p l e (RM 3 (xv (zoI z.1)) (6 * xv (zoI z.1))) s m args below meth c H locs 0 0 (vx_MQ below (QX D B Y (zoI z.1) z.2 True) (XX D B Y (zoI z.1) z.2) args s (xv (zoI z.1)) (6 * xv (zoI z.1)) (AB B)) (F0 m 83 ls []) := by
  have hx := C.1
  have hb := C.2.1
  unfold f_X10_addRule_83 at hf
  refine lv_iconst (v := (0 : Int32)) hx hb dX10_addRule_83 (by decide) ?_
  exact t_X10_addRule_84 C hxt htr k_v6 k_v7 k_v8 k_v9 isZ_0 hH (lv_sub hl [0, 1, 2, 3, 4, 5] rfl) hf
set_option maxRecDepth 100000 in
set_option maxHeartbeats 4000000 in
theorem t_X10_addRule_0 {D : va_G} {B : Nat} {Y : Nat → ClassId} {p : Program} {l : Launch} {e : Env} {s : State} {m : MethodId} {args : Array Value} {below : List Frame} {meth : Method} {c : Code} {z : ((Nat ⊕ Int32) × Wd)} {H : Heap} {locs : List Loc} {ls : Array Slot} {w : Wd} {v1 : Int32} {v2 : Int32} {v3 : Int32} {v4 : Int32} {v5 : Int32} (C : CX D B Y p s m args meth c cX10_addRule 12 RX10 (some .int)) (hxt : ∀ x ∈ c.exceptionTable.toList, False) (htr : l.stackTraces = false)     (hH : HS D B Y w s H locs) (hl : lv_has ls 12 [(0, .ref (B + 0)), (1, .int v1), (2, .int v2), (3, .int v3), (4, .int v4), (5, .int v5)]) (hf : f_X10_addRule v1 v2 v3 v4 v5 w = some z) : W p l e (RM 3 (xv (zoI z.1)) (6 * xv (zoI z.1))) s m args below meth c H locs 0 0 (vx_MQ below (QX D B Y (zoI z.1) z.2 True) (XX D B Y (zoI z.1) z.2) args s (xv (zoI z.1)) (6 * xv (zoI z.1)) (AB B)) (F0 m 0 ls []) := by
  have hx := C.1
  have hb := C.2.1
  unfold f_X10_addRule at hf
  refine lv_aload_n hx hb dX10_addRule_0 rfl (lv_at hl 0 rfl) ?_
  refine lv_iload_n hx hb dX10_addRule_1 rfl (lv_at hl 2 rfl) ?_
  rcases bdx_some hf with ⟨k, w1, hc, rfl⟩ | ⟨r2, w1, hc, hf⟩
  · exact q_xrunX (k0 := k) (q_xV (As := [.int v2]) C hH (ci := 10) rfl (by omega) gk_X10_194 yd_X10_textOf (by omega) (by omega) kc_0 (c_X10_textOf (r := .inl k) htr hc) hl.1 rfl (Nat.le_of_ble_eq_true rfl) dX10_addRule_2 (xv_le rfl)) hH (fun H locs ce q hH h1 h2 h3 => q_out C hH hxt h1 h2 h3 (xv_1 rfl) (xv_6 rfl))
  refine q_xrun (ov := some (.ref (B + r2))) (q_xV (As := [.int v2]) C hH (ci := 10) rfl (by omega) gk_X10_194 yd_X10_textOf (by omega) (by omega) kc_0 (c_X10_textOf (r := .inr r2) htr hc) hl.1 rfl (Nat.le_of_ble_eq_true rfl) dX10_addRule_2 (xv_0 rfl xv_00)) hH (fun H locs hH k_r2 => ?_)
  refine lv_astore (lv' := [(6, .ref (B + r2)), (0, .ref (B + 0)), (1, .int v1), (2, .int v2), (3, .int v3), (4, .int v4), (5, .int v5)]) hx hb dX10_addRule_5 hl (by decide) rfl (fun ls hl => ?_)
  refine lv_aload_n hx hb dX10_addRule_7 rfl (lv_at hl 1 rfl) ?_
  refine lv_iload_n hx hb dX10_addRule_8 rfl (lv_at hl 4 rfl) ?_
  rcases bdx_some hf with ⟨k, w3, hc, rfl⟩ | ⟨r4, w3, hc, hf⟩
  · exact q_xrunX (k0 := k) (q_xV (As := [.int v3]) C hH (ci := 10) rfl (by omega) gk_X10_194 yd_X10_textOf (by omega) (by omega) kc_0 (c_X10_textOf (r := .inl k) htr hc) hl.1 rfl (Nat.le_of_ble_eq_true rfl) dX10_addRule_9 (xv_le rfl)) hH (fun H locs ce q hH h1 h2 h3 => q_out C hH hxt h1 h2 h3 (xv_1 rfl) (xv_6 rfl))
  refine q_xrun (ov := some (.ref (B + r4))) (q_xV (As := [.int v3]) C hH (ci := 10) rfl (by omega) gk_X10_194 yd_X10_textOf (by omega) (by omega) kc_0 (c_X10_textOf (r := .inr r4) htr hc) hl.1 rfl (Nat.le_of_ble_eq_true rfl) dX10_addRule_9 (xv_0 rfl xv_00)) hH (fun H locs hH k_r4 => ?_)
  refine lv_astore (lv' := [(7, .ref (B + r4)), (6, .ref (B + r2)), (0, .ref (B + 0)), (1, .int v1), (2, .int v2), (3, .int v3), (4, .int v4), (5, .int v5)]) hx hb dX10_addRule_12 hl (by decide) rfl (fun ls hl => ?_)
  refine lv_aload_n hx hb dX10_addRule_14 rfl (lv_at hl 2 rfl) ?_
  refine lv_iload hx hb dX10_addRule_15 (lv_at hl 6 rfl) ?_
  rcases bdx_some hf with ⟨k, w5, hc, rfl⟩ | ⟨r6, w5, hc, hf⟩
  · exact q_xrunX (k0 := k) (q_xV (As := [.int v4]) C hH (ci := 10) rfl (by omega) gk_X10_194 yd_X10_textOf (by omega) (by omega) kc_0 (c_X10_textOf (r := .inl k) htr hc) hl.1 rfl (Nat.le_of_ble_eq_true rfl) dX10_addRule_17 (xv_le rfl)) hH (fun H locs ce q hH h1 h2 h3 => q_out C hH hxt h1 h2 h3 (xv_1 rfl) (xv_6 rfl))
  refine q_xrun (ov := some (.ref (B + r6))) (q_xV (As := [.int v4]) C hH (ci := 10) rfl (by omega) gk_X10_194 yd_X10_textOf (by omega) (by omega) kc_0 (c_X10_textOf (r := .inr r6) htr hc) hl.1 rfl (Nat.le_of_ble_eq_true rfl) dX10_addRule_17 (xv_0 rfl xv_00)) hH (fun H locs hH k_r6 => ?_)
  refine lv_astore (lv' := [(8, .ref (B + r6)), (7, .ref (B + r4)), (6, .ref (B + r2)), (0, .ref (B + 0)), (1, .int v1), (2, .int v2), (3, .int v3), (4, .int v4), (5, .int v5)]) hx hb dX10_addRule_20 hl (by decide) rfl (fun ls hl => ?_)
  refine lv_aload_n hx hb dX10_addRule_22 rfl (lv_at hl 3 rfl) ?_
  refine lv_iload hx hb dX10_addRule_23 (lv_at hl 8 rfl) ?_
  rcases bdx_some hf with ⟨k, w7, hc, rfl⟩ | ⟨r8, w7, hc, hf⟩
  · exact q_xrunX (k0 := k) (q_xV (As := [.int v5]) C hH (ci := 10) rfl (by omega) gk_X10_194 yd_X10_textOf (by omega) (by omega) kc_0 (c_X10_textOf (r := .inl k) htr hc) hl.1 rfl (Nat.le_of_ble_eq_true rfl) dX10_addRule_25 (xv_le rfl)) hH (fun H locs ce q hH h1 h2 h3 => q_out C hH hxt h1 h2 h3 (xv_1 rfl) (xv_6 rfl))
  refine q_xrun (ov := some (.ref (B + r8))) (q_xV (As := [.int v5]) C hH (ci := 10) rfl (by omega) gk_X10_194 yd_X10_textOf (by omega) (by omega) kc_0 (c_X10_textOf (r := .inr r8) htr hc) hl.1 rfl (Nat.le_of_ble_eq_true rfl) dX10_addRule_25 (xv_0 rfl xv_00)) hH (fun H locs hH k_r8 => ?_)
  refine lv_astore (lv' := [(9, .ref (B + r8)), (8, .ref (B + r6)), (7, .ref (B + r4)), (6, .ref (B + r2)), (0, .ref (B + 0)), (1, .int v1), (2, .int v2), (3, .int v3), (4, .int v4), (5, .int v5)]) hx hb dX10_addRule_28 hl (by decide) rfl (fun ls hl => ?_)
  refine lv_iload_n hx hb dX10_addRule_30 rfl (lv_at hl 5 rfl) ?_
  refine lv_iconst (v := (0 : Int32)) hx hb dX10_addRule_31 (by decide) ?_
  refine lv_iconst (v := (1 : Int32)) hx hb dX10_addRule_32 (by decide) ?_
  obtain ⟨x10, w9, hc, hf⟩ := bd_some hf
  refine q_callS1 (v := .int x10) (As := [.int v1, .int (0 : Int32), .int (1 : Int32)]) C hH gk_X10_99 yd_X10_isWithin (by omega) (by omega) (c_X10_isWithin hc) hl.1 rfl (Nat.le_of_ble_eq_true rfl) dX10_addRule_33 xv_00 (fun H locs hH z_x10 => ?_)
  rcases bdx_some hf with ⟨k, w11, hc, rfl⟩ | ⟨u, w11, hc, hf⟩
  · exact q_xrunX (k0 := k) (q_xS (As := [.int x10]) C hH gk_X10_103 yd_X10_checkArgument (by omega) (by omega) (c_X10_checkArgument (r := .inl k) htr z_x10 hc) hl.1 rfl (Nat.le_of_ble_eq_true rfl) dX10_addRule_36 (xv_le rfl)) hH (fun H locs ce q hH h1 h2 h3 => q_out C hH hxt h1 h2 h3 (xv_1 rfl) (xv_6 rfl))
  refine q_xrun (ov := none) (q_xS (As := [.int x10]) C hH gk_X10_103 yd_X10_checkArgument (by omega) (by omega) (c_X10_checkArgument (r := .inr u) htr z_x10 hc) hl.1 rfl (Nat.le_of_ble_eq_true rfl) dX10_addRule_36 (xv_0 rfl xv_00)) hH (fun H locs hH hP => ?_)
  refine lv_aload hx hb dX10_addRule_39 (lv_at hl 3 rfl) ?_
  obtain ⟨x13, w12, hc, hf⟩ := bd_some hf
  refine q_callV1 (v := .int x13) (As := []) C hH (ci := 7) rfl (by omega) gk_X10_107 yd_X7_size (by omega) (by omega) k_r2 (c_X7_size k_r2 hc) hl.1 rfl (Nat.le_of_ble_eq_true rfl) dX10_addRule_41 xv_00 (fun H locs hH hP => ?_)
  refine lv_iconst (v := (2 : Int32)) hx hb dX10_addRule_44 (by decide) ?_
  refine b_icmp_gt (tgt := 83) hx hb hf dX10_addRule_45 (by decide) (fun hf => ?_) (fun hf => ?_)
  · exact t_X10_addRule_83 C hxt htr k_r2 k_r4 k_r6 k_r8 hH (lv_sub hl [4, 5, 3, 2, 1, 0] rfl) hf
  · refine lv_aload hx hb dX10_addRule_48 (lv_at hl 1 rfl) ?_
    obtain ⟨x15, w14, hc, hf⟩ := bd_some hf
    refine q_callV1 (v := .int x15) (As := []) C hH (ci := 7) rfl (by omega) gk_X10_107 yd_X7_size (by omega) (by omega) k_r6 (c_X7_size k_r6 hc) hl.1 rfl (Nat.le_of_ble_eq_true rfl) dX10_addRule_50 xv_00 (fun H locs hH hP => ?_)
    refine lv_iconst (v := (2 : Int32)) hx hb dX10_addRule_53 (by decide) ?_
    refine b_icmp_gt (tgt := 83) hx hb hf dX10_addRule_54 (by decide) (fun hf => ?_) (fun hf => ?_)
    · exact t_X10_addRule_83 C hxt htr k_r2 k_r4 k_r6 k_r8 hH (lv_sub hl [4, 5, 3, 2, 1, 0] rfl) hf
    · refine lv_aload hx hb dX10_addRule_57 (lv_at hl 2 rfl) ?_
      obtain ⟨x17, w16, hc, hf⟩ := bd_some hf
      refine q_callV1 (v := .int x17) (As := []) C hH (ci := 7) rfl (by omega) gk_X10_107 yd_X7_size (by omega) (by omega) k_r4 (c_X7_size k_r4 hc) hl.1 rfl (Nat.le_of_ble_eq_true rfl) dX10_addRule_59 xv_00 (fun H locs hH hP => ?_)
      refine lv_iconst (v := (1 : Int32)) hx hb dX10_addRule_62 (by decide) ?_
      refine lv_iconst (v := (3 : Int32)) hx hb dX10_addRule_63 (by decide) ?_
      obtain ⟨x19, w18, hc, hf⟩ := bd_some hf
      refine q_callS1 (v := .int x19) (As := [.int x17, .int (1 : Int32), .int (3 : Int32)]) C hH gk_X10_99 yd_X10_isWithin (by omega) (by omega) (c_X10_isWithin hc) hl.1 rfl (Nat.le_of_ble_eq_true rfl) dX10_addRule_64 xv_00 (fun H locs hH z_x19 => ?_)
      refine b_if_eq (tgt := 83) hx hb hf dX10_addRule_67 (by decide) (fun hf => ?_) (fun hf => ?_)
      · exact t_X10_addRule_83 C hxt htr k_r2 k_r4 k_r6 k_r8 hH (lv_sub hl [4, 5, 3, 2, 1, 0] rfl) hf
      · refine lv_aload hx hb dX10_addRule_70 (lv_at hl 0 rfl) ?_
        obtain ⟨x21, w20, hc, hf⟩ := bd_some hf
        refine q_callV1 (v := .int x21) (As := []) C hH (ci := 7) rfl (by omega) gk_X10_107 yd_X7_size (by omega) (by omega) k_r8 (c_X7_size k_r8 hc) hl.1 rfl (Nat.le_of_ble_eq_true rfl) dX10_addRule_72 xv_00 (fun H locs hH hP => ?_)
        refine lv_iconst (v := (3 : Int32)) hx hb dX10_addRule_75 (by decide) ?_
        refine b_icmp_gt (tgt := 83) hx hb hf dX10_addRule_76 (by decide) (fun hf => ?_) (fun hf => ?_)
        · exact t_X10_addRule_83 C hxt htr k_r2 k_r4 k_r6 k_r8 hH (lv_sub hl [4, 5, 3, 2, 1, 0] rfl) hf
        · refine lv_iconst (v := (1 : Int32)) hx hb dX10_addRule_79 (by decide) ?_
          refine lv_goto (tgt := 84) hx hb dX10_addRule_80 (by decide) ?_
          exact t_X10_addRule_84 C hxt htr k_r2 k_r4 k_r6 k_r8 isZ_1 hH (lv_sub hl [4, 5, 3, 2, 1, 0] rfl) hf
set_option maxRecDepth 100000 in
theorem c_X10_addRule {l : Launch} {D : va_G} {B : Nat} {Y : Nat → ClassId} {v1 : Int32} {v2 : Int32} {v3 : Int32} {v4 : Int32} {v5 : Int32} {w : Wd} {r : (Nat ⊕ Int32)} {w1 : Wd} (htr : l.stackTraces = false)   (hf : f_X10_addRule v1 v2 v3 v4 v5 w = some (r, w1)) : XM l D B Y yX10_addRule cX10_addRule 12 (some .int) 3 [.ref (B + 0), .int v1, .int v2, .int v3, .int v4, .int v5] w (zoI r) w1 True :=
  XM_of (by decide +kernel) (Nat.le_of_ble_eq_true rfl) (fun p e s m args below meth c ls C hxt hH hl => t_X10_addRule_0 C hxt htr  hH (lv_sub hl [0, 1, 2, 3, 4, 5] rfl) hf)
/-! LetterTables.copyCells -/
set_option maxRecDepth 100000 in
set_option maxHeartbeats 4000000 in
theorem tb_X10_copyCells_2 {D : va_G} {B : Nat} {Y : Nat → ClassId} {p : Program} {l : Launch} {e : Env} {s : State} {m : MethodId} {args : Array Value} {below : List Frame} {meth : Method} {c : Code} {z : (Unit × Wd)} {H : Heap} {locs : List Loc} {ls : Array Slot} {w : Wd} {v0 : Nat} {v1 : Nat} {v2 : Int32} (C : CX D B Y p s m args meth c cX10_copyCells 3 RX10 none)  {rc_2 : Nat × Nat × Int32 × Wd → Option (Unit × Wd)} (hr_2 : ∀ (v0 : Nat) (v1 : Nat) (v2 : Int32) (w : Wd), rc_2 (v0, v1, v2, w) = some z → KD v0 = 20 → KD v1 = 20 → ∀ (H : Heap) (locs : List Loc) (ls : Array Slot), HS D B Y w s H locs → lv_has ls 3 [(0, .ref (B + v0)), (1, .ref (B + v1)), (2, .int v2)] → W p l e (RM 0 0 0) s m args below meth c H locs 0 0 (MQ below (QG D B Y none z.2 True) args s 0 0 (AB B)) (F0 m 2 ls []))  (k_v0 : KD v0 = 20) (k_v1 : KD v1 = 20)  (hH : HS D B Y w s H locs) (hl : lv_has ls 3 [(0, .ref (B + v0)), (1, .ref (B + v1)), (2, .int v2)]) (hf : g_X10_copyCells_2 rc_2 v0 v1 v2 w = some z) : W p l e (RM 0 0 0) s m args below meth c H locs 0 0 (MQ below (QG D B Y none z.2 True) args s 0 0 (AB B)) (F0 m 2 ls []) := by
  have hx := C.1
  have hb := C.2.1
  unfold g_X10_copyCells_2 at hf
  refine lv_iload_n hx hb dX10_copyCells_2 rfl (lv_at hl 2 rfl) ?_
  refine lv_aload_n hx hb dX10_copyCells_3 rfl (lv_at hl 0 rfl) ?_
  refine q_alen C hH (t0 := 0) (ci := 20) rfl (by omega) k_v0 dX10_copyCells_4 ?_
  refine b_icmp_ge (tgt := 26) hx hb hf dX10_copyCells_5 (by decide) (fun hf => ?_) (fun hf => ?_)
  · cases hf
    exact q_retv C hH trivial dX10_copyCells_26
  · refine lv_iload_n hx hb dX10_copyCells_8 rfl (lv_at hl 2 rfl) ?_
    refine lv_aload_n hx hb dX10_copyCells_9 rfl (lv_at hl 1 rfl) ?_
    refine q_alen C hH (t0 := 0) (ci := 20) rfl (by omega) k_v1 dX10_copyCells_10 ?_
    refine b_icmp_ge (tgt := 26) hx hb hf dX10_copyCells_11 (by decide) (fun hf => ?_) (fun hf => ?_)
    · cases hf
      exact q_retv C hH trivial dX10_copyCells_26
    · refine lv_aload_n hx hb dX10_copyCells_14 rfl (lv_at hl 1 rfl) ?_
      refine lv_iload_n hx hb dX10_copyCells_15 rfl (lv_at hl 2 rfl) ?_
      refine lv_aload_n hx hb dX10_copyCells_16 rfl (lv_at hl 0 rfl) ?_
      refine lv_iload_n hx hb dX10_copyCells_17 rfl (lv_at hl 2 rfl) ?_
      refine g_iald C hH k_v0 hf dX10_copyCells_18 (fun x1 hf => ?_)
      refine g_iast C hH k_v1 hf dX10_copyCells_19 (fun w2 H locs hf hH => ?_)
      refine b_let hf (fun x3 he hf => ?_)
      refine lv_iinc (v := x3) (lv' := [(2, .int x3), (0, .ref (B + v0)), (1, .ref (B + v1))]) hx hb dX10_copyCells_20 hl (k := 2) rfl (by rw [← he]; rfl) (by decide) rfl (fun ls hl => ?_)
      refine lv_goto (tgt := 2) hx hb dX10_copyCells_23 (by decide) ?_
      exact hr_2 v0 v1 x3 w2 hf k_v0 k_v1 _ _ _ hH (lv_sub hl [1, 2, 0] rfl)
set_option maxRecDepth 100000 in
set_option maxHeartbeats 4000000 in
theorem t_X10_copyCells_2 {D : va_G} {B : Nat} {Y : Nat → ClassId} {p : Program} {l : Launch} {e : Env} {s : State} {m : MethodId} {args : Array Value} {below : List Frame} {meth : Method} {c : Code} {z : (Unit × Wd)} {H : Heap} {locs : List Loc} {ls : Array Slot} {w : Wd} {v0 : Nat} {v1 : Nat} {v2 : Int32} (C : CX D B Y p s m args meth c cX10_copyCells 3 RX10 none)   (k_v0 : KD v0 = 20) (k_v1 : KD v1 = 20)  (hH : HS D B Y w s H locs) (hl : lv_has ls 3 [(0, .ref (B + v0)), (1, .ref (B + v1)), (2, .int v2)]) (hf : f_X10_copyCells_2 v0 v1 v2 w = some z) : W p l e (RM 0 0 0) s m args below meth c H locs 0 0 (MQ below (QG D B Y none z.2 True) args s 0 0 (AB B)) (F0 m 2 ls []) := by
  exact loopN_ind (z := z) (body := fun rc σ => g_X10_copyCells_2 rc  σ.1 σ.2.1 σ.2.2.1 σ.2.2.2)
    (P := fun σ => KD σ.1 = 20 → KD σ.2.1 = 20 → ∀ (H : Heap) (locs : List Loc) (ls : Array Slot), HS D B Y σ.2.2.2 s H locs → lv_has ls 3 [(0, .ref (B + σ.1)), (1, .ref (B + σ.2.1)), (2, .int σ.2.2.1)] → W p l e (RM 0 0 0) s m args below meth c H locs 0 0 (MQ below (QG D B Y none z.2 True) args s 0 0 (AB B)) (F0 m 2 ls []))
    (fun rc hrec σ hf k_v0 k_v1 H locs ls hH hl => tb_X10_copyCells_2 C (fun v0 v1 v2 w hr k_v0 k_v1 H locs ls hH hl => hrec (v0, v1, v2, w) hr k_v0 k_v1 H locs ls hH hl)  k_v0 k_v1 hH hl hf) FU (v0, v1, v2, w) hf k_v0 k_v1 H locs ls hH hl
set_option maxRecDepth 100000 in
set_option maxHeartbeats 4000000 in
theorem t_X10_copyCells_0 {D : va_G} {B : Nat} {Y : Nat → ClassId} {p : Program} {l : Launch} {e : Env} {s : State} {m : MethodId} {args : Array Value} {below : List Frame} {meth : Method} {c : Code} {z : (Unit × Wd)} {H : Heap} {locs : List Loc} {ls : Array Slot} {w : Wd} {v0 : Nat} {v1 : Nat} (C : CX D B Y p s m args meth c cX10_copyCells 3 RX10 none)   (k_v0 : KD v0 = 20) (k_v1 : KD v1 = 20)  (hH : HS D B Y w s H locs) (hl : lv_has ls 3 [(0, .ref (B + v0)), (1, .ref (B + v1))]) (hf : f_X10_copyCells v0 v1 w = some z) : W p l e (RM 0 0 0) s m args below meth c H locs 0 0 (MQ below (QG D B Y none z.2 True) args s 0 0 (AB B)) (F0 m 0 ls []) := by
  have hx := C.1
  have hb := C.2.1
  unfold f_X10_copyCells at hf
  refine lv_iconst (v := (0 : Int32)) hx hb dX10_copyCells_0 (by decide) ?_
  refine lv_istore_n (lv' := [(2, .int (0 : Int32)), (0, .ref (B + v0)), (1, .ref (B + v1))]) hx hb dX10_copyCells_1 rfl hl (by decide) rfl (fun ls hl => ?_)
  exact t_X10_copyCells_2 C k_v0 k_v1 hH (lv_sub hl [1, 2, 0] rfl) hf
set_option maxRecDepth 100000 in
theorem c_X10_copyCells {l : Launch} {D : va_G} {B : Nat} {Y : Nat → ClassId} {v0 : Nat} {v1 : Nat} {w : Wd} {r : Unit} {w1 : Wd} (k_v0 : KD v0 = 20) (k_v1 : KD v1 = 20)  (hf : f_X10_copyCells v0 v1 w = some (r, w1)) : CM l D B Y yX10_copyCells cX10_copyCells 3 none 0 [.ref (B + v0), .ref (B + v1)] w none w1 True :=
  CM_of (by decide +kernel) (Nat.le_of_ble_eq_true rfl) (fun p e s m args below meth c ls C hH hl => t_X10_copyCells_0 C k_v0 k_v1 hH (lv_sub hl [0, 1] rfl) hf)
/-! LetterTables$PluralRule.copyFrom -/
set_option maxRecDepth 100000 in
set_option maxHeartbeats 4000000 in
theorem t_X6_copyFrom_0 {D : va_G} {B : Nat} {Y : Nat → ClassId} {p : Program} {l : Launch} {e : Env} {s : State} {m : MethodId} {args : Array Value} {below : List Frame} {meth : Method} {c : Code} {z : (Unit × Wd)} {H : Heap} {locs : List Loc} {ls : Array Slot} {w : Wd} {v0 : Nat} {v1 : Nat} (C : CX D B Y p s m args meth c cX6_copyFrom 2 RX6 none)   (k_v0 : KD v0 = 6) (k_v1 : KD v1 = 6)  (hH : HS D B Y w s H locs) (hl : lv_has ls 2 [(0, .ref (B + v0)), (1, .ref (B + v1))]) (hf : f_X6_copyFrom v0 v1 w = some z) : W p l e (RM 1 0 0) s m args below meth c H locs 0 0 (MQ below (QG D B Y none z.2 True) args s 0 0 (AB B)) (F0 m 0 ls []) := by
  have hx := C.1
  have hb := C.2.1
  unfold f_X6_copyFrom at hf
  refine lv_aload_n hx hb dX6_copyFrom_0 rfl (lv_at hl 0 rfl) ?_
  refine lv_aload_n hx hb dX6_copyFrom_1 rfl (lv_at hl 1 rfl) ?_
  refine fg_X6_13 C hH k_v1 dX6_copyFrom_2 ?_
  refine lv_aload_n hx hb dX6_copyFrom_5 rfl (lv_at hl 1 rfl) ?_
  refine fg_X6_7 C hH k_v1 dX6_copyFrom_6 ?_
  refine lv_aload_n hx hb dX6_copyFrom_9 rfl (lv_at hl 1 rfl) ?_
  refine fg_X6_16 C hH k_v1 dX6_copyFrom_10 ?_
  refine lv_aload_n hx hb dX6_copyFrom_13 rfl (lv_at hl 1 rfl) ?_
  refine fg_X6_19 C hH k_v1 dX6_copyFrom_14 ?_
  refine lv_aload_n hx hb dX6_copyFrom_17 rfl (lv_at hl 1 rfl) ?_
  refine fg_X6_22 C hH k_v1 dX6_copyFrom_18 ?_
  refine lv_aload_n hx hb dX6_copyFrom_21 rfl (lv_at hl 1 rfl) ?_
  refine fg_X6_25 C hH k_v1 dX6_copyFrom_22 ?_
  refine lv_aload_n hx hb dX6_copyFrom_25 rfl (lv_at hl 1 rfl) ?_
  refine fg_X6_28 C hH k_v1 dX6_copyFrom_26 ?_
  obtain ⟨u, w1, hc, hf⟩ := bd_some hf
  refine q_callV0 (As := [.int (w.1 v1 0), .int (w.1 v1 1), .int (w.1 v1 2), .int (w.1 v1 3), .int (w.1 v1 4), .int (w.1 v1 5), .int (w.1 v1 6)]) C hH (ci := 6) rfl (by omega) gk_X6_31 yd_X6_tell (by omega) (by omega) k_v0 (c_X6_tell k_v0 hc) hl.1 rfl (Nat.le_of_ble_eq_true rfl) dX6_copyFrom_29 xv_00 (fun H locs hH hP => ?_)
  cases hf
  exact q_retv C hH trivial dX6_copyFrom_32
set_option maxRecDepth 100000 in
theorem c_X6_copyFrom {l : Launch} {D : va_G} {B : Nat} {Y : Nat → ClassId} {v0 : Nat} {v1 : Nat} {w : Wd} {r : Unit} {w1 : Wd} (k_v0 : KD v0 = 6) (k_v1 : KD v1 = 6)  (hf : f_X6_copyFrom v0 v1 w = some (r, w1)) : CM l D B Y yX6_copyFrom cX6_copyFrom 2 none 1 [.ref (B + v0), .ref (B + v1)] w none w1 True :=
  CM_of (by decide +kernel) (Nat.le_of_ble_eq_true rfl) (fun p e s m args below meth c ls C hH hl => t_X6_copyFrom_0 C k_v0 k_v1 hH (lv_sub hl [0, 1] rfl) hf)
/-! LetterTables$Language.copyFrom -/
set_option maxRecDepth 100000 in
set_option maxHeartbeats 4000000 in
theorem t_X2_copyFrom_96 {D : va_G} {B : Nat} {Y : Nat → ClassId} {p : Program} {l : Launch} {e : Env} {s : State} {m : MethodId} {args : Array Value} {below : List Frame} {meth : Method} {c : Code} {z : (Unit × Wd)} {H : Heap} {locs : List Loc} {ls : Array Slot} {w : Wd} {v0 : Nat} {v1 : Nat} (C : CX D B Y p s m args meth c cX2_copyFrom 3 RX2 none)   (k_v0 : KD v0 = 2) (k_v1 : KD v1 = 2)  (hH : HS D B Y w s H locs) (hl : lv_has ls 3 [(0, .ref (B + v0)), (1, .ref (B + v1))]) (hf : f_X2_copyFrom_96 v0 v1 w = some z) : W p l e (RM 2 0 0) s m args below meth c H locs 0 0 (MQ below (QG D B Y none z.2 True) args s 0 0 (AB B)) (F0 m 96 ls []) := by
  have hx := C.1
  have hb := C.2.1
  unfold f_X2_copyFrom_96 at hf
  refine lv_aload_n hx hb dX2_copyFrom_96 rfl (lv_at hl 0 rfl) ?_
  refine lv_aload_n hx hb dX2_copyFrom_97 rfl (lv_at hl 1 rfl) ?_
  refine fg_X2_52 C hH k_v1 dX2_copyFrom_98 ?_
  refine fp_X2_52 C hH k_v0 dX2_copyFrom_101 (fun H locs hH => ?_)
  refine b_w hf hH (fun w1 hf hH => ?_)
  cases hf
  exact q_retv C hH trivial dX2_copyFrom_104
set_option maxRecDepth 100000 in
set_option maxHeartbeats 4000000 in
theorem tb_X2_copyFrom_57 {D : va_G} {B : Nat} {Y : Nat → ClassId} {p : Program} {l : Launch} {e : Env} {s : State} {m : MethodId} {args : Array Value} {below : List Frame} {meth : Method} {c : Code} {z : (Unit × Wd)} {H : Heap} {locs : List Loc} {ls : Array Slot} {w : Wd} {v0 : Nat} {v1 : Nat} {v2 : Int32} (C : CX D B Y p s m args meth c cX2_copyFrom 3 RX2 none)  {rc_57 : Nat × Nat × Int32 × Wd → Option (Unit × Wd)} (hr_57 : ∀ (v0 : Nat) (v1 : Nat) (v2 : Int32) (w : Wd), rc_57 (v0, v1, v2, w) = some z → KD v0 = 2 → KD v1 = 2 → ∀ (H : Heap) (locs : List Loc) (ls : Array Slot), HS D B Y w s H locs → lv_has ls 3 [(0, .ref (B + v0)), (1, .ref (B + v1)), (2, .int v2)] → W p l e (RM 2 0 0) s m args below meth c H locs 0 0 (MQ below (QG D B Y none z.2 True) args s 0 0 (AB B)) (F0 m 57 ls []))  (k_v0 : KD v0 = 2) (k_v1 : KD v1 = 2)  (hH : HS D B Y w s H locs) (hl : lv_has ls 3 [(0, .ref (B + v0)), (1, .ref (B + v1)), (2, .int v2)]) (hf : g_X2_copyFrom_57 rc_57 v0 v1 v2 w = some z) : W p l e (RM 2 0 0) s m args below meth c H locs 0 0 (MQ below (QG D B Y none z.2 True) args s 0 0 (AB B)) (F0 m 57 ls []) := by
  have hx := C.1
  have hb := C.2.1
  unfold g_X2_copyFrom_57 at hf
  refine lv_iload_n hx hb dX2_copyFrom_57 rfl (lv_at hl 2 rfl) ?_
  refine lv_aload_n hx hb dX2_copyFrom_58 rfl (lv_at hl 0 rfl) ?_
  refine fg_X2_35 C hH k_v0 dX2_copyFrom_59 ?_
  refine q_alen C hH (t0 := 7) (ci := 27) rfl (by omega) (ko_2_5 k_v0) dX2_copyFrom_62 ?_
  refine b_icmp_ge (tgt := 96) hx hb hf dX2_copyFrom_63 (by decide) (fun hf => ?_) (fun hf => ?_)
  · exact t_X2_copyFrom_96 C k_v0 k_v1 hH (lv_sub hl [0, 1] rfl) hf
  · refine lv_iload_n hx hb dX2_copyFrom_66 rfl (lv_at hl 2 rfl) ?_
    refine lv_aload_n hx hb dX2_copyFrom_67 rfl (lv_at hl 1 rfl) ?_
    refine fg_X2_35 C hH k_v1 dX2_copyFrom_68 ?_
    refine q_alen C hH (t0 := 7) (ci := 27) rfl (by omega) (ko_2_5 k_v1) dX2_copyFrom_71 ?_
    refine b_icmp_ge (tgt := 96) hx hb hf dX2_copyFrom_72 (by decide) (fun hf => ?_) (fun hf => ?_)
    · exact t_X2_copyFrom_96 C k_v0 k_v1 hH (lv_sub hl [0, 1] rfl) hf
    · refine lv_aload_n hx hb dX2_copyFrom_75 rfl (lv_at hl 0 rfl) ?_
      refine fg_X2_35 C hH k_v0 dX2_copyFrom_76 ?_
      refine lv_iload_n hx hb dX2_copyFrom_79 rfl (lv_at hl 2 rfl) ?_
      refine g_aald C hH (t0 := 7) (ci := 27) (K := 6) rfl (by omega) (fun _ h => ka_27 (ko_2_5 k_v0) h) (ko_2_5 k_v0) hf dX2_copyFrom_80 (fun r1 k_r1 hf => ?_)
      refine lv_aload_n hx hb dX2_copyFrom_81 rfl (lv_at hl 1 rfl) ?_
      refine fg_X2_35 C hH k_v1 dX2_copyFrom_82 ?_
      refine lv_iload_n hx hb dX2_copyFrom_85 rfl (lv_at hl 2 rfl) ?_
      refine g_aald C hH (t0 := 7) (ci := 27) (K := 6) rfl (by omega) (fun _ h => ka_27 (ko_2_5 k_v1) h) (ko_2_5 k_v1) hf dX2_copyFrom_86 (fun r2 k_r2 hf => ?_)
      obtain ⟨u, w3, hc, hf⟩ := bd_some hf
      refine q_callV0 (As := [.ref (B + r2)]) C hH (ci := 6) rfl (by omega) gk_X2_48 yd_X6_copyFrom (by omega) (by omega) k_r1 (c_X6_copyFrom k_r1 k_r2 hc) hl.1 rfl (Nat.le_of_ble_eq_true rfl) dX2_copyFrom_87 xv_00 (fun H locs hH hP => ?_)
      refine b_let hf (fun x4 he hf => ?_)
      refine lv_iinc (v := x4) (lv' := [(2, .int x4), (0, .ref (B + v0)), (1, .ref (B + v1))]) hx hb dX2_copyFrom_90 hl (k := 2) rfl (by rw [← he]; rfl) (by decide) rfl (fun ls hl => ?_)
      refine lv_goto (tgt := 57) hx hb dX2_copyFrom_93 (by decide) ?_
      exact hr_57 v0 v1 x4 w3 hf k_v0 k_v1 _ _ _ hH (lv_sub hl [1, 2, 0] rfl)
set_option maxRecDepth 100000 in
set_option maxHeartbeats 4000000 in
theorem t_X2_copyFrom_57 {D : va_G} {B : Nat} {Y : Nat → ClassId} {p : Program} {l : Launch} {e : Env} {s : State} {m : MethodId} {args : Array Value} {below : List Frame} {meth : Method} {c : Code} {z : (Unit × Wd)} {H : Heap} {locs : List Loc} {ls : Array Slot} {w : Wd} {v0 : Nat} {v1 : Nat} {v2 : Int32} (C : CX D B Y p s m args meth c cX2_copyFrom 3 RX2 none)   (k_v0 : KD v0 = 2) (k_v1 : KD v1 = 2)  (hH : HS D B Y w s H locs) (hl : lv_has ls 3 [(0, .ref (B + v0)), (1, .ref (B + v1)), (2, .int v2)]) (hf : f_X2_copyFrom_57 v0 v1 v2 w = some z) : W p l e (RM 2 0 0) s m args below meth c H locs 0 0 (MQ below (QG D B Y none z.2 True) args s 0 0 (AB B)) (F0 m 57 ls []) := by
  exact loopN_ind (z := z) (body := fun rc σ => g_X2_copyFrom_57 rc  σ.1 σ.2.1 σ.2.2.1 σ.2.2.2)
    (P := fun σ => KD σ.1 = 2 → KD σ.2.1 = 2 → ∀ (H : Heap) (locs : List Loc) (ls : Array Slot), HS D B Y σ.2.2.2 s H locs → lv_has ls 3 [(0, .ref (B + σ.1)), (1, .ref (B + σ.2.1)), (2, .int σ.2.2.1)] → W p l e (RM 2 0 0) s m args below meth c H locs 0 0 (MQ below (QG D B Y none z.2 True) args s 0 0 (AB B)) (F0 m 57 ls []))
    (fun rc hrec σ hf k_v0 k_v1 H locs ls hH hl => tb_X2_copyFrom_57 C (fun v0 v1 v2 w hr k_v0 k_v1 H locs ls hH hl => hrec (v0, v1, v2, w) hr k_v0 k_v1 H locs ls hH hl)  k_v0 k_v1 hH hl hf) FU (v0, v1, v2, w) hf k_v0 k_v1 H locs ls hH hl
set_option maxRecDepth 100000 in
set_option maxHeartbeats 4000000 in
theorem t_X2_copyFrom_0 {D : va_G} {B : Nat} {Y : Nat → ClassId} {p : Program} {l : Launch} {e : Env} {s : State} {m : MethodId} {args : Array Value} {below : List Frame} {meth : Method} {c : Code} {z : (Unit × Wd)} {H : Heap} {locs : List Loc} {ls : Array Slot} {w : Wd} {v0 : Nat} {v1 : Nat} (C : CX D B Y p s m args meth c cX2_copyFrom 3 RX2 none)   (k_v0 : KD v0 = 2) (k_v1 : KD v1 = 2)  (hH : HS D B Y w s H locs) (hl : lv_has ls 3 [(0, .ref (B + v0)), (1, .ref (B + v1))]) (hf : f_X2_copyFrom v0 v1 w = some z) : W p l e (RM 2 0 0) s m args below meth c H locs 0 0 (MQ below (QG D B Y none z.2 True) args s 0 0 (AB B)) (F0 m 0 ls []) := by
  have hx := C.1
  have hb := C.2.1
  unfold f_X2_copyFrom at hf
  refine lv_aload_n hx hb dX2_copyFrom_0 rfl (lv_at hl 1 rfl) ?_
  refine fg_X2_9 C hH k_v1 dX2_copyFrom_1 ?_
  refine lv_aload_n hx hb dX2_copyFrom_4 rfl (lv_at hl 0 rfl) ?_
  refine fg_X2_9 C hH k_v0 dX2_copyFrom_5 ?_
  obtain ⟨u, w1, hc, hf⟩ := bd_some hf
  refine q_callN0 (As := [.ref (B + (v1 + 1)), .ref (B + (v0 + 1))]) C hH (List.mem_of_getElem? (i := 5) rfl) wd_629 wd_50 wd_628 yd_X10_copyCells (by omega) (by omega) (c_X10_copyCells (ko_2_0 k_v1) (ko_2_0 k_v0) hc) hl.1 rfl (Nat.le_of_ble_eq_true rfl) dX2_copyFrom_8 xv_00 (fun H locs hH hP => ?_)
  refine lv_aload_n hx hb dX2_copyFrom_11 rfl (lv_at hl 1 rfl) ?_
  refine fg_X2_15 C hH k_v1 dX2_copyFrom_12 ?_
  refine lv_aload_n hx hb dX2_copyFrom_15 rfl (lv_at hl 0 rfl) ?_
  refine fg_X2_15 C hH k_v0 dX2_copyFrom_16 ?_
  obtain ⟨u, w2, hc, hf⟩ := bd_some hf
  refine q_callN0 (As := [.ref (B + (v1 + 2)), .ref (B + (v0 + 2))]) C hH (List.mem_of_getElem? (i := 5) rfl) wd_629 wd_50 wd_628 yd_X10_copyCells (by omega) (by omega) (c_X10_copyCells (ko_2_1 k_v1) (ko_2_1 k_v0) hc) hl.1 rfl (Nat.le_of_ble_eq_true rfl) dX2_copyFrom_19 xv_00 (fun H locs hH hP => ?_)
  refine lv_aload_n hx hb dX2_copyFrom_22 rfl (lv_at hl 1 rfl) ?_
  refine fg_X2_18 C hH k_v1 dX2_copyFrom_23 ?_
  refine lv_aload_n hx hb dX2_copyFrom_26 rfl (lv_at hl 0 rfl) ?_
  refine fg_X2_18 C hH k_v0 dX2_copyFrom_27 ?_
  obtain ⟨u, w3, hc, hf⟩ := bd_some hf
  refine q_callN0 (As := [.ref (B + (v1 + 3)), .ref (B + (v0 + 3))]) C hH (List.mem_of_getElem? (i := 5) rfl) wd_629 wd_50 wd_628 yd_X10_copyCells (by omega) (by omega) (c_X10_copyCells (ko_2_2 k_v1) (ko_2_2 k_v0) hc) hl.1 rfl (Nat.le_of_ble_eq_true rfl) dX2_copyFrom_30 xv_00 (fun H locs hH hP => ?_)
  refine lv_aload_n hx hb dX2_copyFrom_33 rfl (lv_at hl 0 rfl) ?_
  refine fg_X2_26 C hH k_v0 dX2_copyFrom_34 ?_
  refine lv_aload_n hx hb dX2_copyFrom_37 rfl (lv_at hl 1 rfl) ?_
  refine fg_X2_26 C hH k_v1 dX2_copyFrom_38 ?_
  obtain ⟨u, w4, hc, hf⟩ := bd_some hf
  refine q_callV0 (As := [.ref (B + (v1 + 4))]) C hH (ci := 7) rfl (by omega) gk_X2_44 yd_X7_takeOver (by omega) (by omega) (ko_2_3 k_v0) (c_X7_takeOver (ko_2_3 k_v0) (ko_2_3 k_v1) hc) hl.1 rfl (Nat.le_of_ble_eq_true rfl) dX2_copyFrom_41 xv_00 (fun H locs hH hP => ?_)
  refine lv_aload_n hx hb dX2_copyFrom_44 rfl (lv_at hl 0 rfl) ?_
  refine fg_X2_30 C hH k_v0 dX2_copyFrom_45 ?_
  refine lv_aload_n hx hb dX2_copyFrom_48 rfl (lv_at hl 1 rfl) ?_
  refine fg_X2_30 C hH k_v1 dX2_copyFrom_49 ?_
  obtain ⟨u, w5, hc, hf⟩ := bd_some hf
  refine q_callV0 (As := [.ref (B + (v1 + 6))]) C hH (ci := 7) rfl (by omega) gk_X2_44 yd_X7_takeOver (by omega) (by omega) (ko_2_4 k_v0) (c_X7_takeOver (ko_2_4 k_v0) (ko_2_4 k_v1) hc) hl.1 rfl (Nat.le_of_ble_eq_true rfl) dX2_copyFrom_52 xv_00 (fun H locs hH hP => ?_)
  refine lv_iconst (v := (0 : Int32)) hx hb dX2_copyFrom_55 (by decide) ?_
  refine lv_istore_n (lv' := [(2, .int (0 : Int32)), (0, .ref (B + v0)), (1, .ref (B + v1))]) hx hb dX2_copyFrom_56 rfl hl (by decide) rfl (fun ls hl => ?_)
  exact t_X2_copyFrom_57 C k_v0 k_v1 hH (lv_sub hl [1, 2, 0] rfl) hf
set_option maxRecDepth 100000 in
theorem c_X2_copyFrom {l : Launch} {D : va_G} {B : Nat} {Y : Nat → ClassId} {v0 : Nat} {v1 : Nat} {w : Wd} {r : Unit} {w1 : Wd} (k_v0 : KD v0 = 2) (k_v1 : KD v1 = 2)  (hf : f_X2_copyFrom v0 v1 w = some (r, w1)) : CM l D B Y yX2_copyFrom cX2_copyFrom 3 none 2 [.ref (B + v0), .ref (B + v1)] w none w1 True :=
  CM_of (by decide +kernel) (Nat.le_of_ble_eq_true rfl) (fun p e s m args below meth c ls C hH hl => t_X2_copyFrom_0 C k_v0 k_v1 hH (lv_sub hl [0, 1] rfl) hf)
/-! LetterTables$Rule.copyFrom -/
set_option maxRecDepth 100000 in
set_option maxHeartbeats 4000000 in
theorem t_X8_copyFrom_0 {D : va_G} {B : Nat} {Y : Nat → ClassId} {p : Program} {l : Launch} {e : Env} {s : State} {m : MethodId} {args : Array Value} {below : List Frame} {meth : Method} {c : Code} {z : (Unit × Wd)} {H : Heap} {locs : List Loc} {ls : Array Slot} {w : Wd} {v0 : Nat} {v1 : Nat} (C : CX D B Y p s m args meth c cX8_copyFrom 2 RX8 none)   (k_v0 : KD v0 = 8) (k_v1 : KD v1 = 8)  (hH : HS D B Y w s H locs) (hl : lv_has ls 2 [(0, .ref (B + v0)), (1, .ref (B + v1))]) (hf : f_X8_copyFrom v0 v1 w = some z) : W p l e (RM 3 0 0) s m args below meth c H locs 0 0 (MQ below (QG D B Y none z.2 True) args s 0 0 (AB B)) (F0 m 0 ls []) := by
  have hx := C.1
  have hb := C.2.1
  unfold f_X8_copyFrom at hf
  refine lv_aload_n hx hb dX8_copyFrom_0 rfl (lv_at hl 0 rfl) ?_
  refine lv_aload_n hx hb dX8_copyFrom_1 rfl (lv_at hl 1 rfl) ?_
  refine fg_X8_29 C hH k_v1 dX8_copyFrom_2 ?_
  refine lv_aload_n hx hb dX8_copyFrom_5 rfl (lv_at hl 1 rfl) ?_
  refine fg_X8_14 C hH k_v1 dX8_copyFrom_6 ?_
  refine lv_aload_n hx hb dX8_copyFrom_9 rfl (lv_at hl 1 rfl) ?_
  refine fg_X8_20 C hH k_v1 dX8_copyFrom_10 ?_
  refine lv_aload_n hx hb dX8_copyFrom_13 rfl (lv_at hl 1 rfl) ?_
  refine fg_X8_23 C hH k_v1 dX8_copyFrom_14 ?_
  refine lv_aload_n hx hb dX8_copyFrom_17 rfl (lv_at hl 1 rfl) ?_
  refine fg_X8_26 C hH k_v1 dX8_copyFrom_18 ?_
  obtain ⟨u, w1, hc, hf⟩ := bd_some hf
  refine q_callV0 (As := [.int (w.1 v1 0), .ref (B + (v1 + 1)), .ref (B + (v1 + 3)), .ref (B + (v1 + 5)), .ref (B + (v1 + 7))]) C hH (ci := 8) rfl (by omega) gk_X8_37 yd_X8_tell (by omega) (by omega) k_v0 (c_X8_tell k_v0 (ko_8_1 k_v1) (ko_8_2 k_v1) (ko_8_3 k_v1) (ko_8_4 k_v1) hc) hl.1 rfl (Nat.le_of_ble_eq_true rfl) dX8_copyFrom_21 xv_00 (fun H locs hH hP => ?_)
  cases hf
  exact q_retv C hH trivial dX8_copyFrom_24
set_option maxRecDepth 100000 in
theorem c_X8_copyFrom {l : Launch} {D : va_G} {B : Nat} {Y : Nat → ClassId} {v0 : Nat} {v1 : Nat} {w : Wd} {r : Unit} {w1 : Wd} (k_v0 : KD v0 = 8) (k_v1 : KD v1 = 8)  (hf : f_X8_copyFrom v0 v1 w = some (r, w1)) : CM l D B Y yX8_copyFrom cX8_copyFrom 2 none 3 [.ref (B + v0), .ref (B + v1)] w none w1 True :=
  CM_of (by decide +kernel) (Nat.le_of_ble_eq_true rfl) (fun p e s m args below meth c ls C hH hl => t_X8_copyFrom_0 C k_v0 k_v1 hH (lv_sub hl [0, 1] rfl) hf)
/-! LetterTables$Tables.copyFrom -/
set_option maxRecDepth 100000 in
set_option maxHeartbeats 4000000 in
theorem t_X9_copyFrom_241 {D : va_G} {B : Nat} {Y : Nat → ClassId} {p : Program} {l : Launch} {e : Env} {s : State} {m : MethodId} {args : Array Value} {below : List Frame} {meth : Method} {c : Code} {z : (Unit × Wd)} {H : Heap} {locs : List Loc} {ls : Array Slot} {w : Wd} {v0 : Nat} {v1 : Nat} (C : CX D B Y p s m args meth c cX9_copyFrom 3 RX9 none)   (k_v0 : KD v0 = 9) (k_v1 : KD v1 = 9)  (hH : HS D B Y w s H locs) (hl : lv_has ls 3 [(0, .ref (B + v0)), (1, .ref (B + v1))]) (hf : f_X9_copyFrom_241 v0 v1 w = some z) : W p l e (RM 4 0 0) s m args below meth c H locs 0 0 (MQ below (QG D B Y none z.2 True) args s 0 0 (AB B)) (F0 m 241 ls []) := by
  have hx := C.1
  have hb := C.2.1
  unfold f_X9_copyFrom_241 at hf
  refine lv_aload_n hx hb dX9_copyFrom_241 rfl (lv_at hl 0 rfl) ?_
  refine lv_aload_n hx hb dX9_copyFrom_242 rfl (lv_at hl 1 rfl) ?_
  refine fg_X9_88 C hH k_v1 dX9_copyFrom_243 ?_
  refine fp_X9_88 C hH k_v0 dX9_copyFrom_246 (fun H locs hH => ?_)
  refine b_w hf hH (fun w1 hf hH => ?_)
  cases hf
  exact q_retv C hH trivial dX9_copyFrom_249
set_option maxRecDepth 100000 in
set_option maxHeartbeats 4000000 in
theorem tb_X9_copyFrom_202 {D : va_G} {B : Nat} {Y : Nat → ClassId} {p : Program} {l : Launch} {e : Env} {s : State} {m : MethodId} {args : Array Value} {below : List Frame} {meth : Method} {c : Code} {z : (Unit × Wd)} {H : Heap} {locs : List Loc} {ls : Array Slot} {w : Wd} {v0 : Nat} {v1 : Nat} {v2 : Int32} (C : CX D B Y p s m args meth c cX9_copyFrom 3 RX9 none)  {rc_202 : Nat × Nat × Int32 × Wd → Option (Unit × Wd)} (hr_202 : ∀ (v0 : Nat) (v1 : Nat) (v2 : Int32) (w : Wd), rc_202 (v0, v1, v2, w) = some z → KD v0 = 9 → KD v1 = 9 → ∀ (H : Heap) (locs : List Loc) (ls : Array Slot), HS D B Y w s H locs → lv_has ls 3 [(0, .ref (B + v0)), (1, .ref (B + v1)), (2, .int v2)] → W p l e (RM 4 0 0) s m args below meth c H locs 0 0 (MQ below (QG D B Y none z.2 True) args s 0 0 (AB B)) (F0 m 202 ls []))  (k_v0 : KD v0 = 9) (k_v1 : KD v1 = 9)  (hH : HS D B Y w s H locs) (hl : lv_has ls 3 [(0, .ref (B + v0)), (1, .ref (B + v1)), (2, .int v2)]) (hf : g_X9_copyFrom_202 rc_202 v0 v1 v2 w = some z) : W p l e (RM 4 0 0) s m args below meth c H locs 0 0 (MQ below (QG D B Y none z.2 True) args s 0 0 (AB B)) (F0 m 202 ls []) := by
  have hx := C.1
  have hb := C.2.1
  unfold g_X9_copyFrom_202 at hf
  refine lv_iload_n hx hb dX9_copyFrom_202 rfl (lv_at hl 2 rfl) ?_
  refine lv_aload_n hx hb dX9_copyFrom_203 rfl (lv_at hl 0 rfl) ?_
  refine fg_X9_64 C hH k_v0 dX9_copyFrom_204 ?_
  refine q_alen C hH (t0 := 6) (ci := 26) rfl (by omega) (ko_9_13 k_v0) dX9_copyFrom_207 ?_
  refine b_icmp_ge (tgt := 241) hx hb hf dX9_copyFrom_208 (by decide) (fun hf => ?_) (fun hf => ?_)
  · exact t_X9_copyFrom_241 C k_v0 k_v1 hH (lv_sub hl [0, 1] rfl) hf
  · refine lv_iload_n hx hb dX9_copyFrom_211 rfl (lv_at hl 2 rfl) ?_
    refine lv_aload_n hx hb dX9_copyFrom_212 rfl (lv_at hl 1 rfl) ?_
    refine fg_X9_64 C hH k_v1 dX9_copyFrom_213 ?_
    refine q_alen C hH (t0 := 6) (ci := 26) rfl (by omega) (ko_9_13 k_v1) dX9_copyFrom_216 ?_
    refine b_icmp_ge (tgt := 241) hx hb hf dX9_copyFrom_217 (by decide) (fun hf => ?_) (fun hf => ?_)
    · exact t_X9_copyFrom_241 C k_v0 k_v1 hH (lv_sub hl [0, 1] rfl) hf
    · refine lv_aload_n hx hb dX9_copyFrom_220 rfl (lv_at hl 0 rfl) ?_
      refine fg_X9_64 C hH k_v0 dX9_copyFrom_221 ?_
      refine lv_iload_n hx hb dX9_copyFrom_224 rfl (lv_at hl 2 rfl) ?_
      refine g_aald C hH (t0 := 6) (ci := 26) (K := 8) rfl (by omega) (fun _ h => ka_26 (ko_9_13 k_v0) h) (ko_9_13 k_v0) hf dX9_copyFrom_225 (fun r1 k_r1 hf => ?_)
      refine lv_aload_n hx hb dX9_copyFrom_226 rfl (lv_at hl 1 rfl) ?_
      refine fg_X9_64 C hH k_v1 dX9_copyFrom_227 ?_
      refine lv_iload_n hx hb dX9_copyFrom_230 rfl (lv_at hl 2 rfl) ?_
      refine g_aald C hH (t0 := 6) (ci := 26) (K := 8) rfl (by omega) (fun _ h => ka_26 (ko_9_13 k_v1) h) (ko_9_13 k_v1) hf dX9_copyFrom_231 (fun r2 k_r2 hf => ?_)
      obtain ⟨u, w3, hc, hf⟩ := bd_some hf
      refine q_callV0 (As := [.ref (B + r2)]) C hH (ci := 8) rfl (by omega) gk_X9_85 yd_X8_copyFrom (by omega) (by omega) k_r1 (c_X8_copyFrom k_r1 k_r2 hc) hl.1 rfl (Nat.le_of_ble_eq_true rfl) dX9_copyFrom_232 xv_00 (fun H locs hH hP => ?_)
      refine b_let hf (fun x4 he hf => ?_)
      refine lv_iinc (v := x4) (lv' := [(2, .int x4), (0, .ref (B + v0)), (1, .ref (B + v1))]) hx hb dX9_copyFrom_235 hl (k := 2) rfl (by rw [← he]; rfl) (by decide) rfl (fun ls hl => ?_)
      refine lv_goto (tgt := 202) hx hb dX9_copyFrom_238 (by decide) ?_
      exact hr_202 v0 v1 x4 w3 hf k_v0 k_v1 _ _ _ hH (lv_sub hl [1, 2, 0] rfl)
set_option maxRecDepth 100000 in
set_option maxHeartbeats 4000000 in
theorem t_X9_copyFrom_202 {D : va_G} {B : Nat} {Y : Nat → ClassId} {p : Program} {l : Launch} {e : Env} {s : State} {m : MethodId} {args : Array Value} {below : List Frame} {meth : Method} {c : Code} {z : (Unit × Wd)} {H : Heap} {locs : List Loc} {ls : Array Slot} {w : Wd} {v0 : Nat} {v1 : Nat} {v2 : Int32} (C : CX D B Y p s m args meth c cX9_copyFrom 3 RX9 none)   (k_v0 : KD v0 = 9) (k_v1 : KD v1 = 9)  (hH : HS D B Y w s H locs) (hl : lv_has ls 3 [(0, .ref (B + v0)), (1, .ref (B + v1)), (2, .int v2)]) (hf : f_X9_copyFrom_202 v0 v1 v2 w = some z) : W p l e (RM 4 0 0) s m args below meth c H locs 0 0 (MQ below (QG D B Y none z.2 True) args s 0 0 (AB B)) (F0 m 202 ls []) := by
  exact loopN_ind (z := z) (body := fun rc σ => g_X9_copyFrom_202 rc  σ.1 σ.2.1 σ.2.2.1 σ.2.2.2)
    (P := fun σ => KD σ.1 = 9 → KD σ.2.1 = 9 → ∀ (H : Heap) (locs : List Loc) (ls : Array Slot), HS D B Y σ.2.2.2 s H locs → lv_has ls 3 [(0, .ref (B + σ.1)), (1, .ref (B + σ.2.1)), (2, .int σ.2.2.1)] → W p l e (RM 4 0 0) s m args below meth c H locs 0 0 (MQ below (QG D B Y none z.2 True) args s 0 0 (AB B)) (F0 m 202 ls []))
    (fun rc hrec σ hf k_v0 k_v1 H locs ls hH hl => tb_X9_copyFrom_202 C (fun v0 v1 v2 w hr k_v0 k_v1 H locs ls hH hl => hrec (v0, v1, v2, w) hr k_v0 k_v1 H locs ls hH hl)  k_v0 k_v1 hH hl hf) FU (v0, v1, v2, w) hf k_v0 k_v1 H locs ls hH hl
set_option maxRecDepth 100000 in
set_option maxHeartbeats 4000000 in
theorem t_X9_copyFrom_192 {D : va_G} {B : Nat} {Y : Nat → ClassId} {p : Program} {l : Launch} {e : Env} {s : State} {m : MethodId} {args : Array Value} {below : List Frame} {meth : Method} {c : Code} {z : (Unit × Wd)} {H : Heap} {locs : List Loc} {ls : Array Slot} {w : Wd} {v0 : Nat} {v1 : Nat} (C : CX D B Y p s m args meth c cX9_copyFrom 3 RX9 none)   (k_v0 : KD v0 = 9) (k_v1 : KD v1 = 9)  (hH : HS D B Y w s H locs) (hl : lv_has ls 3 [(0, .ref (B + v0)), (1, .ref (B + v1))]) (hf : f_X9_copyFrom_192 v0 v1 w = some z) : W p l e (RM 4 0 0) s m args below meth c H locs 0 0 (MQ below (QG D B Y none z.2 True) args s 0 0 (AB B)) (F0 m 192 ls []) := by
  have hx := C.1
  have hb := C.2.1
  unfold f_X9_copyFrom_192 at hf
  refine lv_aload_n hx hb dX9_copyFrom_192 rfl (lv_at hl 0 rfl) ?_
  refine lv_aload_n hx hb dX9_copyFrom_193 rfl (lv_at hl 1 rfl) ?_
  refine fg_X9_81 C hH k_v1 dX9_copyFrom_194 ?_
  refine fp_X9_81 C hH k_v0 dX9_copyFrom_197 (fun H locs hH => ?_)
  refine b_w hf hH (fun w1 hf hH => ?_)
  refine lv_iconst (v := (0 : Int32)) hx hb dX9_copyFrom_200 (by decide) ?_
  refine lv_istore_n (lv' := [(2, .int (0 : Int32)), (0, .ref (B + v0)), (1, .ref (B + v1))]) hx hb dX9_copyFrom_201 rfl hl (by decide) rfl (fun ls hl => ?_)
  exact t_X9_copyFrom_202 C k_v0 k_v1 hH (lv_sub hl [1, 2, 0] rfl) hf
set_option maxRecDepth 100000 in
set_option maxHeartbeats 4000000 in
theorem tb_X9_copyFrom_153 {D : va_G} {B : Nat} {Y : Nat → ClassId} {p : Program} {l : Launch} {e : Env} {s : State} {m : MethodId} {args : Array Value} {below : List Frame} {meth : Method} {c : Code} {z : (Unit × Wd)} {H : Heap} {locs : List Loc} {ls : Array Slot} {w : Wd} {v0 : Nat} {v1 : Nat} {v2 : Int32} (C : CX D B Y p s m args meth c cX9_copyFrom 3 RX9 none)  {rc_153 : Nat × Nat × Int32 × Wd → Option (Unit × Wd)} (hr_153 : ∀ (v0 : Nat) (v1 : Nat) (v2 : Int32) (w : Wd), rc_153 (v0, v1, v2, w) = some z → KD v0 = 9 → KD v1 = 9 → ∀ (H : Heap) (locs : List Loc) (ls : Array Slot), HS D B Y w s H locs → lv_has ls 3 [(0, .ref (B + v0)), (1, .ref (B + v1)), (2, .int v2)] → W p l e (RM 4 0 0) s m args below meth c H locs 0 0 (MQ below (QG D B Y none z.2 True) args s 0 0 (AB B)) (F0 m 153 ls []))  (k_v0 : KD v0 = 9) (k_v1 : KD v1 = 9)  (hH : HS D B Y w s H locs) (hl : lv_has ls 3 [(0, .ref (B + v0)), (1, .ref (B + v1)), (2, .int v2)]) (hf : g_X9_copyFrom_153 rc_153 v0 v1 v2 w = some z) : W p l e (RM 4 0 0) s m args below meth c H locs 0 0 (MQ below (QG D B Y none z.2 True) args s 0 0 (AB B)) (F0 m 153 ls []) := by
  have hx := C.1
  have hb := C.2.1
  unfold g_X9_copyFrom_153 at hf
  refine lv_iload_n hx hb dX9_copyFrom_153 rfl (lv_at hl 2 rfl) ?_
  refine lv_aload_n hx hb dX9_copyFrom_154 rfl (lv_at hl 0 rfl) ?_
  refine fg_X9_55 C hH k_v0 dX9_copyFrom_155 ?_
  refine q_alen C hH (t0 := 3) (ci := 23) rfl (by omega) (ko_9_11 k_v0) dX9_copyFrom_158 ?_
  refine b_icmp_ge (tgt := 192) hx hb hf dX9_copyFrom_159 (by decide) (fun hf => ?_) (fun hf => ?_)
  · exact t_X9_copyFrom_192 C k_v0 k_v1 hH (lv_sub hl [0, 1] rfl) hf
  · refine lv_iload_n hx hb dX9_copyFrom_162 rfl (lv_at hl 2 rfl) ?_
    refine lv_aload_n hx hb dX9_copyFrom_163 rfl (lv_at hl 1 rfl) ?_
    refine fg_X9_55 C hH k_v1 dX9_copyFrom_164 ?_
    refine q_alen C hH (t0 := 3) (ci := 23) rfl (by omega) (ko_9_11 k_v1) dX9_copyFrom_167 ?_
    refine b_icmp_ge (tgt := 192) hx hb hf dX9_copyFrom_168 (by decide) (fun hf => ?_) (fun hf => ?_)
    · exact t_X9_copyFrom_192 C k_v0 k_v1 hH (lv_sub hl [0, 1] rfl) hf
    · refine lv_aload_n hx hb dX9_copyFrom_171 rfl (lv_at hl 0 rfl) ?_
      refine fg_X9_55 C hH k_v0 dX9_copyFrom_172 ?_
      refine lv_iload_n hx hb dX9_copyFrom_175 rfl (lv_at hl 2 rfl) ?_
      refine g_aald C hH (t0 := 3) (ci := 23) (K := 7) rfl (by omega) (fun _ h => ka_23 (ko_9_11 k_v0) h) (ko_9_11 k_v0) hf dX9_copyFrom_176 (fun r1 k_r1 hf => ?_)
      refine lv_aload_n hx hb dX9_copyFrom_177 rfl (lv_at hl 1 rfl) ?_
      refine fg_X9_55 C hH k_v1 dX9_copyFrom_178 ?_
      refine lv_iload_n hx hb dX9_copyFrom_181 rfl (lv_at hl 2 rfl) ?_
      refine g_aald C hH (t0 := 3) (ci := 23) (K := 7) rfl (by omega) (fun _ h => ka_23 (ko_9_11 k_v1) h) (ko_9_11 k_v1) hf dX9_copyFrom_182 (fun r2 k_r2 hf => ?_)
      obtain ⟨u, w3, hc, hf⟩ := bd_some hf
      refine q_callV0 (As := [.ref (B + r2)]) C hH (ci := 7) rfl (by omega) gk_X9_77 yd_X7_takeOver (by omega) (by omega) k_r1 (c_X7_takeOver k_r1 k_r2 hc) hl.1 rfl (Nat.le_of_ble_eq_true rfl) dX9_copyFrom_183 xv_00 (fun H locs hH hP => ?_)
      refine b_let hf (fun x4 he hf => ?_)
      refine lv_iinc (v := x4) (lv' := [(2, .int x4), (0, .ref (B + v0)), (1, .ref (B + v1))]) hx hb dX9_copyFrom_186 hl (k := 2) rfl (by rw [← he]; rfl) (by decide) rfl (fun ls hl => ?_)
      refine lv_goto (tgt := 153) hx hb dX9_copyFrom_189 (by decide) ?_
      exact hr_153 v0 v1 x4 w3 hf k_v0 k_v1 _ _ _ hH (lv_sub hl [1, 2, 0] rfl)
set_option maxRecDepth 100000 in
set_option maxHeartbeats 4000000 in
theorem t_X9_copyFrom_153 {D : va_G} {B : Nat} {Y : Nat → ClassId} {p : Program} {l : Launch} {e : Env} {s : State} {m : MethodId} {args : Array Value} {below : List Frame} {meth : Method} {c : Code} {z : (Unit × Wd)} {H : Heap} {locs : List Loc} {ls : Array Slot} {w : Wd} {v0 : Nat} {v1 : Nat} {v2 : Int32} (C : CX D B Y p s m args meth c cX9_copyFrom 3 RX9 none)   (k_v0 : KD v0 = 9) (k_v1 : KD v1 = 9)  (hH : HS D B Y w s H locs) (hl : lv_has ls 3 [(0, .ref (B + v0)), (1, .ref (B + v1)), (2, .int v2)]) (hf : f_X9_copyFrom_153 v0 v1 v2 w = some z) : W p l e (RM 4 0 0) s m args below meth c H locs 0 0 (MQ below (QG D B Y none z.2 True) args s 0 0 (AB B)) (F0 m 153 ls []) := by
  exact loopN_ind (z := z) (body := fun rc σ => g_X9_copyFrom_153 rc  σ.1 σ.2.1 σ.2.2.1 σ.2.2.2)
    (P := fun σ => KD σ.1 = 9 → KD σ.2.1 = 9 → ∀ (H : Heap) (locs : List Loc) (ls : Array Slot), HS D B Y σ.2.2.2 s H locs → lv_has ls 3 [(0, .ref (B + σ.1)), (1, .ref (B + σ.2.1)), (2, .int σ.2.2.1)] → W p l e (RM 4 0 0) s m args below meth c H locs 0 0 (MQ below (QG D B Y none z.2 True) args s 0 0 (AB B)) (F0 m 153 ls []))
    (fun rc hrec σ hf k_v0 k_v1 H locs ls hH hl => tb_X9_copyFrom_153 C (fun v0 v1 v2 w hr k_v0 k_v1 H locs ls hH hl => hrec (v0, v1, v2, w) hr k_v0 k_v1 H locs ls hH hl)  k_v0 k_v1 hH hl hf) FU (v0, v1, v2, w) hf k_v0 k_v1 H locs ls hH hl
set_option maxRecDepth 100000 in
set_option maxHeartbeats 4000000 in
theorem t_X9_copyFrom_151 {D : va_G} {B : Nat} {Y : Nat → ClassId} {p : Program} {l : Launch} {e : Env} {s : State} {m : MethodId} {args : Array Value} {below : List Frame} {meth : Method} {c : Code} {z : (Unit × Wd)} {H : Heap} {locs : List Loc} {ls : Array Slot} {w : Wd} {v0 : Nat} {v1 : Nat} (C : CX D B Y p s m args meth c cX9_copyFrom 3 RX9 none)   (k_v0 : KD v0 = 9) (k_v1 : KD v1 = 9)  (hH : HS D B Y w s H locs) (hl : lv_has ls 3 [(0, .ref (B + v0)), (1, .ref (B + v1))]) (hf : f_X9_copyFrom_151 v0 v1 w = some z) : W p l e (RM 4 0 0) s m args below meth c H locs 0 0 (MQ below (QG D B Y none z.2 True) args s 0 0 (AB B)) (F0 m 151 ls []) := by
  have hx := C.1
  have hb := C.2.1
  unfold f_X9_copyFrom_151 at hf
  refine lv_iconst (v := (0 : Int32)) hx hb dX9_copyFrom_151 (by decide) ?_
  refine lv_istore_n (lv' := [(2, .int (0 : Int32)), (0, .ref (B + v0)), (1, .ref (B + v1))]) hx hb dX9_copyFrom_152 rfl hl (by decide) rfl (fun ls hl => ?_)
  exact t_X9_copyFrom_153 C k_v0 k_v1 hH (lv_sub hl [1, 2, 0] rfl) hf
set_option maxRecDepth 100000 in
set_option maxHeartbeats 4000000 in
theorem tb_X9_copyFrom_112 {D : va_G} {B : Nat} {Y : Nat → ClassId} {p : Program} {l : Launch} {e : Env} {s : State} {m : MethodId} {args : Array Value} {below : List Frame} {meth : Method} {c : Code} {z : (Unit × Wd)} {H : Heap} {locs : List Loc} {ls : Array Slot} {w : Wd} {v0 : Nat} {v1 : Nat} {v2 : Int32} (C : CX D B Y p s m args meth c cX9_copyFrom 3 RX9 none)  {rc_112 : Nat × Nat × Int32 × Wd → Option (Unit × Wd)} (hr_112 : ∀ (v0 : Nat) (v1 : Nat) (v2 : Int32) (w : Wd), rc_112 (v0, v1, v2, w) = some z → KD v0 = 9 → KD v1 = 9 → ∀ (H : Heap) (locs : List Loc) (ls : Array Slot), HS D B Y w s H locs → lv_has ls 3 [(0, .ref (B + v0)), (1, .ref (B + v1)), (2, .int v2)] → W p l e (RM 4 0 0) s m args below meth c H locs 0 0 (MQ below (QG D B Y none z.2 True) args s 0 0 (AB B)) (F0 m 112 ls []))  (k_v0 : KD v0 = 9) (k_v1 : KD v1 = 9)  (hH : HS D B Y w s H locs) (hl : lv_has ls 3 [(0, .ref (B + v0)), (1, .ref (B + v1)), (2, .int v2)]) (hf : g_X9_copyFrom_112 rc_112 v0 v1 v2 w = some z) : W p l e (RM 4 0 0) s m args below meth c H locs 0 0 (MQ below (QG D B Y none z.2 True) args s 0 0 (AB B)) (F0 m 112 ls []) := by
  have hx := C.1
  have hb := C.2.1
  unfold g_X9_copyFrom_112 at hf
  refine lv_iload_n hx hb dX9_copyFrom_112 rfl (lv_at hl 2 rfl) ?_
  refine lv_aload_n hx hb dX9_copyFrom_113 rfl (lv_at hl 0 rfl) ?_
  refine fg_X9_48 C hH k_v0 dX9_copyFrom_114 ?_
  refine q_alen C hH (t0 := 4) (ci := 24) rfl (by omega) (ko_9_10 k_v0) dX9_copyFrom_117 ?_
  refine b_icmp_ge (tgt := 151) hx hb hf dX9_copyFrom_118 (by decide) (fun hf => ?_) (fun hf => ?_)
  · exact t_X9_copyFrom_151 C k_v0 k_v1 hH (lv_sub hl [0, 1] rfl) hf
  · refine lv_iload_n hx hb dX9_copyFrom_121 rfl (lv_at hl 2 rfl) ?_
    refine lv_aload_n hx hb dX9_copyFrom_122 rfl (lv_at hl 1 rfl) ?_
    refine fg_X9_48 C hH k_v1 dX9_copyFrom_123 ?_
    refine q_alen C hH (t0 := 4) (ci := 24) rfl (by omega) (ko_9_10 k_v1) dX9_copyFrom_126 ?_
    refine b_icmp_ge (tgt := 151) hx hb hf dX9_copyFrom_127 (by decide) (fun hf => ?_) (fun hf => ?_)
    · exact t_X9_copyFrom_151 C k_v0 k_v1 hH (lv_sub hl [0, 1] rfl) hf
    · refine lv_aload_n hx hb dX9_copyFrom_130 rfl (lv_at hl 0 rfl) ?_
      refine fg_X9_48 C hH k_v0 dX9_copyFrom_131 ?_
      refine lv_iload_n hx hb dX9_copyFrom_134 rfl (lv_at hl 2 rfl) ?_
      refine g_aald C hH (t0 := 4) (ci := 24) (K := 2) rfl (by omega) (fun _ h => ka_24 (ko_9_10 k_v0) h) (ko_9_10 k_v0) hf dX9_copyFrom_135 (fun r1 k_r1 hf => ?_)
      refine lv_aload_n hx hb dX9_copyFrom_136 rfl (lv_at hl 1 rfl) ?_
      refine fg_X9_48 C hH k_v1 dX9_copyFrom_137 ?_
      refine lv_iload_n hx hb dX9_copyFrom_140 rfl (lv_at hl 2 rfl) ?_
      refine g_aald C hH (t0 := 4) (ci := 24) (K := 2) rfl (by omega) (fun _ h => ka_24 (ko_9_10 k_v1) h) (ko_9_10 k_v1) hf dX9_copyFrom_141 (fun r2 k_r2 hf => ?_)
      obtain ⟨u, w3, hc, hf⟩ := bd_some hf
      refine q_callV0 (As := [.ref (B + r2)]) C hH (ci := 2) rfl (by omega) gk_X9_73 yd_X2_copyFrom (by omega) (by omega) k_r1 (c_X2_copyFrom k_r1 k_r2 hc) hl.1 rfl (Nat.le_of_ble_eq_true rfl) dX9_copyFrom_142 xv_00 (fun H locs hH hP => ?_)
      refine b_let hf (fun x4 he hf => ?_)
      refine lv_iinc (v := x4) (lv' := [(2, .int x4), (0, .ref (B + v0)), (1, .ref (B + v1))]) hx hb dX9_copyFrom_145 hl (k := 2) rfl (by rw [← he]; rfl) (by decide) rfl (fun ls hl => ?_)
      refine lv_goto (tgt := 112) hx hb dX9_copyFrom_148 (by decide) ?_
      exact hr_112 v0 v1 x4 w3 hf k_v0 k_v1 _ _ _ hH (lv_sub hl [1, 2, 0] rfl)
set_option maxRecDepth 100000 in
set_option maxHeartbeats 4000000 in
theorem t_X9_copyFrom_112 {D : va_G} {B : Nat} {Y : Nat → ClassId} {p : Program} {l : Launch} {e : Env} {s : State} {m : MethodId} {args : Array Value} {below : List Frame} {meth : Method} {c : Code} {z : (Unit × Wd)} {H : Heap} {locs : List Loc} {ls : Array Slot} {w : Wd} {v0 : Nat} {v1 : Nat} {v2 : Int32} (C : CX D B Y p s m args meth c cX9_copyFrom 3 RX9 none)   (k_v0 : KD v0 = 9) (k_v1 : KD v1 = 9)  (hH : HS D B Y w s H locs) (hl : lv_has ls 3 [(0, .ref (B + v0)), (1, .ref (B + v1)), (2, .int v2)]) (hf : f_X9_copyFrom_112 v0 v1 v2 w = some z) : W p l e (RM 4 0 0) s m args below meth c H locs 0 0 (MQ below (QG D B Y none z.2 True) args s 0 0 (AB B)) (F0 m 112 ls []) := by
  exact loopN_ind (z := z) (body := fun rc σ => g_X9_copyFrom_112 rc  σ.1 σ.2.1 σ.2.2.1 σ.2.2.2)
    (P := fun σ => KD σ.1 = 9 → KD σ.2.1 = 9 → ∀ (H : Heap) (locs : List Loc) (ls : Array Slot), HS D B Y σ.2.2.2 s H locs → lv_has ls 3 [(0, .ref (B + σ.1)), (1, .ref (B + σ.2.1)), (2, .int σ.2.2.1)] → W p l e (RM 4 0 0) s m args below meth c H locs 0 0 (MQ below (QG D B Y none z.2 True) args s 0 0 (AB B)) (F0 m 112 ls []))
    (fun rc hrec σ hf k_v0 k_v1 H locs ls hH hl => tb_X9_copyFrom_112 C (fun v0 v1 v2 w hr k_v0 k_v1 H locs ls hH hl => hrec (v0, v1, v2, w) hr k_v0 k_v1 H locs ls hH hl)  k_v0 k_v1 hH hl hf) FU (v0, v1, v2, w) hf k_v0 k_v1 H locs ls hH hl
set_option maxRecDepth 100000 in
set_option maxHeartbeats 4000000 in
theorem t_X9_copyFrom_0 {D : va_G} {B : Nat} {Y : Nat → ClassId} {p : Program} {l : Launch} {e : Env} {s : State} {m : MethodId} {args : Array Value} {below : List Frame} {meth : Method} {c : Code} {z : (Unit × Wd)} {H : Heap} {locs : List Loc} {ls : Array Slot} {w : Wd} {v0 : Nat} {v1 : Nat} (C : CX D B Y p s m args meth c cX9_copyFrom 3 RX9 none)   (k_v0 : KD v0 = 9) (k_v1 : KD v1 = 9)  (hH : HS D B Y w s H locs) (hl : lv_has ls 3 [(0, .ref (B + v0)), (1, .ref (B + v1))]) (hf : f_X9_copyFrom v0 v1 w = some z) : W p l e (RM 4 0 0) s m args below meth c H locs 0 0 (MQ below (QG D B Y none z.2 True) args s 0 0 (AB B)) (F0 m 0 ls []) := by
  have hx := C.1
  have hb := C.2.1
  unfold f_X9_copyFrom at hf
  refine lv_aload_n hx hb dX9_copyFrom_0 rfl (lv_at hl 1 rfl) ?_
  refine fg_X9_9 C hH k_v1 dX9_copyFrom_1 ?_
  refine lv_aload_n hx hb dX9_copyFrom_4 rfl (lv_at hl 0 rfl) ?_
  refine fg_X9_9 C hH k_v0 dX9_copyFrom_5 ?_
  obtain ⟨u, w1, hc, hf⟩ := bd_some hf
  refine q_callN0 (As := [.ref (B + (v1 + 1)), .ref (B + (v0 + 1))]) C hH (List.mem_of_getElem? (i := 4) rfl) wd_629 wd_50 wd_628 yd_X10_copyCells (by omega) (by omega) (c_X10_copyCells (ko_9_0 k_v1) (ko_9_0 k_v0) hc) hl.1 rfl (Nat.le_of_ble_eq_true rfl) dX9_copyFrom_8 xv_00 (fun H locs hH hP => ?_)
  refine lv_aload_n hx hb dX9_copyFrom_11 rfl (lv_at hl 1 rfl) ?_
  refine fg_X9_15 C hH k_v1 dX9_copyFrom_12 ?_
  refine lv_aload_n hx hb dX9_copyFrom_15 rfl (lv_at hl 0 rfl) ?_
  refine fg_X9_15 C hH k_v0 dX9_copyFrom_16 ?_
  obtain ⟨u, w2, hc, hf⟩ := bd_some hf
  refine q_callN0 (As := [.ref (B + (v1 + 2)), .ref (B + (v0 + 2))]) C hH (List.mem_of_getElem? (i := 4) rfl) wd_629 wd_50 wd_628 yd_X10_copyCells (by omega) (by omega) (c_X10_copyCells (ko_9_1 k_v1) (ko_9_1 k_v0) hc) hl.1 rfl (Nat.le_of_ble_eq_true rfl) dX9_copyFrom_19 xv_00 (fun H locs hH hP => ?_)
  refine lv_aload_n hx hb dX9_copyFrom_22 rfl (lv_at hl 1 rfl) ?_
  refine fg_X9_18 C hH k_v1 dX9_copyFrom_23 ?_
  refine lv_aload_n hx hb dX9_copyFrom_26 rfl (lv_at hl 0 rfl) ?_
  refine fg_X9_18 C hH k_v0 dX9_copyFrom_27 ?_
  obtain ⟨u, w3, hc, hf⟩ := bd_some hf
  refine q_callN0 (As := [.ref (B + (v1 + 3)), .ref (B + (v0 + 3))]) C hH (List.mem_of_getElem? (i := 4) rfl) wd_629 wd_50 wd_628 yd_X10_copyCells (by omega) (by omega) (c_X10_copyCells (ko_9_2 k_v1) (ko_9_2 k_v0) hc) hl.1 rfl (Nat.le_of_ble_eq_true rfl) dX9_copyFrom_30 xv_00 (fun H locs hH hP => ?_)
  refine lv_aload_n hx hb dX9_copyFrom_33 rfl (lv_at hl 1 rfl) ?_
  refine fg_X9_21 C hH k_v1 dX9_copyFrom_34 ?_
  refine lv_aload_n hx hb dX9_copyFrom_37 rfl (lv_at hl 0 rfl) ?_
  refine fg_X9_21 C hH k_v0 dX9_copyFrom_38 ?_
  obtain ⟨u, w4, hc, hf⟩ := bd_some hf
  refine q_callN0 (As := [.ref (B + (v1 + 4)), .ref (B + (v0 + 4))]) C hH (List.mem_of_getElem? (i := 4) rfl) wd_629 wd_50 wd_628 yd_X10_copyCells (by omega) (by omega) (c_X10_copyCells (ko_9_3 k_v1) (ko_9_3 k_v0) hc) hl.1 rfl (Nat.le_of_ble_eq_true rfl) dX9_copyFrom_41 xv_00 (fun H locs hH hP => ?_)
  refine lv_aload_n hx hb dX9_copyFrom_44 rfl (lv_at hl 1 rfl) ?_
  refine fg_X9_24 C hH k_v1 dX9_copyFrom_45 ?_
  refine lv_aload_n hx hb dX9_copyFrom_48 rfl (lv_at hl 0 rfl) ?_
  refine fg_X9_24 C hH k_v0 dX9_copyFrom_49 ?_
  obtain ⟨u, w5, hc, hf⟩ := bd_some hf
  refine q_callN0 (As := [.ref (B + (v1 + 5)), .ref (B + (v0 + 5))]) C hH (List.mem_of_getElem? (i := 4) rfl) wd_629 wd_50 wd_628 yd_X10_copyCells (by omega) (by omega) (c_X10_copyCells (ko_9_4 k_v1) (ko_9_4 k_v0) hc) hl.1 rfl (Nat.le_of_ble_eq_true rfl) dX9_copyFrom_52 xv_00 (fun H locs hH hP => ?_)
  refine lv_aload_n hx hb dX9_copyFrom_55 rfl (lv_at hl 1 rfl) ?_
  refine fg_X9_27 C hH k_v1 dX9_copyFrom_56 ?_
  refine lv_aload_n hx hb dX9_copyFrom_59 rfl (lv_at hl 0 rfl) ?_
  refine fg_X9_27 C hH k_v0 dX9_copyFrom_60 ?_
  obtain ⟨u, w6, hc, hf⟩ := bd_some hf
  refine q_callN0 (As := [.ref (B + (v1 + 6)), .ref (B + (v0 + 6))]) C hH (List.mem_of_getElem? (i := 4) rfl) wd_629 wd_50 wd_628 yd_X10_copyCells (by omega) (by omega) (c_X10_copyCells (ko_9_5 k_v1) (ko_9_5 k_v0) hc) hl.1 rfl (Nat.le_of_ble_eq_true rfl) dX9_copyFrom_63 xv_00 (fun H locs hH hP => ?_)
  refine lv_aload_n hx hb dX9_copyFrom_66 rfl (lv_at hl 1 rfl) ?_
  refine fg_X9_30 C hH k_v1 dX9_copyFrom_67 ?_
  refine lv_aload_n hx hb dX9_copyFrom_70 rfl (lv_at hl 0 rfl) ?_
  refine fg_X9_30 C hH k_v0 dX9_copyFrom_71 ?_
  obtain ⟨u, w7, hc, hf⟩ := bd_some hf
  refine q_callN0 (As := [.ref (B + (v1 + 7)), .ref (B + (v0 + 7))]) C hH (List.mem_of_getElem? (i := 4) rfl) wd_629 wd_50 wd_628 yd_X10_copyCells (by omega) (by omega) (c_X10_copyCells (ko_9_6 k_v1) (ko_9_6 k_v0) hc) hl.1 rfl (Nat.le_of_ble_eq_true rfl) dX9_copyFrom_74 xv_00 (fun H locs hH hP => ?_)
  refine lv_aload_n hx hb dX9_copyFrom_77 rfl (lv_at hl 1 rfl) ?_
  refine fg_X9_33 C hH k_v1 dX9_copyFrom_78 ?_
  refine lv_aload_n hx hb dX9_copyFrom_81 rfl (lv_at hl 0 rfl) ?_
  refine fg_X9_33 C hH k_v0 dX9_copyFrom_82 ?_
  obtain ⟨u, w8, hc, hf⟩ := bd_some hf
  refine q_callN0 (As := [.ref (B + (v1 + 8)), .ref (B + (v0 + 8))]) C hH (List.mem_of_getElem? (i := 4) rfl) wd_629 wd_50 wd_628 yd_X10_copyCells (by omega) (by omega) (c_X10_copyCells (ko_9_7 k_v1) (ko_9_7 k_v0) hc) hl.1 rfl (Nat.le_of_ble_eq_true rfl) dX9_copyFrom_85 xv_00 (fun H locs hH hP => ?_)
  refine lv_aload_n hx hb dX9_copyFrom_88 rfl (lv_at hl 1 rfl) ?_
  refine fg_X9_36 C hH k_v1 dX9_copyFrom_89 ?_
  refine lv_aload_n hx hb dX9_copyFrom_92 rfl (lv_at hl 0 rfl) ?_
  refine fg_X9_36 C hH k_v0 dX9_copyFrom_93 ?_
  obtain ⟨u, w9, hc, hf⟩ := bd_some hf
  refine q_callN0 (As := [.ref (B + (v1 + 9)), .ref (B + (v0 + 9))]) C hH (List.mem_of_getElem? (i := 4) rfl) wd_629 wd_50 wd_628 yd_X10_copyCells (by omega) (by omega) (c_X10_copyCells (ko_9_8 k_v1) (ko_9_8 k_v0) hc) hl.1 rfl (Nat.le_of_ble_eq_true rfl) dX9_copyFrom_96 xv_00 (fun H locs hH hP => ?_)
  refine lv_aload_n hx hb dX9_copyFrom_99 rfl (lv_at hl 1 rfl) ?_
  refine fg_X9_39 C hH k_v1 dX9_copyFrom_100 ?_
  refine lv_aload_n hx hb dX9_copyFrom_103 rfl (lv_at hl 0 rfl) ?_
  refine fg_X9_39 C hH k_v0 dX9_copyFrom_104 ?_
  obtain ⟨u, w10, hc, hf⟩ := bd_some hf
  refine q_callN0 (As := [.ref (B + (v1 + 10)), .ref (B + (v0 + 10))]) C hH (List.mem_of_getElem? (i := 4) rfl) wd_629 wd_50 wd_628 yd_X10_copyCells (by omega) (by omega) (c_X10_copyCells (ko_9_9 k_v1) (ko_9_9 k_v0) hc) hl.1 rfl (Nat.le_of_ble_eq_true rfl) dX9_copyFrom_107 xv_00 (fun H locs hH hP => ?_)
  refine lv_iconst (v := (0 : Int32)) hx hb dX9_copyFrom_110 (by decide) ?_
  refine lv_istore_n (lv' := [(2, .int (0 : Int32)), (0, .ref (B + v0)), (1, .ref (B + v1))]) hx hb dX9_copyFrom_111 rfl hl (by decide) rfl (fun ls hl => ?_)
  exact t_X9_copyFrom_112 C k_v0 k_v1 hH (lv_sub hl [1, 2, 0] rfl) hf
set_option maxRecDepth 100000 in
theorem c_X9_copyFrom {l : Launch} {D : va_G} {B : Nat} {Y : Nat → ClassId} {v0 : Nat} {v1 : Nat} {w : Wd} {r : Unit} {w1 : Wd} (k_v0 : KD v0 = 9) (k_v1 : KD v1 = 9)  (hf : f_X9_copyFrom v0 v1 w = some (r, w1)) : CM l D B Y yX9_copyFrom cX9_copyFrom 3 none 4 [.ref (B + v0), .ref (B + v1)] w none w1 True :=
  CM_of (by decide +kernel) (Nat.le_of_ble_eq_true rfl) (fun p e s m args below meth c ls C hH hl => t_X9_copyFrom_0 C k_v0 k_v1 hH (lv_sub hl [0, 1] rfl) hf)
/-! LetterTables.save -/
set_option maxRecDepth 100000 in
set_option maxHeartbeats 4000000 in
theorem t_X10_save_19 {D : va_G} {B : Nat} {Y : Nat → ClassId} {p : Program} {l : Launch} {e : Env} {s : State} {m : MethodId} {args : Array Value} {below : List Frame} {meth : Method} {c : Code} {z : ((Nat ⊕ Int32) × Wd)} {H : Heap} {locs : List Loc} {ls : Array Slot} {w : Wd}  (C : CX D B Y p s m args meth c cX10_save 1 RX10 (some .int)) (hxt : ∀ x ∈ c.exceptionTable.toList, False) (htr : l.stackTraces = false)     (hH : HS D B Y w s H locs) (hl : lv_has ls 1 []) (hf : f_X10_save_19 w = some z) : W p l e (RM 5 (xv (zoI z.1)) (6 * xv (zoI z.1))) s m args below meth c H locs 0 0 (vx_MQ below (QX D B Y (zoI z.1) z.2 True) (XX D B Y (zoI z.1) z.2) args s (xv (zoI z.1)) (6 * xv (zoI z.1)) (AB B)) (F0 m 19 ls []) := by
  have hx := C.1
  have hb := C.2.1
  unfold f_X10_save_19 at hf
  cases hf
  exact q_throw C hH hxt htr (Or.inr (Or.inr rfl)) wd_574 wd_66 wd_584 (List.mem_of_getElem? (i := 8) rfl) hl.1 dX10_save_19 dX10_save_22 dX10_save_23 dX10_save_25 dX10_save_28 (Nat.le_of_ble_eq_true rfl) (xv_1 rfl) (xv_6 rfl)
set_option maxRecDepth 100000 in
set_option maxHeartbeats 4000000 in
theorem t_X10_save_0 {D : va_G} {B : Nat} {Y : Nat → ClassId} {p : Program} {l : Launch} {e : Env} {s : State} {m : MethodId} {args : Array Value} {below : List Frame} {meth : Method} {c : Code} {z : ((Nat ⊕ Int32) × Wd)} {H : Heap} {locs : List Loc} {ls : Array Slot} {w : Wd}  (C : CX D B Y p s m args meth c cX10_save 1 RX10 (some .int)) (hxt : ∀ x ∈ c.exceptionTable.toList, False) (htr : l.stackTraces = false)     (hH : HS D B Y w s H locs) (hl : lv_has ls 1 [(0, .ref (B + 0))]) (hf : f_X10_save w = some z) : W p l e (RM 5 (xv (zoI z.1)) (6 * xv (zoI z.1))) s m args below meth c H locs 0 0 (vx_MQ below (QX D B Y (zoI z.1) z.2 True) (XX D B Y (zoI z.1) z.2) args s (xv (zoI z.1)) (6 * xv (zoI z.1)) (AB B)) (F0 m 0 ls []) := by
  have hx := C.1
  have hb := C.2.1
  unfold f_X10_save at hf
  refine lv_aload_n hx hb dX10_save_0 rfl (lv_at hl 0 rfl) ?_
  refine fg_X10_221 C hH dX10_save_1 ?_
  refine b_if_lt (tgt := 19) hx hb hf dX10_save_4 (by decide) (fun hf => ?_) (fun hf => ?_)
  · exact t_X10_save_19 C hxt htr hH (lv_sub hl [] rfl) hf
  · refine lv_aload_n hx hb dX10_save_7 rfl (lv_at hl 0 rfl) ?_
    refine fg_X10_221 C hH dX10_save_8 ?_
    refine lv_aload_n hx hb dX10_save_11 rfl (lv_at hl 0 rfl) ?_
    refine fg_X10_16 C hH dX10_save_12 ?_
    refine q_alen C hH (t0 := 5) (ci := 25) rfl (by omega) kc_125 dX10_save_15 ?_
    refine b_icmp_lt (tgt := 29) hx hb hf dX10_save_16 (by decide) (fun hf => ?_) (fun hf => ?_)
    · refine lv_aload_n hx hb dX10_save_29 rfl (lv_at hl 0 rfl) ?_
      refine fg_X10_16 C hH dX10_save_30 ?_
      refine lv_aload_n hx hb dX10_save_33 rfl (lv_at hl 0 rfl) ?_
      refine fg_X10_221 C hH dX10_save_34 ?_
      refine g_aald C hH (t0 := 5) (ci := 25) (K := 9) rfl (by omega) (fun _ h => ka_25 kc_125 h) kc_125 hf dX10_save_37 (fun r1 k_r1 hf => ?_)
      refine lv_aload_n hx hb dX10_save_38 rfl (lv_at hl 0 rfl) ?_
      refine fg_X10_12 C hH dX10_save_39 ?_
      obtain ⟨u, w2, hc, hf⟩ := bd_some hf
      refine q_callV0 (As := [.ref (B + 1)]) C hH (ci := 9) rfl (by omega) gk_X10_227 yd_X9_copyFrom (by omega) (by omega) k_r1 (c_X9_copyFrom k_r1 kc_1 hc) hl.1 rfl (Nat.le_of_ble_eq_true rfl) dX10_save_42 xv_00 (fun H locs hH hP => ?_)
      refine lv_aload_n hx hb dX10_save_45 rfl (lv_at hl 0 rfl) ?_
      refine lv_dup hx hb dX10_save_46 rfl ?_
      refine fg_X10_221 C hH dX10_save_47 ?_
      refine lv_iconst (v := (1 : Int32)) hx hb dX10_save_50 (by decide) ?_
      refine lv_iadd hx hb dX10_save_51 ?_
      refine fp_X10_221 C hH dX10_save_52 (fun H locs hH => ?_)
      refine b_w hf hH (fun w3 hf hH => ?_)
      refine lv_aload_n hx hb dX10_save_55 rfl (lv_at hl 0 rfl) ?_
      refine fg_X10_221 C hH dX10_save_56 ?_
      refine lv_iconst (v := (1 : Int32)) hx hb dX10_save_59 (by decide) ?_
      refine lv_isub hx hb dX10_save_60 ?_
      cases hf
      exact q_x0 rfl (q_reti C hH trivial dX10_save_61)
    · exact t_X10_save_19 C hxt htr hH (lv_sub hl [] rfl) hf
set_option maxRecDepth 100000 in
theorem c_X10_save {l : Launch} {D : va_G} {B : Nat} {Y : Nat → ClassId}  {w : Wd} {r : (Nat ⊕ Int32)} {w1 : Wd} (htr : l.stackTraces = false)   (hf : f_X10_save w = some (r, w1)) : XM l D B Y yX10_save cX10_save 1 (some .int) 5 [.ref (B + 0)] w (zoI r) w1 True :=
  XM_of (by decide +kernel) (Nat.le_of_ble_eq_true rfl) (fun p e s m args below meth c ls C hxt hH hl => t_X10_save_0 C hxt htr  hH (lv_sub hl [0] rfl) hf)
/-! LetterTables.use -/
set_option maxRecDepth 100000 in
set_option maxHeartbeats 4000000 in
theorem t_X10_use_21 {D : va_G} {B : Nat} {Y : Nat → ClassId} {p : Program} {l : Launch} {e : Env} {s : State} {m : MethodId} {args : Array Value} {below : List Frame} {meth : Method} {c : Code} {z : ((Nat ⊕ Unit) × Wd)} {H : Heap} {locs : List Loc} {ls : Array Slot} {w : Wd}  (C : CX D B Y p s m args meth c cX10_use 2 RX10 none) (hxt : ∀ x ∈ c.exceptionTable.toList, False) (htr : l.stackTraces = false)     (hH : HS D B Y w s H locs) (hl : lv_has ls 2 []) (hf : f_X10_use_21 w = some z) : W p l e (RM 5 (xv (zoV z.1)) (6 * xv (zoV z.1))) s m args below meth c H locs 0 0 (vx_MQ below (QX D B Y (zoV z.1) z.2 True) (XX D B Y (zoV z.1) z.2) args s (xv (zoV z.1)) (6 * xv (zoV z.1)) (AB B)) (F0 m 21 ls []) := by
  have hx := C.1
  have hb := C.2.1
  unfold f_X10_use_21 at hf
  cases hf
  exact q_throw C hH hxt htr (Or.inl rfl) wd_453 wd_64 wd_495 (List.mem_of_getElem? (i := 4) rfl) hl.1 dX10_use_21 dX10_use_24 dX10_use_25 dX10_use_27 dX10_use_30 (Nat.le_of_ble_eq_true rfl) (xv_1 rfl) (xv_6 rfl)
set_option maxRecDepth 100000 in
set_option maxHeartbeats 4000000 in
theorem t_X10_use_0 {D : va_G} {B : Nat} {Y : Nat → ClassId} {p : Program} {l : Launch} {e : Env} {s : State} {m : MethodId} {args : Array Value} {below : List Frame} {meth : Method} {c : Code} {z : ((Nat ⊕ Unit) × Wd)} {H : Heap} {locs : List Loc} {ls : Array Slot} {w : Wd} {v1 : Int32} (C : CX D B Y p s m args meth c cX10_use 2 RX10 none) (hxt : ∀ x ∈ c.exceptionTable.toList, False) (htr : l.stackTraces = false)     (hH : HS D B Y w s H locs) (hl : lv_has ls 2 [(0, .ref (B + 0)), (1, .int v1)]) (hf : f_X10_use v1 w = some z) : W p l e (RM 5 (xv (zoV z.1)) (6 * xv (zoV z.1))) s m args below meth c H locs 0 0 (vx_MQ below (QX D B Y (zoV z.1) z.2 True) (XX D B Y (zoV z.1) z.2) args s (xv (zoV z.1)) (6 * xv (zoV z.1)) (AB B)) (F0 m 0 ls []) := by
  have hx := C.1
  have hb := C.2.1
  unfold f_X10_use at hf
  refine lv_iload_n hx hb dX10_use_0 rfl (lv_at hl 1 rfl) ?_
  refine b_if_lt (tgt := 21) hx hb hf dX10_use_1 (by decide) (fun hf => ?_) (fun hf => ?_)
  · exact t_X10_use_21 C hxt htr hH (lv_sub hl [] rfl) hf
  · refine lv_iload_n hx hb dX10_use_4 rfl (lv_at hl 1 rfl) ?_
    refine lv_aload_n hx hb dX10_use_5 rfl (lv_at hl 0 rfl) ?_
    refine fg_X10_221 C hH dX10_use_6 ?_
    refine b_icmp_ge (tgt := 21) hx hb hf dX10_use_9 (by decide) (fun hf => ?_) (fun hf => ?_)
    · exact t_X10_use_21 C hxt htr hH (lv_sub hl [] rfl) hf
    · refine lv_iload_n hx hb dX10_use_12 rfl (lv_at hl 1 rfl) ?_
      refine lv_aload_n hx hb dX10_use_13 rfl (lv_at hl 0 rfl) ?_
      refine fg_X10_16 C hH dX10_use_14 ?_
      refine q_alen C hH (t0 := 5) (ci := 25) rfl (by omega) kc_125 dX10_use_17 ?_
      refine b_icmp_lt (tgt := 31) hx hb hf dX10_use_18 (by decide) (fun hf => ?_) (fun hf => ?_)
      · refine lv_aload_n hx hb dX10_use_31 rfl (lv_at hl 0 rfl) ?_
        refine fg_X10_12 C hH dX10_use_32 ?_
        refine lv_aload_n hx hb dX10_use_35 rfl (lv_at hl 0 rfl) ?_
        refine fg_X10_16 C hH dX10_use_36 ?_
        refine lv_iload_n hx hb dX10_use_39 rfl (lv_at hl 1 rfl) ?_
        refine g_aald C hH (t0 := 5) (ci := 25) (K := 9) rfl (by omega) (fun _ h => ka_25 kc_125 h) kc_125 hf dX10_use_40 (fun r1 k_r1 hf => ?_)
        obtain ⟨u, w2, hc, hf⟩ := bd_some hf
        refine q_callV0 (As := [.ref (B + r1)]) C hH (ci := 9) rfl (by omega) gk_X10_227 yd_X9_copyFrom (by omega) (by omega) kc_1 (c_X9_copyFrom kc_1 k_r1 hc) hl.1 rfl (Nat.le_of_ble_eq_true rfl) dX10_use_41 xv_00 (fun H locs hH hP => ?_)
        cases hf
        exact q_x0 rfl (q_retv C hH trivial dX10_use_44)
      · exact t_X10_use_21 C hxt htr hH (lv_sub hl [] rfl) hf
set_option maxRecDepth 100000 in
theorem c_X10_use {l : Launch} {D : va_G} {B : Nat} {Y : Nat → ClassId} {v1 : Int32} {w : Wd} {r : (Nat ⊕ Unit)} {w1 : Wd} (htr : l.stackTraces = false)   (hf : f_X10_use v1 w = some (r, w1)) : XM l D B Y yX10_use cX10_use 2 none 5 [.ref (B + 0), .int v1] w (zoV r) w1 True :=
  XM_of (by decide +kernel) (Nat.le_of_ble_eq_true rfl) (fun p e s m args below meth c ls C hxt hH hl => t_X10_use_0 C hxt htr  hH (lv_sub hl [0, 1] rfl) hf)
/-! LetterTables.put -/
set_option maxRecDepth 100000 in
set_option maxHeartbeats 4000000 in
theorem t_X10_put_0 {D : va_G} {B : Nat} {Y : Nat → ClassId} {p : Program} {l : Launch} {e : Env} {s : State} {m : MethodId} {args : Array Value} {below : List Frame} {meth : Method} {c : Code} {z : ((Nat ⊕ Int32) × Wd)} {H : Heap} {locs : List Loc} {ls : Array Slot} {w : Wd} {v1 : Int32} {v2 : Int32} (C : CX D B Y p s m args meth c cX10_put 4 RX10 (some .int)) (hxt : ∀ x ∈ c.exceptionTable.toList, False) (htr : l.stackTraces = false)     (hH : HS D B Y w s H locs) (hl : lv_has ls 4 [(0, .ref (B + 0)), (1, .int v1), (2, .int v2)]) (hf : f_X10_put v1 v2 w = some z) : W p l e (RM 3 (xv (zoI z.1)) (6 * xv (zoI z.1))) s m args below meth c H locs 0 0 (vx_MQ below (QX D B Y (zoI z.1) z.2 True) (XX D B Y (zoI z.1) z.2) args s (xv (zoI z.1)) (6 * xv (zoI z.1)) (AB B)) (F0 m 0 ls []) := by
  have hx := C.1
  have hb := C.2.1
  unfold f_X10_put at hf
  refine lv_aload_n hx hb dX10_put_0 rfl (lv_at hl 0 rfl) ?_
  refine lv_iload_n hx hb dX10_put_1 rfl (lv_at hl 1 rfl) ?_
  rcases bdx_some hf with ⟨k, w1, hc, rfl⟩ | ⟨r2, w1, hc, hf⟩
  · exact q_xrunX (k0 := k) (q_xV (As := [.int v1]) C hH (ci := 10) rfl (by omega) gk_X10_194 yd_X10_textOf (by omega) (by omega) kc_0 (c_X10_textOf (r := .inl k) htr hc) hl.1 rfl (Nat.le_of_ble_eq_true rfl) dX10_put_2 (xv_le rfl)) hH (fun H locs ce q hH h1 h2 h3 => q_out C hH hxt h1 h2 h3 (xv_1 rfl) (xv_6 rfl))
  refine q_xrun (ov := some (.ref (B + r2))) (q_xV (As := [.int v1]) C hH (ci := 10) rfl (by omega) gk_X10_194 yd_X10_textOf (by omega) (by omega) kc_0 (c_X10_textOf (r := .inr r2) htr hc) hl.1 rfl (Nat.le_of_ble_eq_true rfl) dX10_put_2 (xv_0 rfl xv_00)) hH (fun H locs hH k_r2 => ?_)
  refine lv_astore_n (lv' := [(3, .ref (B + r2)), (0, .ref (B + 0)), (1, .int v1), (2, .int v2)]) hx hb dX10_put_5 rfl hl (by decide) rfl (fun ls hl => ?_)
  refine lv_iload_n hx hb dX10_put_6 rfl (lv_at hl 3 rfl) ?_
  rcases bdx_some hf with ⟨k, w3, hc, rfl⟩ | ⟨u, w3, hc, hf⟩
  · exact q_xrunX (k0 := k) (q_xS (As := [.int v2]) C hH gk_X10_124 yd_X10_checkLetter (by omega) (by omega) (c_X10_checkLetter (r := .inl k) htr hc) hl.1 rfl (Nat.le_of_ble_eq_true rfl) dX10_put_7 (xv_le rfl)) hH (fun H locs ce q hH h1 h2 h3 => q_out C hH hxt h1 h2 h3 (xv_1 rfl) (xv_6 rfl))
  refine q_xrun (ov := none) (q_xS (As := [.int v2]) C hH gk_X10_124 yd_X10_checkLetter (by omega) (by omega) (c_X10_checkLetter (r := .inr u) htr hc) hl.1 rfl (Nat.le_of_ble_eq_true rfl) dX10_put_7 (xv_0 rfl xv_00)) hH (fun H locs hH hP => ?_)
  refine lv_aload_n hx hb dX10_put_10 rfl (lv_at hl 0 rfl) ?_
  refine lv_iload_n hx hb dX10_put_11 rfl (lv_at hl 3 rfl) ?_
  obtain ⟨x5, w4, hc, hf⟩ := bd_some hf
  refine q_callV1 (v := .int x5) (As := [.int v2]) C hH (ci := 7) rfl (by omega) gk_X10_120 yd_X7_add (by omega) (by omega) k_r2 (c_X7_add k_r2 hc) hl.1 rfl (Nat.le_of_ble_eq_true rfl) dX10_put_12 xv_00 (fun H locs hH z_x5 => ?_)
  refine b_if_ne (tgt := 28) hx hb hf dX10_put_15 (by decide) (fun hf => ?_) (fun hf => ?_)
  · refine lv_aload_n hx hb dX10_put_28 rfl (lv_at hl 0 rfl) ?_
    obtain ⟨x7, w6, hc, hf⟩ := bd_some hf
    refine q_callV1 (v := .int x7) (As := []) C hH (ci := 7) rfl (by omega) gk_X10_107 yd_X7_size (by omega) (by omega) k_r2 (c_X7_size k_r2 hc) hl.1 rfl (Nat.le_of_ble_eq_true rfl) dX10_put_29 xv_00 (fun H locs hH hP => ?_)
    cases hf
    exact q_x0 rfl (q_reti C hH trivial dX10_put_32)
  · cases hf
    exact q_throw C hH hxt htr (Or.inr (Or.inr rfl)) wd_574 wd_66 wd_584 (List.mem_of_getElem? (i := 9) rfl) hl.1 dX10_put_18 dX10_put_21 dX10_put_22 dX10_put_24 dX10_put_27 (Nat.le_of_ble_eq_true rfl) (xv_1 rfl) (xv_6 rfl)
set_option maxRecDepth 100000 in
theorem c_X10_put {l : Launch} {D : va_G} {B : Nat} {Y : Nat → ClassId} {v1 : Int32} {v2 : Int32} {w : Wd} {r : (Nat ⊕ Int32)} {w1 : Wd} (htr : l.stackTraces = false)   (hf : f_X10_put v1 v2 w = some (r, w1)) : XM l D B Y yX10_put cX10_put 4 (some .int) 3 [.ref (B + 0), .int v1, .int v2] w (zoI r) w1 True :=
  XM_of (by decide +kernel) (Nat.le_of_ble_eq_true rfl) (fun p e s m args below meth c ls C hxt hH hl => t_X10_put_0 C hxt htr  hH (lv_sub hl [0, 1, 2] rfl) hf)
/-! LetterTables$Row.cutTo -/
set_option maxRecDepth 100000 in
set_option maxHeartbeats 4000000 in
theorem t_X7_cutTo_0 {D : va_G} {B : Nat} {Y : Nat → ClassId} {p : Program} {l : Launch} {e : Env} {s : State} {m : MethodId} {args : Array Value} {below : List Frame} {meth : Method} {c : Code} {z : (Unit × Wd)} {H : Heap} {locs : List Loc} {ls : Array Slot} {w : Wd} {v0 : Nat} {v1 : Int32} (C : CX D B Y p s m args meth c cX7_cutTo 2 RX7 none)   (k_v0 : KD v0 = 7)  (hH : HS D B Y w s H locs) (hl : lv_has ls 2 [(0, .ref (B + v0)), (1, .int v1)]) (hf : f_X7_cutTo v0 v1 w = some z) : W p l e (RM 0 0 0) s m args below meth c H locs 0 0 (MQ below (QG D B Y none z.2 True) args s 0 0 (AB B)) (F0 m 0 ls []) := by
  have hx := C.1
  have hb := C.2.1
  unfold f_X7_cutTo at hf
  refine lv_iload_n hx hb dX7_cutTo_0 rfl (lv_at hl 1 rfl) ?_
  refine b_if_lt (tgt := 17) hx hb hf dX7_cutTo_1 (by decide) (fun hf => ?_) (fun hf => ?_)
  · cases hf
    exact q_retv C hH trivial dX7_cutTo_17
  · refine lv_iload_n hx hb dX7_cutTo_4 rfl (lv_at hl 1 rfl) ?_
    refine lv_aload_n hx hb dX7_cutTo_5 rfl (lv_at hl 0 rfl) ?_
    refine fg_X7_15 C hH k_v0 dX7_cutTo_6 ?_
    refine b_icmp_ge (tgt := 17) hx hb hf dX7_cutTo_9 (by decide) (fun hf => ?_) (fun hf => ?_)
    · cases hf
      exact q_retv C hH trivial dX7_cutTo_17
    · refine lv_aload_n hx hb dX7_cutTo_12 rfl (lv_at hl 0 rfl) ?_
      refine lv_iload_n hx hb dX7_cutTo_13 rfl (lv_at hl 1 rfl) ?_
      refine fp_X7_15 C hH k_v0 dX7_cutTo_14 (fun H locs hH => ?_)
      refine b_w hf hH (fun w1 hf hH => ?_)
      cases hf
      exact q_retv C hH trivial dX7_cutTo_17
set_option maxRecDepth 100000 in
theorem c_X7_cutTo {l : Launch} {D : va_G} {B : Nat} {Y : Nat → ClassId} {v0 : Nat} {v1 : Int32} {w : Wd} {r : Unit} {w1 : Wd} (k_v0 : KD v0 = 7)  (hf : f_X7_cutTo v0 v1 w = some (r, w1)) : CM l D B Y yX7_cutTo cX7_cutTo 2 none 0 [.ref (B + v0), .int v1] w none w1 True :=
  CM_of (by decide +kernel) (Nat.le_of_ble_eq_true rfl) (fun p e s m args below meth c ls C hH hl => t_X7_cutTo_0 C k_v0 hH (lv_sub hl [0, 1] rfl) hf)
/-! LetterTables.clear -/
set_option maxRecDepth 100000 in
set_option maxHeartbeats 4000000 in
theorem t_X10_clear_0 {D : va_G} {B : Nat} {Y : Nat → ClassId} {p : Program} {l : Launch} {e : Env} {s : State} {m : MethodId} {args : Array Value} {below : List Frame} {meth : Method} {c : Code} {z : ((Nat ⊕ Int32) × Wd)} {H : Heap} {locs : List Loc} {ls : Array Slot} {w : Wd} {v1 : Int32} (C : CX D B Y p s m args meth c cX10_clear 4 RX10 (some .int)) (hxt : ∀ x ∈ c.exceptionTable.toList, False) (htr : l.stackTraces = false)     (hH : HS D B Y w s H locs) (hl : lv_has ls 4 [(0, .ref (B + 0)), (1, .int v1)]) (hf : f_X10_clear v1 w = some z) : W p l e (RM 1 (xv (zoI z.1)) (6 * xv (zoI z.1))) s m args below meth c H locs 0 0 (vx_MQ below (QX D B Y (zoI z.1) z.2 True) (XX D B Y (zoI z.1) z.2) args s (xv (zoI z.1)) (6 * xv (zoI z.1)) (AB B)) (F0 m 0 ls []) := by
  have hx := C.1
  have hb := C.2.1
  unfold f_X10_clear at hf
  refine lv_aload_n hx hb dX10_clear_0 rfl (lv_at hl 0 rfl) ?_
  refine lv_iload_n hx hb dX10_clear_1 rfl (lv_at hl 1 rfl) ?_
  rcases bdx_some hf with ⟨k, w1, hc, rfl⟩ | ⟨r2, w1, hc, hf⟩
  · exact q_xrunX (k0 := k) (q_xV (As := [.int v1]) C hH (ci := 10) rfl (by omega) gk_X10_194 yd_X10_textOf (by omega) (by omega) kc_0 (c_X10_textOf (r := .inl k) htr hc) hl.1 rfl (Nat.le_of_ble_eq_true rfl) dX10_clear_2 (xv_le rfl)) hH (fun H locs ce q hH h1 h2 h3 => q_out C hH hxt h1 h2 h3 (xv_1 rfl) (xv_6 rfl))
  refine q_xrun (ov := some (.ref (B + r2))) (q_xV (As := [.int v1]) C hH (ci := 10) rfl (by omega) gk_X10_194 yd_X10_textOf (by omega) (by omega) kc_0 (c_X10_textOf (r := .inr r2) htr hc) hl.1 rfl (Nat.le_of_ble_eq_true rfl) dX10_clear_2 (xv_0 rfl xv_00)) hH (fun H locs hH k_r2 => ?_)
  refine lv_astore_n (lv' := [(2, .ref (B + r2)), (0, .ref (B + 0)), (1, .int v1)]) hx hb dX10_clear_5 rfl hl (by decide) rfl (fun ls hl => ?_)
  refine lv_aload_n hx hb dX10_clear_6 rfl (lv_at hl 0 rfl) ?_
  obtain ⟨x4, w3, hc, hf⟩ := bd_some hf
  refine q_callV1 (v := .int x4) (As := []) C hH (ci := 7) rfl (by omega) gk_X10_107 yd_X7_size (by omega) (by omega) k_r2 (c_X7_size k_r2 hc) hl.1 rfl (Nat.le_of_ble_eq_true rfl) dX10_clear_7 xv_00 (fun H locs hH hP => ?_)
  refine lv_istore_n (lv' := [(3, .int x4), (2, .ref (B + r2)), (0, .ref (B + 0)), (1, .int v1)]) hx hb dX10_clear_10 rfl hl (by decide) rfl (fun ls hl => ?_)
  refine lv_aload_n hx hb dX10_clear_11 rfl (lv_at hl 1 rfl) ?_
  refine lv_iconst (v := (0 : Int32)) hx hb dX10_clear_12 (by decide) ?_
  obtain ⟨u, w5, hc, hf⟩ := bd_some hf
  refine q_callV0 (As := [.int (0 : Int32)]) C hH (ci := 7) rfl (by omega) gk_X10_237 yd_X7_cutTo (by omega) (by omega) k_r2 (c_X7_cutTo k_r2 hc) hl.1 rfl (Nat.le_of_ble_eq_true rfl) dX10_clear_13 xv_00 (fun H locs hH hP => ?_)
  refine lv_iload_n hx hb dX10_clear_16 rfl (lv_at hl 0 rfl) ?_
  cases hf
  exact q_x0 rfl (q_reti C hH trivial dX10_clear_17)
set_option maxRecDepth 100000 in
theorem c_X10_clear {l : Launch} {D : va_G} {B : Nat} {Y : Nat → ClassId} {v1 : Int32} {w : Wd} {r : (Nat ⊕ Int32)} {w1 : Wd} (htr : l.stackTraces = false)   (hf : f_X10_clear v1 w = some (r, w1)) : XM l D B Y yX10_clear cX10_clear 4 (some .int) 1 [.ref (B + 0), .int v1] w (zoI r) w1 True :=
  XM_of (by decide +kernel) (Nat.le_of_ble_eq_true rfl) (fun p e s m args below meth c ls C hxt hH hl => t_X10_clear_0 C hxt htr  hH (lv_sub hl [0, 1] rfl) hf)
/-! LetterTables.checkPlace -/
set_option maxRecDepth 100000 in
set_option maxHeartbeats 4000000 in
theorem t_X10_checkPlace_9 {D : va_G} {B : Nat} {Y : Nat → ClassId} {p : Program} {l : Launch} {e : Env} {s : State} {m : MethodId} {args : Array Value} {below : List Frame} {meth : Method} {c : Code} {z : ((Nat ⊕ Unit) × Wd)} {H : Heap} {locs : List Loc} {ls : Array Slot} {w : Wd}  (C : CX D B Y p s m args meth c cX10_checkPlace 2 RX10 none) (hxt : ∀ x ∈ c.exceptionTable.toList, False) (htr : l.stackTraces = false)     (hH : HS D B Y w s H locs) (hl : lv_has ls 2 []) (hf : f_X10_checkPlace_9 w = some z) : W p l e (RM 0 (xv (zoV z.1)) (6 * xv (zoV z.1))) s m args below meth c H locs 0 0 (vx_MQ below (QX D B Y (zoV z.1) z.2 True) (XX D B Y (zoV z.1) z.2) args s (xv (zoV z.1)) (6 * xv (zoV z.1)) (AB B)) (F0 m 9 ls []) := by
  have hx := C.1
  have hb := C.2.1
  unfold f_X10_checkPlace_9 at hf
  cases hf
  exact q_throwW C hH hxt htr (Or.inl rfl) wd_453 wd_64 wd_495 (List.mem_of_getElem? (i := 10) rfl) hl.1 dX10_checkPlace_9 dX10_checkPlace_12 dX10_checkPlace_13 dX10_checkPlace_16 dX10_checkPlace_19 (Nat.le_of_ble_eq_true rfl) (xv_1 rfl) (xv_6 rfl)
set_option maxRecDepth 100000 in
set_option maxHeartbeats 4000000 in
theorem t_X10_checkPlace_0 {D : va_G} {B : Nat} {Y : Nat → ClassId} {p : Program} {l : Launch} {e : Env} {s : State} {m : MethodId} {args : Array Value} {below : List Frame} {meth : Method} {c : Code} {z : ((Nat ⊕ Unit) × Wd)} {H : Heap} {locs : List Loc} {ls : Array Slot} {w : Wd} {v0 : Int32} {v1 : Int32} (C : CX D B Y p s m args meth c cX10_checkPlace 2 RX10 none) (hxt : ∀ x ∈ c.exceptionTable.toList, False) (htr : l.stackTraces = false)     (hH : HS D B Y w s H locs) (hl : lv_has ls 2 [(0, .int v0), (1, .int v1)]) (hf : f_X10_checkPlace v0 v1 w = some z) : W p l e (RM 0 (xv (zoV z.1)) (6 * xv (zoV z.1))) s m args below meth c H locs 0 0 (vx_MQ below (QX D B Y (zoV z.1) z.2 True) (XX D B Y (zoV z.1) z.2) args s (xv (zoV z.1)) (6 * xv (zoV z.1)) (AB B)) (F0 m 0 ls []) := by
  have hx := C.1
  have hb := C.2.1
  unfold f_X10_checkPlace at hf
  refine lv_iload_n hx hb dX10_checkPlace_0 rfl (lv_at hl 0 rfl) ?_
  refine b_if_lt (tgt := 9) hx hb hf dX10_checkPlace_1 (by decide) (fun hf => ?_) (fun hf => ?_)
  · exact t_X10_checkPlace_9 C hxt htr hH (lv_sub hl [] rfl) hf
  · refine lv_iload_n hx hb dX10_checkPlace_4 rfl (lv_at hl 0 rfl) ?_
    refine lv_iload_n hx hb dX10_checkPlace_5 rfl (lv_at hl 1 rfl) ?_
    refine b_icmp_lt (tgt := 20) hx hb hf dX10_checkPlace_6 (by decide) (fun hf => ?_) (fun hf => ?_)
    · cases hf
      exact q_x0 rfl (q_retv C hH trivial dX10_checkPlace_20)
    · exact t_X10_checkPlace_9 C hxt htr hH (lv_sub hl [] rfl) hf
set_option maxRecDepth 100000 in
theorem c_X10_checkPlace {l : Launch} {D : va_G} {B : Nat} {Y : Nat → ClassId} {v0 : Int32} {v1 : Int32} {w : Wd} {r : (Nat ⊕ Unit)} {w1 : Wd} (htr : l.stackTraces = false)   (hf : f_X10_checkPlace v0 v1 w = some (r, w1)) : XM l D B Y yX10_checkPlace cX10_checkPlace 2 none 0 [.int v0, .int v1] w (zoV r) w1 True :=
  XM_of (by decide +kernel) (Nat.le_of_ble_eq_true rfl) (fun p e s m args below meth c ls C hxt hH hl => t_X10_checkPlace_0 C hxt htr  hH (lv_sub hl [0, 1] rfl) hf)
/-! LetterTables.at -/
set_option maxRecDepth 100000 in
set_option maxHeartbeats 4000000 in
theorem t_X10_at_0 {D : va_G} {B : Nat} {Y : Nat → ClassId} {p : Program} {l : Launch} {e : Env} {s : State} {m : MethodId} {args : Array Value} {below : List Frame} {meth : Method} {c : Code} {z : ((Nat ⊕ Int32) × Wd)} {H : Heap} {locs : List Loc} {ls : Array Slot} {w : Wd} {v1 : Int32} {v2 : Int32} (C : CX D B Y p s m args meth c cX10_at 4 RX10 (some .int)) (hxt : ∀ x ∈ c.exceptionTable.toList, False) (htr : l.stackTraces = false)     (hH : HS D B Y w s H locs) (hl : lv_has ls 4 [(0, .ref (B + 0)), (1, .int v1), (2, .int v2)]) (hf : f_X10_at v1 v2 w = some z) : W p l e (RM 1 (xv (zoI z.1)) (6 * xv (zoI z.1))) s m args below meth c H locs 0 0 (vx_MQ below (QX D B Y (zoI z.1) z.2 True) (XX D B Y (zoI z.1) z.2) args s (xv (zoI z.1)) (6 * xv (zoI z.1)) (AB B)) (F0 m 0 ls []) := by
  have hx := C.1
  have hb := C.2.1
  unfold f_X10_at at hf
  refine lv_aload_n hx hb dX10_at_0 rfl (lv_at hl 0 rfl) ?_
  refine lv_iload_n hx hb dX10_at_1 rfl (lv_at hl 1 rfl) ?_
  rcases bdx_some hf with ⟨k, w1, hc, rfl⟩ | ⟨r2, w1, hc, hf⟩
  · exact q_xrunX (k0 := k) (q_xV (As := [.int v1]) C hH (ci := 10) rfl (by omega) gk_X10_194 yd_X10_textOf (by omega) (by omega) kc_0 (c_X10_textOf (r := .inl k) htr hc) hl.1 rfl (Nat.le_of_ble_eq_true rfl) dX10_at_2 (xv_le rfl)) hH (fun H locs ce q hH h1 h2 h3 => q_out C hH hxt h1 h2 h3 (xv_1 rfl) (xv_6 rfl))
  refine q_xrun (ov := some (.ref (B + r2))) (q_xV (As := [.int v1]) C hH (ci := 10) rfl (by omega) gk_X10_194 yd_X10_textOf (by omega) (by omega) kc_0 (c_X10_textOf (r := .inr r2) htr hc) hl.1 rfl (Nat.le_of_ble_eq_true rfl) dX10_at_2 (xv_0 rfl xv_00)) hH (fun H locs hH k_r2 => ?_)
  refine lv_astore_n (lv' := [(3, .ref (B + r2)), (0, .ref (B + 0)), (1, .int v1), (2, .int v2)]) hx hb dX10_at_5 rfl hl (by decide) rfl (fun ls hl => ?_)
  refine lv_iload_n hx hb dX10_at_6 rfl (lv_at hl 3 rfl) ?_
  refine lv_iconst (v := (-1 : Int32)) hx hb dX10_at_7 (by decide) ?_
  refine b_icmp_ne (tgt := 16) hx hb hf dX10_at_8 (by decide) (fun hf => ?_) (fun hf => ?_)
  · refine lv_iload_n hx hb dX10_at_16 rfl (lv_at hl 3 rfl) ?_
    refine lv_aload_n hx hb dX10_at_17 rfl (lv_at hl 0 rfl) ?_
    obtain ⟨x4, w3, hc, hf⟩ := bd_some hf
    refine q_callV1 (v := .int x4) (As := []) C hH (ci := 7) rfl (by omega) gk_X10_107 yd_X7_size (by omega) (by omega) k_r2 (c_X7_size k_r2 hc) hl.1 rfl (Nat.le_of_ble_eq_true rfl) dX10_at_18 xv_00 (fun H locs hH hP => ?_)
    rcases bdx_some hf with ⟨k, w5, hc, rfl⟩ | ⟨u, w5, hc, hf⟩
    · exact q_xrunX (k0 := k) (q_xS (As := [.int v2, .int x4]) C hH gk_X10_240 yd_X10_checkPlace (by omega) (by omega) (c_X10_checkPlace (r := .inl k) htr hc) hl.1 rfl (Nat.le_of_ble_eq_true rfl) dX10_at_21 (xv_le rfl)) hH (fun H locs ce q hH h1 h2 h3 => q_out C hH hxt h1 h2 h3 (xv_1 rfl) (xv_6 rfl))
    refine q_xrun (ov := none) (q_xS (As := [.int v2, .int x4]) C hH gk_X10_240 yd_X10_checkPlace (by omega) (by omega) (c_X10_checkPlace (r := .inr u) htr hc) hl.1 rfl (Nat.le_of_ble_eq_true rfl) dX10_at_21 (xv_0 rfl xv_00)) hH (fun H locs hH hP => ?_)
    refine lv_aload_n hx hb dX10_at_24 rfl (lv_at hl 0 rfl) ?_
    refine lv_iload_n hx hb dX10_at_25 rfl (lv_at hl 3 rfl) ?_
    obtain ⟨x7, w6, hc, hf⟩ := bd_some hf
    refine q_callV1 (v := .int x7) (As := [.int v2]) C hH (ci := 7) rfl (by omega) gk_X10_243 yd_X7_get (by omega) (by omega) k_r2 (c_X7_get k_r2 hc) hl.1 rfl (Nat.le_of_ble_eq_true rfl) dX10_at_26 xv_00 (fun H locs hH hP => ?_)
    cases hf
    exact q_x0 rfl (q_reti C hH trivial dX10_at_29)
  · refine lv_aload_n hx hb dX10_at_11 rfl (lv_at hl 0 rfl) ?_
    obtain ⟨x9, w8, hc, hf⟩ := bd_some hf
    refine q_callV1 (v := .int x9) (As := []) C hH (ci := 7) rfl (by omega) gk_X10_107 yd_X7_size (by omega) (by omega) k_r2 (c_X7_size k_r2 hc) hl.1 rfl (Nat.le_of_ble_eq_true rfl) dX10_at_12 xv_00 (fun H locs hH hP => ?_)
    cases hf
    exact q_x0 rfl (q_reti C hH trivial dX10_at_15)
set_option maxRecDepth 100000 in
theorem c_X10_at {l : Launch} {D : va_G} {B : Nat} {Y : Nat → ClassId} {v1 : Int32} {v2 : Int32} {w : Wd} {r : (Nat ⊕ Int32)} {w1 : Wd} (htr : l.stackTraces = false)   (hf : f_X10_at v1 v2 w = some (r, w1)) : XM l D B Y yX10_at cX10_at 4 (some .int) 1 [.ref (B + 0), .int v1, .int v2] w (zoI r) w1 True :=
  XM_of (by decide +kernel) (Nat.le_of_ble_eq_true rfl) (fun p e s m args below meth c ls C hxt hH hl => t_X10_at_0 C hxt htr  hH (lv_sub hl [0, 1, 2] rfl) hf)
/-! LetterTables$Row.removeLast -/
set_option maxRecDepth 100000 in
set_option maxHeartbeats 4000000 in
theorem t_X7_removeLast_0 {D : va_G} {B : Nat} {Y : Nat → ClassId} {p : Program} {l : Launch} {e : Env} {s : State} {m : MethodId} {args : Array Value} {below : List Frame} {meth : Method} {c : Code} {z : (Int32 × Wd)} {H : Heap} {locs : List Loc} {ls : Array Slot} {w : Wd} {v0 : Nat} (C : CX D B Y p s m args meth c cX7_removeLast 2 RX7 (some .int))   (k_v0 : KD v0 = 7)  (hH : HS D B Y w s H locs) (hl : lv_has ls 2 [(0, .ref (B + v0))]) (hf : f_X7_removeLast v0 w = some z) : W p l e (RM 1 0 0) s m args below meth c H locs 0 0 (MQ below (QG D B Y (some (.int z.1)) z.2 True) args s 0 0 (AB B)) (F0 m 0 ls []) := by
  have hx := C.1
  have hb := C.2.1
  unfold f_X7_removeLast at hf
  refine lv_aload_n hx hb dX7_removeLast_0 rfl (lv_at hl 0 rfl) ?_
  refine lv_aload_n hx hb dX7_removeLast_1 rfl (lv_at hl 0 rfl) ?_
  refine fg_X7_15 C hH k_v0 dX7_removeLast_2 ?_
  refine lv_iconst (v := (1 : Int32)) hx hb dX7_removeLast_5 (by decide) ?_
  refine lv_isub hx hb dX7_removeLast_6 ?_
  obtain ⟨x2, w1, hc, hf⟩ := bd_some hf
  refine q_callV1 (v := .int x2) (As := [.int ((w.1 v0 1) - (1 : Int32))]) C hH (ci := 7) rfl (by omega) gk_X7_19 yd_X7_get (by omega) (by omega) k_v0 (c_X7_get k_v0 hc) hl.1 rfl (Nat.le_of_ble_eq_true rfl) dX7_removeLast_7 xv_00 (fun H locs hH hP => ?_)
  refine lv_istore_n (lv' := [(1, .int x2), (0, .ref (B + v0))]) hx hb dX7_removeLast_10 rfl hl (by decide) rfl (fun ls hl => ?_)
  refine lv_aload_n hx hb dX7_removeLast_11 rfl (lv_at hl 1 rfl) ?_
  refine lv_aload_n hx hb dX7_removeLast_12 rfl (lv_at hl 1 rfl) ?_
  refine fg_X7_15 C hH k_v0 dX7_removeLast_13 ?_
  refine lv_iconst (v := (1 : Int32)) hx hb dX7_removeLast_16 (by decide) ?_
  refine lv_isub hx hb dX7_removeLast_17 ?_
  obtain ⟨u, w3, hc, hf⟩ := bd_some hf
  refine q_callV0 (As := [.int ((w1.1 v0 1) - (1 : Int32))]) C hH (ci := 7) rfl (by omega) gk_X7_23 yd_X7_cutTo (by omega) (by omega) k_v0 (c_X7_cutTo k_v0 hc) hl.1 rfl (Nat.le_of_ble_eq_true rfl) dX7_removeLast_18 xv_00 (fun H locs hH hP => ?_)
  refine lv_iload_n hx hb dX7_removeLast_21 rfl (lv_at hl 0 rfl) ?_
  cases hf
  exact q_reti C hH trivial dX7_removeLast_22
set_option maxRecDepth 100000 in
theorem c_X7_removeLast {l : Launch} {D : va_G} {B : Nat} {Y : Nat → ClassId} {v0 : Nat} {w : Wd} {r : Int32} {w1 : Wd} (k_v0 : KD v0 = 7)  (hf : f_X7_removeLast v0 w = some (r, w1)) : CM l D B Y yX7_removeLast cX7_removeLast 2 (some .int) 1 [.ref (B + v0)] w (some (.int r)) w1 True :=
  CM_of (by decide +kernel) (Nat.le_of_ble_eq_true rfl) (fun p e s m args below meth c ls C hH hl => t_X7_removeLast_0 C k_v0 hH (lv_sub hl [0] rfl) hf)
/-! LetterTables$Tables.splitOneOf -/
set_option maxRecDepth 100000 in
set_option maxHeartbeats 4000000 in
theorem t_X9_splitOneOf_0 {D : va_G} {B : Nat} {Y : Nat → ClassId} {p : Program} {l : Launch} {e : Env} {s : State} {m : MethodId} {args : Array Value} {below : List Frame} {meth : Method} {c : Code} {z : (Int32 × Wd)} {H : Heap} {locs : List Loc} {ls : Array Slot} {w : Wd} {v0 : Nat} {v1 : Int32} (C : CX D B Y p s m args meth c cX9_splitOneOf 2 RX9 (some .int))   (k_v0 : KD v0 = 9)  (hH : HS D B Y w s H locs) (hl : lv_has ls 2 [(0, .ref (B + v0)), (1, .int v1)]) (hf : f_X9_splitOneOf v0 v1 w = some z) : W p l e (RM 1 0 0) s m args below meth c H locs 0 0 (MQ below (QG D B Y (some (.int z.1)) z.2 True) args s 0 0 (AB B)) (F0 m 0 ls []) := by
  have hx := C.1
  have hb := C.2.1
  unfold f_X9_splitOneOf at hf
  refine lv_aload_n hx hb dX9_splitOneOf_0 rfl (lv_at hl 0 rfl) ?_
  refine fg_X9_24 C hH k_v0 dX9_splitOneOf_1 ?_
  refine lv_iload_n hx hb dX9_splitOneOf_4 rfl (lv_at hl 1 rfl) ?_
  refine lv_iconst (v := (-1 : Int32)) hx hb dX9_splitOneOf_5 (by decide) ?_
  obtain ⟨x2, w1, hc, hf⟩ := bd_some hf
  refine q_callN1 (v := .int x2) (As := [.ref (B + (v0 + 5)), .int v1, .int (-1 : Int32)]) C hH (List.mem_of_getElem? (i := 2) rfl) wd_573 wd_50 wd_572 yd_X10_cellOf (by omega) (by omega) (c_X10_cellOf (ko_9_4 k_v0) hc) hl.1 rfl (Nat.le_of_ble_eq_true rfl) dX9_splitOneOf_6 xv_00 (fun H locs hH hP => ?_)
  cases hf
  exact q_reti C hH trivial dX9_splitOneOf_9
set_option maxRecDepth 100000 in
theorem c_X9_splitOneOf {l : Launch} {D : va_G} {B : Nat} {Y : Nat → ClassId} {v0 : Nat} {v1 : Int32} {w : Wd} {r : Int32} {w1 : Wd} (k_v0 : KD v0 = 9)  (hf : f_X9_splitOneOf v0 v1 w = some (r, w1)) : CM l D B Y yX9_splitOneOf cX9_splitOneOf 2 (some .int) 1 [.ref (B + v0), .int v1] w (some (.int r)) w1 True :=
  CM_of (by decide +kernel) (Nat.le_of_ble_eq_true rfl) (fun p e s m args below meth c ls C hH hl => t_X9_splitOneOf_0 C k_v0 hH (lv_sub hl [0, 1] rfl) hf)
/-! LetterTables$Tables.splitOtherOf -/
set_option maxRecDepth 100000 in
set_option maxHeartbeats 4000000 in
theorem t_X9_splitOtherOf_0 {D : va_G} {B : Nat} {Y : Nat → ClassId} {p : Program} {l : Launch} {e : Env} {s : State} {m : MethodId} {args : Array Value} {below : List Frame} {meth : Method} {c : Code} {z : (Int32 × Wd)} {H : Heap} {locs : List Loc} {ls : Array Slot} {w : Wd} {v0 : Nat} {v1 : Int32} (C : CX D B Y p s m args meth c cX9_splitOtherOf 2 RX9 (some .int))   (k_v0 : KD v0 = 9)  (hH : HS D B Y w s H locs) (hl : lv_has ls 2 [(0, .ref (B + v0)), (1, .int v1)]) (hf : f_X9_splitOtherOf v0 v1 w = some z) : W p l e (RM 1 0 0) s m args below meth c H locs 0 0 (MQ below (QG D B Y (some (.int z.1)) z.2 True) args s 0 0 (AB B)) (F0 m 0 ls []) := by
  have hx := C.1
  have hb := C.2.1
  unfold f_X9_splitOtherOf at hf
  refine lv_aload_n hx hb dX9_splitOtherOf_0 rfl (lv_at hl 0 rfl) ?_
  refine fg_X9_27 C hH k_v0 dX9_splitOtherOf_1 ?_
  refine lv_iload_n hx hb dX9_splitOtherOf_4 rfl (lv_at hl 1 rfl) ?_
  refine lv_iconst (v := (-1 : Int32)) hx hb dX9_splitOtherOf_5 (by decide) ?_
  obtain ⟨x2, w1, hc, hf⟩ := bd_some hf
  refine q_callN1 (v := .int x2) (As := [.ref (B + (v0 + 6)), .int v1, .int (-1 : Int32)]) C hH (List.mem_of_getElem? (i := 2) rfl) wd_573 wd_50 wd_572 yd_X10_cellOf (by omega) (by omega) (c_X10_cellOf (ko_9_5 k_v0) hc) hl.1 rfl (Nat.le_of_ble_eq_true rfl) dX9_splitOtherOf_6 xv_00 (fun H locs hH hP => ?_)
  cases hf
  exact q_reti C hH trivial dX9_splitOtherOf_9
set_option maxRecDepth 100000 in
theorem c_X9_splitOtherOf {l : Launch} {D : va_G} {B : Nat} {Y : Nat → ClassId} {v0 : Nat} {v1 : Int32} {w : Wd} {r : Int32} {w1 : Wd} (k_v0 : KD v0 = 9)  (hf : f_X9_splitOtherOf v0 v1 w = some (r, w1)) : CM l D B Y yX9_splitOtherOf cX9_splitOtherOf 2 (some .int) 1 [.ref (B + v0), .int v1] w (some (.int r)) w1 True :=
  CM_of (by decide +kernel) (Nat.le_of_ble_eq_true rfl) (fun p e s m args below meth c ls C hH hl => t_X9_splitOtherOf_0 C k_v0 hH (lv_sub hl [0, 1] rfl) hf)
/-! LetterTables$Forms.splitLetter -/
set_option maxRecDepth 100000 in
set_option maxHeartbeats 4000000 in
theorem tb_X1_splitLetter_23 {D : va_G} {B : Nat} {Y : Nat → ClassId} {p : Program} {l : Launch} {e : Env} {s : State} {m : MethodId} {args : Array Value} {below : List Frame} {meth : Method} {c : Code} {z : (Int32 × Wd)} {H : Heap} {locs : List Loc} {ls : Array Slot} {w : Wd} {v3 : Nat} {v4 : Int32} {v5 : Int32} (C : CX D B Y p s m args meth c cX1_splitLetter 8 RX1 (some .int))  {rc_23 : Nat × Int32 × Int32 × Wd → Option (Int32 × Wd)} (hr_23 : ∀ (v3 : Nat) (v4 : Int32) (v5 : Int32) (w : Wd), rc_23 (v3, v4, v5, w) = some z → KD v3 = 7 → ∀ (H : Heap) (locs : List Loc) (ls : Array Slot), HS D B Y w s H locs → lv_has ls 8 [(0, .ref (B + 639)), (3, .ref (B + v3)), (4, .int v4), (5, .int v5)] → W p l e (RM 2 0 0) s m args below meth c H locs 0 0 (MQ below (QG D B Y (some (.int z.1)) z.2 True) args s 0 0 (AB B)) (F0 m 23 ls []))  (k_v3 : KD v3 = 7)  (hH : HS D B Y w s H locs) (hl : lv_has ls 8 [(0, .ref (B + 639)), (3, .ref (B + v3)), (4, .int v4), (5, .int v5)]) (hf : g_X1_splitLetter_23 rc_23 v3 v4 v5 w = some z) : W p l e (RM 2 0 0) s m args below meth c H locs 0 0 (MQ below (QG D B Y (some (.int z.1)) z.2 True) args s 0 0 (AB B)) (F0 m 23 ls []) := by
  have hx := C.1
  have hb := C.2.1
  unfold g_X1_splitLetter_23 at hf
  refine lv_iload hx hb dX1_splitLetter_23 (lv_at hl 3 rfl) ?_
  refine lv_sipush (v := (320 : Int32)) hx hb dX1_splitLetter_25 (by decide) ?_
  refine b_icmp_ge (tgt := 120) hx hb hf dX1_splitLetter_28 (by decide) (fun hf => ?_) (fun hf => ?_)
  · refine lv_iload hx hb dX1_splitLetter_120 (lv_at hl 2 rfl) ?_
    cases hf
    exact q_reti C hH trivial dX1_splitLetter_122
  · refine lv_aload_n hx hb dX1_splitLetter_31 rfl (lv_at hl 0 rfl) ?_
    refine fg_X1_20 C hH dX1_splitLetter_32 ?_
    obtain ⟨x2, w1, hc, hf⟩ := bd_some hf
    refine q_callV1 (v := .int x2) (As := []) C hH (ci := 7) rfl (by omega) gk_X1_52 yd_X7_size (by omega) (by omega) kc_640 (c_X7_size kc_640 hc) hl.1 rfl (Nat.le_of_ble_eq_true rfl) dX1_splitLetter_35 xv_00 (fun H locs hH hP => ?_)
    refine b_if_le (tgt := 120) hx hb hf dX1_splitLetter_38 (by decide) (fun hf => ?_) (fun hf => ?_)
    · refine lv_iload hx hb dX1_splitLetter_120 (lv_at hl 2 rfl) ?_
      cases hf
      exact q_reti C hH trivial dX1_splitLetter_122
    · refine lv_iload hx hb dX1_splitLetter_41 (lv_at hl 2 rfl) ?_
      refine lv_bipush (v := (80 : Int32)) hx hb dX1_splitLetter_43 (by decide) ?_
      refine b_icmp_gt (tgt := 120) hx hb hf dX1_splitLetter_45 (by decide) (fun hf => ?_) (fun hf => ?_)
      · refine lv_iload hx hb dX1_splitLetter_120 (lv_at hl 2 rfl) ?_
        cases hf
        exact q_reti C hH trivial dX1_splitLetter_122
      · refine lv_aload_n hx hb dX1_splitLetter_48 rfl (lv_at hl 0 rfl) ?_
        refine fg_X1_20 C hH dX1_splitLetter_49 ?_
        obtain ⟨x4, w3, hc, hf⟩ := bd_some hf
        refine q_callV1 (v := .int x4) (As := []) C hH (ci := 7) rfl (by omega) gk_X1_72 yd_X7_removeLast (by omega) (by omega) kc_640 (c_X7_removeLast kc_640 hc) hl.1 rfl (Nat.le_of_ble_eq_true rfl) dX1_splitLetter_52 xv_00 (fun H locs hH hP => ?_)
        refine lv_istore (lv' := [(6, .int x4), (0, .ref (B + 639)), (3, .ref (B + v3)), (4, .int v4), (5, .int v5)]) hx hb dX1_splitLetter_55 hl (by decide) rfl (fun ls hl => ?_)
        refine lv_aload_n hx hb dX1_splitLetter_57 rfl (lv_at hl 1 rfl) ?_
        refine fg_X1_9 C hH dX1_splitLetter_58 ?_
        refine lv_iload hx hb dX1_splitLetter_61 (lv_at hl 0 rfl) ?_
        obtain ⟨x6, w5, hc, hf⟩ := bd_some hf
        refine q_callV1 (v := .int x6) (As := [.int x4]) C hH (ci := 9) rfl (by omega) gk_X1_75 yd_X9_splitOneOf (by omega) (by omega) kc_1 (c_X9_splitOneOf kc_1 hc) hl.1 rfl (Nat.le_of_ble_eq_true rfl) dX1_splitLetter_63 xv_00 (fun H locs hH hP => ?_)
        refine lv_istore (lv' := [(7, .int x6), (6, .int x4), (0, .ref (B + 639)), (3, .ref (B + v3)), (4, .int v4), (5, .int v5)]) hx hb dX1_splitLetter_66 hl (by decide) rfl (fun ls hl => ?_)
        refine lv_iload hx hb dX1_splitLetter_68 (lv_at hl 0 rfl) ?_
        refine lv_iconst (v := (-1 : Int32)) hx hb dX1_splitLetter_70 (by decide) ?_
        refine b_icmp_ne (tgt := 84) hx hb hf dX1_splitLetter_71 (by decide) (fun hf => ?_) (fun hf => ?_)
        · refine b_let hf (fun x7 he hf => ?_)
          refine lv_iinc (v := x7) (lv' := [(4, .int x7), (7, .int x6), (6, .int x4), (0, .ref (B + 639)), (3, .ref (B + v3)), (5, .int v5)]) hx hb dX1_splitLetter_84 hl (k := 4) rfl (by rw [← he]; rfl) (by decide) rfl (fun ls hl => ?_)
          refine lv_aload_n hx hb dX1_splitLetter_87 rfl (lv_at hl 3 rfl) ?_
          refine fg_X1_20 C hH dX1_splitLetter_88 ?_
          refine lv_aload_n hx hb dX1_splitLetter_91 rfl (lv_at hl 3 rfl) ?_
          refine fg_X1_9 C hH dX1_splitLetter_92 ?_
          refine lv_iload hx hb dX1_splitLetter_95 (lv_at hl 2 rfl) ?_
          obtain ⟨x9, w8, hc, hf⟩ := bd_some hf
          refine q_callV1 (v := .int x9) (As := [.int x4]) C hH (ci := 9) rfl (by omega) gk_X1_80 yd_X9_splitOtherOf (by omega) (by omega) kc_1 (c_X9_splitOtherOf kc_1 hc) hl.1 rfl (Nat.le_of_ble_eq_true rfl) dX1_splitLetter_97 xv_00 (fun H locs hH hP => ?_)
          obtain ⟨x11, w10, hc, hf⟩ := bd_some hf
          refine q_callV1 (v := .int x11) (As := [.int x9]) C hH (ci := 7) rfl (by omega) gk_X1_68 yd_X7_add (by omega) (by omega) kc_640 (c_X7_add kc_640 hc) hl.1 rfl (Nat.le_of_ble_eq_true rfl) dX1_splitLetter_100 xv_00 (fun H locs hH z_x11 => ?_)
          refine lv_pop hx hb dX1_splitLetter_103 rfl ?_
          refine lv_aload_n hx hb dX1_splitLetter_104 rfl (lv_at hl 3 rfl) ?_
          refine fg_X1_20 C hH dX1_splitLetter_105 ?_
          refine lv_iload hx hb dX1_splitLetter_108 (lv_at hl 1 rfl) ?_
          obtain ⟨x13, w12, hc, hf⟩ := bd_some hf
          refine q_callV1 (v := .int x13) (As := [.int x6]) C hH (ci := 7) rfl (by omega) gk_X1_68 yd_X7_add (by omega) (by omega) kc_640 (c_X7_add kc_640 hc) hl.1 rfl (Nat.le_of_ble_eq_true rfl) dX1_splitLetter_110 xv_00 (fun H locs hH z_x13 => ?_)
          refine lv_pop hx hb dX1_splitLetter_113 rfl ?_
          refine b_let hf (fun x14 he hf => ?_)
          refine lv_iinc (v := x14) (lv' := [(5, .int x14), (4, .int x7), (7, .int x6), (6, .int x4), (0, .ref (B + 639)), (3, .ref (B + v3))]) hx hb dX1_splitLetter_114 hl (k := 5) rfl (by rw [← he]; rfl) (by decide) rfl (fun ls hl => ?_)
          refine lv_goto (tgt := 23) hx hb dX1_splitLetter_117 (by decide) ?_
          exact hr_23 v3 x7 x14 w12 hf k_v3 _ _ _ hH (lv_sub hl [4, 5, 1, 0] rfl)
        · refine lv_aload_n hx hb dX1_splitLetter_74 rfl (lv_at hl 3 rfl) ?_
          refine lv_iload hx hb dX1_splitLetter_75 (lv_at hl 1 rfl) ?_
          obtain ⟨x16, w15, hc, hf⟩ := bd_some hf
          refine q_callV1 (v := .int x16) (As := [.int x4]) C hH (ci := 7) rfl (by omega) gk_X1_68 yd_X7_add (by omega) (by omega) k_v3 (c_X7_add k_v3 hc) hl.1 rfl (Nat.le_of_ble_eq_true rfl) dX1_splitLetter_77 xv_00 (fun H locs hH z_x16 => ?_)
          refine lv_pop hx hb dX1_splitLetter_80 rfl ?_
          refine lv_goto (tgt := 114) hx hb dX1_splitLetter_81 (by decide) ?_
          refine b_let hf (fun x17 he hf => ?_)
          refine lv_iinc (v := x17) (lv' := [(5, .int x17), (7, .int x6), (6, .int x4), (0, .ref (B + 639)), (3, .ref (B + v3)), (4, .int v4)]) hx hb dX1_splitLetter_114 hl (k := 5) rfl (by rw [← he]; rfl) (by decide) rfl (fun ls hl => ?_)
          refine lv_goto (tgt := 23) hx hb dX1_splitLetter_117 (by decide) ?_
          exact hr_23 v3 v4 x17 w15 hf k_v3 _ _ _ hH (lv_sub hl [3, 4, 5, 0] rfl)
set_option maxRecDepth 100000 in
set_option maxHeartbeats 4000000 in
theorem t_X1_splitLetter_23 {D : va_G} {B : Nat} {Y : Nat → ClassId} {p : Program} {l : Launch} {e : Env} {s : State} {m : MethodId} {args : Array Value} {below : List Frame} {meth : Method} {c : Code} {z : (Int32 × Wd)} {H : Heap} {locs : List Loc} {ls : Array Slot} {w : Wd} {v3 : Nat} {v4 : Int32} {v5 : Int32} (C : CX D B Y p s m args meth c cX1_splitLetter 8 RX1 (some .int))   (k_v3 : KD v3 = 7)  (hH : HS D B Y w s H locs) (hl : lv_has ls 8 [(0, .ref (B + 639)), (3, .ref (B + v3)), (4, .int v4), (5, .int v5)]) (hf : f_X1_splitLetter_23 v3 v4 v5 w = some z) : W p l e (RM 2 0 0) s m args below meth c H locs 0 0 (MQ below (QG D B Y (some (.int z.1)) z.2 True) args s 0 0 (AB B)) (F0 m 23 ls []) := by
  exact loopN_ind (z := z) (body := fun rc σ => g_X1_splitLetter_23 rc  σ.1 σ.2.1 σ.2.2.1 σ.2.2.2)
    (P := fun σ => KD σ.1 = 7 → ∀ (H : Heap) (locs : List Loc) (ls : Array Slot), HS D B Y σ.2.2.2 s H locs → lv_has ls 8 [(0, .ref (B + 639)), (3, .ref (B + σ.1)), (4, .int σ.2.1), (5, .int σ.2.2.1)] → W p l e (RM 2 0 0) s m args below meth c H locs 0 0 (MQ below (QG D B Y (some (.int z.1)) z.2 True) args s 0 0 (AB B)) (F0 m 23 ls []))
    (fun rc hrec σ hf k_v3 H locs ls hH hl => tb_X1_splitLetter_23 C (fun v3 v4 v5 w hr k_v3 H locs ls hH hl => hrec (v3, v4, v5, w) hr k_v3 H locs ls hH hl)  k_v3 hH hl hf) FU (v3, v4, v5, w) hf k_v3 H locs ls hH hl
set_option maxRecDepth 100000 in
set_option maxHeartbeats 4000000 in
theorem t_X1_splitLetter_0 {D : va_G} {B : Nat} {Y : Nat → ClassId} {p : Program} {l : Launch} {e : Env} {s : State} {m : MethodId} {args : Array Value} {below : List Frame} {meth : Method} {c : Code} {z : (Int32 × Wd)} {H : Heap} {locs : List Loc} {ls : Array Slot} {w : Wd} {v1 : Int32} {v2 : Int32} {v3 : Nat} (C : CX D B Y p s m args meth c cX1_splitLetter 8 RX1 (some .int))   (k_v3 : KD v3 = 7)  (hH : HS D B Y w s H locs) (hl : lv_has ls 8 [(0, .ref (B + 639)), (1, .int v1), (2, .int v2), (3, .ref (B + v3))]) (hf : f_X1_splitLetter v1 v2 v3 w = some z) : W p l e (RM 2 0 0) s m args below meth c H locs 0 0 (MQ below (QG D B Y (some (.int z.1)) z.2 True) args s 0 0 (AB B)) (F0 m 0 ls []) := by
  have hx := C.1
  have hb := C.2.1
  unfold f_X1_splitLetter at hf
  refine lv_iload_n hx hb dX1_splitLetter_0 rfl (lv_at hl 2 rfl) ?_
  refine lv_istore (lv' := [(4, .int v2), (0, .ref (B + 639)), (1, .int v1), (2, .int v2), (3, .ref (B + v3))]) hx hb dX1_splitLetter_1 hl (by decide) rfl (fun ls hl => ?_)
  refine lv_aload_n hx hb dX1_splitLetter_3 rfl (lv_at hl 1 rfl) ?_
  refine fg_X1_20 C hH dX1_splitLetter_4 ?_
  refine lv_iconst (v := (0 : Int32)) hx hb dX1_splitLetter_7 (by decide) ?_
  obtain ⟨u, w1, hc, hf⟩ := bd_some hf
  refine q_callV0 (As := [.int (0 : Int32)]) C hH (ci := 7) rfl (by omega) gk_X1_49 yd_X7_cutTo (by omega) (by omega) kc_640 (c_X7_cutTo kc_640 hc) hl.1 rfl (Nat.le_of_ble_eq_true rfl) dX1_splitLetter_8 xv_00 (fun H locs hH hP => ?_)
  refine lv_aload_n hx hb dX1_splitLetter_11 rfl (lv_at hl 1 rfl) ?_
  refine fg_X1_20 C hH dX1_splitLetter_12 ?_
  refine lv_iload_n hx hb dX1_splitLetter_15 rfl (lv_at hl 2 rfl) ?_
  obtain ⟨x3, w2, hc, hf⟩ := bd_some hf
  refine q_callV1 (v := .int x3) (As := [.int v1]) C hH (ci := 7) rfl (by omega) gk_X1_68 yd_X7_add (by omega) (by omega) kc_640 (c_X7_add kc_640 hc) hl.1 rfl (Nat.le_of_ble_eq_true rfl) dX1_splitLetter_16 xv_00 (fun H locs hH z_x3 => ?_)
  refine lv_pop hx hb dX1_splitLetter_19 rfl ?_
  refine lv_iconst (v := (0 : Int32)) hx hb dX1_splitLetter_20 (by decide) ?_
  refine lv_istore (lv' := [(5, .int (0 : Int32)), (4, .int v2), (0, .ref (B + 639)), (1, .int v1), (2, .int v2), (3, .ref (B + v3))]) hx hb dX1_splitLetter_21 hl (by decide) rfl (fun ls hl => ?_)
  exact t_X1_splitLetter_23 C k_v3 hH (lv_sub hl [2, 5, 1, 0] rfl) hf
set_option maxRecDepth 100000 in
theorem c_X1_splitLetter {l : Launch} {D : va_G} {B : Nat} {Y : Nat → ClassId} {v1 : Int32} {v2 : Int32} {v3 : Nat} {w : Wd} {r : Int32} {w1 : Wd} (k_v3 : KD v3 = 7)  (hf : f_X1_splitLetter v1 v2 v3 w = some (r, w1)) : CM l D B Y yX1_splitLetter cX1_splitLetter 8 (some .int) 2 [.ref (B + 639), .int v1, .int v2, .ref (B + v3)] w (some (.int r)) w1 True :=
  CM_of (by decide +kernel) (Nat.le_of_ble_eq_true rfl) (fun p e s m args below meth c ls C hH hl => t_X1_splitLetter_0 C k_v3 hH (lv_sub hl [0, 1, 2, 3] rfl) hf)
/-! LetterTables$Tables.joinsOf -/
set_option maxRecDepth 100000 in
set_option maxHeartbeats 4000000 in
theorem t_X9_joinsOf_0 {D : va_G} {B : Nat} {Y : Nat → ClassId} {p : Program} {l : Launch} {e : Env} {s : State} {m : MethodId} {args : Array Value} {below : List Frame} {meth : Method} {c : Code} {z : (Int32 × Wd)} {H : Heap} {locs : List Loc} {ls : Array Slot} {w : Wd} {v0 : Nat} {v1 : Int32} (C : CX D B Y p s m args meth c cX9_joinsOf 2 RX9 (some .int))   (k_v0 : KD v0 = 9)  (hH : HS D B Y w s H locs) (hl : lv_has ls 2 [(0, .ref (B + v0)), (1, .int v1)]) (hf : f_X9_joinsOf v0 v1 w = some z) : W p l e (RM 1 0 0) s m args below meth c H locs 0 0 (MQ below (QG D B Y (some (.int z.1)) z.2 True) args s 0 0 (AB B)) (F0 m 0 ls []) := by
  have hx := C.1
  have hb := C.2.1
  unfold f_X9_joinsOf at hf
  refine lv_aload_n hx hb dX9_joinsOf_0 rfl (lv_at hl 0 rfl) ?_
  refine fg_X9_9 C hH k_v0 dX9_joinsOf_1 ?_
  refine lv_iload_n hx hb dX9_joinsOf_4 rfl (lv_at hl 1 rfl) ?_
  refine lv_iconst (v := (0 : Int32)) hx hb dX9_joinsOf_5 (by decide) ?_
  obtain ⟨x2, w1, hc, hf⟩ := bd_some hf
  refine q_callN1 (v := .int x2) (As := [.ref (B + (v0 + 1)), .int v1, .int (0 : Int32)]) C hH (List.mem_of_getElem? (i := 2) rfl) wd_573 wd_50 wd_572 yd_X10_cellOf (by omega) (by omega) (c_X10_cellOf (ko_9_0 k_v0) hc) hl.1 rfl (Nat.le_of_ble_eq_true rfl) dX9_joinsOf_6 xv_00 (fun H locs hH hP => ?_)
  cases hf
  exact q_reti C hH trivial dX9_joinsOf_9
set_option maxRecDepth 100000 in
theorem c_X9_joinsOf {l : Launch} {D : va_G} {B : Nat} {Y : Nat → ClassId} {v0 : Nat} {v1 : Int32} {w : Wd} {r : Int32} {w1 : Wd} (k_v0 : KD v0 = 9)  (hf : f_X9_joinsOf v0 v1 w = some (r, w1)) : CM l D B Y yX9_joinsOf cX9_joinsOf 2 (some .int) 1 [.ref (B + v0), .int v1] w (some (.int r)) w1 True :=
  CM_of (by decide +kernel) (Nat.le_of_ble_eq_true rfl) (fun p e s m args below meth c ls C hH hl => t_X9_joinsOf_0 C k_v0 hH (lv_sub hl [0, 1] rfl) hf)
/-! LetterTables$Row.set -/
set_option maxRecDepth 100000 in
set_option maxHeartbeats 4000000 in
theorem t_X7_set_0 {D : va_G} {B : Nat} {Y : Nat → ClassId} {p : Program} {l : Launch} {e : Env} {s : State} {m : MethodId} {args : Array Value} {below : List Frame} {meth : Method} {c : Code} {z : (Unit × Wd)} {H : Heap} {locs : List Loc} {ls : Array Slot} {w : Wd} {v0 : Nat} {v1 : Int32} {v2 : Int32} (C : CX D B Y p s m args meth c cX7_set 3 RX7 none)   (k_v0 : KD v0 = 7)  (hH : HS D B Y w s H locs) (hl : lv_has ls 3 [(0, .ref (B + v0)), (1, .int v1), (2, .int v2)]) (hf : f_X7_set v0 v1 v2 w = some z) : W p l e (RM 0 0 0) s m args below meth c H locs 0 0 (MQ below (QG D B Y none z.2 True) args s 0 0 (AB B)) (F0 m 0 ls []) := by
  have hx := C.1
  have hb := C.2.1
  unfold f_X7_set at hf
  refine lv_iload_n hx hb dX7_set_0 rfl (lv_at hl 1 rfl) ?_
  refine b_if_lt (tgt := 28) hx hb hf dX7_set_1 (by decide) (fun hf => ?_) (fun hf => ?_)
  · cases hf
    exact q_retv C hH trivial dX7_set_28
  · refine lv_iload_n hx hb dX7_set_4 rfl (lv_at hl 1 rfl) ?_
    refine lv_aload_n hx hb dX7_set_5 rfl (lv_at hl 0 rfl) ?_
    refine fg_X7_15 C hH k_v0 dX7_set_6 ?_
    refine b_icmp_ge (tgt := 28) hx hb hf dX7_set_9 (by decide) (fun hf => ?_) (fun hf => ?_)
    · cases hf
      exact q_retv C hH trivial dX7_set_28
    · refine lv_iload_n hx hb dX7_set_12 rfl (lv_at hl 1 rfl) ?_
      refine lv_aload_n hx hb dX7_set_13 rfl (lv_at hl 0 rfl) ?_
      refine fg_X7_9 C hH k_v0 dX7_set_14 ?_
      refine q_alen C hH (t0 := 0) (ci := 20) rfl (by omega) (ko_7_0 k_v0) dX7_set_17 ?_
      refine b_icmp_ge (tgt := 28) hx hb hf dX7_set_18 (by decide) (fun hf => ?_) (fun hf => ?_)
      · cases hf
        exact q_retv C hH trivial dX7_set_28
      · refine lv_aload_n hx hb dX7_set_21 rfl (lv_at hl 0 rfl) ?_
        refine fg_X7_9 C hH k_v0 dX7_set_22 ?_
        refine lv_iload_n hx hb dX7_set_25 rfl (lv_at hl 1 rfl) ?_
        refine lv_iload_n hx hb dX7_set_26 rfl (lv_at hl 2 rfl) ?_
        refine g_iast C hH (ko_7_0 k_v0) hf dX7_set_27 (fun w1 H locs hf hH => ?_)
        cases hf
        exact q_retv C hH trivial dX7_set_28
set_option maxRecDepth 100000 in
theorem c_X7_set {l : Launch} {D : va_G} {B : Nat} {Y : Nat → ClassId} {v0 : Nat} {v1 : Int32} {v2 : Int32} {w : Wd} {r : Unit} {w1 : Wd} (k_v0 : KD v0 = 7)  (hf : f_X7_set v0 v1 v2 w = some (r, w1)) : CM l D B Y yX7_set cX7_set 3 none 0 [.ref (B + v0), .int v1, .int v2] w none w1 True :=
  CM_of (by decide +kernel) (Nat.le_of_ble_eq_true rfl) (fun p e s m args below meth c ls C hH hl => t_X7_set_0 C k_v0 hH (lv_sub hl [0, 1, 2] rfl) hf)
/-! LetterTables$Forms.sortMarks -/
set_option maxRecDepth 100000 in
set_option maxHeartbeats 4000000 in
theorem t_X1_sortMarks_79 {D : va_G} {B : Nat} {Y : Nat → ClassId} {p : Program} {l : Launch} {e : Env} {s : State} {m : MethodId} {args : Array Value} {below : List Frame} {meth : Method} {c : Code} {z : (Unit × Wd)} {H : Heap} {locs : List Loc} {ls : Array Slot} {w : Wd} {v1 : Nat} {v2 : Int32} {v3 : Int32} {v5 : Int32} (C : CX D B Y p s m args meth c cX1_sortMarks 6 RX1 none)  {rc_2 : Nat × Int32 × Wd → Option (Unit × Wd)} (hr_2 : ∀ (v1 : Nat) (v2 : Int32) (w : Wd), rc_2 (v1, v2, w) = some z → KD v1 = 7 → ∀ (H : Heap) (locs : List Loc) (ls : Array Slot), HS D B Y w s H locs → lv_has ls 6 [(0, .ref (B + 639)), (1, .ref (B + v1)), (2, .int v2)] → W p l e (RM 2 0 0) s m args below meth c H locs 0 0 (MQ below (QG D B Y none z.2 True) args s 0 0 (AB B)) (F0 m 2 ls []))  (k_v1 : KD v1 = 7)  (hH : HS D B Y w s H locs) (hl : lv_has ls 6 [(0, .ref (B + 639)), (1, .ref (B + v1)), (2, .int v2), (3, .int v3), (5, .int v5)]) (hf : f_X1_sortMarks_79 rc_2 v1 v2 v3 v5 w = some z) : W p l e (RM 2 0 0) s m args below meth c H locs 0 0 (MQ below (QG D B Y none z.2 True) args s 0 0 (AB B)) (F0 m 79 ls []) := by
  have hx := C.1
  have hb := C.2.1
  unfold f_X1_sortMarks_79 at hf
  refine lv_aload_n hx hb dX1_sortMarks_79 rfl (lv_at hl 1 rfl) ?_
  refine lv_iload hx hb dX1_sortMarks_80 (lv_at hl 4 rfl) ?_
  refine lv_iload_n hx hb dX1_sortMarks_82 rfl (lv_at hl 3 rfl) ?_
  obtain ⟨u, w1, hc, hf⟩ := bd_some hf
  refine q_callV0 (As := [.int v5, .int v3]) C hH (ci := 7) rfl (by omega) gk_X1_86 yd_X7_set (by omega) (by omega) k_v1 (c_X7_set k_v1 hc) hl.1 rfl (Nat.le_of_ble_eq_true rfl) dX1_sortMarks_83 xv_00 (fun H locs hH hP => ?_)
  refine b_let hf (fun x2 he hf => ?_)
  refine lv_iinc (v := x2) (lv' := [(2, .int x2), (0, .ref (B + 639)), (1, .ref (B + v1)), (3, .int v3), (5, .int v5)]) hx hb dX1_sortMarks_86 hl (k := 2) rfl (by rw [← he]; rfl) (by decide) rfl (fun ls hl => ?_)
  refine lv_goto (tgt := 2) hx hb dX1_sortMarks_89 (by decide) ?_
  exact hr_2 v1 x2 w1 hf k_v1 _ _ _ hH (lv_sub hl [1, 2, 0] rfl)
set_option maxRecDepth 100000 in
set_option maxHeartbeats 4000000 in
theorem tb_X1_sortMarks_29 {D : va_G} {B : Nat} {Y : Nat → ClassId} {p : Program} {l : Launch} {e : Env} {s : State} {m : MethodId} {args : Array Value} {below : List Frame} {meth : Method} {c : Code} {z : (Unit × Wd)} {H : Heap} {locs : List Loc} {ls : Array Slot} {w : Wd} {v1 : Nat} {v2 : Int32} {v3 : Int32} {v4 : Int32} {v5 : Int32} (C : CX D B Y p s m args meth c cX1_sortMarks 6 RX1 none)  {rc_29 : Nat × Int32 × Int32 × Int32 × Int32 × Wd → Option (Unit × Wd)} (hr_29 : ∀ (v1 : Nat) (v2 : Int32) (v3 : Int32) (v4 : Int32) (v5 : Int32) (w : Wd), rc_29 (v1, v2, v3, v4, v5, w) = some z → KD v1 = 7 → ∀ (H : Heap) (locs : List Loc) (ls : Array Slot), HS D B Y w s H locs → lv_has ls 6 [(0, .ref (B + 639)), (1, .ref (B + v1)), (2, .int v2), (3, .int v3), (4, .int v4), (5, .int v5)] → W p l e (RM 2 0 0) s m args below meth c H locs 0 0 (MQ below (QG D B Y none z.2 True) args s 0 0 (AB B)) (F0 m 29 ls [])) {rc_2 : Nat × Int32 × Wd → Option (Unit × Wd)} (hr_2 : ∀ (v1 : Nat) (v2 : Int32) (w : Wd), rc_2 (v1, v2, w) = some z → KD v1 = 7 → ∀ (H : Heap) (locs : List Loc) (ls : Array Slot), HS D B Y w s H locs → lv_has ls 6 [(0, .ref (B + 639)), (1, .ref (B + v1)), (2, .int v2)] → W p l e (RM 2 0 0) s m args below meth c H locs 0 0 (MQ below (QG D B Y none z.2 True) args s 0 0 (AB B)) (F0 m 2 ls []))  (k_v1 : KD v1 = 7)  (hH : HS D B Y w s H locs) (hl : lv_has ls 6 [(0, .ref (B + 639)), (1, .ref (B + v1)), (2, .int v2), (3, .int v3), (4, .int v4), (5, .int v5)]) (hf : g_X1_sortMarks_29 rc_29 rc_2 v1 v2 v3 v4 v5 w = some z) : W p l e (RM 2 0 0) s m args below meth c H locs 0 0 (MQ below (QG D B Y none z.2 True) args s 0 0 (AB B)) (F0 m 29 ls []) := by
  have hx := C.1
  have hb := C.2.1
  unfold g_X1_sortMarks_29 at hf
  refine lv_iload hx hb dX1_sortMarks_29 (lv_at hl 4 rfl) ?_
  refine b_if_le (tgt := 79) hx hb hf dX1_sortMarks_31 (by decide) (fun hf => ?_) (fun hf => ?_)
  · exact t_X1_sortMarks_79 C hr_2 k_v1 hH (lv_sub hl [0, 1, 2, 3, 5] rfl) hf
  · refine lv_iload hx hb dX1_sortMarks_34 (lv_at hl 5 rfl) ?_
    refine b_if_le (tgt := 79) hx hb hf dX1_sortMarks_36 (by decide) (fun hf => ?_) (fun hf => ?_)
    · exact t_X1_sortMarks_79 C hr_2 k_v1 hH (lv_sub hl [0, 1, 2, 3, 5] rfl) hf
    · refine lv_aload_n hx hb dX1_sortMarks_39 rfl (lv_at hl 0 rfl) ?_
      refine fg_X1_9 C hH dX1_sortMarks_40 ?_
      refine lv_aload_n hx hb dX1_sortMarks_43 rfl (lv_at hl 1 rfl) ?_
      refine lv_iload hx hb dX1_sortMarks_44 (lv_at hl 5 rfl) ?_
      refine lv_iconst (v := (1 : Int32)) hx hb dX1_sortMarks_46 (by decide) ?_
      refine lv_isub hx hb dX1_sortMarks_47 ?_
      obtain ⟨x2, w1, hc, hf⟩ := bd_some hf
      refine q_callV1 (v := .int x2) (As := [.int (v5 - (1 : Int32))]) C hH (ci := 7) rfl (by omega) gk_X1_56 yd_X7_get (by omega) (by omega) k_v1 (c_X7_get k_v1 hc) hl.1 rfl (Nat.le_of_ble_eq_true rfl) dX1_sortMarks_48 xv_00 (fun H locs hH hP => ?_)
      obtain ⟨x4, w3, hc, hf⟩ := bd_some hf
      refine q_callV1 (v := .int x4) (As := [.int x2]) C hH (ci := 9) rfl (by omega) gk_X1_83 yd_X9_joinsOf (by omega) (by omega) kc_1 (c_X9_joinsOf kc_1 hc) hl.1 rfl (Nat.le_of_ble_eq_true rfl) dX1_sortMarks_51 xv_00 (fun H locs hH hP => ?_)
      refine lv_iload hx hb dX1_sortMarks_54 (lv_at hl 4 rfl) ?_
      refine b_icmp_le (tgt := 79) hx hb hf dX1_sortMarks_56 (by decide) (fun hf => ?_) (fun hf => ?_)
      · exact t_X1_sortMarks_79 C hr_2 k_v1 hH (lv_sub hl [0, 1, 2, 3, 5] rfl) hf
      · refine lv_aload_n hx hb dX1_sortMarks_59 rfl (lv_at hl 1 rfl) ?_
        refine lv_iload hx hb dX1_sortMarks_60 (lv_at hl 5 rfl) ?_
        refine lv_aload_n hx hb dX1_sortMarks_62 rfl (lv_at hl 1 rfl) ?_
        refine lv_iload hx hb dX1_sortMarks_63 (lv_at hl 5 rfl) ?_
        refine lv_iconst (v := (1 : Int32)) hx hb dX1_sortMarks_65 (by decide) ?_
        refine lv_isub hx hb dX1_sortMarks_66 ?_
        obtain ⟨x6, w5, hc, hf⟩ := bd_some hf
        refine q_callV1 (v := .int x6) (As := [.int (v5 - (1 : Int32))]) C hH (ci := 7) rfl (by omega) gk_X1_56 yd_X7_get (by omega) (by omega) k_v1 (c_X7_get k_v1 hc) hl.1 rfl (Nat.le_of_ble_eq_true rfl) dX1_sortMarks_67 xv_00 (fun H locs hH hP => ?_)
        obtain ⟨u, w7, hc, hf⟩ := bd_some hf
        refine q_callV0 (As := [.int v5, .int x6]) C hH (ci := 7) rfl (by omega) gk_X1_86 yd_X7_set (by omega) (by omega) k_v1 (c_X7_set k_v1 hc) hl.1 rfl (Nat.le_of_ble_eq_true rfl) dX1_sortMarks_70 xv_00 (fun H locs hH hP => ?_)
        refine b_let hf (fun x8 he hf => ?_)
        refine lv_iinc (v := x8) (lv' := [(5, .int x8), (0, .ref (B + 639)), (1, .ref (B + v1)), (2, .int v2), (3, .int v3), (4, .int v4)]) hx hb dX1_sortMarks_73 hl (k := 5) rfl (by rw [← he]; rfl) (by decide) rfl (fun ls hl => ?_)
        refine lv_goto (tgt := 29) hx hb dX1_sortMarks_76 (by decide) ?_
        exact hr_29 v1 v2 v3 v4 x8 w7 hf k_v1 _ _ _ hH (lv_sub hl [1, 2, 3, 4, 5, 0] rfl)
set_option maxRecDepth 100000 in
set_option maxHeartbeats 4000000 in
theorem t_X1_sortMarks_29 {D : va_G} {B : Nat} {Y : Nat → ClassId} {p : Program} {l : Launch} {e : Env} {s : State} {m : MethodId} {args : Array Value} {below : List Frame} {meth : Method} {c : Code} {z : (Unit × Wd)} {H : Heap} {locs : List Loc} {ls : Array Slot} {w : Wd} {v1 : Nat} {v2 : Int32} {v3 : Int32} {v4 : Int32} {v5 : Int32} (C : CX D B Y p s m args meth c cX1_sortMarks 6 RX1 none)  {rc_2 : Nat × Int32 × Wd → Option (Unit × Wd)} (hr_2 : ∀ (v1 : Nat) (v2 : Int32) (w : Wd), rc_2 (v1, v2, w) = some z → KD v1 = 7 → ∀ (H : Heap) (locs : List Loc) (ls : Array Slot), HS D B Y w s H locs → lv_has ls 6 [(0, .ref (B + 639)), (1, .ref (B + v1)), (2, .int v2)] → W p l e (RM 2 0 0) s m args below meth c H locs 0 0 (MQ below (QG D B Y none z.2 True) args s 0 0 (AB B)) (F0 m 2 ls []))  (k_v1 : KD v1 = 7)  (hH : HS D B Y w s H locs) (hl : lv_has ls 6 [(0, .ref (B + 639)), (1, .ref (B + v1)), (2, .int v2), (3, .int v3), (4, .int v4), (5, .int v5)]) (hf : f_X1_sortMarks_29 rc_2 v1 v2 v3 v4 v5 w = some z) : W p l e (RM 2 0 0) s m args below meth c H locs 0 0 (MQ below (QG D B Y none z.2 True) args s 0 0 (AB B)) (F0 m 29 ls []) := by
  exact loopN_ind (z := z) (body := fun rc σ => g_X1_sortMarks_29 rc rc_2 σ.1 σ.2.1 σ.2.2.1 σ.2.2.2.1 σ.2.2.2.2.1 σ.2.2.2.2.2)
    (P := fun σ => KD σ.1 = 7 → ∀ (H : Heap) (locs : List Loc) (ls : Array Slot), HS D B Y σ.2.2.2.2.2 s H locs → lv_has ls 6 [(0, .ref (B + 639)), (1, .ref (B + σ.1)), (2, .int σ.2.1), (3, .int σ.2.2.1), (4, .int σ.2.2.2.1), (5, .int σ.2.2.2.2.1)] → W p l e (RM 2 0 0) s m args below meth c H locs 0 0 (MQ below (QG D B Y none z.2 True) args s 0 0 (AB B)) (F0 m 29 ls []))
    (fun rc hrec σ hf k_v1 H locs ls hH hl => tb_X1_sortMarks_29 C (fun v1 v2 v3 v4 v5 w hr k_v1 H locs ls hH hl => hrec (v1, v2, v3, v4, v5, w) hr k_v1 H locs ls hH hl) hr_2 k_v1 hH hl hf) FU (v1, v2, v3, v4, v5, w) hf k_v1 H locs ls hH hl
set_option maxRecDepth 100000 in
set_option maxHeartbeats 4000000 in
theorem tb_X1_sortMarks_2 {D : va_G} {B : Nat} {Y : Nat → ClassId} {p : Program} {l : Launch} {e : Env} {s : State} {m : MethodId} {args : Array Value} {below : List Frame} {meth : Method} {c : Code} {z : (Unit × Wd)} {H : Heap} {locs : List Loc} {ls : Array Slot} {w : Wd} {v1 : Nat} {v2 : Int32} (C : CX D B Y p s m args meth c cX1_sortMarks 6 RX1 none)  {rc_2 : Nat × Int32 × Wd → Option (Unit × Wd)} (hr_2 : ∀ (v1 : Nat) (v2 : Int32) (w : Wd), rc_2 (v1, v2, w) = some z → KD v1 = 7 → ∀ (H : Heap) (locs : List Loc) (ls : Array Slot), HS D B Y w s H locs → lv_has ls 6 [(0, .ref (B + 639)), (1, .ref (B + v1)), (2, .int v2)] → W p l e (RM 2 0 0) s m args below meth c H locs 0 0 (MQ below (QG D B Y none z.2 True) args s 0 0 (AB B)) (F0 m 2 ls []))  (k_v1 : KD v1 = 7)  (hH : HS D B Y w s H locs) (hl : lv_has ls 6 [(0, .ref (B + 639)), (1, .ref (B + v1)), (2, .int v2)]) (hf : g_X1_sortMarks_2 rc_2 v1 v2 w = some z) : W p l e (RM 2 0 0) s m args below meth c H locs 0 0 (MQ below (QG D B Y none z.2 True) args s 0 0 (AB B)) (F0 m 2 ls []) := by
  have hx := C.1
  have hb := C.2.1
  unfold g_X1_sortMarks_2 at hf
  refine lv_iload_n hx hb dX1_sortMarks_2 rfl (lv_at hl 2 rfl) ?_
  refine lv_aload_n hx hb dX1_sortMarks_3 rfl (lv_at hl 1 rfl) ?_
  obtain ⟨x2, w1, hc, hf⟩ := bd_some hf
  refine q_callV1 (v := .int x2) (As := []) C hH (ci := 7) rfl (by omega) gk_X1_52 yd_X7_size (by omega) (by omega) k_v1 (c_X7_size k_v1 hc) hl.1 rfl (Nat.le_of_ble_eq_true rfl) dX1_sortMarks_4 xv_00 (fun H locs hH hP => ?_)
  refine b_icmp_ge (tgt := 92) hx hb hf dX1_sortMarks_7 (by decide) (fun hf => ?_) (fun hf => ?_)
  · cases hf
    exact q_retv C hH trivial dX1_sortMarks_92
  · refine lv_aload_n hx hb dX1_sortMarks_10 rfl (lv_at hl 1 rfl) ?_
    refine lv_iload_n hx hb dX1_sortMarks_11 rfl (lv_at hl 2 rfl) ?_
    obtain ⟨x4, w3, hc, hf⟩ := bd_some hf
    refine q_callV1 (v := .int x4) (As := [.int v2]) C hH (ci := 7) rfl (by omega) gk_X1_56 yd_X7_get (by omega) (by omega) k_v1 (c_X7_get k_v1 hc) hl.1 rfl (Nat.le_of_ble_eq_true rfl) dX1_sortMarks_12 xv_00 (fun H locs hH hP => ?_)
    refine lv_istore_n (lv' := [(3, .int x4), (0, .ref (B + 639)), (1, .ref (B + v1)), (2, .int v2)]) hx hb dX1_sortMarks_15 rfl hl (by decide) rfl (fun ls hl => ?_)
    refine lv_aload_n hx hb dX1_sortMarks_16 rfl (lv_at hl 1 rfl) ?_
    refine fg_X1_9 C hH dX1_sortMarks_17 ?_
    refine lv_iload_n hx hb dX1_sortMarks_20 rfl (lv_at hl 0 rfl) ?_
    obtain ⟨x6, w5, hc, hf⟩ := bd_some hf
    refine q_callV1 (v := .int x6) (As := [.int x4]) C hH (ci := 9) rfl (by omega) gk_X1_83 yd_X9_joinsOf (by omega) (by omega) kc_1 (c_X9_joinsOf kc_1 hc) hl.1 rfl (Nat.le_of_ble_eq_true rfl) dX1_sortMarks_21 xv_00 (fun H locs hH hP => ?_)
    refine lv_istore (lv' := [(4, .int x6), (3, .int x4), (0, .ref (B + 639)), (1, .ref (B + v1)), (2, .int v2)]) hx hb dX1_sortMarks_24 hl (by decide) rfl (fun ls hl => ?_)
    refine lv_iload_n hx hb dX1_sortMarks_26 rfl (lv_at hl 4 rfl) ?_
    refine lv_istore (lv' := [(5, .int v2), (4, .int x6), (3, .int x4), (0, .ref (B + 639)), (1, .ref (B + v1)), (2, .int v2)]) hx hb dX1_sortMarks_27 hl (by decide) rfl (fun ls hl => ?_)
    exact t_X1_sortMarks_29 C hr_2 k_v1 hH (lv_sub hl [3, 4, 5, 2, 1, 0] rfl) hf
set_option maxRecDepth 100000 in
set_option maxHeartbeats 4000000 in
theorem t_X1_sortMarks_2 {D : va_G} {B : Nat} {Y : Nat → ClassId} {p : Program} {l : Launch} {e : Env} {s : State} {m : MethodId} {args : Array Value} {below : List Frame} {meth : Method} {c : Code} {z : (Unit × Wd)} {H : Heap} {locs : List Loc} {ls : Array Slot} {w : Wd} {v1 : Nat} {v2 : Int32} (C : CX D B Y p s m args meth c cX1_sortMarks 6 RX1 none)   (k_v1 : KD v1 = 7)  (hH : HS D B Y w s H locs) (hl : lv_has ls 6 [(0, .ref (B + 639)), (1, .ref (B + v1)), (2, .int v2)]) (hf : f_X1_sortMarks_2 v1 v2 w = some z) : W p l e (RM 2 0 0) s m args below meth c H locs 0 0 (MQ below (QG D B Y none z.2 True) args s 0 0 (AB B)) (F0 m 2 ls []) := by
  exact loopN_ind (z := z) (body := fun rc σ => g_X1_sortMarks_2 rc  σ.1 σ.2.1 σ.2.2)
    (P := fun σ => KD σ.1 = 7 → ∀ (H : Heap) (locs : List Loc) (ls : Array Slot), HS D B Y σ.2.2 s H locs → lv_has ls 6 [(0, .ref (B + 639)), (1, .ref (B + σ.1)), (2, .int σ.2.1)] → W p l e (RM 2 0 0) s m args below meth c H locs 0 0 (MQ below (QG D B Y none z.2 True) args s 0 0 (AB B)) (F0 m 2 ls []))
    (fun rc hrec σ hf k_v1 H locs ls hH hl => tb_X1_sortMarks_2 C (fun v1 v2 w hr k_v1 H locs ls hH hl => hrec (v1, v2, w) hr k_v1 H locs ls hH hl)  k_v1 hH hl hf) FU (v1, v2, w) hf k_v1 H locs ls hH hl
set_option maxRecDepth 100000 in
set_option maxHeartbeats 4000000 in
theorem t_X1_sortMarks_0 {D : va_G} {B : Nat} {Y : Nat → ClassId} {p : Program} {l : Launch} {e : Env} {s : State} {m : MethodId} {args : Array Value} {below : List Frame} {meth : Method} {c : Code} {z : (Unit × Wd)} {H : Heap} {locs : List Loc} {ls : Array Slot} {w : Wd} {v1 : Nat} (C : CX D B Y p s m args meth c cX1_sortMarks 6 RX1 none)   (k_v1 : KD v1 = 7)  (hH : HS D B Y w s H locs) (hl : lv_has ls 6 [(0, .ref (B + 639)), (1, .ref (B + v1))]) (hf : f_X1_sortMarks v1 w = some z) : W p l e (RM 2 0 0) s m args below meth c H locs 0 0 (MQ below (QG D B Y none z.2 True) args s 0 0 (AB B)) (F0 m 0 ls []) := by
  have hx := C.1
  have hb := C.2.1
  unfold f_X1_sortMarks at hf
  refine lv_iconst (v := (1 : Int32)) hx hb dX1_sortMarks_0 (by decide) ?_
  refine lv_istore_n (lv' := [(2, .int (1 : Int32)), (0, .ref (B + 639)), (1, .ref (B + v1))]) hx hb dX1_sortMarks_1 rfl hl (by decide) rfl (fun ls hl => ?_)
  exact t_X1_sortMarks_2 C k_v1 hH (lv_sub hl [1, 2, 0] rfl) hf
set_option maxRecDepth 100000 in
theorem c_X1_sortMarks {l : Launch} {D : va_G} {B : Nat} {Y : Nat → ClassId} {v1 : Nat} {w : Wd} {r : Unit} {w1 : Wd} (k_v1 : KD v1 = 7)  (hf : f_X1_sortMarks v1 w = some (r, w1)) : CM l D B Y yX1_sortMarks cX1_sortMarks 6 none 2 [.ref (B + 639), .ref (B + v1)] w none w1 True :=
  CM_of (by decide +kernel) (Nat.le_of_ble_eq_true rfl) (fun p e s m args below meth c ls C hH hl => t_X1_sortMarks_0 C k_v1 hH (lv_sub hl [0, 1] rfl) hf)
