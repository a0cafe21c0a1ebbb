/-! LetterTables.isWithin -/
def f_X10_isWithin  (v0 : Int32) (v1 : Int32) (v2 : Int32) (w : Wd) : Option (Int32 × Wd) :=
  (if v0 < v1 then some ((0 : Int32), w) else (if v2 < v0 then some ((0 : Int32), w) else some ((1 : Int32), w)))
set_option maxRecDepth 100000 in
set_option maxHeartbeats 4000000 in
theorem t_X10_isWithin_0 {D : va_G} {B : Nat} {Y : Nat → ClassId} {p : Program} {l : Launch} {e : Env} {s : State} {m : MethodId} {args : Array Value} {below : List Frame} {meth : Method} {c : Code} {z : (Int32 × Wd)} {H : Heap} {locs : List Loc} {ls : Array Slot} {w : Wd} {v0 : Int32} {v1 : Int32} {v2 : Int32} (C : CX D B Y p s m args meth c cX10_isWithin 3 RX10 (some .boolean))     (hH : HS D B Y w s H locs) (hl : lv_has ls 3 [(0, .int v0), (1, .int v1), (2, .int v2)]) (hf : f_X10_isWithin v0 v1 v2 w = some z) : W p l e (RM 0 0 0) s m args below meth c H locs 0 0 (MQ below (QG D B Y (some (.int z.1)) z.2 (isZ z.1)) args s 0 0 (AB B)) (F0 m 0 ls []) := by
  have hx := C.1
  have hb := C.2.1
  unfold f_X10_isWithin at hf
  refine lv_iload_n hx hb dX10_isWithin_0 rfl (lv_at hl 0 rfl) ?_
  refine lv_iload_n hx hb dX10_isWithin_1 rfl (lv_at hl 1 rfl) ?_
  refine b_icmp_lt (tgt := 14) hx hb hf dX10_isWithin_2 (by decide) (fun hf => ?_) (fun hf => ?_)
  · refine lv_iconst (v := (0 : Int32)) hx hb dX10_isWithin_14 (by decide) ?_
    cases hf
    exact q_retz C hH isZ_0 isZ_0 dX10_isWithin_15
  · refine lv_iload_n hx hb dX10_isWithin_5 rfl (lv_at hl 0 rfl) ?_
    refine lv_iload_n hx hb dX10_isWithin_6 rfl (lv_at hl 2 rfl) ?_
    refine b_icmp_gt (tgt := 14) hx hb hf dX10_isWithin_7 (by decide) (fun hf => ?_) (fun hf => ?_)
    · refine lv_iconst (v := (0 : Int32)) hx hb dX10_isWithin_14 (by decide) ?_
      cases hf
      exact q_retz C hH isZ_0 isZ_0 dX10_isWithin_15
    · refine lv_iconst (v := (1 : Int32)) hx hb dX10_isWithin_10 (by decide) ?_
      refine lv_goto (tgt := 15) hx hb dX10_isWithin_11 (by decide) ?_
      cases hf
      exact q_retz C hH isZ_1 isZ_1 dX10_isWithin_15
set_option maxRecDepth 100000 in
theorem c_X10_isWithin {l : Launch} {D : va_G} {B : Nat} {Y : Nat → ClassId} {v0 : Int32} {v1 : Int32} {v2 : Int32} {w : Wd} {r : Int32} {w1 : Wd}   (hf : f_X10_isWithin v0 v1 v2 w = some (r, w1)) : CM l D B Y yX10_isWithin cX10_isWithin 3 (some .boolean) 0 [.int v0, .int v1, .int v2] w (some (.int r)) w1 (isZ r) :=
  CM_of (by decide +kernel) (Nat.le_of_ble_eq_true rfl) (fun p e s m args below meth c ls C hH hl => t_X10_isWithin_0 C  hH (lv_sub hl [0, 1, 2] rfl) hf)
/-! LetterTables.checkArgument -/
def f_X10_checkArgument  (v0 : Int32) (w : Wd) : Option ((Nat ⊕ Unit) × Wd) :=
  (if v0 = 0 then some (.inl 2, w) else some (.inr (), w))
set_option maxRecDepth 100000 in
set_option maxHeartbeats 4000000 in
theorem t_X10_checkArgument_0 {D : va_G} {B : Nat} {Y : Nat → ClassId} {p : Program} {l : Launch} {e : Env} {s : State} {m : MethodId} {args : Array Value} {below : List Frame} {meth : Method} {c : Code} {z : ((Nat ⊕ Unit) × Wd)} {H : Heap} {locs : List Loc} {ls : Array Slot} {w : Wd} {v0 : Int32} (C : CX D B Y p s m args meth c cX10_checkArgument 1 RX10 none) (hxt : ∀ x ∈ c.exceptionTable.toList, False) (htr : l.stackTraces = false)    (z_v0 : isZ v0) (hH : HS D B Y w s H locs) (hl : lv_has ls 1 [(0, .int v0)]) (hf : f_X10_checkArgument v0 w = some z) : W p l e (RM 0 1 (6 * 1)) s m args below meth c H locs 0 0 (vx_MQ below (QX D B Y (zoV z.1) z.2 True) (XX D B Y (zoV z.1) z.2) args s 1 (6 * 1) (AB B)) (F0 m 0 ls []) := by
  have hx := C.1
  have hb := C.2.1
  unfold f_X10_checkArgument at hf
  refine lv_iload_n hx hb dX10_checkArgument_0 rfl (lv_at hl 0 rfl) ?_
  refine b_if_ne (tgt := 15) hx hb hf dX10_checkArgument_1 (by decide) (fun hf => ?_) (fun hf => ?_)
  · cases hf
    exact q_x (W.widen (k := 1) (n := 6 * 1) (by decide) (by decide) (q_retv C hH trivial dX10_checkArgument_15))
  · cases hf
    exact q_throwW C hH hxt htr (Or.inr (Or.inl rfl)) wd_509 wd_124 wd_551 (List.mem_of_getElem? (i := 0) rfl) hl.1 dX10_checkArgument_4 dX10_checkArgument_7 dX10_checkArgument_8 dX10_checkArgument_11 dX10_checkArgument_14 (Nat.le_of_ble_eq_true rfl) (by decide) (by decide)
set_option maxRecDepth 100000 in
theorem c_X10_checkArgument {l : Launch} {D : va_G} {B : Nat} {Y : Nat → ClassId} {v0 : Int32} {w : Wd} {r : (Nat ⊕ Unit)} {w1 : Wd} (htr : l.stackTraces = false)  (z_v0 : isZ v0) (hf : f_X10_checkArgument v0 w = some (r, w1)) : XM l D B Y yX10_checkArgument cX10_checkArgument 1 none 0 1 [.int v0] w (zoV r) w1 True :=
  XM_of (by decide +kernel) (Nat.le_of_ble_eq_true rfl) (fun p e s m args below meth c ls C hxt hH hl => t_X10_checkArgument_0 C hxt htr z_v0 hH (lv_sub hl [0] rfl) hf)
/-! LetterTables$Row.size -/
def f_X7_size  (v0 : Nat) (w : Wd) : Option (Int32 × Wd) :=
  some (w.1 v0 1, w)
set_option maxRecDepth 100000 in
set_option maxHeartbeats 4000000 in
theorem t_X7_size_0 {D : va_G} {B : Nat} {Y : Nat → ClassId} {p : Program} {l : Launch} {e : Env} {s : State} {m : MethodId} {args : Array Value} {below : List Frame} {meth : Method} {c : Code} {z : (Int32 × Wd)} {H : Heap} {locs : List Loc} {ls : Array Slot} {w : Wd} {v0 : Nat} (C : CX D B Y p s m args meth c cX7_size 1 RX7 (some .int))   (k_v0 : KD v0 = 7)  (hH : HS D B Y w s H locs) (hl : lv_has ls 1 [(0, .ref (B + v0))]) (hf : f_X7_size v0 w = some z) : W p l e (RM 0 0 0) s m args below meth c H locs 0 0 (MQ below (QG D B Y (some (.int z.1)) z.2 True) args s 0 0 (AB B)) (F0 m 0 ls []) := by
  have hx := C.1
  have hb := C.2.1
  unfold f_X7_size at hf
  refine lv_aload_n hx hb dX7_size_0 rfl (lv_at hl 0 rfl) ?_
  refine fg_X7_15 C hH k_v0 dX7_size_1 ?_
  cases hf
  exact q_reti C hH trivial dX7_size_4
set_option maxRecDepth 100000 in
theorem c_X7_size {l : Launch} {D : va_G} {B : Nat} {Y : Nat → ClassId} {v0 : Nat} {w : Wd} {r : Int32} {w1 : Wd} (k_v0 : KD v0 = 7)  (hf : f_X7_size v0 w = some (r, w1)) : CM l D B Y yX7_size cX7_size 1 (some .int) 0 [.ref (B + v0)] w (some (.int r)) w1 True :=
  CM_of (by decide +kernel) (Nat.le_of_ble_eq_true rfl) (fun p e s m args below meth c ls C hH hl => t_X7_size_0 C k_v0 hH (lv_sub hl [0] rfl) hf)
/-! LetterTables$Row.add -/
def f_X7_add  (v0 : Nat) (v1 : Int32) (w : Wd) : Option (Int32 × Wd) :=
  (if (w.1 v0 1) < 0 then some ((0 : Int32), w) else (if (w.1 v0 1) < (Int32.ofNat (LEN (v0 + 1))) then ast w (v0 + 1) (w.1 v0 1) v1 (fun w1 => wr (setI w1 v0 1 ((w1.1 v0 1) + (1 : Int32))) (fun w2 => some ((1 : Int32), w2))) else some ((0 : Int32), w)))
set_option maxRecDepth 100000 in
set_option maxHeartbeats 4000000 in
theorem t_X7_add_0 {D : va_G} {B : Nat} {Y : Nat → ClassId} {p : Program} {l : Launch} {e : Env} {s : State} {m : MethodId} {args : Array Value} {below : List Frame} {meth : Method} {c : Code} {z : (Int32 × Wd)} {H : Heap} {locs : List Loc} {ls : Array Slot} {w : Wd} {v0 : Nat} {v1 : Int32} (C : CX D B Y p s m args meth c cX7_add 2 RX7 (some .boolean))   (k_v0 : KD v0 = 7)  (hH : HS D B Y w s H locs) (hl : lv_has ls 2 [(0, .ref (B + v0)), (1, .int v1)]) (hf : f_X7_add v0 v1 w = some z) : W p l e (RM 0 0 0) s m args below meth c H locs 0 0 (MQ below (QG D B Y (some (.int z.1)) z.2 (isZ z.1)) args s 0 0 (AB B)) (F0 m 0 ls []) := by
  have hx := C.1
  have hb := C.2.1
  unfold f_X7_add at hf
  refine lv_aload_n hx hb dX7_add_0 rfl (lv_at hl 0 rfl) ?_
  refine fg_X7_15 C hH k_v0 dX7_add_1 ?_
  refine b_if_lt (tgt := 19) hx hb hf dX7_add_4 (by decide) (fun hf => ?_) (fun hf => ?_)
  · refine lv_iconst (v := (0 : Int32)) hx hb dX7_add_19 (by decide) ?_
    cases hf
    exact q_retz C hH isZ_0 isZ_0 dX7_add_20
  · refine lv_aload_n hx hb dX7_add_7 rfl (lv_at hl 0 rfl) ?_
    refine fg_X7_15 C hH k_v0 dX7_add_8 ?_
    refine lv_aload_n hx hb dX7_add_11 rfl (lv_at hl 0 rfl) ?_
    refine fg_X7_9 C hH k_v0 dX7_add_12 ?_
    refine q_alen C hH (t0 := 0) (ci := 20) rfl (by omega) (ko_7_0 k_v0) dX7_add_15 ?_
    refine b_icmp_lt (tgt := 21) hx hb hf dX7_add_16 (by decide) (fun hf => ?_) (fun hf => ?_)
    · refine lv_aload_n hx hb dX7_add_21 rfl (lv_at hl 0 rfl) ?_
      refine fg_X7_9 C hH k_v0 dX7_add_22 ?_
      refine lv_aload_n hx hb dX7_add_25 rfl (lv_at hl 0 rfl) ?_
      refine fg_X7_15 C hH k_v0 dX7_add_26 ?_
      refine lv_iload_n hx hb dX7_add_29 rfl (lv_at hl 1 rfl) ?_
      refine g_iast C hH (ko_7_0 k_v0) hf dX7_add_30 (fun w1 H locs hf hH => ?_)
      refine lv_aload_n hx hb dX7_add_31 rfl (lv_at hl 0 rfl) ?_
      refine lv_dup hx hb dX7_add_32 rfl ?_
      refine fg_X7_15 C hH k_v0 dX7_add_33 ?_
      refine lv_iconst (v := (1 : Int32)) hx hb dX7_add_36 (by decide) ?_
      refine lv_iadd hx hb dX7_add_37 ?_
      refine fp_X7_15 C hH k_v0 dX7_add_38 (fun H locs hH => ?_)
      refine b_w hf hH (fun w2 hf hH => ?_)
      refine lv_iconst (v := (1 : Int32)) hx hb dX7_add_41 (by decide) ?_
      cases hf
      exact q_retz C hH isZ_1 isZ_1 dX7_add_42
    · refine lv_iconst (v := (0 : Int32)) hx hb dX7_add_19 (by decide) ?_
      cases hf
      exact q_retz C hH isZ_0 isZ_0 dX7_add_20
set_option maxRecDepth 100000 in
theorem c_X7_add {l : Launch} {D : va_G} {B : Nat} {Y : Nat → ClassId} {v0 : Nat} {v1 : Int32} {w : Wd} {r : Int32} {w1 : Wd} (k_v0 : KD v0 = 7)  (hf : f_X7_add v0 v1 w = some (r, w1)) : CM l D B Y yX7_add cX7_add 2 (some .boolean) 0 [.ref (B + v0), .int v1] w (some (.int r)) w1 (isZ r) :=
  CM_of (by decide +kernel) (Nat.le_of_ble_eq_true rfl) (fun p e s m args below meth c ls C hH hl => t_X7_add_0 C k_v0 hH (lv_sub hl [0, 1] rfl) hf)
/-! LetterTables.isLetter -/
def f_X10_isLetter  (v0 : Int32) (w : Wd) : Option (Int32 × Wd) :=
  bd (f_X10_isWithin v0 (0 : Int32) (95 : Int32) w) (fun x2 w1 => some (x2, w1))
set_option maxRecDepth 100000 in
set_option maxHeartbeats 4000000 in
theorem t_X10_isLetter_0 {D : va_G} {B : Nat} {Y : Nat → ClassId} {p : Program} {l : Launch} {e : Env} {s : State} {m : MethodId} {args : Array Value} {below : List Frame} {meth : Method} {c : Code} {z : (Int32 × Wd)} {H : Heap} {locs : List Loc} {ls : Array Slot} {w : Wd} {v0 : Int32} (C : CX D B Y p s m args meth c cX10_isLetter 1 RX10 (some .boolean))     (hH : HS D B Y w s H locs) (hl : lv_has ls 1 [(0, .int v0)]) (hf : f_X10_isLetter v0 w = some z) : W p l e (RM 1 0 0) s m args below meth c H locs 0 0 (MQ below (QG D B Y (some (.int z.1)) z.2 (isZ z.1)) args s 0 0 (AB B)) (F0 m 0 ls []) := by
  have hx := C.1
  have hb := C.2.1
  unfold f_X10_isLetter at hf
  refine lv_iload_n hx hb dX10_isLetter_0 rfl (lv_at hl 0 rfl) ?_
  refine lv_iconst (v := (0 : Int32)) hx hb dX10_isLetter_1 (by decide) ?_
  refine lv_bipush (v := (95 : Int32)) hx hb dX10_isLetter_2 (by decide) ?_
  obtain ⟨x2, w1, hc, hf⟩ := bd_some hf
  refine q_callS1 (v := .int x2) (As := [.int v0, .int (0 : Int32), .int (95 : Int32)]) C hH gk_X10_99 yd_X10_isWithin (by omega) (by omega) (c_X10_isWithin hc) hl.1 rfl (Nat.le_of_ble_eq_true rfl) dX10_isLetter_4 ⟨by decide, by decide⟩ (fun H locs hH z_x2 => ?_)
  cases hf
  exact q_retz C hH z_x2 z_x2 dX10_isLetter_7
set_option maxRecDepth 100000 in
theorem c_X10_isLetter {l : Launch} {D : va_G} {B : Nat} {Y : Nat → ClassId} {v0 : Int32} {w : Wd} {r : Int32} {w1 : Wd}   (hf : f_X10_isLetter v0 w = some (r, w1)) : CM l D B Y yX10_isLetter cX10_isLetter 1 (some .boolean) 1 [.int v0] w (some (.int r)) w1 (isZ r) :=
  CM_of (by decide +kernel) (Nat.le_of_ble_eq_true rfl) (fun p e s m args below meth c ls C hH hl => t_X10_isLetter_0 C  hH (lv_sub hl [0] rfl) hf)
/-! LetterTables.setCell -/
def f_X10_setCell  (v0 : Nat) (v1 : Int32) (v2 : Int32) (w : Wd) : Option (Unit × Wd) :=
  (if v1 < 0 then some ((), w) else (if (Int32.ofNat (LEN v0)) ≤ v1 then some ((), w) else ast w v0 v1 v2 (fun w1 => some ((), w1))))
set_option maxRecDepth 100000 in
set_option maxHeartbeats 4000000 in
theorem t_X10_setCell_0 {D : va_G} {B : Nat} {Y : Nat → ClassId} {p : Program} {l : Launch} {e : Env} {s : State} {m : MethodId} {args : Array Value} {below : List Frame} {meth : Method} {c : Code} {z : (Unit × Wd)} {H : Heap} {locs : List Loc} {ls : Array Slot} {w : Wd} {v0 : Nat} {v1 : Int32} {v2 : Int32} (C : CX D B Y p s m args meth c cX10_setCell 3 RX10 none)   (k_v0 : KD v0 = 20)  (hH : HS D B Y w s H locs) (hl : lv_has ls 3 [(0, .ref (B + v0)), (1, .int v1), (2, .int v2)]) (hf : f_X10_setCell v0 v1 v2 w = some z) : W p l e (RM 0 0 0) s m args below meth c H locs 0 0 (MQ below (QG D B Y none z.2 True) args s 0 0 (AB B)) (F0 m 0 ls []) := by
  have hx := C.1
  have hb := C.2.1
  unfold f_X10_setCell at hf
  refine lv_iload_n hx hb dX10_setCell_0 rfl (lv_at hl 1 rfl) ?_
  refine b_if_lt (tgt := 14) hx hb hf dX10_setCell_1 (by decide) (fun hf => ?_) (fun hf => ?_)
  · cases hf
    exact q_retv C hH trivial dX10_setCell_14
  · refine lv_iload_n hx hb dX10_setCell_4 rfl (lv_at hl 1 rfl) ?_
    refine lv_aload_n hx hb dX10_setCell_5 rfl (lv_at hl 0 rfl) ?_
    refine q_alen C hH (t0 := 0) (ci := 20) rfl (by omega) k_v0 dX10_setCell_6 ?_
    refine b_icmp_ge (tgt := 14) hx hb hf dX10_setCell_7 (by decide) (fun hf => ?_) (fun hf => ?_)
    · cases hf
      exact q_retv C hH trivial dX10_setCell_14
    · refine lv_aload_n hx hb dX10_setCell_10 rfl (lv_at hl 0 rfl) ?_
      refine lv_iload_n hx hb dX10_setCell_11 rfl (lv_at hl 1 rfl) ?_
      refine lv_iload_n hx hb dX10_setCell_12 rfl (lv_at hl 2 rfl) ?_
      refine g_iast C hH k_v0 hf dX10_setCell_13 (fun w1 H locs hf hH => ?_)
      cases hf
      exact q_retv C hH trivial dX10_setCell_14
set_option maxRecDepth 100000 in
theorem c_X10_setCell {l : Launch} {D : va_G} {B : Nat} {Y : Nat → ClassId} {v0 : Nat} {v1 : Int32} {v2 : Int32} {w : Wd} {r : Unit} {w1 : Wd} (k_v0 : KD v0 = 20)  (hf : f_X10_setCell v0 v1 v2 w = some (r, w1)) : CM l D B Y yX10_setCell cX10_setCell 3 none 0 [.ref (B + v0), .int v1, .int v2] w none w1 True :=
  CM_of (by decide +kernel) (Nat.le_of_ble_eq_true rfl) (fun p e s m args below meth c ls C hH hl => t_X10_setCell_0 C k_v0 hH (lv_sub hl [0, 1, 2] rfl) hf)
/-! LetterTables.cellOf -/
def f_X10_cellOf  (v0 : Nat) (v1 : Int32) (v2 : Int32) (w : Wd) : Option (Int32 × Wd) :=
  (if v1 < 0 then some (v2, w) else (if v1 < (Int32.ofNat (LEN v0)) then ald w v0 v1 (fun x1 => some (x1, w)) else some (v2, w)))
set_option maxRecDepth 100000 in
set_option maxHeartbeats 4000000 in
theorem t_X10_cellOf_0 {D : va_G} {B : Nat} {Y : Nat → ClassId} {p : Program} {l : Launch} {e : Env} {s : State} {m : MethodId} {args : Array Value} {below : List Frame} {meth : Method} {c : Code} {z : (Int32 × Wd)} {H : Heap} {locs : List Loc} {ls : Array Slot} {w : Wd} {v0 : Nat} {v1 : Int32} {v2 : Int32} (C : CX D B Y p s m args meth c cX10_cellOf 3 RX10 (some .int))   (k_v0 : KD v0 = 20)  (hH : HS D B Y w s H locs) (hl : lv_has ls 3 [(0, .ref (B + v0)), (1, .int v1), (2, .int v2)]) (hf : f_X10_cellOf v0 v1 v2 w = some z) : W p l e (RM 0 0 0) s m args below meth c H locs 0 0 (MQ below (QG D B Y (some (.int z.1)) z.2 True) args s 0 0 (AB B)) (F0 m 0 ls []) := by
  have hx := C.1
  have hb := C.2.1
  unfold f_X10_cellOf at hf
  refine lv_iload_n hx hb dX10_cellOf_0 rfl (lv_at hl 1 rfl) ?_
  refine b_if_lt (tgt := 10) hx hb hf dX10_cellOf_1 (by decide) (fun hf => ?_) (fun hf => ?_)
  · refine lv_iload_n hx hb dX10_cellOf_10 rfl (lv_at hl 2 rfl) ?_
    refine lv_goto (tgt := 17) hx hb dX10_cellOf_11 (by decide) ?_
    cases hf
    exact q_reti C hH trivial dX10_cellOf_17
  · refine lv_iload_n hx hb dX10_cellOf_4 rfl (lv_at hl 1 rfl) ?_
    refine lv_aload_n hx hb dX10_cellOf_5 rfl (lv_at hl 0 rfl) ?_
    refine q_alen C hH (t0 := 0) (ci := 20) rfl (by omega) k_v0 dX10_cellOf_6 ?_
    refine b_icmp_lt (tgt := 14) hx hb hf dX10_cellOf_7 (by decide) (fun hf => ?_) (fun hf => ?_)
    · refine lv_aload_n hx hb dX10_cellOf_14 rfl (lv_at hl 0 rfl) ?_
      refine lv_iload_n hx hb dX10_cellOf_15 rfl (lv_at hl 1 rfl) ?_
      refine g_iald C hH k_v0 hf dX10_cellOf_16 (fun x1 hf => ?_)
      cases hf
      exact q_reti C hH trivial dX10_cellOf_17
    · refine lv_iload_n hx hb dX10_cellOf_10 rfl (lv_at hl 2 rfl) ?_
      refine lv_goto (tgt := 17) hx hb dX10_cellOf_11 (by decide) ?_
      cases hf
      exact q_reti C hH trivial dX10_cellOf_17
set_option maxRecDepth 100000 in
theorem c_X10_cellOf {l : Launch} {D : va_G} {B : Nat} {Y : Nat → ClassId} {v0 : Nat} {v1 : Int32} {v2 : Int32} {w : Wd} {r : Int32} {w1 : Wd} (k_v0 : KD v0 = 20)  (hf : f_X10_cellOf v0 v1 v2 w = some (r, w1)) : CM l D B Y yX10_cellOf cX10_cellOf 3 (some .int) 0 [.ref (B + v0), .int v1, .int v2] w (some (.int r)) w1 True :=
  CM_of (by decide +kernel) (Nat.le_of_ble_eq_true rfl) (fun p e s m args below meth c ls C hH hl => t_X10_cellOf_0 C k_v0 hH (lv_sub hl [0, 1, 2] rfl) hf)
/-! LetterTables$Row.get -/
def f_X7_get  (v0 : Nat) (v1 : Int32) (w : Wd) : Option (Int32 × Wd) :=
  (if v1 < 0 then some ((-1 : Int32), w) else (if (w.1 v0 1) ≤ v1 then some ((-1 : Int32), w) else (if v1 < (Int32.ofNat (LEN (v0 + 1))) then ald w (v0 + 1) v1 (fun x1 => some (x1, w)) else some ((-1 : Int32), w))))
set_option maxRecDepth 100000 in
set_option maxHeartbeats 4000000 in
theorem t_X7_get_0 {D : va_G} {B : Nat} {Y : Nat → ClassId} {p : Program} {l : Launch} {e : Env} {s : State} {m : MethodId} {args : Array Value} {below : List Frame} {meth : Method} {c : Code} {z : (Int32 × Wd)} {H : Heap} {locs : List Loc} {ls : Array Slot} {w : Wd} {v0 : Nat} {v1 : Int32} (C : CX D B Y p s m args meth c cX7_get 2 RX7 (some .int))   (k_v0 : KD v0 = 7)  (hH : HS D B Y w s H locs) (hl : lv_has ls 2 [(0, .ref (B + v0)), (1, .int v1)]) (hf : f_X7_get v0 v1 w = some z) : W p l e (RM 0 0 0) s m args below meth c H locs 0 0 (MQ below (QG D B Y (some (.int z.1)) z.2 True) args s 0 0 (AB B)) (F0 m 0 ls []) := by
  have hx := C.1
  have hb := C.2.1
  unfold f_X7_get at hf
  refine lv_iload_n hx hb dX7_get_0 rfl (lv_at hl 1 rfl) ?_
  refine b_if_lt (tgt := 21) hx hb hf dX7_get_1 (by decide) (fun hf => ?_) (fun hf => ?_)
  · refine lv_iconst (v := (-1 : Int32)) hx hb dX7_get_21 (by decide) ?_
    refine lv_goto (tgt := 31) hx hb dX7_get_22 (by decide) ?_
    cases hf
    exact q_reti C hH trivial dX7_get_31
  · refine lv_iload_n hx hb dX7_get_4 rfl (lv_at hl 1 rfl) ?_
    refine lv_aload_n hx hb dX7_get_5 rfl (lv_at hl 0 rfl) ?_
    refine fg_X7_15 C hH k_v0 dX7_get_6 ?_
    refine b_icmp_ge (tgt := 21) hx hb hf dX7_get_9 (by decide) (fun hf => ?_) (fun hf => ?_)
    · refine lv_iconst (v := (-1 : Int32)) hx hb dX7_get_21 (by decide) ?_
      refine lv_goto (tgt := 31) hx hb dX7_get_22 (by decide) ?_
      cases hf
      exact q_reti C hH trivial dX7_get_31
    · refine lv_iload_n hx hb dX7_get_12 rfl (lv_at hl 1 rfl) ?_
      refine lv_aload_n hx hb dX7_get_13 rfl (lv_at hl 0 rfl) ?_
      refine fg_X7_9 C hH k_v0 dX7_get_14 ?_
      refine q_alen C hH (t0 := 0) (ci := 20) rfl (by omega) (ko_7_0 k_v0) dX7_get_17 ?_
      refine b_icmp_lt (tgt := 25) hx hb hf dX7_get_18 (by decide) (fun hf => ?_) (fun hf => ?_)
      · refine lv_aload_n hx hb dX7_get_25 rfl (lv_at hl 0 rfl) ?_
        refine fg_X7_9 C hH k_v0 dX7_get_26 ?_
        refine lv_iload_n hx hb dX7_get_29 rfl (lv_at hl 1 rfl) ?_
        refine g_iald C hH (ko_7_0 k_v0) hf dX7_get_30 (fun x1 hf => ?_)
        cases hf
        exact q_reti C hH trivial dX7_get_31
      · refine lv_iconst (v := (-1 : Int32)) hx hb dX7_get_21 (by decide) ?_
        refine lv_goto (tgt := 31) hx hb dX7_get_22 (by decide) ?_
        cases hf
        exact q_reti C hH trivial dX7_get_31
set_option maxRecDepth 100000 in
theorem c_X7_get {l : Launch} {D : va_G} {B : Nat} {Y : Nat → ClassId} {v0 : Nat} {v1 : Int32} {w : Wd} {r : Int32} {w1 : Wd} (k_v0 : KD v0 = 7)  (hf : f_X7_get v0 v1 w = some (r, w1)) : CM l D B Y yX7_get cX7_get 2 (some .int) 0 [.ref (B + v0), .int v1] w (some (.int r)) w1 True :=
  CM_of (by decide +kernel) (Nat.le_of_ble_eq_true rfl) (fun p e s m args below meth c ls C hH hl => t_X7_get_0 C k_v0 hH (lv_sub hl [0, 1] rfl) hf)
/-! LetterTables.isRange -/
def f_X10_isRange  (v0 : Int32) (v1 : Int32) (w : Wd) : Option (Int32 × Wd) :=
  bd (f_X10_isWithin v0 (0 : Int32) (99 : Int32) w) (fun x2 w1 => (if x2 = 0 then some ((0 : Int32), w1) else bd (f_X10_isWithin v1 v0 (99 : Int32) w1) (fun x4 w3 => (if x4 = 0 then some ((0 : Int32), w3) else some ((1 : Int32), w3)))))
set_option maxRecDepth 100000 in
set_option maxHeartbeats 4000000 in
theorem t_X10_isRange_0 {D : va_G} {B : Nat} {Y : Nat → ClassId} {p : Program} {l : Launch} {e : Env} {s : State} {m : MethodId} {args : Array Value} {below : List Frame} {meth : Method} {c : Code} {z : (Int32 × Wd)} {H : Heap} {locs : List Loc} {ls : Array Slot} {w : Wd} {v0 : Int32} {v1 : Int32} (C : CX D B Y p s m args meth c cX10_isRange 2 RX10 (some .boolean))     (hH : HS D B Y w s H locs) (hl : lv_has ls 2 [(0, .int v0), (1, .int v1)]) (hf : f_X10_isRange v0 v1 w = some z) : W p l e (RM 1 0 0) s m args below meth c H locs 0 0 (MQ below (QG D B Y (some (.int z.1)) z.2 (isZ z.1)) args s 0 0 (AB B)) (F0 m 0 ls []) := by
  have hx := C.1
  have hb := C.2.1
  unfold f_X10_isRange at hf
  refine lv_iload_n hx hb dX10_isRange_0 rfl (lv_at hl 0 rfl) ?_
  refine lv_iconst (v := (0 : Int32)) hx hb dX10_isRange_1 (by decide) ?_
  refine lv_bipush (v := (99 : Int32)) hx hb dX10_isRange_2 (by decide) ?_
  obtain ⟨x2, w1, hc, hf⟩ := bd_some hf
  refine q_callS1 (v := .int x2) (As := [.int v0, .int (0 : Int32), .int (99 : Int32)]) C hH gk_X10_99 yd_X10_isWithin (by omega) (by omega) (c_X10_isWithin hc) hl.1 rfl (Nat.le_of_ble_eq_true rfl) dX10_isRange_4 ⟨by decide, by decide⟩ (fun H locs hH z_x2 => ?_)
  refine b_if_eq (tgt := 24) hx hb hf dX10_isRange_7 (by decide) (fun hf => ?_) (fun hf => ?_)
  · refine lv_iconst (v := (0 : Int32)) hx hb dX10_isRange_24 (by decide) ?_
    cases hf
    exact q_retz C hH isZ_0 isZ_0 dX10_isRange_25
  · refine lv_iload_n hx hb dX10_isRange_10 rfl (lv_at hl 1 rfl) ?_
    refine lv_iload_n hx hb dX10_isRange_11 rfl (lv_at hl 0 rfl) ?_
    refine lv_bipush (v := (99 : Int32)) hx hb dX10_isRange_12 (by decide) ?_
    obtain ⟨x4, w3, hc, hf⟩ := bd_some hf
    refine q_callS1 (v := .int x4) (As := [.int v1, .int v0, .int (99 : Int32)]) C hH gk_X10_99 yd_X10_isWithin (by omega) (by omega) (c_X10_isWithin hc) hl.1 rfl (Nat.le_of_ble_eq_true rfl) dX10_isRange_14 ⟨by decide, by decide⟩ (fun H locs hH z_x4 => ?_)
    refine b_if_eq (tgt := 24) hx hb hf dX10_isRange_17 (by decide) (fun hf => ?_) (fun hf => ?_)
    · refine lv_iconst (v := (0 : Int32)) hx hb dX10_isRange_24 (by decide) ?_
      cases hf
      exact q_retz C hH isZ_0 isZ_0 dX10_isRange_25
    · refine lv_iconst (v := (1 : Int32)) hx hb dX10_isRange_20 (by decide) ?_
      refine lv_goto (tgt := 25) hx hb dX10_isRange_21 (by decide) ?_
      cases hf
      exact q_retz C hH isZ_1 isZ_1 dX10_isRange_25
set_option maxRecDepth 100000 in
theorem c_X10_isRange {l : Launch} {D : va_G} {B : Nat} {Y : Nat → ClassId} {v0 : Int32} {v1 : Int32} {w : Wd} {r : Int32} {w1 : Wd}   (hf : f_X10_isRange v0 v1 w = some (r, w1)) : CM l D B Y yX10_isRange cX10_isRange 2 (some .boolean) 1 [.int v0, .int v1] w (some (.int r)) w1 (isZ r) :=
  CM_of (by decide +kernel) (Nat.le_of_ble_eq_true rfl) (fun p e s m args below meth c ls C hH hl => t_X10_isRange_0 C  hH (lv_sub hl [0, 1] rfl) hf)
/-! LetterTables.textOf -/
def f_X10_textOf_13   (w : Wd) : Option ((Nat ⊕ Nat) × Wd) :=
  some (.inl 1, w)
set_option maxRecDepth 100000 in
set_option maxHeartbeats 4000000 in
theorem t_X10_textOf_13 {D : va_G} {B : Nat} {Y : Nat → ClassId} {p : Program} {l : Launch} {e : Env} {s : State} {m : MethodId} {args : Array Value} {below : List Frame} {meth : Method} {c : Code} {z : ((Nat ⊕ Nat) × Wd)} {H : Heap} {locs : List Loc} {ls : Array Slot} {w : Wd}  (C : CX D B Y p s m args meth c cX10_textOf 2 RX10 (some (.object "LetterTables$Row"))) (hxt : ∀ x ∈ c.exceptionTable.toList, False) (htr : l.stackTraces = false)     (hH : HS D B Y w s H locs) (hl : lv_has ls 2 []) (hf : f_X10_textOf_13 w = some z) : W p l e (RM 0 1 (6 * 1)) s m args below meth c H locs 0 0 (vx_MQ below (QX D B Y (zoR B z.1) z.2 (pK 7 z.1)) (XX D B Y (zoR B z.1) z.2) args s 1 (6 * 1) (AB B)) (F0 m 13 ls []) := by
  have hx := C.1
  have hb := C.2.1
  unfold f_X10_textOf_13 at hf
  cases hf
  exact q_throwW C hH hxt htr (Or.inl rfl) wd_612 wd_126 wd_622 (List.mem_of_getElem? (i := 7) rfl) hl.1 dX10_textOf_13 dX10_textOf_16 dX10_textOf_17 dX10_textOf_20 dX10_textOf_23 (Nat.le_of_ble_eq_true rfl) (by decide) (by decide)
def f_X10_textOf  (v1 : Int32) (w : Wd) : Option ((Nat ⊕ Nat) × Wd) :=
  (if v1 < 0 then f_X10_textOf_13 w else (if v1 < (Int32.ofNat (LEN 622)) then ard 622 v1 (fun r1 => some (.inr r1, w)) else f_X10_textOf_13 w))
set_option maxRecDepth 100000 in
set_option maxHeartbeats 4000000 in
theorem t_X10_textOf_0 {D : va_G} {B : Nat} {Y : Nat → ClassId} {p : Program} {l : Launch} {e : Env} {s : State} {m : MethodId} {args : Array Value} {below : List Frame} {meth : Method} {c : Code} {z : ((Nat ⊕ Nat) × Wd)} {H : Heap} {locs : List Loc} {ls : Array Slot} {w : Wd} {v1 : Int32} (C : CX D B Y p s m args meth c cX10_textOf 2 RX10 (some (.object "LetterTables$Row"))) (hxt : ∀ x ∈ c.exceptionTable.toList, False) (htr : l.stackTraces = false)     (hH : HS D B Y w s H locs) (hl : lv_has ls 2 [(0, .ref (B + 0)), (1, .int v1)]) (hf : f_X10_textOf v1 w = some z) : W p l e (RM 0 1 (6 * 1)) s m args below meth c H locs 0 0 (vx_MQ below (QX D B Y (zoR B z.1) z.2 (pK 7 z.1)) (XX D B Y (zoR B z.1) z.2) args s 1 (6 * 1) (AB B)) (F0 m 0 ls []) := by
  have hx := C.1
  have hb := C.2.1
  unfold f_X10_textOf at hf
  refine lv_iload_n hx hb dX10_textOf_0 rfl (lv_at hl 1 rfl) ?_
  refine b_if_lt (tgt := 13) hx hb hf dX10_textOf_1 (by decide) (fun hf => ?_) (fun hf => ?_)
  · exact t_X10_textOf_13 C hxt htr hH (lv_sub hl [] rfl) hf
  · refine lv_iload_n hx hb dX10_textOf_4 rfl (lv_at hl 1 rfl) ?_
    refine lv_aload_n hx hb dX10_textOf_5 rfl (lv_at hl 0 rfl) ?_
    refine fg_X10_22 C hH dX10_textOf_6 ?_
    refine q_alen C hH (t0 := 3) (ci := 23) rfl (by omega) kc_622 dX10_textOf_9 ?_
    refine b_icmp_lt (tgt := 24) hx hb hf dX10_textOf_10 (by decide) (fun hf => ?_) (fun hf => ?_)
    · refine lv_aload_n hx hb dX10_textOf_24 rfl (lv_at hl 0 rfl) ?_
      refine fg_X10_22 C hH dX10_textOf_25 ?_
      refine lv_iload_n hx hb dX10_textOf_28 rfl (lv_at hl 1 rfl) ?_
      refine g_aald C hH (t0 := 3) (ci := 23) (K := 7) rfl (by omega) (fun _ h => ka_23 kc_622 h) kc_622 hf dX10_textOf_29 (fun r1 k_r1 hf => ?_)
      cases hf
      exact q_x (W.widen (k := 1) (n := 6 * 1) (by decide) (by decide) (q_retr C hH k_r1 dX10_textOf_30))
    · exact t_X10_textOf_13 C hxt htr hH (lv_sub hl [] rfl) hf
set_option maxRecDepth 100000 in
theorem c_X10_textOf {l : Launch} {D : va_G} {B : Nat} {Y : Nat → ClassId} {v1 : Int32} {w : Wd} {r : (Nat ⊕ Nat)} {w1 : Wd} (htr : l.stackTraces = false)   (hf : f_X10_textOf v1 w = some (r, w1)) : XM l D B Y yX10_textOf cX10_textOf 2 (some (.object "LetterTables$Row")) 0 1 [.ref (B + 0), .int v1] w (zoR B r) w1 (pK 7 r) :=
  XM_of (by decide +kernel) (Nat.le_of_ble_eq_true rfl) (fun p e s m args below meth c ls C hxt hH hl => t_X10_textOf_0 C hxt htr  hH (lv_sub hl [0, 1] rfl) hf)
/-! LetterTables$Row.takeOver -/
def g_X7_takeOver_13 (rc_13 : Nat × Nat × Int32 × Wd → Option (Unit × Wd)) (v0 : Nat) (v1 : Nat) (v2 : Int32) (w : Wd) : Option (Unit × Wd) :=
  (if (w.1 v1 1) ≤ v2 then some ((), w) else bd (f_X7_get v1 v2 w) (fun x2 w1 => bd (f_X7_add v0 x2 w1) (fun x4 w3 => lt (v2 + (1 : Int32)) (fun x5 => rc_13 (v0, v1, x5, w3)))))
def f_X7_takeOver_13  (v0 : Nat) (v1 : Nat) (v2 : Int32) (w : Wd) : Option (Unit × Wd) :=
  loopN (fun rc σ => g_X7_takeOver_13 rc  σ.1 σ.2.1 σ.2.2.1 σ.2.2.2) FU (v0, v1, v2, w)
set_option maxRecDepth 100000 in
set_option maxHeartbeats 4000000 in
theorem tb_X7_takeOver_13 {D : va_G} {B : Nat} {Y : Nat → ClassId} {p : Program} {l : Launch} {e : Env} {s : State} {m : MethodId} {args : Array Value} {below : List Frame} {meth : Method} {c : Code} {z : (Unit × Wd)} {H : Heap} {locs : List Loc} {ls : Array Slot} {w : Wd} {v0 : Nat} {v1 : Nat} {v2 : Int32} (C : CX D B Y p s m args meth c cX7_takeOver 3 RX7 none)  {rc_13 : Nat × Nat × Int32 × Wd → Option (Unit × Wd)} (hr_13 : ∀ (v0 : Nat) (v1 : Nat) (v2 : Int32) (w : Wd), rc_13 (v0, v1, v2, w) = some z → KD v0 = 7 → KD v1 = 7 → ∀ (H : Heap) (locs : List Loc) (ls : Array Slot), HS D B Y w s H locs → lv_has ls 3 [(0, .ref (B + v0)), (1, .ref (B + v1)), (2, .int v2)] → W p l e (RM 1 0 0) s m args below meth c H locs 0 0 (MQ below (QG D B Y none z.2 True) args s 0 0 (AB B)) (F0 m 13 ls []))  (k_v0 : KD v0 = 7) (k_v1 : KD v1 = 7)  (hH : HS D B Y w s H locs) (hl : lv_has ls 3 [(0, .ref (B + v0)), (1, .ref (B + v1)), (2, .int v2)]) (hf : g_X7_takeOver_13 rc_13 v0 v1 v2 w = some z) : W p l e (RM 1 0 0) s m args below meth c H locs 0 0 (MQ below (QG D B Y none z.2 True) args s 0 0 (AB B)) (F0 m 13 ls []) := by
  have hx := C.1
  have hb := C.2.1
  unfold g_X7_takeOver_13 at hf
  refine lv_iload_n hx hb dX7_takeOver_13 rfl (lv_at hl 2 rfl) ?_
  refine lv_aload_n hx hb dX7_takeOver_14 rfl (lv_at hl 1 rfl) ?_
  refine fg_X7_15 C hH k_v1 dX7_takeOver_15 ?_
  refine b_icmp_ge (tgt := 37) hx hb hf dX7_takeOver_18 (by decide) (fun hf => ?_) (fun hf => ?_)
  · cases hf
    exact q_retv C hH trivial dX7_takeOver_37
  · refine lv_aload_n hx hb dX7_takeOver_21 rfl (lv_at hl 0 rfl) ?_
    refine lv_aload_n hx hb dX7_takeOver_22 rfl (lv_at hl 1 rfl) ?_
    refine lv_iload_n hx hb dX7_takeOver_23 rfl (lv_at hl 2 rfl) ?_
    obtain ⟨x2, w1, hc, hf⟩ := bd_some hf
    refine q_callV1 (v := .int x2) (As := [.int v2]) C hH (ci := 7) rfl (by omega) gk_X7_19 yd_X7_get (by omega) (by omega) k_v1 (c_X7_get k_v1 hc) hl.1 rfl (Nat.le_of_ble_eq_true rfl) dX7_takeOver_24 ⟨by decide, by decide⟩ (fun H locs hH hP => ?_)
    obtain ⟨x4, w3, hc, hf⟩ := bd_some hf
    refine q_callV1 (v := .int x4) (As := [.int x2]) C hH (ci := 7) rfl (by omega) gk_X7_27 yd_X7_add (by omega) (by omega) k_v0 (c_X7_add k_v0 hc) hl.1 rfl (Nat.le_of_ble_eq_true rfl) dX7_takeOver_27 ⟨by decide, by decide⟩ (fun H locs hH z_x4 => ?_)
    refine lv_pop hx hb dX7_takeOver_30 rfl ?_
    refine b_let hf (fun x5 he hf => ?_)
    refine lv_iinc (v := x5) (lv' := [(2, .int x5), (0, .ref (B + v0)), (1, .ref (B + v1))]) hx hb dX7_takeOver_31 hl (k := 2) rfl (by rw [← he]; rfl) (by decide) rfl (fun ls hl => ?_)
    refine lv_goto (tgt := 13) hx hb dX7_takeOver_34 (by decide) ?_
    exact hr_13 v0 v1 x5 w3 hf k_v0 k_v1 _ _ _ hH (lv_sub hl [1, 2, 0] rfl)
set_option maxRecDepth 100000 in
set_option maxHeartbeats 4000000 in
theorem t_X7_takeOver_13 {D : va_G} {B : Nat} {Y : Nat → ClassId} {p : Program} {l : Launch} {e : Env} {s : State} {m : MethodId} {args : Array Value} {below : List Frame} {meth : Method} {c : Code} {z : (Unit × Wd)} {H : Heap} {locs : List Loc} {ls : Array Slot} {w : Wd} {v0 : Nat} {v1 : Nat} {v2 : Int32} (C : CX D B Y p s m args meth c cX7_takeOver 3 RX7 none)   (k_v0 : KD v0 = 7) (k_v1 : KD v1 = 7)  (hH : HS D B Y w s H locs) (hl : lv_has ls 3 [(0, .ref (B + v0)), (1, .ref (B + v1)), (2, .int v2)]) (hf : f_X7_takeOver_13 v0 v1 v2 w = some z) : W p l e (RM 1 0 0) s m args below meth c H locs 0 0 (MQ below (QG D B Y none z.2 True) args s 0 0 (AB B)) (F0 m 13 ls []) := by
  exact loopN_ind (z := z) (body := fun rc σ => g_X7_takeOver_13 rc  σ.1 σ.2.1 σ.2.2.1 σ.2.2.2)
    (P := fun σ => KD σ.1 = 7 → KD σ.2.1 = 7 → ∀ (H : Heap) (locs : List Loc) (ls : Array Slot), HS D B Y σ.2.2.2 s H locs → lv_has ls 3 [(0, .ref (B + σ.1)), (1, .ref (B + σ.2.1)), (2, .int σ.2.2.1)] → W p l e (RM 1 0 0) s m args below meth c H locs 0 0 (MQ below (QG D B Y none z.2 True) args s 0 0 (AB B)) (F0 m 13 ls []))
    (fun rc hrec σ hf k_v0 k_v1 H locs ls hH hl => tb_X7_takeOver_13 C (fun v0 v1 v2 w hr k_v0 k_v1 H locs ls hH hl => hrec (v0, v1, v2, w) hr k_v0 k_v1 H locs ls hH hl)  k_v0 k_v1 hH hl hf) FU (v0, v1, v2, w) hf k_v0 k_v1 H locs ls hH hl
def f_X7_takeOver  (v0 : Nat) (v1 : Nat) (w : Wd) : Option (Unit × Wd) :=
  (if v1 = v0 then some ((), w) else wr (setI w v0 1 (0 : Int32)) (fun w1 => f_X7_takeOver_13 v0 v1 (0 : Int32) w1))
set_option maxRecDepth 100000 in
set_option maxHeartbeats 4000000 in
theorem t_X7_takeOver_0 {D : va_G} {B : Nat} {Y : Nat → ClassId} {p : Program} {l : Launch} {e : Env} {s : State} {m : MethodId} {args : Array Value} {below : List Frame} {meth : Method} {c : Code} {z : (Unit × Wd)} {H : Heap} {locs : List Loc} {ls : Array Slot} {w : Wd} {v0 : Nat} {v1 : Nat} (C : CX D B Y p s m args meth c cX7_takeOver 3 RX7 none)   (k_v0 : KD v0 = 7) (k_v1 : KD v1 = 7)  (hH : HS D B Y w s H locs) (hl : lv_has ls 3 [(0, .ref (B + v0)), (1, .ref (B + v1))]) (hf : f_X7_takeOver v0 v1 w = some z) : W p l e (RM 1 0 0) s m args below meth c H locs 0 0 (MQ below (QG D B Y none z.2 True) args s 0 0 (AB B)) (F0 m 0 ls []) := by
  have hx := C.1
  have hb := C.2.1
  unfold f_X7_takeOver at hf
  refine lv_aload_n hx hb dX7_takeOver_0 rfl (lv_at hl 1 rfl) ?_
  refine lv_aload_n hx hb dX7_takeOver_1 rfl (lv_at hl 0 rfl) ?_
  refine b_acmp_ne (tgt := 6) hx hb hf dX7_takeOver_2 (by decide) (fun hf => ?_) (fun hf => ?_)
  · refine lv_aload_n hx hb dX7_takeOver_6 rfl (lv_at hl 0 rfl) ?_
    refine lv_iconst (v := (0 : Int32)) hx hb dX7_takeOver_7 (by decide) ?_
    refine fp_X7_15 C hH k_v0 dX7_takeOver_8 (fun H locs hH => ?_)
    refine b_w hf hH (fun w1 hf hH => ?_)
    refine lv_iconst (v := (0 : Int32)) hx hb dX7_takeOver_11 (by decide) ?_
    refine lv_istore_n (lv' := [(2, .int (0 : Int32)), (0, .ref (B + v0)), (1, .ref (B + v1))]) hx hb dX7_takeOver_12 rfl hl (by decide) rfl (fun ls hl => ?_)
    exact t_X7_takeOver_13 C k_v0 k_v1 hH (lv_sub hl [1, 2, 0] rfl) hf
  · cases hf
    exact q_retv C hH trivial dX7_takeOver_5
set_option maxRecDepth 100000 in
theorem c_X7_takeOver {l : Launch} {D : va_G} {B : Nat} {Y : Nat → ClassId} {v0 : Nat} {v1 : Nat} {w : Wd} {r : Unit} {w1 : Wd} (k_v0 : KD v0 = 7) (k_v1 : KD v1 = 7)  (hf : f_X7_takeOver v0 v1 w = some (r, w1)) : CM l D B Y yX7_takeOver cX7_takeOver 3 none 1 [.ref (B + v0), .ref (B + v1)] w none w1 True :=
  CM_of (by decide +kernel) (Nat.le_of_ble_eq_true rfl) (fun p e s m args below meth c ls C hH hl => t_X7_takeOver_0 C k_v0 k_v1 hH (lv_sub hl [0, 1] rfl) hf)
/-! LetterTables.copyCells -/
def g_X10_copyCells_2 (rc_2 : Nat × Nat × Int32 × Wd → Option (Unit × Wd)) (v0 : Nat) (v1 : Nat) (v2 : Int32) (w : Wd) : Option (Unit × Wd) :=
  (if (Int32.ofNat (LEN v0)) ≤ v2 then some ((), w) else (if (Int32.ofNat (LEN v1)) ≤ v2 then some ((), w) else ald w v0 v2 (fun x1 => ast w v1 v2 x1 (fun w2 => lt (v2 + (1 : Int32)) (fun x3 => rc_2 (v0, v1, x3, w2))))))
def f_X10_copyCells_2  (v0 : Nat) (v1 : Nat) (v2 : Int32) (w : Wd) : Option (Unit × Wd) :=
  loopN (fun rc σ => g_X10_copyCells_2 rc  σ.1 σ.2.1 σ.2.2.1 σ.2.2.2) FU (v0, v1, v2, w)
set_option maxRecDepth 100000 in
set_option maxHeartbeats 4000000 in
theorem tb_X10_copyCells_2 {D : va_G} {B : Nat} {Y : Nat → ClassId} {p : Program} {l : Launch} {e : Env} {s : State} {m : MethodId} {args : Array Value} {below : List Frame} {meth : Method} {c : Code} {z : (Unit × Wd)} {H : Heap} {locs : List Loc} {ls : Array Slot} {w : Wd} {v0 : Nat} {v1 : Nat} {v2 : Int32} (C : CX D B Y p s m args meth c cX10_copyCells 3 RX10 none)  {rc_2 : Nat × Nat × Int32 × Wd → Option (Unit × Wd)} (hr_2 : ∀ (v0 : Nat) (v1 : Nat) (v2 : Int32) (w : Wd), rc_2 (v0, v1, v2, w) = some z → KD v0 = 20 → KD v1 = 20 → ∀ (H : Heap) (locs : List Loc) (ls : Array Slot), HS D B Y w s H locs → lv_has ls 3 [(0, .ref (B + v0)), (1, .ref (B + v1)), (2, .int v2)] → W p l e (RM 0 0 0) s m args below meth c H locs 0 0 (MQ below (QG D B Y none z.2 True) args s 0 0 (AB B)) (F0 m 2 ls []))  (k_v0 : KD v0 = 20) (k_v1 : KD v1 = 20)  (hH : HS D B Y w s H locs) (hl : lv_has ls 3 [(0, .ref (B + v0)), (1, .ref (B + v1)), (2, .int v2)]) (hf : g_X10_copyCells_2 rc_2 v0 v1 v2 w = some z) : W p l e (RM 0 0 0) s m args below meth c H locs 0 0 (MQ below (QG D B Y none z.2 True) args s 0 0 (AB B)) (F0 m 2 ls []) := by
  have hx := C.1
  have hb := C.2.1
  unfold g_X10_copyCells_2 at hf
  refine lv_iload_n hx hb dX10_copyCells_2 rfl (lv_at hl 2 rfl) ?_
  refine lv_aload_n hx hb dX10_copyCells_3 rfl (lv_at hl 0 rfl) ?_
  refine q_alen C hH (t0 := 0) (ci := 20) rfl (by omega) k_v0 dX10_copyCells_4 ?_
  refine b_icmp_ge (tgt := 26) hx hb hf dX10_copyCells_5 (by decide) (fun hf => ?_) (fun hf => ?_)
  · cases hf
    exact q_retv C hH trivial dX10_copyCells_26
  · refine lv_iload_n hx hb dX10_copyCells_8 rfl (lv_at hl 2 rfl) ?_
    refine lv_aload_n hx hb dX10_copyCells_9 rfl (lv_at hl 1 rfl) ?_
    refine q_alen C hH (t0 := 0) (ci := 20) rfl (by omega) k_v1 dX10_copyCells_10 ?_
    refine b_icmp_ge (tgt := 26) hx hb hf dX10_copyCells_11 (by decide) (fun hf => ?_) (fun hf => ?_)
    · cases hf
      exact q_retv C hH trivial dX10_copyCells_26
    · refine lv_aload_n hx hb dX10_copyCells_14 rfl (lv_at hl 1 rfl) ?_
      refine lv_iload_n hx hb dX10_copyCells_15 rfl (lv_at hl 2 rfl) ?_
      refine lv_aload_n hx hb dX10_copyCells_16 rfl (lv_at hl 0 rfl) ?_
      refine lv_iload_n hx hb dX10_copyCells_17 rfl (lv_at hl 2 rfl) ?_
      refine g_iald C hH k_v0 hf dX10_copyCells_18 (fun x1 hf => ?_)
      refine g_iast C hH k_v1 hf dX10_copyCells_19 (fun w2 H locs hf hH => ?_)
      refine b_let hf (fun x3 he hf => ?_)
      refine lv_iinc (v := x3) (lv' := [(2, .int x3), (0, .ref (B + v0)), (1, .ref (B + v1))]) hx hb dX10_copyCells_20 hl (k := 2) rfl (by rw [← he]; rfl) (by decide) rfl (fun ls hl => ?_)
      refine lv_goto (tgt := 2) hx hb dX10_copyCells_23 (by decide) ?_
      exact hr_2 v0 v1 x3 w2 hf k_v0 k_v1 _ _ _ hH (lv_sub hl [1, 2, 0] rfl)
set_option maxRecDepth 100000 in
set_option maxHeartbeats 4000000 in
theorem t_X10_copyCells_2 {D : va_G} {B : Nat} {Y : Nat → ClassId} {p : Program} {l : Launch} {e : Env} {s : State} {m : MethodId} {args : Array Value} {below : List Frame} {meth : Method} {c : Code} {z : (Unit × Wd)} {H : Heap} {locs : List Loc} {ls : Array Slot} {w : Wd} {v0 : Nat} {v1 : Nat} {v2 : Int32} (C : CX D B Y p s m args meth c cX10_copyCells 3 RX10 none)   (k_v0 : KD v0 = 20) (k_v1 : KD v1 = 20)  (hH : HS D B Y w s H locs) (hl : lv_has ls 3 [(0, .ref (B + v0)), (1, .ref (B + v1)), (2, .int v2)]) (hf : f_X10_copyCells_2 v0 v1 v2 w = some z) : W p l e (RM 0 0 0) s m args below meth c H locs 0 0 (MQ below (QG D B Y none z.2 True) args s 0 0 (AB B)) (F0 m 2 ls []) := by
  exact loopN_ind (z := z) (body := fun rc σ => g_X10_copyCells_2 rc  σ.1 σ.2.1 σ.2.2.1 σ.2.2.2)
    (P := fun σ => KD σ.1 = 20 → KD σ.2.1 = 20 → ∀ (H : Heap) (locs : List Loc) (ls : Array Slot), HS D B Y σ.2.2.2 s H locs → lv_has ls 3 [(0, .ref (B + σ.1)), (1, .ref (B + σ.2.1)), (2, .int σ.2.2.1)] → W p l e (RM 0 0 0) s m args below meth c H locs 0 0 (MQ below (QG D B Y none z.2 True) args s 0 0 (AB B)) (F0 m 2 ls []))
    (fun rc hrec σ hf k_v0 k_v1 H locs ls hH hl => tb_X10_copyCells_2 C (fun v0 v1 v2 w hr k_v0 k_v1 H locs ls hH hl => hrec (v0, v1, v2, w) hr k_v0 k_v1 H locs ls hH hl)  k_v0 k_v1 hH hl hf) FU (v0, v1, v2, w) hf k_v0 k_v1 H locs ls hH hl
def f_X10_copyCells  (v0 : Nat) (v1 : Nat) (w : Wd) : Option (Unit × Wd) :=
  f_X10_copyCells_2 v0 v1 (0 : Int32) w
set_option maxRecDepth 100000 in
set_option maxHeartbeats 4000000 in
theorem t_X10_copyCells_0 {D : va_G} {B : Nat} {Y : Nat → ClassId} {p : Program} {l : Launch} {e : Env} {s : State} {m : MethodId} {args : Array Value} {below : List Frame} {meth : Method} {c : Code} {z : (Unit × Wd)} {H : Heap} {locs : List Loc} {ls : Array Slot} {w : Wd} {v0 : Nat} {v1 : Nat} (C : CX D B Y p s m args meth c cX10_copyCells 3 RX10 none)   (k_v0 : KD v0 = 20) (k_v1 : KD v1 = 20)  (hH : HS D B Y w s H locs) (hl : lv_has ls 3 [(0, .ref (B + v0)), (1, .ref (B + v1))]) (hf : f_X10_copyCells v0 v1 w = some z) : W p l e (RM 0 0 0) s m args below meth c H locs 0 0 (MQ below (QG D B Y none z.2 True) args s 0 0 (AB B)) (F0 m 0 ls []) := by
  have hx := C.1
  have hb := C.2.1
  unfold f_X10_copyCells at hf
  refine lv_iconst (v := (0 : Int32)) hx hb dX10_copyCells_0 (by decide) ?_
  refine lv_istore_n (lv' := [(2, .int (0 : Int32)), (0, .ref (B + v0)), (1, .ref (B + v1))]) hx hb dX10_copyCells_1 rfl hl (by decide) rfl (fun ls hl => ?_)
  exact t_X10_copyCells_2 C k_v0 k_v1 hH (lv_sub hl [1, 2, 0] rfl) hf
set_option maxRecDepth 100000 in
theorem c_X10_copyCells {l : Launch} {D : va_G} {B : Nat} {Y : Nat → ClassId} {v0 : Nat} {v1 : Nat} {w : Wd} {r : Unit} {w1 : Wd} (k_v0 : KD v0 = 20) (k_v1 : KD v1 = 20)  (hf : f_X10_copyCells v0 v1 w = some (r, w1)) : CM l D B Y yX10_copyCells cX10_copyCells 3 none 0 [.ref (B + v0), .ref (B + v1)] w none w1 True :=
  CM_of (by decide +kernel) (Nat.le_of_ble_eq_true rfl) (fun p e s m args below meth c ls C hH hl => t_X10_copyCells_0 C k_v0 k_v1 hH (lv_sub hl [0, 1] rfl) hf)
/-! LetterTables$Row.cutTo -/
def f_X7_cutTo  (v0 : Nat) (v1 : Int32) (w : Wd) : Option (Unit × Wd) :=
  (if v1 < 0 then some ((), w) else (if (w.1 v0 1) ≤ v1 then some ((), w) else wr (setI w v0 1 v1) (fun w1 => some ((), w1))))
set_option maxRecDepth 100000 in
set_option maxHeartbeats 4000000 in
theorem t_X7_cutTo_0 {D : va_G} {B : Nat} {Y : Nat → ClassId} {p : Program} {l : Launch} {e : Env} {s : State} {m : MethodId} {args : Array Value} {below : List Frame} {meth : Method} {c : Code} {z : (Unit × Wd)} {H : Heap} {locs : List Loc} {ls : Array Slot} {w : Wd} {v0 : Nat} {v1 : Int32} (C : CX D B Y p s m args meth c cX7_cutTo 2 RX7 none)   (k_v0 : KD v0 = 7)  (hH : HS D B Y w s H locs) (hl : lv_has ls 2 [(0, .ref (B + v0)), (1, .int v1)]) (hf : f_X7_cutTo v0 v1 w = some z) : W p l e (RM 0 0 0) s m args below meth c H locs 0 0 (MQ below (QG D B Y none z.2 True) args s 0 0 (AB B)) (F0 m 0 ls []) := by
  have hx := C.1
  have hb := C.2.1
  unfold f_X7_cutTo at hf
  refine lv_iload_n hx hb dX7_cutTo_0 rfl (lv_at hl 1 rfl) ?_
  refine b_if_lt (tgt := 17) hx hb hf dX7_cutTo_1 (by decide) (fun hf => ?_) (fun hf => ?_)
  · cases hf
    exact q_retv C hH trivial dX7_cutTo_17
  · refine lv_iload_n hx hb dX7_cutTo_4 rfl (lv_at hl 1 rfl) ?_
    refine lv_aload_n hx hb dX7_cutTo_5 rfl (lv_at hl 0 rfl) ?_
    refine fg_X7_15 C hH k_v0 dX7_cutTo_6 ?_
    refine b_icmp_ge (tgt := 17) hx hb hf dX7_cutTo_9 (by decide) (fun hf => ?_) (fun hf => ?_)
    · cases hf
      exact q_retv C hH trivial dX7_cutTo_17
    · refine lv_aload_n hx hb dX7_cutTo_12 rfl (lv_at hl 0 rfl) ?_
      refine lv_iload_n hx hb dX7_cutTo_13 rfl (lv_at hl 1 rfl) ?_
      refine fp_X7_15 C hH k_v0 dX7_cutTo_14 (fun H locs hH => ?_)
      refine b_w hf hH (fun w1 hf hH => ?_)
      cases hf
      exact q_retv C hH trivial dX7_cutTo_17
set_option maxRecDepth 100000 in
theorem c_X7_cutTo {l : Launch} {D : va_G} {B : Nat} {Y : Nat → ClassId} {v0 : Nat} {v1 : Int32} {w : Wd} {r : Unit} {w1 : Wd} (k_v0 : KD v0 = 7)  (hf : f_X7_cutTo v0 v1 w = some (r, w1)) : CM l D B Y yX7_cutTo cX7_cutTo 2 none 0 [.ref (B + v0), .int v1] w none w1 True :=
  CM_of (by decide +kernel) (Nat.le_of_ble_eq_true rfl) (fun p e s m args below meth c ls C hH hl => t_X7_cutTo_0 C k_v0 hH (lv_sub hl [0, 1] rfl) hf)
/-! LetterTables$Row.removeLast -/
def f_X7_removeLast  (v0 : Nat) (w : Wd) : Option (Int32 × Wd) :=
  bd (f_X7_get v0 ((w.1 v0 1) - (1 : Int32)) w) (fun x2 w1 => bd (f_X7_cutTo v0 ((w1.1 v0 1) - (1 : Int32)) w1) (fun _ w3 => some (x2, w3)))
set_option maxRecDepth 100000 in
set_option maxHeartbeats 4000000 in
theorem t_X7_removeLast_0 {D : va_G} {B : Nat} {Y : Nat → ClassId} {p : Program} {l : Launch} {e : Env} {s : State} {m : MethodId} {args : Array Value} {below : List Frame} {meth : Method} {c : Code} {z : (Int32 × Wd)} {H : Heap} {locs : List Loc} {ls : Array Slot} {w : Wd} {v0 : Nat} (C : CX D B Y p s m args meth c cX7_removeLast 2 RX7 (some .int))   (k_v0 : KD v0 = 7)  (hH : HS D B Y w s H locs) (hl : lv_has ls 2 [(0, .ref (B + v0))]) (hf : f_X7_removeLast v0 w = some z) : W p l e (RM 1 0 0) s m args below meth c H locs 0 0 (MQ below (QG D B Y (some (.int z.1)) z.2 True) args s 0 0 (AB B)) (F0 m 0 ls []) := by
  have hx := C.1
  have hb := C.2.1
  unfold f_X7_removeLast at hf
  refine lv_aload_n hx hb dX7_removeLast_0 rfl (lv_at hl 0 rfl) ?_
  refine lv_aload_n hx hb dX7_removeLast_1 rfl (lv_at hl 0 rfl) ?_
  refine fg_X7_15 C hH k_v0 dX7_removeLast_2 ?_
  refine lv_iconst (v := (1 : Int32)) hx hb dX7_removeLast_5 (by decide) ?_
  refine lv_isub hx hb dX7_removeLast_6 ?_
  obtain ⟨x2, w1, hc, hf⟩ := bd_some hf
  refine q_callV1 (v := .int x2) (As := [.int ((w.1 v0 1) - (1 : Int32))]) C hH (ci := 7) rfl (by omega) gk_X7_19 yd_X7_get (by omega) (by omega) k_v0 (c_X7_get k_v0 hc) hl.1 rfl (Nat.le_of_ble_eq_true rfl) dX7_removeLast_7 ⟨by decide, by decide⟩ (fun H locs hH hP => ?_)
  refine lv_istore_n (lv' := [(1, .int x2), (0, .ref (B + v0))]) hx hb dX7_removeLast_10 rfl hl (by decide) rfl (fun ls hl => ?_)
  refine lv_aload_n hx hb dX7_removeLast_11 rfl (lv_at hl 1 rfl) ?_
  refine lv_aload_n hx hb dX7_removeLast_12 rfl (lv_at hl 1 rfl) ?_
  refine fg_X7_15 C hH k_v0 dX7_removeLast_13 ?_
  refine lv_iconst (v := (1 : Int32)) hx hb dX7_removeLast_16 (by decide) ?_
  refine lv_isub hx hb dX7_removeLast_17 ?_
  obtain ⟨u, w3, hc, hf⟩ := bd_some hf
  refine q_callV0 (As := [.int ((w1.1 v0 1) - (1 : Int32))]) C hH (ci := 7) rfl (by omega) gk_X7_23 yd_X7_cutTo (by omega) (by omega) k_v0 (c_X7_cutTo k_v0 hc) hl.1 rfl (Nat.le_of_ble_eq_true rfl) dX7_removeLast_18 ⟨by decide, by decide⟩ (fun H locs hH hP => ?_)
  refine lv_iload_n hx hb dX7_removeLast_21 rfl (lv_at hl 0 rfl) ?_
  cases hf
  exact q_reti C hH trivial dX7_removeLast_22
set_option maxRecDepth 100000 in
theorem c_X7_removeLast {l : Launch} {D : va_G} {B : Nat} {Y : Nat → ClassId} {v0 : Nat} {w : Wd} {r : Int32} {w1 : Wd} (k_v0 : KD v0 = 7)  (hf : f_X7_removeLast v0 w = some (r, w1)) : CM l D B Y yX7_removeLast cX7_removeLast 2 (some .int) 1 [.ref (B + v0)] w (some (.int r)) w1 True :=
  CM_of (by decide +kernel) (Nat.le_of_ble_eq_true rfl) (fun p e s m args below meth c ls C hH hl => t_X7_removeLast_0 C k_v0 hH (lv_sub hl [0] rfl) hf)
/-! LetterTables$Row.set -/
def f_X7_set  (v0 : Nat) (v1 : Int32) (v2 : Int32) (w : Wd) : Option (Unit × Wd) :=
  (if v1 < 0 then some ((), w) else (if (w.1 v0 1) ≤ v1 then some ((), w) else (if (Int32.ofNat (LEN (v0 + 1))) ≤ v1 then some ((), w) else ast w (v0 + 1) v1 v2 (fun w1 => some ((), w1)))))
set_option maxRecDepth 100000 in
set_option maxHeartbeats 4000000 in
theorem t_X7_set_0 {D : va_G} {B : Nat} {Y : Nat → ClassId} {p : Program} {l : Launch} {e : Env} {s : State} {m : MethodId} {args : Array Value} {below : List Frame} {meth : Method} {c : Code} {z : (Unit × Wd)} {H : Heap} {locs : List Loc} {ls : Array Slot} {w : Wd} {v0 : Nat} {v1 : Int32} {v2 : Int32} (C : CX D B Y p s m args meth c cX7_set 3 RX7 none)   (k_v0 : KD v0 = 7)  (hH : HS D B Y w s H locs) (hl : lv_has ls 3 [(0, .ref (B + v0)), (1, .int v1), (2, .int v2)]) (hf : f_X7_set v0 v1 v2 w = some z) : W p l e (RM 0 0 0) s m args below meth c H locs 0 0 (MQ below (QG D B Y none z.2 True) args s 0 0 (AB B)) (F0 m 0 ls []) := by
  have hx := C.1
  have hb := C.2.1
  unfold f_X7_set at hf
  refine lv_iload_n hx hb dX7_set_0 rfl (lv_at hl 1 rfl) ?_
  refine b_if_lt (tgt := 28) hx hb hf dX7_set_1 (by decide) (fun hf => ?_) (fun hf => ?_)
  · cases hf
    exact q_retv C hH trivial dX7_set_28
  · refine lv_iload_n hx hb dX7_set_4 rfl (lv_at hl 1 rfl) ?_
    refine lv_aload_n hx hb dX7_set_5 rfl (lv_at hl 0 rfl) ?_
    refine fg_X7_15 C hH k_v0 dX7_set_6 ?_
    refine b_icmp_ge (tgt := 28) hx hb hf dX7_set_9 (by decide) (fun hf => ?_) (fun hf => ?_)
    · cases hf
      exact q_retv C hH trivial dX7_set_28
    · refine lv_iload_n hx hb dX7_set_12 rfl (lv_at hl 1 rfl) ?_
      refine lv_aload_n hx hb dX7_set_13 rfl (lv_at hl 0 rfl) ?_
      refine fg_X7_9 C hH k_v0 dX7_set_14 ?_
      refine q_alen C hH (t0 := 0) (ci := 20) rfl (by omega) (ko_7_0 k_v0) dX7_set_17 ?_
      refine b_icmp_ge (tgt := 28) hx hb hf dX7_set_18 (by decide) (fun hf => ?_) (fun hf => ?_)
      · cases hf
        exact q_retv C hH trivial dX7_set_28
      · refine lv_aload_n hx hb dX7_set_21 rfl (lv_at hl 0 rfl) ?_
        refine fg_X7_9 C hH k_v0 dX7_set_22 ?_
        refine lv_iload_n hx hb dX7_set_25 rfl (lv_at hl 1 rfl) ?_
        refine lv_iload_n hx hb dX7_set_26 rfl (lv_at hl 2 rfl) ?_
        refine g_iast C hH (ko_7_0 k_v0) hf dX7_set_27 (fun w1 H locs hf hH => ?_)
        cases hf
        exact q_retv C hH trivial dX7_set_28
set_option maxRecDepth 100000 in
theorem c_X7_set {l : Launch} {D : va_G} {B : Nat} {Y : Nat → ClassId} {v0 : Nat} {v1 : Int32} {v2 : Int32} {w : Wd} {r : Unit} {w1 : Wd} (k_v0 : KD v0 = 7)  (hf : f_X7_set v0 v1 v2 w = some (r, w1)) : CM l D B Y yX7_set cX7_set 3 none 0 [.ref (B + v0), .int v1, .int v2] w none w1 True :=
  CM_of (by decide +kernel) (Nat.le_of_ble_eq_true rfl) (fun p e s m args below meth c ls C hH hl => t_X7_set_0 C k_v0 hH (lv_sub hl [0, 1, 2] rfl) hf)
/-! LetterTables$Row.holds -/
def g_X7_holds_21 (rc_21 : Nat × Nat × Int32 × Int32 × Wd → Option (Int32 × Wd)) (v0 : Nat) (v1 : Nat) (v2 : Int32) (v3 : Int32) (w : Wd) : Option (Int32 × Wd) :=
  (if (w.1 v1 1) ≤ v3 then some ((1 : Int32), w) else bd (f_X7_get v0 (v2 + v3) w) (fun x2 w1 => bd (f_X7_get v1 v3 w1) (fun x4 w3 => (if x2 = x4 then lt (v3 + (1 : Int32)) (fun x5 => rc_21 (v0, v1, v2, x5, w3)) else some ((0 : Int32), w3)))))
def f_X7_holds_21  (v0 : Nat) (v1 : Nat) (v2 : Int32) (v3 : Int32) (w : Wd) : Option (Int32 × Wd) :=
  loopN (fun rc σ => g_X7_holds_21 rc  σ.1 σ.2.1 σ.2.2.1 σ.2.2.2.1 σ.2.2.2.2) FU (v0, v1, v2, v3, w)
set_option maxRecDepth 100000 in
set_option maxHeartbeats 4000000 in
theorem tb_X7_holds_21 {D : va_G} {B : Nat} {Y : Nat → ClassId} {p : Program} {l : Launch} {e : Env} {s : State} {m : MethodId} {args : Array Value} {below : List Frame} {meth : Method} {c : Code} {z : (Int32 × Wd)} {H : Heap} {locs : List Loc} {ls : Array Slot} {w : Wd} {v0 : Nat} {v1 : Nat} {v2 : Int32} {v3 : Int32} (C : CX D B Y p s m args meth c cX7_holds 4 RX7 (some .boolean))  {rc_21 : Nat × Nat × Int32 × Int32 × Wd → Option (Int32 × Wd)} (hr_21 : ∀ (v0 : Nat) (v1 : Nat) (v2 : Int32) (v3 : Int32) (w : Wd), rc_21 (v0, v1, v2, v3, w) = some z → KD v0 = 7 → KD v1 = 7 → ∀ (H : Heap) (locs : List Loc) (ls : Array Slot), HS D B Y w s H locs → lv_has ls 4 [(0, .ref (B + v0)), (1, .ref (B + v1)), (2, .int v2), (3, .int v3)] → W p l e (RM 1 0 0) s m args below meth c H locs 0 0 (MQ below (QG D B Y (some (.int z.1)) z.2 (isZ z.1)) args s 0 0 (AB B)) (F0 m 21 ls []))  (k_v0 : KD v0 = 7) (k_v1 : KD v1 = 7)  (hH : HS D B Y w s H locs) (hl : lv_has ls 4 [(0, .ref (B + v0)), (1, .ref (B + v1)), (2, .int v2), (3, .int v3)]) (hf : g_X7_holds_21 rc_21 v0 v1 v2 v3 w = some z) : W p l e (RM 1 0 0) s m args below meth c H locs 0 0 (MQ below (QG D B Y (some (.int z.1)) z.2 (isZ z.1)) args s 0 0 (AB B)) (F0 m 21 ls []) := by
  have hx := C.1
  have hb := C.2.1
  unfold g_X7_holds_21 at hf
  refine lv_iload_n hx hb dX7_holds_21 rfl (lv_at hl 3 rfl) ?_
  refine lv_aload_n hx hb dX7_holds_22 rfl (lv_at hl 1 rfl) ?_
  refine fg_X7_15 C hH k_v1 dX7_holds_23 ?_
  refine b_icmp_ge (tgt := 52) hx hb hf dX7_holds_26 (by decide) (fun hf => ?_) (fun hf => ?_)
  · refine lv_iconst (v := (1 : Int32)) hx hb dX7_holds_52 (by decide) ?_
    cases hf
    exact q_retz C hH isZ_1 isZ_1 dX7_holds_53
  · refine lv_aload_n hx hb dX7_holds_29 rfl (lv_at hl 0 rfl) ?_
    refine lv_iload_n hx hb dX7_holds_30 rfl (lv_at hl 2 rfl) ?_
    refine lv_iload_n hx hb dX7_holds_31 rfl (lv_at hl 3 rfl) ?_
    refine lv_iadd hx hb dX7_holds_32 ?_
    obtain ⟨x2, w1, hc, hf⟩ := bd_some hf
    refine q_callV1 (v := .int x2) (As := [.int (v2 + v3)]) C hH (ci := 7) rfl (by omega) gk_X7_19 yd_X7_get (by omega) (by omega) k_v0 (c_X7_get k_v0 hc) hl.1 rfl (Nat.le_of_ble_eq_true rfl) dX7_holds_33 ⟨by decide, by decide⟩ (fun H locs hH hP => ?_)
    refine lv_aload_n hx hb dX7_holds_36 rfl (lv_at hl 1 rfl) ?_
    refine lv_iload_n hx hb dX7_holds_37 rfl (lv_at hl 3 rfl) ?_
    obtain ⟨x4, w3, hc, hf⟩ := bd_some hf
    refine q_callV1 (v := .int x4) (As := [.int v3]) C hH (ci := 7) rfl (by omega) gk_X7_19 yd_X7_get (by omega) (by omega) k_v1 (c_X7_get k_v1 hc) hl.1 rfl (Nat.le_of_ble_eq_true rfl) dX7_holds_38 ⟨by decide, by decide⟩ (fun H locs hH hP => ?_)
    refine b_icmp_eq (tgt := 46) hx hb hf dX7_holds_41 (by decide) (fun hf => ?_) (fun hf => ?_)
    · refine b_let hf (fun x5 he hf => ?_)
      refine lv_iinc (v := x5) (lv' := [(3, .int x5), (0, .ref (B + v0)), (1, .ref (B + v1)), (2, .int v2)]) hx hb dX7_holds_46 hl (k := 3) rfl (by rw [← he]; rfl) (by decide) rfl (fun ls hl => ?_)
      refine lv_goto (tgt := 21) hx hb dX7_holds_49 (by decide) ?_
      exact hr_21 v0 v1 v2 x5 w3 hf k_v0 k_v1 _ _ _ hH (lv_sub hl [1, 2, 3, 0] rfl)
    · refine lv_iconst (v := (0 : Int32)) hx hb dX7_holds_44 (by decide) ?_
      cases hf
      exact q_retz C hH isZ_0 isZ_0 dX7_holds_45
set_option maxRecDepth 100000 in
set_option maxHeartbeats 4000000 in
theorem t_X7_holds_21 {D : va_G} {B : Nat} {Y : Nat → ClassId} {p : Program} {l : Launch} {e : Env} {s : State} {m : MethodId} {args : Array Value} {below : List Frame} {meth : Method} {c : Code} {z : (Int32 × Wd)} {H : Heap} {locs : List Loc} {ls : Array Slot} {w : Wd} {v0 : Nat} {v1 : Nat} {v2 : Int32} {v3 : Int32} (C : CX D B Y p s m args meth c cX7_holds 4 RX7 (some .boolean))   (k_v0 : KD v0 = 7) (k_v1 : KD v1 = 7)  (hH : HS D B Y w s H locs) (hl : lv_has ls 4 [(0, .ref (B + v0)), (1, .ref (B + v1)), (2, .int v2), (3, .int v3)]) (hf : f_X7_holds_21 v0 v1 v2 v3 w = some z) : W p l e (RM 1 0 0) s m args below meth c H locs 0 0 (MQ below (QG D B Y (some (.int z.1)) z.2 (isZ z.1)) args s 0 0 (AB B)) (F0 m 21 ls []) := by
  exact loopN_ind (z := z) (body := fun rc σ => g_X7_holds_21 rc  σ.1 σ.2.1 σ.2.2.1 σ.2.2.2.1 σ.2.2.2.2)
    (P := fun σ => KD σ.1 = 7 → KD σ.2.1 = 7 → ∀ (H : Heap) (locs : List Loc) (ls : Array Slot), HS D B Y σ.2.2.2.2 s H locs → lv_has ls 4 [(0, .ref (B + σ.1)), (1, .ref (B + σ.2.1)), (2, .int σ.2.2.1), (3, .int σ.2.2.2.1)] → W p l e (RM 1 0 0) s m args below meth c H locs 0 0 (MQ below (QG D B Y (some (.int z.1)) z.2 (isZ z.1)) args s 0 0 (AB B)) (F0 m 21 ls []))
    (fun rc hrec σ hf k_v0 k_v1 H locs ls hH hl => tb_X7_holds_21 C (fun v0 v1 v2 v3 w hr k_v0 k_v1 H locs ls hH hl => hrec (v0, v1, v2, v3, w) hr k_v0 k_v1 H locs ls hH hl)  k_v0 k_v1 hH hl hf) FU (v0, v1, v2, v3, w) hf k_v0 k_v1 H locs ls hH hl
def f_X7_holds  (v0 : Nat) (v1 : Nat) (v2 : Int32) (w : Wd) : Option (Int32 × Wd) :=
  (if v2 < 0 then some ((0 : Int32), w) else (if (w.1 v1 1) ≤ ((w.1 v0 1) - v2) then f_X7_holds_21 v0 v1 v2 (0 : Int32) w else some ((0 : Int32), w)))
set_option maxRecDepth 100000 in
set_option maxHeartbeats 4000000 in
theorem t_X7_holds_0 {D : va_G} {B : Nat} {Y : Nat → ClassId} {p : Program} {l : Launch} {e : Env} {s : State} {m : MethodId} {args : Array Value} {below : List Frame} {meth : Method} {c : Code} {z : (Int32 × Wd)} {H : Heap} {locs : List Loc} {ls : Array Slot} {w : Wd} {v0 : Nat} {v1 : Nat} {v2 : Int32} (C : CX D B Y p s m args meth c cX7_holds 4 RX7 (some .boolean))   (k_v0 : KD v0 = 7) (k_v1 : KD v1 = 7)  (hH : HS D B Y w s H locs) (hl : lv_has ls 4 [(0, .ref (B + v0)), (1, .ref (B + v1)), (2, .int v2)]) (hf : f_X7_holds v0 v1 v2 w = some z) : W p l e (RM 1 0 0) s m args below meth c H locs 0 0 (MQ below (QG D B Y (some (.int z.1)) z.2 (isZ z.1)) args s 0 0 (AB B)) (F0 m 0 ls []) := by
  have hx := C.1
  have hb := C.2.1
  unfold f_X7_holds at hf
  refine lv_iload_n hx hb dX7_holds_0 rfl (lv_at hl 2 rfl) ?_
  refine b_if_lt (tgt := 17) hx hb hf dX7_holds_1 (by decide) (fun hf => ?_) (fun hf => ?_)
  · refine lv_iconst (v := (0 : Int32)) hx hb dX7_holds_17 (by decide) ?_
    cases hf
    exact q_retz C hH isZ_0 isZ_0 dX7_holds_18
  · refine lv_aload_n hx hb dX7_holds_4 rfl (lv_at hl 1 rfl) ?_
    refine fg_X7_15 C hH k_v1 dX7_holds_5 ?_
    refine lv_aload_n hx hb dX7_holds_8 rfl (lv_at hl 0 rfl) ?_
    refine fg_X7_15 C hH k_v0 dX7_holds_9 ?_
    refine lv_iload_n hx hb dX7_holds_12 rfl (lv_at hl 2 rfl) ?_
    refine lv_isub hx hb dX7_holds_13 ?_
    refine b_icmp_le (tgt := 19) hx hb hf dX7_holds_14 (by decide) (fun hf => ?_) (fun hf => ?_)
    · refine lv_iconst (v := (0 : Int32)) hx hb dX7_holds_19 (by decide) ?_
      refine lv_istore_n (lv' := [(3, .int (0 : Int32)), (0, .ref (B + v0)), (1, .ref (B + v1)), (2, .int v2)]) hx hb dX7_holds_20 rfl hl (by decide) rfl (fun ls hl => ?_)
      exact t_X7_holds_21 C k_v0 k_v1 hH (lv_sub hl [1, 2, 3, 0] rfl) hf
    · refine lv_iconst (v := (0 : Int32)) hx hb dX7_holds_17 (by decide) ?_
      cases hf
      exact q_retz C hH isZ_0 isZ_0 dX7_holds_18
set_option maxRecDepth 100000 in
theorem c_X7_holds {l : Launch} {D : va_G} {B : Nat} {Y : Nat → ClassId} {v0 : Nat} {v1 : Nat} {v2 : Int32} {w : Wd} {r : Int32} {w1 : Wd} (k_v0 : KD v0 = 7) (k_v1 : KD v1 = 7)  (hf : f_X7_holds v0 v1 v2 w = some (r, w1)) : CM l D B Y yX7_holds cX7_holds 4 (some .boolean) 1 [.ref (B + v0), .ref (B + v1), .int v2] w (some (.int r)) w1 (isZ r) :=
  CM_of (by decide +kernel) (Nat.le_of_ble_eq_true rfl) (fun p e s m args below meth c ls C hH hl => t_X7_holds_0 C k_v0 k_v1 hH (lv_sub hl [0, 1, 2] rfl) hf)
/-! LetterTables$Row.isLike -/
def f_X7_isLike  (v0 : Nat) (v1 : Nat) (w : Wd) : Option (Int32 × Wd) :=
  (if (w.1 v0 1) = (w.1 v1 1) then bd (f_X7_holds v0 v1 (0 : Int32) w) (fun x2 w1 => (if x2 = 0 then some ((0 : Int32), w1) else some ((1 : Int32), w1))) else some ((0 : Int32), w))
set_option maxRecDepth 100000 in
set_option maxHeartbeats 4000000 in
theorem t_X7_isLike_0 {D : va_G} {B : Nat} {Y : Nat → ClassId} {p : Program} {l : Launch} {e : Env} {s : State} {m : MethodId} {args : Array Value} {below : List Frame} {meth : Method} {c : Code} {z : (Int32 × Wd)} {H : Heap} {locs : List Loc} {ls : Array Slot} {w : Wd} {v0 : Nat} {v1 : Nat} (C : CX D B Y p s m args meth c cX7_isLike 2 RX7 (some .boolean))   (k_v0 : KD v0 = 7) (k_v1 : KD v1 = 7)  (hH : HS D B Y w s H locs) (hl : lv_has ls 2 [(0, .ref (B + v0)), (1, .ref (B + v1))]) (hf : f_X7_isLike v0 v1 w = some z) : W p l e (RM 2 0 0) s m args below meth c H locs 0 0 (MQ below (QG D B Y (some (.int z.1)) z.2 (isZ z.1)) args s 0 0 (AB B)) (F0 m 0 ls []) := by
  have hx := C.1
  have hb := C.2.1
  unfold f_X7_isLike at hf
  refine lv_aload_n hx hb dX7_isLike_0 rfl (lv_at hl 0 rfl) ?_
  refine fg_X7_15 C hH k_v0 dX7_isLike_1 ?_
  refine lv_aload_n hx hb dX7_isLike_4 rfl (lv_at hl 1 rfl) ?_
  refine fg_X7_15 C hH k_v1 dX7_isLike_5 ?_
  refine b_icmp_ne (tgt := 24) hx hb hf dX7_isLike_8 (by decide) (fun hf => ?_) (fun hf => ?_)
  · refine lv_iconst (v := (0 : Int32)) hx hb dX7_isLike_24 (by decide) ?_
    cases hf
    exact q_retz C hH isZ_0 isZ_0 dX7_isLike_25
  · refine lv_aload_n hx hb dX7_isLike_11 rfl (lv_at hl 0 rfl) ?_
    refine lv_aload_n hx hb dX7_isLike_12 rfl (lv_at hl 1 rfl) ?_
    refine lv_iconst (v := (0 : Int32)) hx hb dX7_isLike_13 (by decide) ?_
    obtain ⟨x2, w1, hc, hf⟩ := bd_some hf
    refine q_callV1 (v := .int x2) (As := [.ref (B + v1), .int (0 : Int32)]) C hH (ci := 7) rfl (by omega) gk_X7_31 yd_X7_holds (by omega) (by omega) k_v0 (c_X7_holds k_v0 k_v1 hc) hl.1 rfl (Nat.le_of_ble_eq_true rfl) dX7_isLike_14 ⟨by decide, by decide⟩ (fun H locs hH z_x2 => ?_)
    refine b_if_eq (tgt := 24) hx hb hf dX7_isLike_17 (by decide) (fun hf => ?_) (fun hf => ?_)
    · refine lv_iconst (v := (0 : Int32)) hx hb dX7_isLike_24 (by decide) ?_
      cases hf
      exact q_retz C hH isZ_0 isZ_0 dX7_isLike_25
    · refine lv_iconst (v := (1 : Int32)) hx hb dX7_isLike_20 (by decide) ?_
      refine lv_goto (tgt := 25) hx hb dX7_isLike_21 (by decide) ?_
      cases hf
      exact q_retz C hH isZ_1 isZ_1 dX7_isLike_25
set_option maxRecDepth 100000 in
theorem c_X7_isLike {l : Launch} {D : va_G} {B : Nat} {Y : Nat → ClassId} {v0 : Nat} {v1 : Nat} {w : Wd} {r : Int32} {w1 : Wd} (k_v0 : KD v0 = 7) (k_v1 : KD v1 = 7)  (hf : f_X7_isLike v0 v1 w = some (r, w1)) : CM l D B Y yX7_isLike cX7_isLike 2 (some .boolean) 2 [.ref (B + v0), .ref (B + v1)] w (some (.int r)) w1 (isZ r) :=
  CM_of (by decide +kernel) (Nat.le_of_ble_eq_true rfl) (fun p e s m args below meth c ls C hH hl => t_X7_isLike_0 C k_v0 k_v1 hH (lv_sub hl [0, 1] rfl) hf)
/-! LetterTables$Row.refill -/
def g_X7_refill_7 (rc_7 : Nat × Int32 × Int32 × Int32 × Wd → Option (Unit × Wd)) (v0 : Nat) (v1 : Int32) (v2 : Int32) (v3 : Int32) (w : Wd) : Option (Unit × Wd) :=
  (if v2 ≤ v3 then some ((), w) else bd (f_X7_add v0 v1 w) (fun x2 w1 => lt (v3 + (1 : Int32)) (fun x3 => rc_7 (v0, v1, v2, x3, w1))))
def f_X7_refill_7  (v0 : Nat) (v1 : Int32) (v2 : Int32) (v3 : Int32) (w : Wd) : Option (Unit × Wd) :=
  loopN (fun rc σ => g_X7_refill_7 rc  σ.1 σ.2.1 σ.2.2.1 σ.2.2.2.1 σ.2.2.2.2) FU (v0, v1, v2, v3, w)
set_option maxRecDepth 100000 in
set_option maxHeartbeats 4000000 in
theorem tb_X7_refill_7 {D : va_G} {B : Nat} {Y : Nat → ClassId} {p : Program} {l : Launch} {e : Env} {s : State} {m : MethodId} {args : Array Value} {below : List Frame} {meth : Method} {c : Code} {z : (Unit × Wd)} {H : Heap} {locs : List Loc} {ls : Array Slot} {w : Wd} {v0 : Nat} {v1 : Int32} {v2 : Int32} {v3 : Int32} (C : CX D B Y p s m args meth c cX7_refill 4 RX7 none)  {rc_7 : Nat × Int32 × Int32 × Int32 × Wd → Option (Unit × Wd)} (hr_7 : ∀ (v0 : Nat) (v1 : Int32) (v2 : Int32) (v3 : Int32) (w : Wd), rc_7 (v0, v1, v2, v3, w) = some z → KD v0 = 7 → ∀ (H : Heap) (locs : List Loc) (ls : Array Slot), HS D B Y w s H locs → lv_has ls 4 [(0, .ref (B + v0)), (1, .int v1), (2, .int v2), (3, .int v3)] → W p l e (RM 1 0 0) s m args below meth c H locs 0 0 (MQ below (QG D B Y none z.2 True) args s 0 0 (AB B)) (F0 m 7 ls []))  (k_v0 : KD v0 = 7)  (hH : HS D B Y w s H locs) (hl : lv_has ls 4 [(0, .ref (B + v0)), (1, .int v1), (2, .int v2), (3, .int v3)]) (hf : g_X7_refill_7 rc_7 v0 v1 v2 v3 w = some z) : W p l e (RM 1 0 0) s m args below meth c H locs 0 0 (MQ below (QG D B Y none z.2 True) args s 0 0 (AB B)) (F0 m 7 ls []) := by
  have hx := C.1
  have hb := C.2.1
  unfold g_X7_refill_7 at hf
  refine lv_iload_n hx hb dX7_refill_7 rfl (lv_at hl 3 rfl) ?_
  refine lv_iload_n hx hb dX7_refill_8 rfl (lv_at hl 2 rfl) ?_
  refine b_icmp_ge (tgt := 24) hx hb hf dX7_refill_9 (by decide) (fun hf => ?_) (fun hf => ?_)
  · cases hf
    exact q_retv C hH trivial dX7_refill_24
  · refine lv_aload_n hx hb dX7_refill_12 rfl (lv_at hl 0 rfl) ?_
    refine lv_iload_n hx hb dX7_refill_13 rfl (lv_at hl 1 rfl) ?_
    obtain ⟨x2, w1, hc, hf⟩ := bd_some hf
    refine q_callV1 (v := .int x2) (As := [.int v1]) C hH (ci := 7) rfl (by omega) gk_X7_27 yd_X7_add (by omega) (by omega) k_v0 (c_X7_add k_v0 hc) hl.1 rfl (Nat.le_of_ble_eq_true rfl) dX7_refill_14 ⟨by decide, by decide⟩ (fun H locs hH z_x2 => ?_)
    refine lv_pop hx hb dX7_refill_17 rfl ?_
    refine b_let hf (fun x3 he hf => ?_)
    refine lv_iinc (v := x3) (lv' := [(3, .int x3), (0, .ref (B + v0)), (1, .int v1), (2, .int v2)]) hx hb dX7_refill_18 hl (k := 3) rfl (by rw [← he]; rfl) (by decide) rfl (fun ls hl => ?_)
    refine lv_goto (tgt := 7) hx hb dX7_refill_21 (by decide) ?_
    exact hr_7 v0 v1 v2 x3 w1 hf k_v0 _ _ _ hH (lv_sub hl [1, 2, 3, 0] rfl)
set_option maxRecDepth 100000 in
set_option maxHeartbeats 4000000 in
theorem t_X7_refill_7 {D : va_G} {B : Nat} {Y : Nat → ClassId} {p : Program} {l : Launch} {e : Env} {s : State} {m : MethodId} {args : Array Value} {below : List Frame} {meth : Method} {c : Code} {z : (Unit × Wd)} {H : Heap} {locs : List Loc} {ls : Array Slot} {w : Wd} {v0 : Nat} {v1 : Int32} {v2 : Int32} {v3 : Int32} (C : CX D B Y p s m args meth c cX7_refill 4 RX7 none)   (k_v0 : KD v0 = 7)  (hH : HS D B Y w s H locs) (hl : lv_has ls 4 [(0, .ref (B + v0)), (1, .int v1), (2, .int v2), (3, .int v3)]) (hf : f_X7_refill_7 v0 v1 v2 v3 w = some z) : W p l e (RM 1 0 0) s m args below meth c H locs 0 0 (MQ below (QG D B Y none z.2 True) args s 0 0 (AB B)) (F0 m 7 ls []) := by
  exact loopN_ind (z := z) (body := fun rc σ => g_X7_refill_7 rc  σ.1 σ.2.1 σ.2.2.1 σ.2.2.2.1 σ.2.2.2.2)
    (P := fun σ => KD σ.1 = 7 → ∀ (H : Heap) (locs : List Loc) (ls : Array Slot), HS D B Y σ.2.2.2.2 s H locs → lv_has ls 4 [(0, .ref (B + σ.1)), (1, .int σ.2.1), (2, .int σ.2.2.1), (3, .int σ.2.2.2.1)] → W p l e (RM 1 0 0) s m args below meth c H locs 0 0 (MQ below (QG D B Y none z.2 True) args s 0 0 (AB B)) (F0 m 7 ls []))
    (fun rc hrec σ hf k_v0 H locs ls hH hl => tb_X7_refill_7 C (fun v0 v1 v2 v3 w hr k_v0 H locs ls hH hl => hrec (v0, v1, v2, v3, w) hr k_v0 H locs ls hH hl)  k_v0 hH hl hf) FU (v0, v1, v2, v3, w) hf k_v0 H locs ls hH hl
def f_X7_refill  (v0 : Nat) (v1 : Int32) (v2 : Int32) (w : Wd) : Option (Unit × Wd) :=
  wr (setI w v0 1 (0 : Int32)) (fun w1 => f_X7_refill_7 v0 v1 v2 (0 : Int32) w1)
set_option maxRecDepth 100000 in
set_option maxHeartbeats 4000000 in
theorem t_X7_refill_0 {D : va_G} {B : Nat} {Y : Nat → ClassId} {p : Program} {l : Launch} {e : Env} {s : State} {m : MethodId} {args : Array Value} {below : List Frame} {meth : Method} {c : Code} {z : (Unit × Wd)} {H : Heap} {locs : List Loc} {ls : Array Slot} {w : Wd} {v0 : Nat} {v1 : Int32} {v2 : Int32} (C : CX D B Y p s m args meth c cX7_refill 4 RX7 none)   (k_v0 : KD v0 = 7)  (hH : HS D B Y w s H locs) (hl : lv_has ls 4 [(0, .ref (B + v0)), (1, .int v1), (2, .int v2)]) (hf : f_X7_refill v0 v1 v2 w = some z) : W p l e (RM 1 0 0) s m args below meth c H locs 0 0 (MQ below (QG D B Y none z.2 True) args s 0 0 (AB B)) (F0 m 0 ls []) := by
  have hx := C.1
  have hb := C.2.1
  unfold f_X7_refill at hf
  refine lv_aload_n hx hb dX7_refill_0 rfl (lv_at hl 0 rfl) ?_
  refine lv_iconst (v := (0 : Int32)) hx hb dX7_refill_1 (by decide) ?_
  refine fp_X7_15 C hH k_v0 dX7_refill_2 (fun H locs hH => ?_)
  refine b_w hf hH (fun w1 hf hH => ?_)
  refine lv_iconst (v := (0 : Int32)) hx hb dX7_refill_5 (by decide) ?_
  refine lv_istore_n (lv' := [(3, .int (0 : Int32)), (0, .ref (B + v0)), (1, .int v1), (2, .int v2)]) hx hb dX7_refill_6 rfl hl (by decide) rfl (fun ls hl => ?_)
  exact t_X7_refill_7 C k_v0 hH (lv_sub hl [1, 2, 3, 0] rfl) hf
set_option maxRecDepth 100000 in
theorem c_X7_refill {l : Launch} {D : va_G} {B : Nat} {Y : Nat → ClassId} {v0 : Nat} {v1 : Int32} {v2 : Int32} {w : Wd} {r : Unit} {w1 : Wd} (k_v0 : KD v0 = 7)  (hf : f_X7_refill v0 v1 v2 w = some (r, w1)) : CM l D B Y yX7_refill cX7_refill 4 none 1 [.ref (B + v0), .int v1, .int v2] w none w1 True :=
  CM_of (by decide +kernel) (Nat.le_of_ble_eq_true rfl) (fun p e s m args below meth c ls C hH hl => t_X7_refill_0 C k_v0 hH (lv_sub hl [0, 1, 2] rfl) hf)
/-! LetterTables$Row.turn -/
def g_X7_turn_5 (rc_5 : Nat × Int32 × Int32 × Wd → Option (Unit × Wd)) (v0 : Nat) (v3 : Int32) (v4 : Int32) (w : Wd) : Option (Unit × Wd) :=
  (if v4 ≤ v3 then some ((), w) else bd (f_X7_get v0 v3 w) (fun x2 w1 => bd (f_X7_get v0 v4 w1) (fun x4 w3 => bd (f_X7_set v0 v3 x4 w3) (fun _ w5 => bd (f_X7_set v0 v4 x2 w5) (fun _ w6 => lt (v3 + (1 : Int32)) (fun x7 => lt (v4 + (-1 : Int32)) (fun x8 => rc_5 (v0, x7, x8, w6))))))))
def f_X7_turn_5  (v0 : Nat) (v3 : Int32) (v4 : Int32) (w : Wd) : Option (Unit × Wd) :=
  loopN (fun rc σ => g_X7_turn_5 rc  σ.1 σ.2.1 σ.2.2.1 σ.2.2.2) FU (v0, v3, v4, w)
set_option maxRecDepth 100000 in
set_option maxHeartbeats 4000000 in
theorem tb_X7_turn_5 {D : va_G} {B : Nat} {Y : Nat → ClassId} {p : Program} {l : Launch} {e : Env} {s : State} {m : MethodId} {args : Array Value} {below : List Frame} {meth : Method} {c : Code} {z : (Unit × Wd)} {H : Heap} {locs : List Loc} {ls : Array Slot} {w : Wd} {v0 : Nat} {v3 : Int32} {v4 : Int32} (C : CX D B Y p s m args meth c cX7_turn 6 RX7 none)  {rc_5 : Nat × Int32 × Int32 × Wd → Option (Unit × Wd)} (hr_5 : ∀ (v0 : Nat) (v3 : Int32) (v4 : Int32) (w : Wd), rc_5 (v0, v3, v4, w) = some z → KD v0 = 7 → ∀ (H : Heap) (locs : List Loc) (ls : Array Slot), HS D B Y w s H locs → lv_has ls 6 [(0, .ref (B + v0)), (3, .int v3), (4, .int v4)] → W p l e (RM 1 0 0) s m args below meth c H locs 0 0 (MQ below (QG D B Y none z.2 True) args s 0 0 (AB B)) (F0 m 5 ls []))  (k_v0 : KD v0 = 7)  (hH : HS D B Y w s H locs) (hl : lv_has ls 6 [(0, .ref (B + v0)), (3, .int v3), (4, .int v4)]) (hf : g_X7_turn_5 rc_5 v0 v3 v4 w = some z) : W p l e (RM 1 0 0) s m args below meth c H locs 0 0 (MQ below (QG D B Y none z.2 True) args s 0 0 (AB B)) (F0 m 5 ls []) := by
  have hx := C.1
  have hb := C.2.1
  unfold g_X7_turn_5 at hf
  refine lv_iload_n hx hb dX7_turn_5 rfl (lv_at hl 1 rfl) ?_
  refine lv_iload hx hb dX7_turn_6 (lv_at hl 2 rfl) ?_
  refine b_icmp_ge (tgt := 46) hx hb hf dX7_turn_8 (by decide) (fun hf => ?_) (fun hf => ?_)
  · cases hf
    exact q_retv C hH trivial dX7_turn_46
  · refine lv_aload_n hx hb dX7_turn_11 rfl (lv_at hl 0 rfl) ?_
    refine lv_iload_n hx hb dX7_turn_12 rfl (lv_at hl 1 rfl) ?_
    obtain ⟨x2, w1, hc, hf⟩ := bd_some hf
    refine q_callV1 (v := .int x2) (As := [.int v3]) C hH (ci := 7) rfl (by omega) gk_X7_19 yd_X7_get (by omega) (by omega) k_v0 (c_X7_get k_v0 hc) hl.1 rfl (Nat.le_of_ble_eq_true rfl) dX7_turn_13 ⟨by decide, by decide⟩ (fun H locs hH hP => ?_)
    refine lv_istore (lv' := [(5, .int x2), (0, .ref (B + v0)), (3, .int v3), (4, .int v4)]) hx hb dX7_turn_16 hl (by decide) rfl (fun ls hl => ?_)
    refine lv_aload_n hx hb dX7_turn_18 rfl (lv_at hl 1 rfl) ?_
    refine lv_iload_n hx hb dX7_turn_19 rfl (lv_at hl 2 rfl) ?_
    refine lv_aload_n hx hb dX7_turn_20 rfl (lv_at hl 1 rfl) ?_
    refine lv_iload hx hb dX7_turn_21 (lv_at hl 3 rfl) ?_
    obtain ⟨x4, w3, hc, hf⟩ := bd_some hf
    refine q_callV1 (v := .int x4) (As := [.int v4]) C hH (ci := 7) rfl (by omega) gk_X7_19 yd_X7_get (by omega) (by omega) k_v0 (c_X7_get k_v0 hc) hl.1 rfl (Nat.le_of_ble_eq_true rfl) dX7_turn_23 ⟨by decide, by decide⟩ (fun H locs hH hP => ?_)
    obtain ⟨u, w5, hc, hf⟩ := bd_some hf
    refine q_callV0 (As := [.int v3, .int x4]) C hH (ci := 7) rfl (by omega) gk_X7_35 yd_X7_set (by omega) (by omega) k_v0 (c_X7_set k_v0 hc) hl.1 rfl (Nat.le_of_ble_eq_true rfl) dX7_turn_26 ⟨by decide, by decide⟩ (fun H locs hH hP => ?_)
    refine lv_aload_n hx hb dX7_turn_29 rfl (lv_at hl 1 rfl) ?_
    refine lv_iload hx hb dX7_turn_30 (lv_at hl 3 rfl) ?_
    refine lv_iload hx hb dX7_turn_32 (lv_at hl 0 rfl) ?_
    obtain ⟨u, w6, hc, hf⟩ := bd_some hf
    refine q_callV0 (As := [.int v4, .int x2]) C hH (ci := 7) rfl (by omega) gk_X7_35 yd_X7_set (by omega) (by omega) k_v0 (c_X7_set k_v0 hc) hl.1 rfl (Nat.le_of_ble_eq_true rfl) dX7_turn_34 ⟨by decide, by decide⟩ (fun H locs hH hP => ?_)
    refine b_let hf (fun x7 he hf => ?_)
    refine lv_iinc (v := x7) (lv' := [(3, .int x7), (5, .int x2), (0, .ref (B + v0)), (4, .int v4)]) hx hb dX7_turn_37 hl (k := 2) rfl (by rw [← he]; rfl) (by decide) rfl (fun ls hl => ?_)
    refine b_let hf (fun x8 he hf => ?_)
    refine lv_iinc (v := x8) (lv' := [(4, .int x8), (3, .int x7), (5, .int x2), (0, .ref (B + v0))]) hx hb dX7_turn_40 hl (k := 3) rfl (by rw [← he]; rfl) (by decide) rfl (fun ls hl => ?_)
    refine lv_goto (tgt := 5) hx hb dX7_turn_43 (by decide) ?_
    exact hr_5 v0 x7 x8 w6 hf k_v0 _ _ _ hH (lv_sub hl [3, 1, 0] rfl)
set_option maxRecDepth 100000 in
set_option maxHeartbeats 4000000 in
theorem t_X7_turn_5 {D : va_G} {B : Nat} {Y : Nat → ClassId} {p : Program} {l : Launch} {e : Env} {s : State} {m : MethodId} {args : Array Value} {below : List Frame} {meth : Method} {c : Code} {z : (Unit × Wd)} {H : Heap} {locs : List Loc} {ls : Array Slot} {w : Wd} {v0 : Nat} {v3 : Int32} {v4 : Int32} (C : CX D B Y p s m args meth c cX7_turn 6 RX7 none)   (k_v0 : KD v0 = 7)  (hH : HS D B Y w s H locs) (hl : lv_has ls 6 [(0, .ref (B + v0)), (3, .int v3), (4, .int v4)]) (hf : f_X7_turn_5 v0 v3 v4 w = some z) : W p l e (RM 1 0 0) s m args below meth c H locs 0 0 (MQ below (QG D B Y none z.2 True) args s 0 0 (AB B)) (F0 m 5 ls []) := by
  exact loopN_ind (z := z) (body := fun rc σ => g_X7_turn_5 rc  σ.1 σ.2.1 σ.2.2.1 σ.2.2.2)
    (P := fun σ => KD σ.1 = 7 → ∀ (H : Heap) (locs : List Loc) (ls : Array Slot), HS D B Y σ.2.2.2 s H locs → lv_has ls 6 [(0, .ref (B + σ.1)), (3, .int σ.2.1), (4, .int σ.2.2.1)] → W p l e (RM 1 0 0) s m args below meth c H locs 0 0 (MQ below (QG D B Y none z.2 True) args s 0 0 (AB B)) (F0 m 5 ls []))
    (fun rc hrec σ hf k_v0 H locs ls hH hl => tb_X7_turn_5 C (fun v0 v3 v4 w hr k_v0 H locs ls hH hl => hrec (v0, v3, v4, w) hr k_v0 H locs ls hH hl)  k_v0 hH hl hf) FU (v0, v3, v4, w) hf k_v0 H locs ls hH hl
def f_X7_turn  (v0 : Nat) (v1 : Int32) (v2 : Int32) (w : Wd) : Option (Unit × Wd) :=
  f_X7_turn_5 v0 v1 v2 w
set_option maxRecDepth 100000 in
set_option maxHeartbeats 4000000 in
theorem t_X7_turn_0 {D : va_G} {B : Nat} {Y : Nat → ClassId} {p : Program} {l : Launch} {e : Env} {s : State} {m : MethodId} {args : Array Value} {below : List Frame} {meth : Method} {c : Code} {z : (Unit × Wd)} {H : Heap} {locs : List Loc} {ls : Array Slot} {w : Wd} {v0 : Nat} {v1 : Int32} {v2 : Int32} (C : CX D B Y p s m args meth c cX7_turn 6 RX7 none)   (k_v0 : KD v0 = 7)  (hH : HS D B Y w s H locs) (hl : lv_has ls 6 [(0, .ref (B + v0)), (1, .int v1), (2, .int v2)]) (hf : f_X7_turn v0 v1 v2 w = some z) : W p l e (RM 1 0 0) s m args below meth c H locs 0 0 (MQ below (QG D B Y none z.2 True) args s 0 0 (AB B)) (F0 m 0 ls []) := by
  have hx := C.1
  have hb := C.2.1
  unfold f_X7_turn at hf
  refine lv_iload_n hx hb dX7_turn_0 rfl (lv_at hl 1 rfl) ?_
  refine lv_istore_n (lv' := [(3, .int v1), (0, .ref (B + v0)), (1, .int v1), (2, .int v2)]) hx hb dX7_turn_1 rfl hl (by decide) rfl (fun ls hl => ?_)
  refine lv_iload_n hx hb dX7_turn_2 rfl (lv_at hl 3 rfl) ?_
  refine lv_istore (lv' := [(4, .int v2), (3, .int v1), (0, .ref (B + v0)), (1, .int v1), (2, .int v2)]) hx hb dX7_turn_3 hl (by decide) rfl (fun ls hl => ?_)
  exact t_X7_turn_5 C k_v0 hH (lv_sub hl [2, 1, 0] rfl) hf
set_option maxRecDepth 100000 in
theorem c_X7_turn {l : Launch} {D : va_G} {B : Nat} {Y : Nat → ClassId} {v0 : Nat} {v1 : Int32} {v2 : Int32} {w : Wd} {r : Unit} {w1 : Wd} (k_v0 : KD v0 = 7)  (hf : f_X7_turn v0 v1 v2 w = some (r, w1)) : CM l D B Y yX7_turn cX7_turn 6 none 1 [.ref (B + v0), .int v1, .int v2] w none w1 True :=
  CM_of (by decide +kernel) (Nat.le_of_ble_eq_true rfl) (fun p e s m args below meth c ls C hH hl => t_X7_turn_0 C k_v0 hH (lv_sub hl [0, 1, 2] rfl) hf)
/-! LetterTables$Row.placeOf -/
def g_X7_placeOf_2 (rc_2 : Nat × Int32 × Int32 × Wd → Option (Int32 × Wd)) (v0 : Nat) (v1 : Int32) (v2 : Int32) (w : Wd) : Option (Int32 × Wd) :=
  (if (w.1 v0 1) ≤ v2 then some ((-1 : Int32), w) else bd (f_X7_get v0 v2 w) (fun x2 w1 => (if x2 = v1 then some (v2, w1) else lt (v2 + (1 : Int32)) (fun x3 => rc_2 (v0, v1, x3, w1)))))
def f_X7_placeOf_2  (v0 : Nat) (v1 : Int32) (v2 : Int32) (w : Wd) : Option (Int32 × Wd) :=
  loopN (fun rc σ => g_X7_placeOf_2 rc  σ.1 σ.2.1 σ.2.2.1 σ.2.2.2) FU (v0, v1, v2, w)
set_option maxRecDepth 100000 in
set_option maxHeartbeats 4000000 in
theorem tb_X7_placeOf_2 {D : va_G} {B : Nat} {Y : Nat → ClassId} {p : Program} {l : Launch} {e : Env} {s : State} {m : MethodId} {args : Array Value} {below : List Frame} {meth : Method} {c : Code} {z : (Int32 × Wd)} {H : Heap} {locs : List Loc} {ls : Array Slot} {w : Wd} {v0 : Nat} {v1 : Int32} {v2 : Int32} (C : CX D B Y p s m args meth c cX7_placeOf 3 RX7 (some .int))  {rc_2 : Nat × Int32 × Int32 × Wd → Option (Int32 × Wd)} (hr_2 : ∀ (v0 : Nat) (v1 : Int32) (v2 : Int32) (w : Wd), rc_2 (v0, v1, v2, w) = some z → KD v0 = 7 → ∀ (H : Heap) (locs : List Loc) (ls : Array Slot), HS D B Y w s H locs → lv_has ls 3 [(0, .ref (B + v0)), (1, .int v1), (2, .int v2)] → W p l e (RM 1 0 0) s m args below meth c H locs 0 0 (MQ below (QG D B Y (some (.int z.1)) z.2 True) args s 0 0 (AB B)) (F0 m 2 ls []))  (k_v0 : KD v0 = 7)  (hH : HS D B Y w s H locs) (hl : lv_has ls 3 [(0, .ref (B + v0)), (1, .int v1), (2, .int v2)]) (hf : g_X7_placeOf_2 rc_2 v0 v1 v2 w = some z) : W p l e (RM 1 0 0) s m args below meth c H locs 0 0 (MQ below (QG D B Y (some (.int z.1)) z.2 True) args s 0 0 (AB B)) (F0 m 2 ls []) := by
  have hx := C.1
  have hb := C.2.1
  unfold g_X7_placeOf_2 at hf
  refine lv_iload_n hx hb dX7_placeOf_2 rfl (lv_at hl 2 rfl) ?_
  refine lv_aload_n hx hb dX7_placeOf_3 rfl (lv_at hl 0 rfl) ?_
  refine fg_X7_15 C hH k_v0 dX7_placeOf_4 ?_
  refine b_icmp_ge (tgt := 27) hx hb hf dX7_placeOf_7 (by decide) (fun hf => ?_) (fun hf => ?_)
  · refine lv_iconst (v := (-1 : Int32)) hx hb dX7_placeOf_27 (by decide) ?_
    cases hf
    exact q_reti C hH trivial dX7_placeOf_28
  · refine lv_aload_n hx hb dX7_placeOf_10 rfl (lv_at hl 0 rfl) ?_
    refine lv_iload_n hx hb dX7_placeOf_11 rfl (lv_at hl 2 rfl) ?_
    obtain ⟨x2, w1, hc, hf⟩ := bd_some hf
    refine q_callV1 (v := .int x2) (As := [.int v2]) C hH (ci := 7) rfl (by omega) gk_X7_19 yd_X7_get (by omega) (by omega) k_v0 (c_X7_get k_v0 hc) hl.1 rfl (Nat.le_of_ble_eq_true rfl) dX7_placeOf_12 ⟨by decide, by decide⟩ (fun H locs hH hP => ?_)
    refine lv_iload_n hx hb dX7_placeOf_15 rfl (lv_at hl 1 rfl) ?_
    refine b_icmp_ne (tgt := 21) hx hb hf dX7_placeOf_16 (by decide) (fun hf => ?_) (fun hf => ?_)
    · refine b_let hf (fun x3 he hf => ?_)
      refine lv_iinc (v := x3) (lv' := [(2, .int x3), (0, .ref (B + v0)), (1, .int v1)]) hx hb dX7_placeOf_21 hl (k := 2) rfl (by rw [← he]; rfl) (by decide) rfl (fun ls hl => ?_)
      refine lv_goto (tgt := 2) hx hb dX7_placeOf_24 (by decide) ?_
      exact hr_2 v0 v1 x3 w1 hf k_v0 _ _ _ hH (lv_sub hl [1, 2, 0] rfl)
    · refine lv_iload_n hx hb dX7_placeOf_19 rfl (lv_at hl 2 rfl) ?_
      cases hf
      exact q_reti C hH trivial dX7_placeOf_20
set_option maxRecDepth 100000 in
set_option maxHeartbeats 4000000 in
theorem t_X7_placeOf_2 {D : va_G} {B : Nat} {Y : Nat → ClassId} {p : Program} {l : Launch} {e : Env} {s : State} {m : MethodId} {args : Array Value} {below : List Frame} {meth : Method} {c : Code} {z : (Int32 × Wd)} {H : Heap} {locs : List Loc} {ls : Array Slot} {w : Wd} {v0 : Nat} {v1 : Int32} {v2 : Int32} (C : CX D B Y p s m args meth c cX7_placeOf 3 RX7 (some .int))   (k_v0 : KD v0 = 7)  (hH : HS D B Y w s H locs) (hl : lv_has ls 3 [(0, .ref (B + v0)), (1, .int v1), (2, .int v2)]) (hf : f_X7_placeOf_2 v0 v1 v2 w = some z) : W p l e (RM 1 0 0) s m args below meth c H locs 0 0 (MQ below (QG D B Y (some (.int z.1)) z.2 True) args s 0 0 (AB B)) (F0 m 2 ls []) := by
  exact loopN_ind (z := z) (body := fun rc σ => g_X7_placeOf_2 rc  σ.1 σ.2.1 σ.2.2.1 σ.2.2.2)
    (P := fun σ => KD σ.1 = 7 → ∀ (H : Heap) (locs : List Loc) (ls : Array Slot), HS D B Y σ.2.2.2 s H locs → lv_has ls 3 [(0, .ref (B + σ.1)), (1, .int σ.2.1), (2, .int σ.2.2.1)] → W p l e (RM 1 0 0) s m args below meth c H locs 0 0 (MQ below (QG D B Y (some (.int z.1)) z.2 True) args s 0 0 (AB B)) (F0 m 2 ls []))
    (fun rc hrec σ hf k_v0 H locs ls hH hl => tb_X7_placeOf_2 C (fun v0 v1 v2 w hr k_v0 H locs ls hH hl => hrec (v0, v1, v2, w) hr k_v0 H locs ls hH hl)  k_v0 hH hl hf) FU (v0, v1, v2, w) hf k_v0 H locs ls hH hl
def f_X7_placeOf  (v0 : Nat) (v1 : Int32) (w : Wd) : Option (Int32 × Wd) :=
  f_X7_placeOf_2 v0 v1 (0 : Int32) w
set_option maxRecDepth 100000 in
set_option maxHeartbeats 4000000 in
theorem t_X7_placeOf_0 {D : va_G} {B : Nat} {Y : Nat → ClassId} {p : Program} {l : Launch} {e : Env} {s : State} {m : MethodId} {args : Array Value} {below : List Frame} {meth : Method} {c : Code} {z : (Int32 × Wd)} {H : Heap} {locs : List Loc} {ls : Array Slot} {w : Wd} {v0 : Nat} {v1 : Int32} (C : CX D B Y p s m args meth c cX7_placeOf 3 RX7 (some .int))   (k_v0 : KD v0 = 7)  (hH : HS D B Y w s H locs) (hl : lv_has ls 3 [(0, .ref (B + v0)), (1, .int v1)]) (hf : f_X7_placeOf v0 v1 w = some z) : W p l e (RM 1 0 0) s m args below meth c H locs 0 0 (MQ below (QG D B Y (some (.int z.1)) z.2 True) args s 0 0 (AB B)) (F0 m 0 ls []) := by
  have hx := C.1
  have hb := C.2.1
  unfold f_X7_placeOf at hf
  refine lv_iconst (v := (0 : Int32)) hx hb dX7_placeOf_0 (by decide) ?_
  refine lv_istore_n (lv' := [(2, .int (0 : Int32)), (0, .ref (B + v0)), (1, .int v1)]) hx hb dX7_placeOf_1 rfl hl (by decide) rfl (fun ls hl => ?_)
  exact t_X7_placeOf_2 C k_v0 hH (lv_sub hl [1, 2, 0] rfl) hf
set_option maxRecDepth 100000 in
theorem c_X7_placeOf {l : Launch} {D : va_G} {B : Nat} {Y : Nat → ClassId} {v0 : Nat} {v1 : Int32} {w : Wd} {r : Int32} {w1 : Wd} (k_v0 : KD v0 = 7)  (hf : f_X7_placeOf v0 v1 w = some (r, w1)) : CM l D B Y yX7_placeOf cX7_placeOf 3 (some .int) 1 [.ref (B + v0), .int v1] w (some (.int r)) w1 True :=
  CM_of (by decide +kernel) (Nat.le_of_ble_eq_true rfl) (fun p e s m args below meth c ls C hH hl => t_X7_placeOf_0 C k_v0 hH (lv_sub hl [0, 1] rfl) hf)
