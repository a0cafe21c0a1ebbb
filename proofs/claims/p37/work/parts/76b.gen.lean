/-! LetterTables$Forms.splitInto -/
set_option maxRecDepth 100000 in
set_option maxHeartbeats 4000000 in
theorem tb_X1_splitInto_13 {D : va_G} {B : Nat} {Y : Nat → ClassId} {p : Program} {l : Launch} {e : Env} {s : State} {m : MethodId} {args : Array Value} {below : List Frame} {meth : Method} {c : Code} {z : (Int32 × Wd)} {H : Heap} {locs : List Loc} {ls : Array Slot} {w : Wd} {v1 : Nat} {v2 : Nat} {v3 : Int32} {v4 : Int32} (C : CX D B Y p s m args meth c cX1_splitInto 5 RX1 (some .boolean))  {rc_13 : Nat × Nat × Int32 × Int32 × Wd → Option (Int32 × Wd)} (hr_13 : ∀ (v1 : Nat) (v2 : Nat) (v3 : Int32) (v4 : Int32) (w : Wd), rc_13 (v1, v2, v3, v4, w) = some z → KD v1 = 7 → KD v2 = 7 → ∀ (H : Heap) (locs : List Loc) (ls : Array Slot), HS D B Y w s H locs → lv_has ls 5 [(0, .ref (B + 639)), (1, .ref (B + v1)), (2, .ref (B + v2)), (3, .int v3), (4, .int v4)] → W p l e (RM 3 0 0) s m args below meth c H locs 0 0 (MQ below (QG D B Y (some (.int z.1)) z.2 (isZ z.1)) args s 0 0 (AB B)) (F0 m 13 ls []))  (k_v1 : KD v1 = 7) (k_v2 : KD v2 = 7)  (hH : HS D B Y w s H locs) (hl : lv_has ls 5 [(0, .ref (B + 639)), (1, .ref (B + v1)), (2, .ref (B + v2)), (3, .int v3), (4, .int v4)]) (hf : g_X1_splitInto_13 rc_13 v1 v2 v3 v4 w = some z) : W p l e (RM 3 0 0) s m args below meth c H locs 0 0 (MQ below (QG D B Y (some (.int z.1)) z.2 (isZ z.1)) args s 0 0 (AB B)) (F0 m 13 ls []) := by
  have hx := C.1
  have hb := C.2.1
  unfold g_X1_splitInto_13 at hf
  refine lv_iload hx hb dX1_splitInto_13 (lv_at hl 4 rfl) ?_
  refine lv_aload_n hx hb dX1_splitInto_15 rfl (lv_at hl 1 rfl) ?_
  obtain ⟨x2, w1, hc, hf⟩ := bd_some hf
  refine q_callV1 (v := .int x2) (As := []) C hH (ci := 7) rfl (by omega) gk_X1_52 yd_X7_size (by omega) (by omega) k_v1 (c_X7_size k_v1 hc) hl.1 rfl (Nat.le_of_ble_eq_true rfl) dX1_splitInto_16 xv_00 (fun H locs hH hP => ?_)
  refine b_icmp_ge (tgt := 49) hx hb hf dX1_splitInto_19 (by decide) (fun hf => ?_) (fun hf => ?_)
  · refine lv_aload_n hx hb dX1_splitInto_49 rfl (lv_at hl 0 rfl) ?_
    refine lv_aload_n hx hb dX1_splitInto_50 rfl (lv_at hl 2 rfl) ?_
    obtain ⟨u, w3, hc, hf⟩ := bd_some hf
    refine q_callV0 (As := [.ref (B + v2)]) C hH (ci := 1) rfl (by omega) gk_X1_64 yd_X1_sortMarks (by omega) (by omega) kc_639 (c_X1_sortMarks k_v2 hc) hl.1 rfl (Nat.le_of_ble_eq_true rfl) dX1_splitInto_51 xv_00 (fun H locs hH hP => ?_)
    refine lv_iconst (v := (1 : Int32)) hx hb dX1_splitInto_54 (by decide) ?_
    cases hf
    exact q_retz C hH isZ_1 isZ_1 dX1_splitInto_55
  · refine lv_aload_n hx hb dX1_splitInto_22 rfl (lv_at hl 0 rfl) ?_
    refine lv_aload_n hx hb dX1_splitInto_23 rfl (lv_at hl 1 rfl) ?_
    refine lv_iload hx hb dX1_splitInto_24 (lv_at hl 4 rfl) ?_
    obtain ⟨x5, w4, hc, hf⟩ := bd_some hf
    refine q_callV1 (v := .int x5) (As := [.int v4]) C hH (ci := 7) rfl (by omega) gk_X1_56 yd_X7_get (by omega) (by omega) k_v1 (c_X7_get k_v1 hc) hl.1 rfl (Nat.le_of_ble_eq_true rfl) dX1_splitInto_26 xv_00 (fun H locs hH hP => ?_)
    refine lv_iload_n hx hb dX1_splitInto_29 rfl (lv_at hl 3 rfl) ?_
    refine lv_aload_n hx hb dX1_splitInto_30 rfl (lv_at hl 2 rfl) ?_
    obtain ⟨x7, w6, hc, hf⟩ := bd_some hf
    refine q_callV1 (v := .int x7) (As := [.int x5, .int v3, .ref (B + v2)]) C hH (ci := 1) rfl (by omega) gk_X1_60 yd_X1_splitLetter (by omega) (by omega) kc_639 (c_X1_splitLetter k_v2 hc) hl.1 rfl (Nat.le_of_ble_eq_true rfl) dX1_splitInto_31 xv_00 (fun H locs hH hP => ?_)
    refine lv_istore_n (lv' := [(3, .int x7), (0, .ref (B + 639)), (1, .ref (B + v1)), (2, .ref (B + v2)), (4, .int v4)]) hx hb dX1_splitInto_34 rfl hl (by decide) rfl (fun ls hl => ?_)
    refine lv_iload_n hx hb dX1_splitInto_35 rfl (lv_at hl 0 rfl) ?_
    refine lv_bipush (v := (80 : Int32)) hx hb dX1_splitInto_36 (by decide) ?_
    refine b_icmp_le (tgt := 43) hx hb hf dX1_splitInto_38 (by decide) (fun hf => ?_) (fun hf => ?_)
    · refine b_let hf (fun x8 he hf => ?_)
      refine lv_iinc (v := x8) (lv' := [(4, .int x8), (3, .int x7), (0, .ref (B + 639)), (1, .ref (B + v1)), (2, .ref (B + v2))]) hx hb dX1_splitInto_43 hl (k := 4) rfl (by rw [← he]; rfl) (by decide) rfl (fun ls hl => ?_)
      refine lv_goto (tgt := 13) hx hb dX1_splitInto_46 (by decide) ?_
      exact hr_13 v1 v2 x7 x8 w6 hf k_v1 k_v2 _ _ _ hH (lv_sub hl [2, 3, 4, 1, 0] rfl)
    · refine lv_iconst (v := (0 : Int32)) hx hb dX1_splitInto_41 (by decide) ?_
      cases hf
      exact q_retz C hH isZ_0 isZ_0 dX1_splitInto_42
set_option maxRecDepth 100000 in
set_option maxHeartbeats 4000000 in
theorem t_X1_splitInto_13 {D : va_G} {B : Nat} {Y : Nat → ClassId} {p : Program} {l : Launch} {e : Env} {s : State} {m : MethodId} {args : Array Value} {below : List Frame} {meth : Method} {c : Code} {z : (Int32 × Wd)} {H : Heap} {locs : List Loc} {ls : Array Slot} {w : Wd} {v1 : Nat} {v2 : Nat} {v3 : Int32} {v4 : Int32} (C : CX D B Y p s m args meth c cX1_splitInto 5 RX1 (some .boolean))   (k_v1 : KD v1 = 7) (k_v2 : KD v2 = 7)  (hH : HS D B Y w s H locs) (hl : lv_has ls 5 [(0, .ref (B + 639)), (1, .ref (B + v1)), (2, .ref (B + v2)), (3, .int v3), (4, .int v4)]) (hf : f_X1_splitInto_13 v1 v2 v3 v4 w = some z) : W p l e (RM 3 0 0) s m args below meth c H locs 0 0 (MQ below (QG D B Y (some (.int z.1)) z.2 (isZ z.1)) args s 0 0 (AB B)) (F0 m 13 ls []) := by
  exact loopN_ind (z := z) (body := fun rc σ => g_X1_splitInto_13 rc  σ.1 σ.2.1 σ.2.2.1 σ.2.2.2.1 σ.2.2.2.2)
    (P := fun σ => KD σ.1 = 7 → KD σ.2.1 = 7 → ∀ (H : Heap) (locs : List Loc) (ls : Array Slot), HS D B Y σ.2.2.2.2 s H locs → lv_has ls 5 [(0, .ref (B + 639)), (1, .ref (B + σ.1)), (2, .ref (B + σ.2.1)), (3, .int σ.2.2.1), (4, .int σ.2.2.2.1)] → W p l e (RM 3 0 0) s m args below meth c H locs 0 0 (MQ below (QG D B Y (some (.int z.1)) z.2 (isZ z.1)) args s 0 0 (AB B)) (F0 m 13 ls []))
    (fun rc hrec σ hf k_v1 k_v2 H locs ls hH hl => tb_X1_splitInto_13 C (fun v1 v2 v3 v4 w hr k_v1 k_v2 H locs ls hH hl => hrec (v1, v2, v3, v4, w) hr k_v1 k_v2 H locs ls hH hl)  k_v1 k_v2 hH hl hf) FU (v1, v2, v3, v4, w) hf k_v1 k_v2 H locs ls hH hl
set_option maxRecDepth 100000 in
set_option maxHeartbeats 4000000 in
theorem t_X1_splitInto_0 {D : va_G} {B : Nat} {Y : Nat → ClassId} {p : Program} {l : Launch} {e : Env} {s : State} {m : MethodId} {args : Array Value} {below : List Frame} {meth : Method} {c : Code} {z : (Int32 × Wd)} {H : Heap} {locs : List Loc} {ls : Array Slot} {w : Wd} {v1 : Nat} {v2 : Nat} (C : CX D B Y p s m args meth c cX1_splitInto 5 RX1 (some .boolean))   (k_v1 : KD v1 = 7) (k_v2 : KD v2 = 7)  (hH : HS D B Y w s H locs) (hl : lv_has ls 5 [(0, .ref (B + 639)), (1, .ref (B + v1)), (2, .ref (B + v2))]) (hf : f_X1_splitInto v1 v2 w = some z) : W p l e (RM 3 0 0) s m args below meth c H locs 0 0 (MQ below (QG D B Y (some (.int z.1)) z.2 (isZ z.1)) args s 0 0 (AB B)) (F0 m 0 ls []) := by
  have hx := C.1
  have hb := C.2.1
  unfold f_X1_splitInto at hf
  refine lv_aload_n hx hb dX1_splitInto_0 rfl (lv_at hl 2 rfl) ?_
  refine lv_iconst (v := (0 : Int32)) hx hb dX1_splitInto_1 (by decide) ?_
  obtain ⟨u, w1, hc, hf⟩ := bd_some hf
  refine q_callV0 (As := [.int (0 : Int32)]) C hH (ci := 7) rfl (by omega) gk_X1_49 yd_X7_cutTo (by omega) (by omega) k_v2 (c_X7_cutTo k_v2 hc) hl.1 rfl (Nat.le_of_ble_eq_true rfl) dX1_splitInto_2 xv_00 (fun H locs hH hP => ?_)
  refine lv_aload_n hx hb dX1_splitInto_5 rfl (lv_at hl 1 rfl) ?_
  obtain ⟨x3, w2, hc, hf⟩ := bd_some hf
  refine q_callV1 (v := .int x3) (As := []) C hH (ci := 7) rfl (by omega) gk_X1_52 yd_X7_size (by omega) (by omega) k_v1 (c_X7_size k_v1 hc) hl.1 rfl (Nat.le_of_ble_eq_true rfl) dX1_splitInto_6 xv_00 (fun H locs hH hP => ?_)
  refine lv_istore_n (lv' := [(3, .int x3), (0, .ref (B + 639)), (1, .ref (B + v1)), (2, .ref (B + v2))]) hx hb dX1_splitInto_9 rfl hl (by decide) rfl (fun ls hl => ?_)
  refine lv_iconst (v := (0 : Int32)) hx hb dX1_splitInto_10 (by decide) ?_
  refine lv_istore (lv' := [(4, .int (0 : Int32)), (3, .int x3), (0, .ref (B + 639)), (1, .ref (B + v1)), (2, .ref (B + v2))]) hx hb dX1_splitInto_11 hl (by decide) rfl (fun ls hl => ?_)
  exact t_X1_splitInto_13 C k_v1 k_v2 hH (lv_sub hl [2, 3, 4, 1, 0] rfl) hf
set_option maxRecDepth 100000 in
theorem c_X1_splitInto {l : Launch} {D : va_G} {B : Nat} {Y : Nat → ClassId} {v1 : Nat} {v2 : Nat} {w : Wd} {r : Int32} {w1 : Wd} (k_v1 : KD v1 = 7) (k_v2 : KD v2 = 7)  (hf : f_X1_splitInto v1 v2 w = some (r, w1)) : CM l D B Y yX1_splitInto cX1_splitInto 5 (some .boolean) 3 [.ref (B + 639), .ref (B + v1), .ref (B + v2)] w (some (.int r)) w1 (isZ r) :=
  CM_of (by decide +kernel) (Nat.le_of_ble_eq_true rfl) (fun p e s m args below meth c ls C hH hl => t_X1_splitInto_0 C k_v1 k_v2 hH (lv_sub hl [0, 1, 2] rfl) hf)
/-! LetterTables$Forms.startFor -/
set_option maxRecDepth 100000 in
set_option maxHeartbeats 4000000 in
theorem tb_X1_startFor_5 {D : va_G} {B : Nat} {Y : Nat → ClassId} {p : Program} {l : Launch} {e : Env} {s : State} {m : MethodId} {args : Array Value} {below : List Frame} {meth : Method} {c : Code} {z : (Int32 × Wd)} {H : Heap} {locs : List Loc} {ls : Array Slot} {w : Wd} {v1 : Nat} {v3 : Int32} {v4 : Int32} (C : CX D B Y p s m args meth c cX1_startFor 6 RX1 (some .int))  {rc_5 : Nat × Int32 × Int32 × Wd → Option (Int32 × Wd)} (hr_5 : ∀ (v1 : Nat) (v3 : Int32) (v4 : Int32) (w : Wd), rc_5 (v1, v3, v4, w) = some z → KD v1 = 7 → ∀ (H : Heap) (locs : List Loc) (ls : Array Slot), HS D B Y w s H locs → lv_has ls 6 [(0, .ref (B + 639)), (1, .ref (B + v1)), (3, .int v3), (4, .int v4)] → W p l e (RM 2 0 0) s m args below meth c H locs 0 0 (MQ below (QG D B Y (some (.int z.1)) z.2 True) args s 0 0 (AB B)) (F0 m 5 ls []))  (k_v1 : KD v1 = 7)  (hH : HS D B Y w s H locs) (hl : lv_has ls 6 [(0, .ref (B + 639)), (1, .ref (B + v1)), (3, .int v3), (4, .int v4)]) (hf : g_X1_startFor_5 rc_5 v1 v3 v4 w = some z) : W p l e (RM 2 0 0) s m args below meth c H locs 0 0 (MQ below (QG D B Y (some (.int z.1)) z.2 True) args s 0 0 (AB B)) (F0 m 5 ls []) := by
  have hx := C.1
  have hb := C.2.1
  unfold g_X1_startFor_5 at hf
  refine lv_iload hx hb dX1_startFor_5 (lv_at hl 3 rfl) ?_
  refine b_if_lt (tgt := 47) hx hb hf dX1_startFor_7 (by decide) (fun hf => ?_) (fun hf => ?_)
  · refine lv_iconst (v := (-1 : Int32)) hx hb dX1_startFor_47 (by decide) ?_
    cases hf
    exact q_reti C hH trivial dX1_startFor_48
  · refine lv_aload_n hx hb dX1_startFor_10 rfl (lv_at hl 0 rfl) ?_
    refine fg_X1_9 C hH dX1_startFor_11 ?_
    refine lv_aload_n hx hb dX1_startFor_14 rfl (lv_at hl 1 rfl) ?_
    refine lv_iload hx hb dX1_startFor_15 (lv_at hl 3 rfl) ?_
    obtain ⟨x2, w1, hc, hf⟩ := bd_some hf
    refine q_callV1 (v := .int x2) (As := [.int v4]) C hH (ci := 7) rfl (by omega) gk_X1_56 yd_X7_get (by omega) (by omega) k_v1 (c_X7_get k_v1 hc) hl.1 rfl (Nat.le_of_ble_eq_true rfl) dX1_startFor_17 xv_00 (fun H locs hH hP => ?_)
    obtain ⟨x4, w3, hc, hf⟩ := bd_some hf
    refine q_callV1 (v := .int x4) (As := [.int x2]) C hH (ci := 9) rfl (by omega) gk_X1_83 yd_X9_joinsOf (by omega) (by omega) kc_1 (c_X9_joinsOf kc_1 hc) hl.1 rfl (Nat.le_of_ble_eq_true rfl) dX1_startFor_20 xv_00 (fun H locs hH hP => ?_)
    refine lv_istore (lv' := [(5, .int x4), (0, .ref (B + 639)), (1, .ref (B + v1)), (3, .int v3), (4, .int v4)]) hx hb dX1_startFor_23 hl (by decide) rfl (fun ls hl => ?_)
    refine lv_iload hx hb dX1_startFor_25 (lv_at hl 0 rfl) ?_
    refine b_if_ne (tgt := 33) hx hb hf dX1_startFor_27 (by decide) (fun hf => ?_) (fun hf => ?_)
    · refine lv_iload hx hb dX1_startFor_33 (lv_at hl 0 rfl) ?_
      refine lv_iload_n hx hb dX1_startFor_35 rfl (lv_at hl 3 rfl) ?_
      refine b_icmp_lt (tgt := 41) hx hb hf dX1_startFor_36 (by decide) (fun hf => ?_) (fun hf => ?_)
      · refine b_let hf (fun x5 he hf => ?_)
        refine lv_iinc (v := x5) (lv' := [(4, .int x5), (5, .int x4), (0, .ref (B + 639)), (1, .ref (B + v1)), (3, .int v3)]) hx hb dX1_startFor_41 hl (k := 4) rfl (by rw [← he]; rfl) (by decide) rfl (fun ls hl => ?_)
        refine lv_goto (tgt := 5) hx hb dX1_startFor_44 (by decide) ?_
        exact hr_5 v1 v3 x5 w3 hf k_v1 _ _ _ hH (lv_sub hl [2, 3, 4, 0] rfl)
      · refine lv_iconst (v := (-1 : Int32)) hx hb dX1_startFor_39 (by decide) ?_
        cases hf
        exact q_reti C hH trivial dX1_startFor_40
    · refine lv_iload hx hb dX1_startFor_30 (lv_at hl 4 rfl) ?_
      cases hf
      exact q_reti C hH trivial dX1_startFor_32
set_option maxRecDepth 100000 in
set_option maxHeartbeats 4000000 in
theorem t_X1_startFor_5 {D : va_G} {B : Nat} {Y : Nat → ClassId} {p : Program} {l : Launch} {e : Env} {s : State} {m : MethodId} {args : Array Value} {below : List Frame} {meth : Method} {c : Code} {z : (Int32 × Wd)} {H : Heap} {locs : List Loc} {ls : Array Slot} {w : Wd} {v1 : Nat} {v3 : Int32} {v4 : Int32} (C : CX D B Y p s m args meth c cX1_startFor 6 RX1 (some .int))   (k_v1 : KD v1 = 7)  (hH : HS D B Y w s H locs) (hl : lv_has ls 6 [(0, .ref (B + 639)), (1, .ref (B + v1)), (3, .int v3), (4, .int v4)]) (hf : f_X1_startFor_5 v1 v3 v4 w = some z) : W p l e (RM 2 0 0) s m args below meth c H locs 0 0 (MQ below (QG D B Y (some (.int z.1)) z.2 True) args s 0 0 (AB B)) (F0 m 5 ls []) := by
  exact loopN_ind (z := z) (body := fun rc σ => g_X1_startFor_5 rc  σ.1 σ.2.1 σ.2.2.1 σ.2.2.2)
    (P := fun σ => KD σ.1 = 7 → ∀ (H : Heap) (locs : List Loc) (ls : Array Slot), HS D B Y σ.2.2.2 s H locs → lv_has ls 6 [(0, .ref (B + 639)), (1, .ref (B + σ.1)), (3, .int σ.2.1), (4, .int σ.2.2.1)] → W p l e (RM 2 0 0) s m args below meth c H locs 0 0 (MQ below (QG D B Y (some (.int z.1)) z.2 True) args s 0 0 (AB B)) (F0 m 5 ls []))
    (fun rc hrec σ hf k_v1 H locs ls hH hl => tb_X1_startFor_5 C (fun v1 v3 v4 w hr k_v1 H locs ls hH hl => hrec (v1, v3, v4, w) hr k_v1 H locs ls hH hl)  k_v1 hH hl hf) FU (v1, v3, v4, w) hf k_v1 H locs ls hH hl
set_option maxRecDepth 100000 in
set_option maxHeartbeats 4000000 in
theorem t_X1_startFor_0 {D : va_G} {B : Nat} {Y : Nat → ClassId} {p : Program} {l : Launch} {e : Env} {s : State} {m : MethodId} {args : Array Value} {below : List Frame} {meth : Method} {c : Code} {z : (Int32 × Wd)} {H : Heap} {locs : List Loc} {ls : Array Slot} {w : Wd} {v1 : Nat} {v2 : Int32} {v3 : Int32} (C : CX D B Y p s m args meth c cX1_startFor 6 RX1 (some .int))   (k_v1 : KD v1 = 7)  (hH : HS D B Y w s H locs) (hl : lv_has ls 6 [(0, .ref (B + 639)), (1, .ref (B + v1)), (2, .int v2), (3, .int v3)]) (hf : f_X1_startFor v1 v2 v3 w = some z) : W p l e (RM 2 0 0) s m args below meth c H locs 0 0 (MQ below (QG D B Y (some (.int z.1)) z.2 True) args s 0 0 (AB B)) (F0 m 0 ls []) := by
  have hx := C.1
  have hb := C.2.1
  unfold f_X1_startFor at hf
  refine lv_iload_n hx hb dX1_startFor_0 rfl (lv_at hl 2 rfl) ?_
  refine lv_iconst (v := (1 : Int32)) hx hb dX1_startFor_1 (by decide) ?_
  refine lv_isub hx hb dX1_startFor_2 ?_
  refine b_leti hf (fun x1 hf => ?_)
  refine lv_istore (lv' := [(4, .int x1), (0, .ref (B + 639)), (1, .ref (B + v1)), (2, .int v2), (3, .int v3)]) hx hb dX1_startFor_3 hl (by decide) rfl (fun ls hl => ?_)
  exact t_X1_startFor_5 C k_v1 hH (lv_sub hl [1, 2, 4, 0] rfl) hf
set_option maxRecDepth 100000 in
theorem c_X1_startFor {l : Launch} {D : va_G} {B : Nat} {Y : Nat → ClassId} {v1 : Nat} {v2 : Int32} {v3 : Int32} {w : Wd} {r : Int32} {w1 : Wd} (k_v1 : KD v1 = 7)  (hf : f_X1_startFor v1 v2 v3 w = some (r, w1)) : CM l D B Y yX1_startFor cX1_startFor 6 (some .int) 2 [.ref (B + 639), .ref (B + v1), .int v2, .int v3] w (some (.int r)) w1 True :=
  CM_of (by decide +kernel) (Nat.le_of_ble_eq_true rfl) (fun p e s m args below meth c ls C hH hl => t_X1_startFor_0 C k_v1 hH (lv_sub hl [0, 1, 2, 3] rfl) hf)
/-! LetterTables$Tables.joinedOf -/
set_option maxRecDepth 100000 in
set_option maxHeartbeats 4000000 in
theorem tb_X9_joinedOf_2 {D : va_G} {B : Nat} {Y : Nat → ClassId} {p : Program} {l : Launch} {e : Env} {s : State} {m : MethodId} {args : Array Value} {below : List Frame} {meth : Method} {c : Code} {z : (Int32 × Wd)} {H : Heap} {locs : List Loc} {ls : Array Slot} {w : Wd} {v0 : Nat} {v1 : Int32} {v2 : Int32} {v3 : Int32} (C : CX D B Y p s m args meth c cX9_joinedOf 4 RX9 (some .int))  {rc_2 : Nat × Int32 × Int32 × Int32 × Wd → Option (Int32 × Wd)} (hr_2 : ∀ (v0 : Nat) (v1 : Int32) (v2 : Int32) (v3 : Int32) (w : Wd), rc_2 (v0, v1, v2, v3, w) = some z → KD v0 = 9 → ∀ (H : Heap) (locs : List Loc) (ls : Array Slot), HS D B Y w s H locs → lv_has ls 4 [(0, .ref (B + v0)), (1, .int v1), (2, .int v2), (3, .int v3)] → W p l e (RM 2 0 0) s m args below meth c H locs 0 0 (MQ below (QG D B Y (some (.int z.1)) z.2 True) args s 0 0 (AB B)) (F0 m 2 ls []))  (k_v0 : KD v0 = 9)  (hH : HS D B Y w s H locs) (hl : lv_has ls 4 [(0, .ref (B + v0)), (1, .int v1), (2, .int v2), (3, .int v3)]) (hf : g_X9_joinedOf_2 rc_2 v0 v1 v2 v3 w = some z) : W p l e (RM 2 0 0) s m args below meth c H locs 0 0 (MQ below (QG D B Y (some (.int z.1)) z.2 True) args s 0 0 (AB B)) (F0 m 2 ls []) := by
  have hx := C.1
  have hb := C.2.1
  unfold g_X9_joinedOf_2 at hf
  refine lv_iload_n hx hb dX9_joinedOf_2 rfl (lv_at hl 3 rfl) ?_
  refine lv_bipush (v := (96 : Int32)) hx hb dX9_joinedOf_3 (by decide) ?_
  refine b_icmp_ge (tgt := 34) hx hb hf dX9_joinedOf_5 (by decide) (fun hf => ?_) (fun hf => ?_)
  · refine lv_iconst (v := (-1 : Int32)) hx hb dX9_joinedOf_34 (by decide) ?_
    cases hf
    exact q_reti C hH trivial dX9_joinedOf_35
  · refine lv_aload_n hx hb dX9_joinedOf_8 rfl (lv_at hl 0 rfl) ?_
    refine lv_iload_n hx hb dX9_joinedOf_9 rfl (lv_at hl 3 rfl) ?_
    obtain ⟨x2, w1, hc, hf⟩ := bd_some hf
    refine q_callV1 (v := .int x2) (As := [.int v3]) C hH (ci := 9) rfl (by omega) gk_X9_103 yd_X9_splitOneOf (by omega) (by omega) k_v0 (c_X9_splitOneOf k_v0 hc) hl.1 rfl (Nat.le_of_ble_eq_true rfl) dX9_joinedOf_10 xv_00 (fun H locs hH hP => ?_)
    refine lv_iload_n hx hb dX9_joinedOf_13 rfl (lv_at hl 1 rfl) ?_
    refine b_icmp_ne (tgt := 28) hx hb hf dX9_joinedOf_14 (by decide) (fun hf => ?_) (fun hf => ?_)
    · refine b_let hf (fun x3 he hf => ?_)
      refine lv_iinc (v := x3) (lv' := [(3, .int x3), (0, .ref (B + v0)), (1, .int v1), (2, .int v2)]) hx hb dX9_joinedOf_28 hl (k := 3) rfl (by rw [← he]; rfl) (by decide) rfl (fun ls hl => ?_)
      refine lv_goto (tgt := 2) hx hb dX9_joinedOf_31 (by decide) ?_
      exact hr_2 v0 v1 v2 x3 w1 hf k_v0 _ _ _ hH (lv_sub hl [1, 2, 3, 0] rfl)
    · refine lv_aload_n hx hb dX9_joinedOf_17 rfl (lv_at hl 0 rfl) ?_
      refine lv_iload_n hx hb dX9_joinedOf_18 rfl (lv_at hl 3 rfl) ?_
      obtain ⟨x5, w4, hc, hf⟩ := bd_some hf
      refine q_callV1 (v := .int x5) (As := [.int v3]) C hH (ci := 9) rfl (by omega) gk_X9_106 yd_X9_splitOtherOf (by omega) (by omega) k_v0 (c_X9_splitOtherOf k_v0 hc) hl.1 rfl (Nat.le_of_ble_eq_true rfl) dX9_joinedOf_19 xv_00 (fun H locs hH hP => ?_)
      refine lv_iload_n hx hb dX9_joinedOf_22 rfl (lv_at hl 2 rfl) ?_
      refine b_icmp_ne (tgt := 28) hx hb hf dX9_joinedOf_23 (by decide) (fun hf => ?_) (fun hf => ?_)
      · refine b_let hf (fun x6 he hf => ?_)
        refine lv_iinc (v := x6) (lv' := [(3, .int x6), (0, .ref (B + v0)), (1, .int v1), (2, .int v2)]) hx hb dX9_joinedOf_28 hl (k := 3) rfl (by rw [← he]; rfl) (by decide) rfl (fun ls hl => ?_)
        refine lv_goto (tgt := 2) hx hb dX9_joinedOf_31 (by decide) ?_
        exact hr_2 v0 v1 v2 x6 w4 hf k_v0 _ _ _ hH (lv_sub hl [1, 2, 3, 0] rfl)
      · refine lv_iload_n hx hb dX9_joinedOf_26 rfl (lv_at hl 3 rfl) ?_
        cases hf
        exact q_reti C hH trivial dX9_joinedOf_27
set_option maxRecDepth 100000 in
set_option maxHeartbeats 4000000 in
theorem t_X9_joinedOf_2 {D : va_G} {B : Nat} {Y : Nat → ClassId} {p : Program} {l : Launch} {e : Env} {s : State} {m : MethodId} {args : Array Value} {below : List Frame} {meth : Method} {c : Code} {z : (Int32 × Wd)} {H : Heap} {locs : List Loc} {ls : Array Slot} {w : Wd} {v0 : Nat} {v1 : Int32} {v2 : Int32} {v3 : Int32} (C : CX D B Y p s m args meth c cX9_joinedOf 4 RX9 (some .int))   (k_v0 : KD v0 = 9)  (hH : HS D B Y w s H locs) (hl : lv_has ls 4 [(0, .ref (B + v0)), (1, .int v1), (2, .int v2), (3, .int v3)]) (hf : f_X9_joinedOf_2 v0 v1 v2 v3 w = some z) : W p l e (RM 2 0 0) s m args below meth c H locs 0 0 (MQ below (QG D B Y (some (.int z.1)) z.2 True) args s 0 0 (AB B)) (F0 m 2 ls []) := by
  exact loopN_ind (z := z) (body := fun rc σ => g_X9_joinedOf_2 rc  σ.1 σ.2.1 σ.2.2.1 σ.2.2.2.1 σ.2.2.2.2)
    (P := fun σ => KD σ.1 = 9 → ∀ (H : Heap) (locs : List Loc) (ls : Array Slot), HS D B Y σ.2.2.2.2 s H locs → lv_has ls 4 [(0, .ref (B + σ.1)), (1, .int σ.2.1), (2, .int σ.2.2.1), (3, .int σ.2.2.2.1)] → W p l e (RM 2 0 0) s m args below meth c H locs 0 0 (MQ below (QG D B Y (some (.int z.1)) z.2 True) args s 0 0 (AB B)) (F0 m 2 ls []))
    (fun rc hrec σ hf k_v0 H locs ls hH hl => tb_X9_joinedOf_2 C (fun v0 v1 v2 v3 w hr k_v0 H locs ls hH hl => hrec (v0, v1, v2, v3, w) hr k_v0 H locs ls hH hl)  k_v0 hH hl hf) FU (v0, v1, v2, v3, w) hf k_v0 H locs ls hH hl
set_option maxRecDepth 100000 in
set_option maxHeartbeats 4000000 in
theorem t_X9_joinedOf_0 {D : va_G} {B : Nat} {Y : Nat → ClassId} {p : Program} {l : Launch} {e : Env} {s : State} {m : MethodId} {args : Array Value} {below : List Frame} {meth : Method} {c : Code} {z : (Int32 × Wd)} {H : Heap} {locs : List Loc} {ls : Array Slot} {w : Wd} {v0 : Nat} {v1 : Int32} {v2 : Int32} (C : CX D B Y p s m args meth c cX9_joinedOf 4 RX9 (some .int))   (k_v0 : KD v0 = 9)  (hH : HS D B Y w s H locs) (hl : lv_has ls 4 [(0, .ref (B + v0)), (1, .int v1), (2, .int v2)]) (hf : f_X9_joinedOf v0 v1 v2 w = some z) : W p l e (RM 2 0 0) s m args below meth c H locs 0 0 (MQ below (QG D B Y (some (.int z.1)) z.2 True) args s 0 0 (AB B)) (F0 m 0 ls []) := by
  have hx := C.1
  have hb := C.2.1
  unfold f_X9_joinedOf at hf
  refine lv_iconst (v := (0 : Int32)) hx hb dX9_joinedOf_0 (by decide) ?_
  refine lv_istore_n (lv' := [(3, .int (0 : Int32)), (0, .ref (B + v0)), (1, .int v1), (2, .int v2)]) hx hb dX9_joinedOf_1 rfl hl (by decide) rfl (fun ls hl => ?_)
  exact t_X9_joinedOf_2 C k_v0 hH (lv_sub hl [1, 2, 3, 0] rfl) hf
set_option maxRecDepth 100000 in
theorem c_X9_joinedOf {l : Launch} {D : va_G} {B : Nat} {Y : Nat → ClassId} {v0 : Nat} {v1 : Int32} {v2 : Int32} {w : Wd} {r : Int32} {w1 : Wd} (k_v0 : KD v0 = 9)  (hf : f_X9_joinedOf v0 v1 v2 w = some (r, w1)) : CM l D B Y yX9_joinedOf cX9_joinedOf 4 (some .int) 2 [.ref (B + v0), .int v1, .int v2] w (some (.int r)) w1 True :=
  CM_of (by decide +kernel) (Nat.le_of_ble_eq_true rfl) (fun p e s m args below meth c ls C hH hl => t_X9_joinedOf_0 C k_v0 hH (lv_sub hl [0, 1, 2] rfl) hf)
/-! LetterTables$Forms.joinInto -/
set_option maxRecDepth 100000 in
set_option maxHeartbeats 4000000 in
theorem t_X1_joinInto_87 {D : va_G} {B : Nat} {Y : Nat → ClassId} {p : Program} {l : Launch} {e : Env} {s : State} {m : MethodId} {args : Array Value} {below : List Frame} {meth : Method} {c : Code} {z : (Int32 × Wd)} {H : Heap} {locs : List Loc} {ls : Array Slot} {w : Wd} {v2 : Nat} {v3 : Int32} {v4 : Int32} {v5 : Int32} {v6 : Int32} {t0 : Int32} (C : CX D B Y p s m args meth c cX1_joinInto 8 RX1 (some .boolean))  {rc_28 : Nat × Int32 × Int32 × Wd → Option (Int32 × Wd)} (hr_28 : ∀ (v2 : Nat) (v3 : Int32) (v4 : Int32) (w : Wd), rc_28 (v2, v3, v4, w) = some z → KD v2 = 7 → ∀ (H : Heap) (locs : List Loc) (ls : Array Slot), HS D B Y w s H locs → lv_has ls 8 [(0, .ref (B + 639)), (2, .ref (B + v2)), (3, .int v3), (4, .int v4)] → W p l e (RM 4 0 0) s m args below meth c H locs 0 0 (MQ below (QG D B Y (some (.int z.1)) z.2 (isZ z.1)) args s 0 0 (AB B)) (F0 m 28 ls []))  (k_v2 : KD v2 = 7)  (hH : HS D B Y w s H locs) (hl : lv_has ls 8 [(0, .ref (B + 639)), (2, .ref (B + v2)), (3, .int v3), (4, .int v4), (5, .int v5), (6, .int v6)]) (hf : f_X1_joinInto_87 rc_28 v2 v3 v4 v5 v6 t0 w = some z) : W p l e (RM 4 0 0) s m args below meth c H locs 0 0 (MQ below (QG D B Y (some (.int z.1)) z.2 (isZ z.1)) args s 0 0 (AB B)) (F0 m 87 ls [.int t0]) := by
  have hx := C.1
  have hb := C.2.1
  unfold f_X1_joinInto_87 at hf
  refine lv_istore (lv' := [(7, .int t0), (0, .ref (B + 639)), (2, .ref (B + v2)), (3, .int v3), (4, .int v4), (5, .int v5), (6, .int v6)]) hx hb dX1_joinInto_87 hl (by decide) rfl (fun ls hl => ?_)
  refine lv_iload hx hb dX1_joinInto_89 (lv_at hl 0 rfl) ?_
  refine lv_iconst (v := (-1 : Int32)) hx hb dX1_joinInto_91 (by decide) ?_
  refine b_icmp_ne (tgt := 108) hx hb hf dX1_joinInto_92 (by decide) (fun hf => ?_) (fun hf => ?_)
  · refine lv_aload_n hx hb dX1_joinInto_108 rfl (lv_at hl 2 rfl) ?_
    refine lv_iload hx hb dX1_joinInto_109 (lv_at hl 6 rfl) ?_
    refine lv_iload hx hb dX1_joinInto_111 (lv_at hl 0 rfl) ?_
    obtain ⟨u, w1, hc, hf⟩ := bd_some hf
    refine q_callV0 (As := [.int v6, .int t0]) C hH (ci := 7) rfl (by omega) gk_X1_86 yd_X7_set (by omega) (by omega) k_v2 (c_X7_set k_v2 hc) hl.1 rfl (Nat.le_of_ble_eq_true rfl) dX1_joinInto_113 xv_00 (fun H locs hH hP => ?_)
    refine b_let hf (fun x2 he hf => ?_)
    refine lv_iinc (v := x2) (lv' := [(4, .int x2), (7, .int t0), (0, .ref (B + 639)), (2, .ref (B + v2)), (3, .int v3), (5, .int v5), (6, .int v6)]) hx hb dX1_joinInto_116 hl (k := 4) rfl (by rw [← he]; rfl) (by decide) rfl (fun ls hl => ?_)
    refine lv_goto (tgt := 28) hx hb dX1_joinInto_119 (by decide) ?_
    exact hr_28 v2 v3 x2 w1 hf k_v2 _ _ _ hH (lv_sub hl [2, 3, 4, 0] rfl)
  · refine lv_aload_n hx hb dX1_joinInto_95 rfl (lv_at hl 2 rfl) ?_
    refine lv_iload_n hx hb dX1_joinInto_96 rfl (lv_at hl 3 rfl) ?_
    refine lv_iload hx hb dX1_joinInto_97 (lv_at hl 5 rfl) ?_
    obtain ⟨u, w3, hc, hf⟩ := bd_some hf
    refine q_callV0 (As := [.int v3, .int v5]) C hH (ci := 7) rfl (by omega) gk_X1_86 yd_X7_set (by omega) (by omega) k_v2 (c_X7_set k_v2 hc) hl.1 rfl (Nat.le_of_ble_eq_true rfl) dX1_joinInto_99 xv_00 (fun H locs hH hP => ?_)
    refine b_let hf (fun x4 he hf => ?_)
    refine lv_iinc (v := x4) (lv' := [(3, .int x4), (7, .int t0), (0, .ref (B + 639)), (2, .ref (B + v2)), (4, .int v4), (5, .int v5), (6, .int v6)]) hx hb dX1_joinInto_102 hl (k := 3) rfl (by rw [← he]; rfl) (by decide) rfl (fun ls hl => ?_)
    refine lv_goto (tgt := 116) hx hb dX1_joinInto_105 (by decide) ?_
    refine b_let hf (fun x5 he hf => ?_)
    refine lv_iinc (v := x5) (lv' := [(4, .int x5), (3, .int x4), (7, .int t0), (0, .ref (B + 639)), (2, .ref (B + v2)), (5, .int v5), (6, .int v6)]) hx hb dX1_joinInto_116 hl (k := 4) rfl (by rw [← he]; rfl) (by decide) rfl (fun ls hl => ?_)
    refine lv_goto (tgt := 28) hx hb dX1_joinInto_119 (by decide) ?_
    exact hr_28 v2 x4 x5 w3 hf k_v2 _ _ _ hH (lv_sub hl [3, 4, 1, 0] rfl)
set_option maxRecDepth 100000 in
set_option maxHeartbeats 4000000 in
theorem tb_X1_joinInto_28 {D : va_G} {B : Nat} {Y : Nat → ClassId} {p : Program} {l : Launch} {e : Env} {s : State} {m : MethodId} {args : Array Value} {below : List Frame} {meth : Method} {c : Code} {z : (Int32 × Wd)} {H : Heap} {locs : List Loc} {ls : Array Slot} {w : Wd} {v2 : Nat} {v3 : Int32} {v4 : Int32} (C : CX D B Y p s m args meth c cX1_joinInto 8 RX1 (some .boolean))  {rc_28 : Nat × Int32 × Int32 × Wd → Option (Int32 × Wd)} (hr_28 : ∀ (v2 : Nat) (v3 : Int32) (v4 : Int32) (w : Wd), rc_28 (v2, v3, v4, w) = some z → KD v2 = 7 → ∀ (H : Heap) (locs : List Loc) (ls : Array Slot), HS D B Y w s H locs → lv_has ls 8 [(0, .ref (B + 639)), (2, .ref (B + v2)), (3, .int v3), (4, .int v4)] → W p l e (RM 4 0 0) s m args below meth c H locs 0 0 (MQ below (QG D B Y (some (.int z.1)) z.2 (isZ z.1)) args s 0 0 (AB B)) (F0 m 28 ls []))  (k_v2 : KD v2 = 7)  (hH : HS D B Y w s H locs) (hl : lv_has ls 8 [(0, .ref (B + 639)), (2, .ref (B + v2)), (3, .int v3), (4, .int v4)]) (hf : g_X1_joinInto_28 rc_28 v2 v3 v4 w = some z) : W p l e (RM 4 0 0) s m args below meth c H locs 0 0 (MQ below (QG D B Y (some (.int z.1)) z.2 (isZ z.1)) args s 0 0 (AB B)) (F0 m 28 ls []) := by
  have hx := C.1
  have hb := C.2.1
  unfold g_X1_joinInto_28 at hf
  refine lv_iload hx hb dX1_joinInto_28 (lv_at hl 3 rfl) ?_
  refine lv_aload_n hx hb dX1_joinInto_30 rfl (lv_at hl 1 rfl) ?_
  obtain ⟨x2, w1, hc, hf⟩ := bd_some hf
  refine q_callV1 (v := .int x2) (As := []) C hH (ci := 7) rfl (by omega) gk_X1_52 yd_X7_size (by omega) (by omega) k_v2 (c_X7_size k_v2 hc) hl.1 rfl (Nat.le_of_ble_eq_true rfl) dX1_joinInto_31 xv_00 (fun H locs hH hP => ?_)
  refine b_icmp_ge (tgt := 122) hx hb hf dX1_joinInto_34 (by decide) (fun hf => ?_) (fun hf => ?_)
  · refine lv_aload_n hx hb dX1_joinInto_122 rfl (lv_at hl 1 rfl) ?_
    refine lv_iload_n hx hb dX1_joinInto_123 rfl (lv_at hl 2 rfl) ?_
    obtain ⟨u, w3, hc, hf⟩ := bd_some hf
    refine q_callV0 (As := [.int v3]) C hH (ci := 7) rfl (by omega) gk_X1_49 yd_X7_cutTo (by omega) (by omega) k_v2 (c_X7_cutTo k_v2 hc) hl.1 rfl (Nat.le_of_ble_eq_true rfl) dX1_joinInto_124 xv_00 (fun H locs hH hP => ?_)
    refine lv_iconst (v := (1 : Int32)) hx hb dX1_joinInto_127 (by decide) ?_
    cases hf
    exact q_retz C hH isZ_1 isZ_1 dX1_joinInto_128
  · refine lv_aload_n hx hb dX1_joinInto_37 rfl (lv_at hl 1 rfl) ?_
    refine lv_iload hx hb dX1_joinInto_38 (lv_at hl 3 rfl) ?_
    obtain ⟨x5, w4, hc, hf⟩ := bd_some hf
    refine q_callV1 (v := .int x5) (As := [.int v4]) C hH (ci := 7) rfl (by omega) gk_X1_56 yd_X7_get (by omega) (by omega) k_v2 (c_X7_get k_v2 hc) hl.1 rfl (Nat.le_of_ble_eq_true rfl) dX1_joinInto_40 xv_00 (fun H locs hH hP => ?_)
    refine lv_istore (lv' := [(5, .int x5), (0, .ref (B + 639)), (2, .ref (B + v2)), (3, .int v3), (4, .int v4)]) hx hb dX1_joinInto_43 hl (by decide) rfl (fun ls hl => ?_)
    refine lv_aload_n hx hb dX1_joinInto_45 rfl (lv_at hl 1 rfl) ?_
    refine lv_aload_n hx hb dX1_joinInto_46 rfl (lv_at hl 2 rfl) ?_
    refine lv_iload_n hx hb dX1_joinInto_47 rfl (lv_at hl 3 rfl) ?_
    refine lv_aload_n hx hb dX1_joinInto_48 rfl (lv_at hl 1 rfl) ?_
    refine fg_X1_9 C hH dX1_joinInto_49 ?_
    refine lv_iload hx hb dX1_joinInto_52 (lv_at hl 0 rfl) ?_
    obtain ⟨x7, w6, hc, hf⟩ := bd_some hf
    refine q_callV1 (v := .int x7) (As := [.int x5]) C hH (ci := 9) rfl (by omega) gk_X1_83 yd_X9_joinsOf (by omega) (by omega) kc_1 (c_X9_joinsOf kc_1 hc) hl.1 rfl (Nat.le_of_ble_eq_true rfl) dX1_joinInto_54 xv_00 (fun H locs hH hP => ?_)
    obtain ⟨x9, w8, hc, hf⟩ := bd_some hf
    refine q_callV1 (v := .int x9) (As := [.ref (B + v2), .int v3, .int x7]) C hH (ci := 1) rfl (by omega) gk_X1_90 yd_X1_startFor (by omega) (by omega) kc_639 (c_X1_startFor k_v2 hc) hl.1 rfl (Nat.le_of_ble_eq_true rfl) dX1_joinInto_57 xv_00 (fun H locs hH hP => ?_)
    refine lv_istore (lv' := [(6, .int x9), (5, .int x5), (0, .ref (B + 639)), (2, .ref (B + v2)), (3, .int v3), (4, .int v4)]) hx hb dX1_joinInto_60 hl (by decide) rfl (fun ls hl => ?_)
    refine lv_iload hx hb dX1_joinInto_62 (lv_at hl 0 rfl) ?_
    refine lv_iconst (v := (-1 : Int32)) hx hb dX1_joinInto_64 (by decide) ?_
    refine b_icmp_ne (tgt := 72) hx hb hf dX1_joinInto_65 (by decide) (fun hf => ?_) (fun hf => ?_)
    · refine lv_aload_n hx hb dX1_joinInto_72 rfl (lv_at hl 2 rfl) ?_
      refine fg_X1_9 C hH dX1_joinInto_73 ?_
      refine lv_aload_n hx hb dX1_joinInto_76 rfl (lv_at hl 3 rfl) ?_
      refine lv_iload hx hb dX1_joinInto_77 (lv_at hl 0 rfl) ?_
      obtain ⟨x11, w10, hc, hf⟩ := bd_some hf
      refine q_callV1 (v := .int x11) (As := [.int x9]) C hH (ci := 7) rfl (by omega) gk_X1_56 yd_X7_get (by omega) (by omega) k_v2 (c_X7_get k_v2 hc) hl.1 rfl (Nat.le_of_ble_eq_true rfl) dX1_joinInto_79 xv_00 (fun H locs hH hP => ?_)
      refine lv_iload hx hb dX1_joinInto_82 (lv_at hl 1 rfl) ?_
      obtain ⟨x13, w12, hc, hf⟩ := bd_some hf
      refine q_callV1 (v := .int x13) (As := [.int x11, .int x5]) C hH (ci := 9) rfl (by omega) gk_X1_94 yd_X9_joinedOf (by omega) (by omega) kc_1 (c_X9_joinedOf kc_1 hc) hl.1 rfl (Nat.le_of_ble_eq_true rfl) dX1_joinInto_84 xv_00 (fun H locs hH hP => ?_)
      exact t_X1_joinInto_87 C hr_28 k_v2 hH (lv_sub hl [2, 3, 4, 5, 1, 0] rfl) hf
    · refine lv_iconst (v := (-1 : Int32)) hx hb dX1_joinInto_68 (by decide) ?_
      refine lv_goto (tgt := 87) hx hb dX1_joinInto_69 (by decide) ?_
      exact t_X1_joinInto_87 C hr_28 k_v2 hH (lv_sub hl [2, 3, 4, 5, 1, 0] rfl) hf
set_option maxRecDepth 100000 in
set_option maxHeartbeats 4000000 in
theorem t_X1_joinInto_28 {D : va_G} {B : Nat} {Y : Nat → ClassId} {p : Program} {l : Launch} {e : Env} {s : State} {m : MethodId} {args : Array Value} {below : List Frame} {meth : Method} {c : Code} {z : (Int32 × Wd)} {H : Heap} {locs : List Loc} {ls : Array Slot} {w : Wd} {v2 : Nat} {v3 : Int32} {v4 : Int32} (C : CX D B Y p s m args meth c cX1_joinInto 8 RX1 (some .boolean))   (k_v2 : KD v2 = 7)  (hH : HS D B Y w s H locs) (hl : lv_has ls 8 [(0, .ref (B + 639)), (2, .ref (B + v2)), (3, .int v3), (4, .int v4)]) (hf : f_X1_joinInto_28 v2 v3 v4 w = some z) : W p l e (RM 4 0 0) s m args below meth c H locs 0 0 (MQ below (QG D B Y (some (.int z.1)) z.2 (isZ z.1)) args s 0 0 (AB B)) (F0 m 28 ls []) := by
  exact loopN_ind (z := z) (body := fun rc σ => g_X1_joinInto_28 rc  σ.1 σ.2.1 σ.2.2.1 σ.2.2.2)
    (P := fun σ => KD σ.1 = 7 → ∀ (H : Heap) (locs : List Loc) (ls : Array Slot), HS D B Y σ.2.2.2 s H locs → lv_has ls 8 [(0, .ref (B + 639)), (2, .ref (B + σ.1)), (3, .int σ.2.1), (4, .int σ.2.2.1)] → W p l e (RM 4 0 0) s m args below meth c H locs 0 0 (MQ below (QG D B Y (some (.int z.1)) z.2 (isZ z.1)) args s 0 0 (AB B)) (F0 m 28 ls []))
    (fun rc hrec σ hf k_v2 H locs ls hH hl => tb_X1_joinInto_28 C (fun v2 v3 v4 w hr k_v2 H locs ls hH hl => hrec (v2, v3, v4, w) hr k_v2 H locs ls hH hl)  k_v2 hH hl hf) FU (v2, v3, v4, w) hf k_v2 H locs ls hH hl
set_option maxRecDepth 100000 in
set_option maxHeartbeats 4000000 in
theorem t_X1_joinInto_24 {D : va_G} {B : Nat} {Y : Nat → ClassId} {p : Program} {l : Launch} {e : Env} {s : State} {m : MethodId} {args : Array Value} {below : List Frame} {meth : Method} {c : Code} {z : (Int32 × Wd)} {H : Heap} {locs : List Loc} {ls : Array Slot} {w : Wd} {v2 : Nat} {t0 : Int32} (C : CX D B Y p s m args meth c cX1_joinInto 8 RX1 (some .boolean))   (k_v2 : KD v2 = 7) (z_t0 : isZ t0) (hH : HS D B Y w s H locs) (hl : lv_has ls 8 [(0, .ref (B + 639)), (2, .ref (B + v2))]) (hf : f_X1_joinInto_24 v2 t0 w = some z) : W p l e (RM 4 0 0) s m args below meth c H locs 0 0 (MQ below (QG D B Y (some (.int z.1)) z.2 (isZ z.1)) args s 0 0 (AB B)) (F0 m 24 ls [.int t0]) := by
  have hx := C.1
  have hb := C.2.1
  unfold f_X1_joinInto_24 at hf
  refine lv_istore_n (lv' := [(3, .int t0), (0, .ref (B + 639)), (2, .ref (B + v2))]) hx hb dX1_joinInto_24 rfl hl (by decide) rfl (fun ls hl => ?_)
  refine lv_iconst (v := (1 : Int32)) hx hb dX1_joinInto_25 (by decide) ?_
  refine lv_istore (lv' := [(4, .int (1 : Int32)), (3, .int t0), (0, .ref (B + 639)), (2, .ref (B + v2))]) hx hb dX1_joinInto_26 hl (by decide) rfl (fun ls hl => ?_)
  exact t_X1_joinInto_28 C k_v2 hH (lv_sub hl [2, 3, 1, 0] rfl) hf
set_option maxRecDepth 100000 in
set_option maxHeartbeats 4000000 in
theorem t_X1_joinInto_0 {D : va_G} {B : Nat} {Y : Nat → ClassId} {p : Program} {l : Launch} {e : Env} {s : State} {m : MethodId} {args : Array Value} {below : List Frame} {meth : Method} {c : Code} {z : (Int32 × Wd)} {H : Heap} {locs : List Loc} {ls : Array Slot} {w : Wd} {v1 : Nat} {v2 : Nat} (C : CX D B Y p s m args meth c cX1_joinInto 8 RX1 (some .boolean))   (k_v1 : KD v1 = 7) (k_v2 : KD v2 = 7)  (hH : HS D B Y w s H locs) (hl : lv_has ls 8 [(0, .ref (B + 639)), (1, .ref (B + v1)), (2, .ref (B + v2))]) (hf : f_X1_joinInto v1 v2 w = some z) : W p l e (RM 4 0 0) s m args below meth c H locs 0 0 (MQ below (QG D B Y (some (.int z.1)) z.2 (isZ z.1)) args s 0 0 (AB B)) (F0 m 0 ls []) := by
  have hx := C.1
  have hb := C.2.1
  unfold f_X1_joinInto at hf
  refine lv_aload_n hx hb dX1_joinInto_0 rfl (lv_at hl 0 rfl) ?_
  refine lv_aload_n hx hb dX1_joinInto_1 rfl (lv_at hl 1 rfl) ?_
  refine lv_aload_n hx hb dX1_joinInto_2 rfl (lv_at hl 2 rfl) ?_
  obtain ⟨x2, w1, hc, hf⟩ := bd_some hf
  refine q_callV1 (v := .int x2) (As := [.ref (B + v1), .ref (B + v2)]) C hH (ci := 1) rfl (by omega) gk_X1_36 yd_X1_splitInto (by omega) (by omega) kc_639 (c_X1_splitInto k_v1 k_v2 hc) hl.1 rfl (Nat.le_of_ble_eq_true rfl) dX1_joinInto_3 xv_00 (fun H locs hH z_x2 => ?_)
  refine b_if_ne (tgt := 11) hx hb hf dX1_joinInto_6 (by decide) (fun hf => ?_) (fun hf => ?_)
  · refine lv_aload_n hx hb dX1_joinInto_11 rfl (lv_at hl 2 rfl) ?_
    obtain ⟨x4, w3, hc, hf⟩ := bd_some hf
    refine q_callV1 (v := .int x4) (As := []) C hH (ci := 7) rfl (by omega) gk_X1_52 yd_X7_size (by omega) (by omega) k_v2 (c_X7_size k_v2 hc) hl.1 rfl (Nat.le_of_ble_eq_true rfl) dX1_joinInto_12 xv_00 (fun H locs hH hP => ?_)
    refine lv_iconst (v := (1 : Int32)) hx hb dX1_joinInto_15 (by decide) ?_
    refine b_icmp_ge (tgt := 23) hx hb hf dX1_joinInto_16 (by decide) (fun hf => ?_) (fun hf => ?_)
    · refine lv_iconst (v := (1 : Int32)) hx hb dX1_joinInto_23 (by decide) ?_
      exact t_X1_joinInto_24 C k_v2 isZ_1 hH (lv_sub hl [0, 2] rfl) hf
    · refine lv_iconst (v := (0 : Int32)) hx hb dX1_joinInto_19 (by decide) ?_
      refine lv_goto (tgt := 24) hx hb dX1_joinInto_20 (by decide) ?_
      exact t_X1_joinInto_24 C k_v2 isZ_0 hH (lv_sub hl [0, 2] rfl) hf
  · refine lv_iconst (v := (0 : Int32)) hx hb dX1_joinInto_9 (by decide) ?_
    cases hf
    exact q_retz C hH isZ_0 isZ_0 dX1_joinInto_10
set_option maxRecDepth 100000 in
theorem c_X1_joinInto {l : Launch} {D : va_G} {B : Nat} {Y : Nat → ClassId} {v1 : Nat} {v2 : Nat} {w : Wd} {r : Int32} {w1 : Wd} (k_v1 : KD v1 = 7) (k_v2 : KD v2 = 7)  (hf : f_X1_joinInto v1 v2 w = some (r, w1)) : CM l D B Y yX1_joinInto cX1_joinInto 8 (some .boolean) 4 [.ref (B + 639), .ref (B + v1), .ref (B + v2)] w (some (.int r)) w1 (isZ r) :=
  CM_of (by decide +kernel) (Nat.le_of_ble_eq_true rfl) (fun p e s m args below meth c ls C hH hl => t_X1_joinInto_0 C k_v1 k_v2 hH (lv_sub hl [0, 1, 2] rfl) hf)
/-! LetterTables$Tables.capitalOneOf -/
set_option maxRecDepth 100000 in
set_option maxHeartbeats 4000000 in
theorem t_X9_capitalOneOf_0 {D : va_G} {B : Nat} {Y : Nat → ClassId} {p : Program} {l : Launch} {e : Env} {s : State} {m : MethodId} {args : Array Value} {below : List Frame} {meth : Method} {c : Code} {z : (Int32 × Wd)} {H : Heap} {locs : List Loc} {ls : Array Slot} {w : Wd} {v0 : Nat} {v1 : Int32} (C : CX D B Y p s m args meth c cX9_capitalOneOf 2 RX9 (some .int))   (k_v0 : KD v0 = 9)  (hH : HS D B Y w s H locs) (hl : lv_has ls 2 [(0, .ref (B + v0)), (1, .int v1)]) (hf : f_X9_capitalOneOf v0 v1 w = some z) : W p l e (RM 1 0 0) s m args below meth c H locs 0 0 (MQ below (QG D B Y (some (.int z.1)) z.2 True) args s 0 0 (AB B)) (F0 m 0 ls []) := by
  have hx := C.1
  have hb := C.2.1
  unfold f_X9_capitalOneOf at hf
  refine lv_aload_n hx hb dX9_capitalOneOf_0 rfl (lv_at hl 0 rfl) ?_
  refine fg_X9_30 C hH k_v0 dX9_capitalOneOf_1 ?_
  refine lv_iload_n hx hb dX9_capitalOneOf_4 rfl (lv_at hl 1 rfl) ?_
  refine lv_iconst (v := (-1 : Int32)) hx hb dX9_capitalOneOf_5 (by decide) ?_
  obtain ⟨x2, w1, hc, hf⟩ := bd_some hf
  refine q_callN1 (v := .int x2) (As := [.ref (B + (v0 + 7)), .int v1, .int (-1 : Int32)]) C hH (List.mem_of_getElem? (i := 2) rfl) wd_573 wd_50 wd_572 yd_X10_cellOf (by omega) (by omega) (c_X10_cellOf (ko_9_6 k_v0) hc) hl.1 rfl (Nat.le_of_ble_eq_true rfl) dX9_capitalOneOf_6 xv_00 (fun H locs hH hP => ?_)
  cases hf
  exact q_reti C hH trivial dX9_capitalOneOf_9
set_option maxRecDepth 100000 in
theorem c_X9_capitalOneOf {l : Launch} {D : va_G} {B : Nat} {Y : Nat → ClassId} {v0 : Nat} {v1 : Int32} {w : Wd} {r : Int32} {w1 : Wd} (k_v0 : KD v0 = 9)  (hf : f_X9_capitalOneOf v0 v1 w = some (r, w1)) : CM l D B Y yX9_capitalOneOf cX9_capitalOneOf 2 (some .int) 1 [.ref (B + v0), .int v1] w (some (.int r)) w1 True :=
  CM_of (by decide +kernel) (Nat.le_of_ble_eq_true rfl) (fun p e s m args below meth c ls C hH hl => t_X9_capitalOneOf_0 C k_v0 hH (lv_sub hl [0, 1] rfl) hf)
/-! LetterTables$Tables.capitalOtherOf -/
set_option maxRecDepth 100000 in
set_option maxHeartbeats 4000000 in
theorem t_X9_capitalOtherOf_0 {D : va_G} {B : Nat} {Y : Nat → ClassId} {p : Program} {l : Launch} {e : Env} {s : State} {m : MethodId} {args : Array Value} {below : List Frame} {meth : Method} {c : Code} {z : (Int32 × Wd)} {H : Heap} {locs : List Loc} {ls : Array Slot} {w : Wd} {v0 : Nat} {v1 : Int32} (C : CX D B Y p s m args meth c cX9_capitalOtherOf 2 RX9 (some .int))   (k_v0 : KD v0 = 9)  (hH : HS D B Y w s H locs) (hl : lv_has ls 2 [(0, .ref (B + v0)), (1, .int v1)]) (hf : f_X9_capitalOtherOf v0 v1 w = some z) : W p l e (RM 1 0 0) s m args below meth c H locs 0 0 (MQ below (QG D B Y (some (.int z.1)) z.2 True) args s 0 0 (AB B)) (F0 m 0 ls []) := by
  have hx := C.1
  have hb := C.2.1
  unfold f_X9_capitalOtherOf at hf
  refine lv_aload_n hx hb dX9_capitalOtherOf_0 rfl (lv_at hl 0 rfl) ?_
  refine fg_X9_33 C hH k_v0 dX9_capitalOtherOf_1 ?_
  refine lv_iload_n hx hb dX9_capitalOtherOf_4 rfl (lv_at hl 1 rfl) ?_
  refine lv_iconst (v := (-1 : Int32)) hx hb dX9_capitalOtherOf_5 (by decide) ?_
  obtain ⟨x2, w1, hc, hf⟩ := bd_some hf
  refine q_callN1 (v := .int x2) (As := [.ref (B + (v0 + 8)), .int v1, .int (-1 : Int32)]) C hH (List.mem_of_getElem? (i := 2) rfl) wd_573 wd_50 wd_572 yd_X10_cellOf (by omega) (by omega) (c_X10_cellOf (ko_9_7 k_v0) hc) hl.1 rfl (Nat.le_of_ble_eq_true rfl) dX9_capitalOtherOf_6 xv_00 (fun H locs hH hP => ?_)
  cases hf
  exact q_reti C hH trivial dX9_capitalOtherOf_9
set_option maxRecDepth 100000 in
theorem c_X9_capitalOtherOf {l : Launch} {D : va_G} {B : Nat} {Y : Nat → ClassId} {v0 : Nat} {v1 : Int32} {w : Wd} {r : Int32} {w1 : Wd} (k_v0 : KD v0 = 9)  (hf : f_X9_capitalOtherOf v0 v1 w = some (r, w1)) : CM l D B Y yX9_capitalOtherOf cX9_capitalOtherOf 2 (some .int) 1 [.ref (B + v0), .int v1] w (some (.int r)) w1 True :=
  CM_of (by decide +kernel) (Nat.le_of_ble_eq_true rfl) (fun p e s m args below meth c ls C hH hl => t_X9_capitalOtherOf_0 C k_v0 hH (lv_sub hl [0, 1] rfl) hf)
/-! LetterTables$Forms.capitalInto -/
set_option maxRecDepth 100000 in
set_option maxHeartbeats 4000000 in
theorem t_X1_capitalInto_35 {D : va_G} {B : Nat} {Y : Nat → ClassId} {p : Program} {l : Launch} {e : Env} {s : State} {m : MethodId} {args : Array Value} {below : List Frame} {meth : Method} {c : Code} {z : (Unit × Wd)} {H : Heap} {locs : List Loc} {ls : Array Slot} {w : Wd} {v2 : Nat} {v3 : Int32} {v4 : Int32} {t0 : Nat} {t1 : Int32} (C : CX D B Y p s m args meth c cX1_capitalInto 5 RX1 none)   (k_v2 : KD v2 = 7) (k_t0 : KD t0 = 7)  (hH : HS D B Y w s H locs) (hl : lv_has ls 5 [(2, .ref (B + v2)), (3, .int v3), (4, .int v4)]) (hf : f_X1_capitalInto_35 v2 v3 v4 t0 t1 w = some z) : W p l e (RM 2 0 0) s m args below meth c H locs 0 0 (MQ below (QG D B Y none z.2 True) args s 0 0 (AB B)) (F0 m 35 ls [.int t1, .ref (B + t0)]) := by
  have hx := C.1
  have hb := C.2.1
  unfold f_X1_capitalInto_35 at hf
  obtain ⟨x2, w1, hc, hf⟩ := bd_some hf
  refine q_callV1 (v := .int x2) (As := [.int t1]) C hH (ci := 7) rfl (by omega) gk_X1_68 yd_X7_add (by omega) (by omega) k_t0 (c_X7_add k_t0 hc) hl.1 rfl (Nat.le_of_ble_eq_true rfl) dX1_capitalInto_35 xv_00 (fun H locs hH z_x2 => ?_)
  refine lv_pop hx hb dX1_capitalInto_38 rfl ?_
  refine lv_iload_n hx hb dX1_capitalInto_39 rfl (lv_at hl 1 rfl) ?_
  refine lv_iconst (v := (-1 : Int32)) hx hb dX1_capitalInto_40 (by decide) ?_
  refine b_icmp_eq (tgt := 57) hx hb hf dX1_capitalInto_41 (by decide) (fun hf => ?_) (fun hf => ?_)
  · cases hf
    exact q_retv C hH trivial dX1_capitalInto_57
  · refine lv_iload hx hb dX1_capitalInto_44 (lv_at hl 2 rfl) ?_
    refine lv_iconst (v := (-1 : Int32)) hx hb dX1_capitalInto_46 (by decide) ?_
    refine b_icmp_eq (tgt := 57) hx hb hf dX1_capitalInto_47 (by decide) (fun hf => ?_) (fun hf => ?_)
    · cases hf
      exact q_retv C hH trivial dX1_capitalInto_57
    · refine lv_aload_n hx hb dX1_capitalInto_50 rfl (lv_at hl 0 rfl) ?_
      refine lv_iload hx hb dX1_capitalInto_51 (lv_at hl 2 rfl) ?_
      obtain ⟨x4, w3, hc, hf⟩ := bd_some hf
      refine q_callV1 (v := .int x4) (As := [.int v4]) C hH (ci := 7) rfl (by omega) gk_X1_68 yd_X7_add (by omega) (by omega) k_v2 (c_X7_add k_v2 hc) hl.1 rfl (Nat.le_of_ble_eq_true rfl) dX1_capitalInto_53 xv_00 (fun H locs hH z_x4 => ?_)
      refine lv_pop hx hb dX1_capitalInto_56 rfl ?_
      cases hf
      exact q_retv C hH trivial dX1_capitalInto_57
set_option maxRecDepth 100000 in
set_option maxHeartbeats 4000000 in
theorem t_X1_capitalInto_0 {D : va_G} {B : Nat} {Y : Nat → ClassId} {p : Program} {l : Launch} {e : Env} {s : State} {m : MethodId} {args : Array Value} {below : List Frame} {meth : Method} {c : Code} {z : (Unit × Wd)} {H : Heap} {locs : List Loc} {ls : Array Slot} {w : Wd} {v1 : Int32} {v2 : Nat} (C : CX D B Y p s m args meth c cX1_capitalInto 5 RX1 none)   (k_v2 : KD v2 = 7)  (hH : HS D B Y w s H locs) (hl : lv_has ls 5 [(0, .ref (B + 639)), (1, .int v1), (2, .ref (B + v2))]) (hf : f_X1_capitalInto v1 v2 w = some z) : W p l e (RM 2 0 0) s m args below meth c H locs 0 0 (MQ below (QG D B Y none z.2 True) args s 0 0 (AB B)) (F0 m 0 ls []) := by
  have hx := C.1
  have hb := C.2.1
  unfold f_X1_capitalInto at hf
  refine lv_aload_n hx hb dX1_capitalInto_0 rfl (lv_at hl 2 rfl) ?_
  refine lv_iconst (v := (0 : Int32)) hx hb dX1_capitalInto_1 (by decide) ?_
  obtain ⟨u, w1, hc, hf⟩ := bd_some hf
  refine q_callV0 (As := [.int (0 : Int32)]) C hH (ci := 7) rfl (by omega) gk_X1_49 yd_X7_cutTo (by omega) (by omega) k_v2 (c_X7_cutTo k_v2 hc) hl.1 rfl (Nat.le_of_ble_eq_true rfl) dX1_capitalInto_2 xv_00 (fun H locs hH hP => ?_)
  refine lv_aload_n hx hb dX1_capitalInto_5 rfl (lv_at hl 0 rfl) ?_
  refine fg_X1_9 C hH dX1_capitalInto_6 ?_
  refine lv_iload_n hx hb dX1_capitalInto_9 rfl (lv_at hl 1 rfl) ?_
  obtain ⟨x3, w2, hc, hf⟩ := bd_some hf
  refine q_callV1 (v := .int x3) (As := [.int v1]) C hH (ci := 9) rfl (by omega) gk_X1_106 yd_X9_capitalOneOf (by omega) (by omega) kc_1 (c_X9_capitalOneOf kc_1 hc) hl.1 rfl (Nat.le_of_ble_eq_true rfl) dX1_capitalInto_10 xv_00 (fun H locs hH hP => ?_)
  refine lv_istore_n (lv' := [(3, .int x3), (0, .ref (B + 639)), (1, .int v1), (2, .ref (B + v2))]) hx hb dX1_capitalInto_13 rfl hl (by decide) rfl (fun ls hl => ?_)
  refine lv_aload_n hx hb dX1_capitalInto_14 rfl (lv_at hl 1 rfl) ?_
  refine fg_X1_9 C hH dX1_capitalInto_15 ?_
  refine lv_iload_n hx hb dX1_capitalInto_18 rfl (lv_at hl 2 rfl) ?_
  obtain ⟨x5, w4, hc, hf⟩ := bd_some hf
  refine q_callV1 (v := .int x5) (As := [.int v1]) C hH (ci := 9) rfl (by omega) gk_X1_109 yd_X9_capitalOtherOf (by omega) (by omega) kc_1 (c_X9_capitalOtherOf kc_1 hc) hl.1 rfl (Nat.le_of_ble_eq_true rfl) dX1_capitalInto_19 xv_00 (fun H locs hH hP => ?_)
  refine lv_istore (lv' := [(4, .int x5), (3, .int x3), (0, .ref (B + 639)), (1, .int v1), (2, .ref (B + v2))]) hx hb dX1_capitalInto_22 hl (by decide) rfl (fun ls hl => ?_)
  refine lv_aload_n hx hb dX1_capitalInto_24 rfl (lv_at hl 4 rfl) ?_
  refine lv_iload_n hx hb dX1_capitalInto_25 rfl (lv_at hl 1 rfl) ?_
  refine lv_iconst (v := (-1 : Int32)) hx hb dX1_capitalInto_26 (by decide) ?_
  refine b_icmp_ne (tgt := 34) hx hb hf dX1_capitalInto_27 (by decide) (fun hf => ?_) (fun hf => ?_)
  · refine lv_iload_n hx hb dX1_capitalInto_34 rfl (lv_at hl 1 rfl) ?_
    exact t_X1_capitalInto_35 C k_v2 k_v2 hH (lv_sub hl [4, 1, 0] rfl) hf
  · refine lv_iload_n hx hb dX1_capitalInto_30 rfl (lv_at hl 3 rfl) ?_
    refine lv_goto (tgt := 35) hx hb dX1_capitalInto_31 (by decide) ?_
    exact t_X1_capitalInto_35 C k_v2 k_v2 hH (lv_sub hl [4, 1, 0] rfl) hf
set_option maxRecDepth 100000 in
theorem c_X1_capitalInto {l : Launch} {D : va_G} {B : Nat} {Y : Nat → ClassId} {v1 : Int32} {v2 : Nat} {w : Wd} {r : Unit} {w1 : Wd} (k_v2 : KD v2 = 7)  (hf : f_X1_capitalInto v1 v2 w = some (r, w1)) : CM l D B Y yX1_capitalInto cX1_capitalInto 5 none 2 [.ref (B + 639), .int v1, .ref (B + v2)] w none w1 True :=
  CM_of (by decide +kernel) (Nat.le_of_ble_eq_true rfl) (fun p e s m args below meth c ls C hH hl => t_X1_capitalInto_0 C k_v2 hH (lv_sub hl [0, 1, 2] rfl) hf)
/-! LetterTables$Forms.addUnmarked -/
set_option maxRecDepth 100000 in
set_option maxHeartbeats 4000000 in
theorem tb_X1_addUnmarked_2 {D : va_G} {B : Nat} {Y : Nat → ClassId} {p : Program} {l : Launch} {e : Env} {s : State} {m : MethodId} {args : Array Value} {below : List Frame} {meth : Method} {c : Code} {z : (Unit × Wd)} {H : Heap} {locs : List Loc} {ls : Array Slot} {w : Wd} {v1 : Nat} {v2 : Nat} {v3 : Int32} (C : CX D B Y p s m args meth c cX1_addUnmarked 4 RX1 none)  {rc_2 : Nat × Nat × Int32 × Wd → Option (Unit × Wd)} (hr_2 : ∀ (v1 : Nat) (v2 : Nat) (v3 : Int32) (w : Wd), rc_2 (v1, v2, v3, w) = some z → KD v1 = 7 → KD v2 = 7 → ∀ (H : Heap) (locs : List Loc) (ls : Array Slot), HS D B Y w s H locs → lv_has ls 4 [(0, .ref (B + 639)), (1, .ref (B + v1)), (2, .ref (B + v2)), (3, .int v3)] → W p l e (RM 2 0 0) s m args below meth c H locs 0 0 (MQ below (QG D B Y none z.2 True) args s 0 0 (AB B)) (F0 m 2 ls []))  (k_v1 : KD v1 = 7) (k_v2 : KD v2 = 7)  (hH : HS D B Y w s H locs) (hl : lv_has ls 4 [(0, .ref (B + 639)), (1, .ref (B + v1)), (2, .ref (B + v2)), (3, .int v3)]) (hf : g_X1_addUnmarked_2 rc_2 v1 v2 v3 w = some z) : W p l e (RM 2 0 0) s m args below meth c H locs 0 0 (MQ below (QG D B Y none z.2 True) args s 0 0 (AB B)) (F0 m 2 ls []) := by
  have hx := C.1
  have hb := C.2.1
  unfold g_X1_addUnmarked_2 at hf
  refine lv_iload_n hx hb dX1_addUnmarked_2 rfl (lv_at hl 3 rfl) ?_
  refine lv_aload_n hx hb dX1_addUnmarked_3 rfl (lv_at hl 1 rfl) ?_
  obtain ⟨x2, w1, hc, hf⟩ := bd_some hf
  refine q_callV1 (v := .int x2) (As := []) C hH (ci := 7) rfl (by omega) gk_X1_52 yd_X7_size (by omega) (by omega) k_v1 (c_X7_size k_v1 hc) hl.1 rfl (Nat.le_of_ble_eq_true rfl) dX1_addUnmarked_4 xv_00 (fun H locs hH hP => ?_)
  refine b_icmp_ge (tgt := 41) hx hb hf dX1_addUnmarked_7 (by decide) (fun hf => ?_) (fun hf => ?_)
  · cases hf
    exact q_retv C hH trivial dX1_addUnmarked_41
  · refine lv_aload_n hx hb dX1_addUnmarked_10 rfl (lv_at hl 0 rfl) ?_
    refine fg_X1_9 C hH dX1_addUnmarked_11 ?_
    refine lv_aload_n hx hb dX1_addUnmarked_14 rfl (lv_at hl 1 rfl) ?_
    refine lv_iload_n hx hb dX1_addUnmarked_15 rfl (lv_at hl 3 rfl) ?_
    obtain ⟨x4, w3, hc, hf⟩ := bd_some hf
    refine q_callV1 (v := .int x4) (As := [.int v3]) C hH (ci := 7) rfl (by omega) gk_X1_56 yd_X7_get (by omega) (by omega) k_v1 (c_X7_get k_v1 hc) hl.1 rfl (Nat.le_of_ble_eq_true rfl) dX1_addUnmarked_16 xv_00 (fun H locs hH hP => ?_)
    obtain ⟨x6, w5, hc, hf⟩ := bd_some hf
    refine q_callV1 (v := .int x6) (As := [.int x4]) C hH (ci := 9) rfl (by omega) gk_X1_83 yd_X9_joinsOf (by omega) (by omega) kc_1 (c_X9_joinsOf kc_1 hc) hl.1 rfl (Nat.le_of_ble_eq_true rfl) dX1_addUnmarked_19 xv_00 (fun H locs hH hP => ?_)
    refine b_if_ne (tgt := 35) hx hb hf dX1_addUnmarked_22 (by decide) (fun hf => ?_) (fun hf => ?_)
    · refine b_let hf (fun x7 he hf => ?_)
      refine lv_iinc (v := x7) (lv' := [(3, .int x7), (0, .ref (B + 639)), (1, .ref (B + v1)), (2, .ref (B + v2))]) hx hb dX1_addUnmarked_35 hl (k := 3) rfl (by rw [← he]; rfl) (by decide) rfl (fun ls hl => ?_)
      refine lv_goto (tgt := 2) hx hb dX1_addUnmarked_38 (by decide) ?_
      exact hr_2 v1 v2 x7 w5 hf k_v1 k_v2 _ _ _ hH (lv_sub hl [1, 2, 3, 0] rfl)
    · refine lv_aload_n hx hb dX1_addUnmarked_25 rfl (lv_at hl 2 rfl) ?_
      refine lv_aload_n hx hb dX1_addUnmarked_26 rfl (lv_at hl 1 rfl) ?_
      refine lv_iload_n hx hb dX1_addUnmarked_27 rfl (lv_at hl 3 rfl) ?_
      obtain ⟨x9, w8, hc, hf⟩ := bd_some hf
      refine q_callV1 (v := .int x9) (As := [.int v3]) C hH (ci := 7) rfl (by omega) gk_X1_56 yd_X7_get (by omega) (by omega) k_v1 (c_X7_get k_v1 hc) hl.1 rfl (Nat.le_of_ble_eq_true rfl) dX1_addUnmarked_28 xv_00 (fun H locs hH hP => ?_)
      obtain ⟨x11, w10, hc, hf⟩ := bd_some hf
      refine q_callV1 (v := .int x11) (As := [.int x9]) C hH (ci := 7) rfl (by omega) gk_X1_68 yd_X7_add (by omega) (by omega) k_v2 (c_X7_add k_v2 hc) hl.1 rfl (Nat.le_of_ble_eq_true rfl) dX1_addUnmarked_31 xv_00 (fun H locs hH z_x11 => ?_)
      refine lv_pop hx hb dX1_addUnmarked_34 rfl ?_
      refine b_let hf (fun x12 he hf => ?_)
      refine lv_iinc (v := x12) (lv' := [(3, .int x12), (0, .ref (B + 639)), (1, .ref (B + v1)), (2, .ref (B + v2))]) hx hb dX1_addUnmarked_35 hl (k := 3) rfl (by rw [← he]; rfl) (by decide) rfl (fun ls hl => ?_)
      refine lv_goto (tgt := 2) hx hb dX1_addUnmarked_38 (by decide) ?_
      exact hr_2 v1 v2 x12 w10 hf k_v1 k_v2 _ _ _ hH (lv_sub hl [1, 2, 3, 0] rfl)
set_option maxRecDepth 100000 in
set_option maxHeartbeats 4000000 in
theorem t_X1_addUnmarked_2 {D : va_G} {B : Nat} {Y : Nat → ClassId} {p : Program} {l : Launch} {e : Env} {s : State} {m : MethodId} {args : Array Value} {below : List Frame} {meth : Method} {c : Code} {z : (Unit × Wd)} {H : Heap} {locs : List Loc} {ls : Array Slot} {w : Wd} {v1 : Nat} {v2 : Nat} {v3 : Int32} (C : CX D B Y p s m args meth c cX1_addUnmarked 4 RX1 none)   (k_v1 : KD v1 = 7) (k_v2 : KD v2 = 7)  (hH : HS D B Y w s H locs) (hl : lv_has ls 4 [(0, .ref (B + 639)), (1, .ref (B + v1)), (2, .ref (B + v2)), (3, .int v3)]) (hf : f_X1_addUnmarked_2 v1 v2 v3 w = some z) : W p l e (RM 2 0 0) s m args below meth c H locs 0 0 (MQ below (QG D B Y none z.2 True) args s 0 0 (AB B)) (F0 m 2 ls []) := by
  exact loopN_ind (z := z) (body := fun rc σ => g_X1_addUnmarked_2 rc  σ.1 σ.2.1 σ.2.2.1 σ.2.2.2)
    (P := fun σ => KD σ.1 = 7 → KD σ.2.1 = 7 → ∀ (H : Heap) (locs : List Loc) (ls : Array Slot), HS D B Y σ.2.2.2 s H locs → lv_has ls 4 [(0, .ref (B + 639)), (1, .ref (B + σ.1)), (2, .ref (B + σ.2.1)), (3, .int σ.2.2.1)] → W p l e (RM 2 0 0) s m args below meth c H locs 0 0 (MQ below (QG D B Y none z.2 True) args s 0 0 (AB B)) (F0 m 2 ls []))
    (fun rc hrec σ hf k_v1 k_v2 H locs ls hH hl => tb_X1_addUnmarked_2 C (fun v1 v2 v3 w hr k_v1 k_v2 H locs ls hH hl => hrec (v1, v2, v3, w) hr k_v1 k_v2 H locs ls hH hl)  k_v1 k_v2 hH hl hf) FU (v1, v2, v3, w) hf k_v1 k_v2 H locs ls hH hl
set_option maxRecDepth 100000 in
set_option maxHeartbeats 4000000 in
theorem t_X1_addUnmarked_0 {D : va_G} {B : Nat} {Y : Nat → ClassId} {p : Program} {l : Launch} {e : Env} {s : State} {m : MethodId} {args : Array Value} {below : List Frame} {meth : Method} {c : Code} {z : (Unit × Wd)} {H : Heap} {locs : List Loc} {ls : Array Slot} {w : Wd} {v1 : Nat} {v2 : Nat} (C : CX D B Y p s m args meth c cX1_addUnmarked 4 RX1 none)   (k_v1 : KD v1 = 7) (k_v2 : KD v2 = 7)  (hH : HS D B Y w s H locs) (hl : lv_has ls 4 [(0, .ref (B + 639)), (1, .ref (B + v1)), (2, .ref (B + v2))]) (hf : f_X1_addUnmarked v1 v2 w = some z) : W p l e (RM 2 0 0) s m args below meth c H locs 0 0 (MQ below (QG D B Y none z.2 True) args s 0 0 (AB B)) (F0 m 0 ls []) := by
  have hx := C.1
  have hb := C.2.1
  unfold f_X1_addUnmarked at hf
  refine lv_iconst (v := (0 : Int32)) hx hb dX1_addUnmarked_0 (by decide) ?_
  refine lv_istore_n (lv' := [(3, .int (0 : Int32)), (0, .ref (B + 639)), (1, .ref (B + v1)), (2, .ref (B + v2))]) hx hb dX1_addUnmarked_1 rfl hl (by decide) rfl (fun ls hl => ?_)
  exact t_X1_addUnmarked_2 C k_v1 k_v2 hH (lv_sub hl [1, 2, 3, 0] rfl) hf
set_option maxRecDepth 100000 in
theorem c_X1_addUnmarked {l : Launch} {D : va_G} {B : Nat} {Y : Nat → ClassId} {v1 : Nat} {v2 : Nat} {w : Wd} {r : Unit} {w1 : Wd} (k_v1 : KD v1 = 7) (k_v2 : KD v2 = 7)  (hf : f_X1_addUnmarked v1 v2 w = some (r, w1)) : CM l D B Y yX1_addUnmarked cX1_addUnmarked 4 none 2 [.ref (B + 639), .ref (B + v1), .ref (B + v2)] w none w1 True :=
  CM_of (by decide +kernel) (Nat.le_of_ble_eq_true rfl) (fun p e s m args below meth c ls C hH hl => t_X1_addUnmarked_0 C k_v1 k_v2 hH (lv_sub hl [0, 1, 2] rfl) hf)
/-! LetterTables$Forms.foldInto -/
set_option maxRecDepth 100000 in
set_option maxHeartbeats 4000000 in
theorem tb_X1_foldInto_18 {D : va_G} {B : Nat} {Y : Nat → ClassId} {p : Program} {l : Launch} {e : Env} {s : State} {m : MethodId} {args : Array Value} {below : List Frame} {meth : Method} {c : Code} {z : (Int32 × Wd)} {H : Heap} {locs : List Loc} {ls : Array Slot} {w : Wd} {v1 : Nat} {v2 : Nat} {v3 : Int32} {v4 : Int32} (C : CX D B Y p s m args meth c cX1_foldInto 5 RX1 (some .boolean))  {rc_18 : Nat × Nat × Int32 × Int32 × Wd → Option (Int32 × Wd)} (hr_18 : ∀ (v1 : Nat) (v2 : Nat) (v3 : Int32) (v4 : Int32) (w : Wd), rc_18 (v1, v2, v3, v4, w) = some z → KD v1 = 7 → KD v2 = 7 → ∀ (H : Heap) (locs : List Loc) (ls : Array Slot), HS D B Y w s H locs → lv_has ls 5 [(0, .ref (B + 639)), (1, .ref (B + v1)), (2, .ref (B + v2)), (3, .int v3), (4, .int v4)] → W p l e (RM 4 0 0) s m args below meth c H locs 0 0 (MQ below (QG D B Y (some (.int z.1)) z.2 (isZ z.1)) args s 0 0 (AB B)) (F0 m 18 ls []))  (k_v1 : KD v1 = 7) (k_v2 : KD v2 = 7)  (hH : HS D B Y w s H locs) (hl : lv_has ls 5 [(0, .ref (B + 639)), (1, .ref (B + v1)), (2, .ref (B + v2)), (3, .int v3), (4, .int v4)]) (hf : g_X1_foldInto_18 rc_18 v1 v2 v3 v4 w = some z) : W p l e (RM 4 0 0) s m args below meth c H locs 0 0 (MQ below (QG D B Y (some (.int z.1)) z.2 (isZ z.1)) args s 0 0 (AB B)) (F0 m 18 ls []) := by
  have hx := C.1
  have hb := C.2.1
  unfold g_X1_foldInto_18 at hf
  refine lv_iload hx hb dX1_foldInto_18 (lv_at hl 4 rfl) ?_
  refine lv_aload_n hx hb dX1_foldInto_20 rfl (lv_at hl 1 rfl) ?_
  obtain ⟨x2, w1, hc, hf⟩ := bd_some hf
  refine q_callV1 (v := .int x2) (As := []) C hH (ci := 7) rfl (by omega) gk_X1_52 yd_X7_size (by omega) (by omega) k_v1 (c_X7_size k_v1 hc) hl.1 rfl (Nat.le_of_ble_eq_true rfl) dX1_foldInto_21 xv_00 (fun H locs hH hP => ?_)
  refine b_icmp_ge (tgt := 103) hx hb hf dX1_foldInto_24 (by decide) (fun hf => ?_) (fun hf => ?_)
  · refine lv_iconst (v := (1 : Int32)) hx hb dX1_foldInto_103 (by decide) ?_
    cases hf
    exact q_retz C hH isZ_1 isZ_1 dX1_foldInto_104
  · refine lv_aload_n hx hb dX1_foldInto_27 rfl (lv_at hl 0 rfl) ?_
    refine lv_aload_n hx hb dX1_foldInto_28 rfl (lv_at hl 1 rfl) ?_
    refine lv_iload hx hb dX1_foldInto_29 (lv_at hl 4 rfl) ?_
    obtain ⟨x4, w3, hc, hf⟩ := bd_some hf
    refine q_callV1 (v := .int x4) (As := [.int v4]) C hH (ci := 7) rfl (by omega) gk_X1_56 yd_X7_get (by omega) (by omega) k_v1 (c_X7_get k_v1 hc) hl.1 rfl (Nat.le_of_ble_eq_true rfl) dX1_foldInto_31 xv_00 (fun H locs hH hP => ?_)
    refine lv_aload_n hx hb dX1_foldInto_34 rfl (lv_at hl 0 rfl) ?_
    refine fg_X1_24 C hH dX1_foldInto_35 ?_
    obtain ⟨u, w5, hc, hf⟩ := bd_some hf
    refine q_callV0 (As := [.int x4, .ref (B + 642)]) C hH (ci := 1) rfl (by omega) gk_X1_98 yd_X1_capitalInto (by omega) (by omega) kc_639 (c_X1_capitalInto kc_642 hc) hl.1 rfl (Nat.le_of_ble_eq_true rfl) dX1_foldInto_38 xv_00 (fun H locs hH hP => ?_)
    refine lv_aload_n hx hb dX1_foldInto_41 rfl (lv_at hl 0 rfl) ?_
    refine lv_aload_n hx hb dX1_foldInto_42 rfl (lv_at hl 0 rfl) ?_
    refine fg_X1_24 C hH dX1_foldInto_43 ?_
    refine lv_aload_n hx hb dX1_foldInto_46 rfl (lv_at hl 0 rfl) ?_
    refine fg_X1_27 C hH dX1_foldInto_47 ?_
    obtain ⟨x7, w6, hc, hf⟩ := bd_some hf
    refine q_callV1 (v := .int x7) (As := [.ref (B + 642), .ref (B + 644)]) C hH (ci := 1) rfl (by omega) gk_X1_36 yd_X1_splitInto (by omega) (by omega) kc_639 (c_X1_splitInto kc_642 kc_644 hc) hl.1 rfl (Nat.le_of_ble_eq_true rfl) dX1_foldInto_50 xv_00 (fun H locs hH z_x7 => ?_)
    refine b_if_ne (tgt := 58) hx hb hf dX1_foldInto_53 (by decide) (fun hf => ?_) (fun hf => ?_)
    · refine lv_iload_n hx hb dX1_foldInto_58 rfl (lv_at hl 3 rfl) ?_
      refine lv_aload_n hx hb dX1_foldInto_59 rfl (lv_at hl 0 rfl) ?_
      refine fg_X1_27 C hH dX1_foldInto_60 ?_
      obtain ⟨x9, w8, hc, hf⟩ := bd_some hf
      refine q_callV1 (v := .int x9) (As := []) C hH (ci := 7) rfl (by omega) gk_X1_52 yd_X7_size (by omega) (by omega) kc_644 (c_X7_size kc_644 hc) hl.1 rfl (Nat.le_of_ble_eq_true rfl) dX1_foldInto_63 xv_00 (fun H locs hH hP => ?_)
      refine lv_iadd hx hb dX1_foldInto_66 ?_
      refine b_leti hf (fun x10 hf => ?_)
      refine lv_istore_n (lv' := [(3, .int x10), (0, .ref (B + 639)), (1, .ref (B + v1)), (2, .ref (B + v2)), (4, .int v4)]) hx hb dX1_foldInto_67 rfl hl (by decide) rfl (fun ls hl => ?_)
      refine lv_iload_n hx hb dX1_foldInto_68 rfl (lv_at hl 0 rfl) ?_
      refine lv_bipush (v := (80 : Int32)) hx hb dX1_foldInto_69 (by decide) ?_
      refine b_icmp_le (tgt := 76) hx hb hf dX1_foldInto_71 (by decide) (fun hf => ?_) (fun hf => ?_)
      · refine lv_aload_n hx hb dX1_foldInto_76 rfl (lv_at hl 1 rfl) ?_
        refine lv_aload_n hx hb dX1_foldInto_77 rfl (lv_at hl 1 rfl) ?_
        refine fg_X1_27 C hH dX1_foldInto_78 ?_
        refine lv_aload_n hx hb dX1_foldInto_81 rfl (lv_at hl 3 rfl) ?_
        obtain ⟨u, w11, hc, hf⟩ := bd_some hf
        refine q_callV0 (As := [.ref (B + 644), .ref (B + v2)]) C hH (ci := 1) rfl (by omega) gk_X1_102 yd_X1_addUnmarked (by omega) (by omega) kc_639 (c_X1_addUnmarked kc_644 k_v2 hc) hl.1 rfl (Nat.le_of_ble_eq_true rfl) dX1_foldInto_82 xv_00 (fun H locs hH hP => ?_)
        refine lv_aload_n hx hb dX1_foldInto_85 rfl (lv_at hl 1 rfl) ?_
        refine fg_X1_33 C hH dX1_foldInto_86 ?_
        refine lv_aload_n hx hb dX1_foldInto_89 rfl (lv_at hl 3 rfl) ?_
        obtain ⟨x13, w12, hc, hf⟩ := bd_some hf
        refine q_callV1 (v := .int x13) (As := []) C hH (ci := 7) rfl (by omega) gk_X1_52 yd_X7_size (by omega) (by omega) k_v2 (c_X7_size k_v2 hc) hl.1 rfl (Nat.le_of_ble_eq_true rfl) dX1_foldInto_90 xv_00 (fun H locs hH hP => ?_)
        obtain ⟨x15, w14, hc, hf⟩ := bd_some hf
        refine q_callV1 (v := .int x15) (As := [.int x13]) C hH (ci := 7) rfl (by omega) gk_X1_68 yd_X7_add (by omega) (by omega) kc_648 (c_X7_add kc_648 hc) hl.1 rfl (Nat.le_of_ble_eq_true rfl) dX1_foldInto_93 xv_00 (fun H locs hH z_x15 => ?_)
        refine lv_pop hx hb dX1_foldInto_96 rfl ?_
        refine b_let hf (fun x16 he hf => ?_)
        refine lv_iinc (v := x16) (lv' := [(4, .int x16), (3, .int x10), (0, .ref (B + 639)), (1, .ref (B + v1)), (2, .ref (B + v2))]) hx hb dX1_foldInto_97 hl (k := 4) rfl (by rw [← he]; rfl) (by decide) rfl (fun ls hl => ?_)
        refine lv_goto (tgt := 18) hx hb dX1_foldInto_100 (by decide) ?_
        exact hr_18 v1 v2 x10 x16 w14 hf k_v1 k_v2 _ _ _ hH (lv_sub hl [2, 3, 4, 1, 0] rfl)
      · refine lv_iconst (v := (0 : Int32)) hx hb dX1_foldInto_74 (by decide) ?_
        cases hf
        exact q_retz C hH isZ_0 isZ_0 dX1_foldInto_75
    · refine lv_iconst (v := (0 : Int32)) hx hb dX1_foldInto_56 (by decide) ?_
      cases hf
      exact q_retz C hH isZ_0 isZ_0 dX1_foldInto_57
set_option maxRecDepth 100000 in
set_option maxHeartbeats 4000000 in
theorem t_X1_foldInto_18 {D : va_G} {B : Nat} {Y : Nat → ClassId} {p : Program} {l : Launch} {e : Env} {s : State} {m : MethodId} {args : Array Value} {below : List Frame} {meth : Method} {c : Code} {z : (Int32 × Wd)} {H : Heap} {locs : List Loc} {ls : Array Slot} {w : Wd} {v1 : Nat} {v2 : Nat} {v3 : Int32} {v4 : Int32} (C : CX D B Y p s m args meth c cX1_foldInto 5 RX1 (some .boolean))   (k_v1 : KD v1 = 7) (k_v2 : KD v2 = 7)  (hH : HS D B Y w s H locs) (hl : lv_has ls 5 [(0, .ref (B + 639)), (1, .ref (B + v1)), (2, .ref (B + v2)), (3, .int v3), (4, .int v4)]) (hf : f_X1_foldInto_18 v1 v2 v3 v4 w = some z) : W p l e (RM 4 0 0) s m args below meth c H locs 0 0 (MQ below (QG D B Y (some (.int z.1)) z.2 (isZ z.1)) args s 0 0 (AB B)) (F0 m 18 ls []) := by
  exact loopN_ind (z := z) (body := fun rc σ => g_X1_foldInto_18 rc  σ.1 σ.2.1 σ.2.2.1 σ.2.2.2.1 σ.2.2.2.2)
    (P := fun σ => KD σ.1 = 7 → KD σ.2.1 = 7 → ∀ (H : Heap) (locs : List Loc) (ls : Array Slot), HS D B Y σ.2.2.2.2 s H locs → lv_has ls 5 [(0, .ref (B + 639)), (1, .ref (B + σ.1)), (2, .ref (B + σ.2.1)), (3, .int σ.2.2.1), (4, .int σ.2.2.2.1)] → W p l e (RM 4 0 0) s m args below meth c H locs 0 0 (MQ below (QG D B Y (some (.int z.1)) z.2 (isZ z.1)) args s 0 0 (AB B)) (F0 m 18 ls []))
    (fun rc hrec σ hf k_v1 k_v2 H locs ls hH hl => tb_X1_foldInto_18 C (fun v1 v2 v3 v4 w hr k_v1 k_v2 H locs ls hH hl => hrec (v1, v2, v3, v4, w) hr k_v1 k_v2 H locs ls hH hl)  k_v1 k_v2 hH hl hf) FU (v1, v2, v3, v4, w) hf k_v1 k_v2 H locs ls hH hl
set_option maxRecDepth 100000 in
set_option maxHeartbeats 4000000 in
theorem t_X1_foldInto_0 {D : va_G} {B : Nat} {Y : Nat → ClassId} {p : Program} {l : Launch} {e : Env} {s : State} {m : MethodId} {args : Array Value} {below : List Frame} {meth : Method} {c : Code} {z : (Int32 × Wd)} {H : Heap} {locs : List Loc} {ls : Array Slot} {w : Wd} {v1 : Nat} {v2 : Nat} (C : CX D B Y p s m args meth c cX1_foldInto 5 RX1 (some .boolean))   (k_v1 : KD v1 = 7) (k_v2 : KD v2 = 7)  (hH : HS D B Y w s H locs) (hl : lv_has ls 5 [(0, .ref (B + 639)), (1, .ref (B + v1)), (2, .ref (B + v2))]) (hf : f_X1_foldInto v1 v2 w = some z) : W p l e (RM 4 0 0) s m args below meth c H locs 0 0 (MQ below (QG D B Y (some (.int z.1)) z.2 (isZ z.1)) args s 0 0 (AB B)) (F0 m 0 ls []) := by
  have hx := C.1
  have hb := C.2.1
  unfold f_X1_foldInto at hf
  refine lv_aload_n hx hb dX1_foldInto_0 rfl (lv_at hl 2 rfl) ?_
  refine lv_iconst (v := (0 : Int32)) hx hb dX1_foldInto_1 (by decide) ?_
  obtain ⟨u, w1, hc, hf⟩ := bd_some hf
  refine q_callV0 (As := [.int (0 : Int32)]) C hH (ci := 7) rfl (by omega) gk_X1_49 yd_X7_cutTo (by omega) (by omega) k_v2 (c_X7_cutTo k_v2 hc) hl.1 rfl (Nat.le_of_ble_eq_true rfl) dX1_foldInto_2 xv_00 (fun H locs hH hP => ?_)
  refine lv_aload_n hx hb dX1_foldInto_5 rfl (lv_at hl 0 rfl) ?_
  refine fg_X1_33 C hH dX1_foldInto_6 ?_
  refine lv_iconst (v := (0 : Int32)) hx hb dX1_foldInto_9 (by decide) ?_
  obtain ⟨u, w2, hc, hf⟩ := bd_some hf
  refine q_callV0 (As := [.int (0 : Int32)]) C hH (ci := 7) rfl (by omega) gk_X1_49 yd_X7_cutTo (by omega) (by omega) kc_648 (c_X7_cutTo kc_648 hc) hl.1 rfl (Nat.le_of_ble_eq_true rfl) dX1_foldInto_10 xv_00 (fun H locs hH hP => ?_)
  refine lv_iconst (v := (0 : Int32)) hx hb dX1_foldInto_13 (by decide) ?_
  refine lv_istore_n (lv' := [(3, .int (0 : Int32)), (0, .ref (B + 639)), (1, .ref (B + v1)), (2, .ref (B + v2))]) hx hb dX1_foldInto_14 rfl hl (by decide) rfl (fun ls hl => ?_)
  refine lv_iconst (v := (0 : Int32)) hx hb dX1_foldInto_15 (by decide) ?_
  refine lv_istore (lv' := [(4, .int (0 : Int32)), (3, .int (0 : Int32)), (0, .ref (B + 639)), (1, .ref (B + v1)), (2, .ref (B + v2))]) hx hb dX1_foldInto_16 hl (by decide) rfl (fun ls hl => ?_)
  exact t_X1_foldInto_18 C k_v1 k_v2 hH (lv_sub hl [2, 3, 4, 1, 0] rfl) hf
set_option maxRecDepth 100000 in
theorem c_X1_foldInto {l : Launch} {D : va_G} {B : Nat} {Y : Nat → ClassId} {v1 : Nat} {v2 : Nat} {w : Wd} {r : Int32} {w1 : Wd} (k_v1 : KD v1 = 7) (k_v2 : KD v2 = 7)  (hf : f_X1_foldInto v1 v2 w = some (r, w1)) : CM l D B Y yX1_foldInto cX1_foldInto 5 (some .boolean) 4 [.ref (B + 639), .ref (B + v1), .ref (B + v2)] w (some (.int r)) w1 (isZ r) :=
  CM_of (by decide +kernel) (Nat.le_of_ble_eq_true rfl) (fun p e s m args below meth c ls C hH hl => t_X1_foldInto_0 C k_v1 k_v2 hH (lv_sub hl [0, 1, 2] rfl) hf)
/-! LetterTables$Tables.likeOf -/
set_option maxRecDepth 100000 in
set_option maxHeartbeats 4000000 in
theorem t_X9_likeOf_0 {D : va_G} {B : Nat} {Y : Nat → ClassId} {p : Program} {l : Launch} {e : Env} {s : State} {m : MethodId} {args : Array Value} {below : List Frame} {meth : Method} {c : Code} {z : (Int32 × Wd)} {H : Heap} {locs : List Loc} {ls : Array Slot} {w : Wd} {v0 : Nat} {v1 : Int32} (C : CX D B Y p s m args meth c cX9_likeOf 2 RX9 (some .int))   (k_v0 : KD v0 = 9)  (hH : HS D B Y w s H locs) (hl : lv_has ls 2 [(0, .ref (B + v0)), (1, .int v1)]) (hf : f_X9_likeOf v0 v1 w = some z) : W p l e (RM 1 0 0) s m args below meth c H locs 0 0 (MQ below (QG D B Y (some (.int z.1)) z.2 True) args s 0 0 (AB B)) (F0 m 0 ls []) := by
  have hx := C.1
  have hb := C.2.1
  unfold f_X9_likeOf at hf
  refine lv_aload_n hx hb dX9_likeOf_0 rfl (lv_at hl 0 rfl) ?_
  refine fg_X9_21 C hH k_v0 dX9_likeOf_1 ?_
  refine lv_iload_n hx hb dX9_likeOf_4 rfl (lv_at hl 1 rfl) ?_
  refine lv_iload_n hx hb dX9_likeOf_5 rfl (lv_at hl 1 rfl) ?_
  obtain ⟨x2, w1, hc, hf⟩ := bd_some hf
  refine q_callN1 (v := .int x2) (As := [.ref (B + (v0 + 4)), .int v1, .int v1]) C hH (List.mem_of_getElem? (i := 2) rfl) wd_573 wd_50 wd_572 yd_X10_cellOf (by omega) (by omega) (c_X10_cellOf (ko_9_3 k_v0) hc) hl.1 rfl (Nat.le_of_ble_eq_true rfl) dX9_likeOf_6 xv_00 (fun H locs hH hP => ?_)
  cases hf
  exact q_reti C hH trivial dX9_likeOf_9
set_option maxRecDepth 100000 in
theorem c_X9_likeOf {l : Launch} {D : va_G} {B : Nat} {Y : Nat → ClassId} {v0 : Nat} {v1 : Int32} {w : Wd} {r : Int32} {w1 : Wd} (k_v0 : KD v0 = 9)  (hf : f_X9_likeOf v0 v1 w = some (r, w1)) : CM l D B Y yX9_likeOf cX9_likeOf 2 (some .int) 1 [.ref (B + v0), .int v1] w (some (.int r)) w1 True :=
  CM_of (by decide +kernel) (Nat.le_of_ble_eq_true rfl) (fun p e s m args below meth c ls C hH hl => t_X9_likeOf_0 C k_v0 hH (lv_sub hl [0, 1] rfl) hf)
/-! LetterTables$Forms.skeletonInto -/
set_option maxRecDepth 100000 in
set_option maxHeartbeats 4000000 in
theorem tb_X1_skeletonInto_16 {D : va_G} {B : Nat} {Y : Nat → ClassId} {p : Program} {l : Launch} {e : Env} {s : State} {m : MethodId} {args : Array Value} {below : List Frame} {meth : Method} {c : Code} {z : (Int32 × Wd)} {H : Heap} {locs : List Loc} {ls : Array Slot} {w : Wd} {v2 : Nat} {v3 : Int32} (C : CX D B Y p s m args meth c cX1_skeletonInto 4 RX1 (some .boolean))  {rc_16 : Nat × Int32 × Wd → Option (Int32 × Wd)} (hr_16 : ∀ (v2 : Nat) (v3 : Int32) (w : Wd), rc_16 (v2, v3, w) = some z → KD v2 = 7 → ∀ (H : Heap) (locs : List Loc) (ls : Array Slot), HS D B Y w s H locs → lv_has ls 4 [(0, .ref (B + 639)), (2, .ref (B + v2)), (3, .int v3)] → W p l e (RM 4 0 0) s m args below meth c H locs 0 0 (MQ below (QG D B Y (some (.int z.1)) z.2 (isZ z.1)) args s 0 0 (AB B)) (F0 m 16 ls []))  (k_v2 : KD v2 = 7)  (hH : HS D B Y w s H locs) (hl : lv_has ls 4 [(0, .ref (B + 639)), (2, .ref (B + v2)), (3, .int v3)]) (hf : g_X1_skeletonInto_16 rc_16 v2 v3 w = some z) : W p l e (RM 4 0 0) s m args below meth c H locs 0 0 (MQ below (QG D B Y (some (.int z.1)) z.2 (isZ z.1)) args s 0 0 (AB B)) (F0 m 16 ls []) := by
  have hx := C.1
  have hb := C.2.1
  unfold g_X1_skeletonInto_16 at hf
  refine lv_iload_n hx hb dX1_skeletonInto_16 rfl (lv_at hl 2 rfl) ?_
  refine lv_aload_n hx hb dX1_skeletonInto_17 rfl (lv_at hl 0 rfl) ?_
  refine fg_X1_30 C hH dX1_skeletonInto_18 ?_
  obtain ⟨x2, w1, hc, hf⟩ := bd_some hf
  refine q_callV1 (v := .int x2) (As := []) C hH (ci := 7) rfl (by omega) gk_X1_52 yd_X7_size (by omega) (by omega) kc_646 (c_X7_size kc_646 hc) hl.1 rfl (Nat.le_of_ble_eq_true rfl) dX1_skeletonInto_21 xv_00 (fun H locs hH hP => ?_)
  refine b_icmp_ge (tgt := 56) hx hb hf dX1_skeletonInto_24 (by decide) (fun hf => ?_) (fun hf => ?_)
  · refine lv_aload_n hx hb dX1_skeletonInto_56 rfl (lv_at hl 0 rfl) ?_
    refine lv_aload_n hx hb dX1_skeletonInto_57 rfl (lv_at hl 0 rfl) ?_
    refine fg_X1_30 C hH dX1_skeletonInto_58 ?_
    refine lv_aload_n hx hb dX1_skeletonInto_61 rfl (lv_at hl 1 rfl) ?_
    obtain ⟨x4, w3, hc, hf⟩ := bd_some hf
    refine q_callV1 (v := .int x4) (As := [.ref (B + 646), .ref (B + v2)]) C hH (ci := 1) rfl (by omega) gk_X1_36 yd_X1_splitInto (by omega) (by omega) kc_639 (c_X1_splitInto kc_646 k_v2 hc) hl.1 rfl (Nat.le_of_ble_eq_true rfl) dX1_skeletonInto_62 xv_00 (fun H locs hH z_x4 => ?_)
    cases hf
    exact q_retz C hH z_x4 z_x4 dX1_skeletonInto_65
  · refine lv_aload_n hx hb dX1_skeletonInto_27 rfl (lv_at hl 0 rfl) ?_
    refine fg_X1_30 C hH dX1_skeletonInto_28 ?_
    refine lv_iload_n hx hb dX1_skeletonInto_31 rfl (lv_at hl 2 rfl) ?_
    refine lv_aload_n hx hb dX1_skeletonInto_32 rfl (lv_at hl 0 rfl) ?_
    refine fg_X1_9 C hH dX1_skeletonInto_33 ?_
    refine lv_aload_n hx hb dX1_skeletonInto_36 rfl (lv_at hl 0 rfl) ?_
    refine fg_X1_30 C hH dX1_skeletonInto_37 ?_
    refine lv_iload_n hx hb dX1_skeletonInto_40 rfl (lv_at hl 2 rfl) ?_
    obtain ⟨x6, w5, hc, hf⟩ := bd_some hf
    refine q_callV1 (v := .int x6) (As := [.int v3]) C hH (ci := 7) rfl (by omega) gk_X1_56 yd_X7_get (by omega) (by omega) kc_646 (c_X7_get kc_646 hc) hl.1 rfl (Nat.le_of_ble_eq_true rfl) dX1_skeletonInto_41 xv_00 (fun H locs hH hP => ?_)
    obtain ⟨x8, w7, hc, hf⟩ := bd_some hf
    refine q_callV1 (v := .int x8) (As := [.int x6]) C hH (ci := 9) rfl (by omega) gk_X1_112 yd_X9_likeOf (by omega) (by omega) kc_1 (c_X9_likeOf kc_1 hc) hl.1 rfl (Nat.le_of_ble_eq_true rfl) dX1_skeletonInto_44 xv_00 (fun H locs hH hP => ?_)
    obtain ⟨u, w9, hc, hf⟩ := bd_some hf
    refine q_callV0 (As := [.int v3, .int x8]) C hH (ci := 7) rfl (by omega) gk_X1_86 yd_X7_set (by omega) (by omega) kc_646 (c_X7_set kc_646 hc) hl.1 rfl (Nat.le_of_ble_eq_true rfl) dX1_skeletonInto_47 xv_00 (fun H locs hH hP => ?_)
    refine b_let hf (fun x10 he hf => ?_)
    refine lv_iinc (v := x10) (lv' := [(3, .int x10), (0, .ref (B + 639)), (2, .ref (B + v2))]) hx hb dX1_skeletonInto_50 hl (k := 2) rfl (by rw [← he]; rfl) (by decide) rfl (fun ls hl => ?_)
    refine lv_goto (tgt := 16) hx hb dX1_skeletonInto_53 (by decide) ?_
    exact hr_16 v2 x10 w9 hf k_v2 _ _ _ hH (lv_sub hl [1, 2, 0] rfl)
set_option maxRecDepth 100000 in
set_option maxHeartbeats 4000000 in
theorem t_X1_skeletonInto_16 {D : va_G} {B : Nat} {Y : Nat → ClassId} {p : Program} {l : Launch} {e : Env} {s : State} {m : MethodId} {args : Array Value} {below : List Frame} {meth : Method} {c : Code} {z : (Int32 × Wd)} {H : Heap} {locs : List Loc} {ls : Array Slot} {w : Wd} {v2 : Nat} {v3 : Int32} (C : CX D B Y p s m args meth c cX1_skeletonInto 4 RX1 (some .boolean))   (k_v2 : KD v2 = 7)  (hH : HS D B Y w s H locs) (hl : lv_has ls 4 [(0, .ref (B + 639)), (2, .ref (B + v2)), (3, .int v3)]) (hf : f_X1_skeletonInto_16 v2 v3 w = some z) : W p l e (RM 4 0 0) s m args below meth c H locs 0 0 (MQ below (QG D B Y (some (.int z.1)) z.2 (isZ z.1)) args s 0 0 (AB B)) (F0 m 16 ls []) := by
  exact loopN_ind (z := z) (body := fun rc σ => g_X1_skeletonInto_16 rc  σ.1 σ.2.1 σ.2.2)
    (P := fun σ => KD σ.1 = 7 → ∀ (H : Heap) (locs : List Loc) (ls : Array Slot), HS D B Y σ.2.2 s H locs → lv_has ls 4 [(0, .ref (B + 639)), (2, .ref (B + σ.1)), (3, .int σ.2.1)] → W p l e (RM 4 0 0) s m args below meth c H locs 0 0 (MQ below (QG D B Y (some (.int z.1)) z.2 (isZ z.1)) args s 0 0 (AB B)) (F0 m 16 ls []))
    (fun rc hrec σ hf k_v2 H locs ls hH hl => tb_X1_skeletonInto_16 C (fun v2 v3 w hr k_v2 H locs ls hH hl => hrec (v2, v3, w) hr k_v2 H locs ls hH hl)  k_v2 hH hl hf) FU (v2, v3, w) hf k_v2 H locs ls hH hl
set_option maxRecDepth 100000 in
set_option maxHeartbeats 4000000 in
theorem t_X1_skeletonInto_0 {D : va_G} {B : Nat} {Y : Nat → ClassId} {p : Program} {l : Launch} {e : Env} {s : State} {m : MethodId} {args : Array Value} {below : List Frame} {meth : Method} {c : Code} {z : (Int32 × Wd)} {H : Heap} {locs : List Loc} {ls : Array Slot} {w : Wd} {v1 : Nat} {v2 : Nat} (C : CX D B Y p s m args meth c cX1_skeletonInto 4 RX1 (some .boolean))   (k_v1 : KD v1 = 7) (k_v2 : KD v2 = 7)  (hH : HS D B Y w s H locs) (hl : lv_has ls 4 [(0, .ref (B + 639)), (1, .ref (B + v1)), (2, .ref (B + v2))]) (hf : f_X1_skeletonInto v1 v2 w = some z) : W p l e (RM 4 0 0) s m args below meth c H locs 0 0 (MQ below (QG D B Y (some (.int z.1)) z.2 (isZ z.1)) args s 0 0 (AB B)) (F0 m 0 ls []) := by
  have hx := C.1
  have hb := C.2.1
  unfold f_X1_skeletonInto at hf
  refine lv_aload_n hx hb dX1_skeletonInto_0 rfl (lv_at hl 0 rfl) ?_
  refine lv_aload_n hx hb dX1_skeletonInto_1 rfl (lv_at hl 1 rfl) ?_
  refine lv_aload_n hx hb dX1_skeletonInto_2 rfl (lv_at hl 0 rfl) ?_
  refine fg_X1_30 C hH dX1_skeletonInto_3 ?_
  obtain ⟨x2, w1, hc, hf⟩ := bd_some hf
  refine q_callV1 (v := .int x2) (As := [.ref (B + v1), .ref (B + 646)]) C hH (ci := 1) rfl (by omega) gk_X1_36 yd_X1_splitInto (by omega) (by omega) kc_639 (c_X1_splitInto k_v1 kc_646 hc) hl.1 rfl (Nat.le_of_ble_eq_true rfl) dX1_skeletonInto_6 xv_00 (fun H locs hH z_x2 => ?_)
  refine b_if_ne (tgt := 14) hx hb hf dX1_skeletonInto_9 (by decide) (fun hf => ?_) (fun hf => ?_)
  · refine lv_iconst (v := (0 : Int32)) hx hb dX1_skeletonInto_14 (by decide) ?_
    refine lv_istore_n (lv' := [(3, .int (0 : Int32)), (0, .ref (B + 639)), (1, .ref (B + v1)), (2, .ref (B + v2))]) hx hb dX1_skeletonInto_15 rfl hl (by decide) rfl (fun ls hl => ?_)
    exact t_X1_skeletonInto_16 C k_v2 hH (lv_sub hl [1, 3, 0] rfl) hf
  · refine lv_iconst (v := (0 : Int32)) hx hb dX1_skeletonInto_12 (by decide) ?_
    cases hf
    exact q_retz C hH isZ_0 isZ_0 dX1_skeletonInto_13
set_option maxRecDepth 100000 in
theorem c_X1_skeletonInto {l : Launch} {D : va_G} {B : Nat} {Y : Nat → ClassId} {v1 : Nat} {v2 : Nat} {w : Wd} {r : Int32} {w1 : Wd} (k_v1 : KD v1 = 7) (k_v2 : KD v2 = 7)  (hf : f_X1_skeletonInto v1 v2 w = some (r, w1)) : CM l D B Y yX1_skeletonInto cX1_skeletonInto 4 (some .boolean) 4 [.ref (B + 639), .ref (B + v1), .ref (B + v2)] w (some (.int r)) w1 (isZ r) :=
  CM_of (by decide +kernel) (Nat.le_of_ble_eq_true rfl) (fun p e s m args below meth c ls C hH hl => t_X1_skeletonInto_0 C k_v1 k_v2 hH (lv_sub hl [0, 1, 2] rfl) hf)
/-! LetterTables$Forms.formInto -/
set_option maxRecDepth 100000 in
set_option maxHeartbeats 4000000 in
theorem t_X1_formInto_0 {D : va_G} {B : Nat} {Y : Nat → ClassId} {p : Program} {l : Launch} {e : Env} {s : State} {m : MethodId} {args : Array Value} {below : List Frame} {meth : Method} {c : Code} {z : (Int32 × Wd)} {H : Heap} {locs : List Loc} {ls : Array Slot} {w : Wd} {v1 : Nat} {v2 : Int32} {v3 : Nat} (C : CX D B Y p s m args meth c cX1_formInto 4 RX1 (some .boolean))   (k_v1 : KD v1 = 7) (k_v3 : KD v3 = 7)  (hH : HS D B Y w s H locs) (hl : lv_has ls 4 [(0, .ref (B + 639)), (1, .ref (B + v1)), (2, .int v2), (3, .ref (B + v3))]) (hf : f_X1_formInto v1 v2 v3 w = some z) : W p l e (RM 5 0 0) s m args below meth c H locs 0 0 (MQ below (QG D B Y (some (.int z.1)) z.2 (isZ z.1)) args s 0 0 (AB B)) (F0 m 0 ls []) := by
  have hx := C.1
  have hb := C.2.1
  unfold f_X1_formInto at hf
  refine lv_iload_n hx hb dX1_formInto_0 rfl (lv_at hl 2 rfl) ?_
  by_cases h_0 : v2 = 0
  · rw [if_pos h_0] at hf
    refine lv_tableIn (tgt := 28) hx hb dX1_formInto_1 (by rw [h_0]; decide) (by rw [h_0]; decide) (by rw [h_0]; rfl) (by decide) ?_
    refine lv_aload_n hx hb dX1_formInto_28 rfl (lv_at hl 0 rfl) ?_
    refine lv_aload_n hx hb dX1_formInto_29 rfl (lv_at hl 1 rfl) ?_
    refine lv_aload_n hx hb dX1_formInto_30 rfl (lv_at hl 3 rfl) ?_
    obtain ⟨x2, w1, hc, hf⟩ := bd_some hf
    refine q_callV1 (v := .int x2) (As := [.ref (B + v1), .ref (B + v3)]) C hH (ci := 1) rfl (by omega) gk_X1_36 yd_X1_splitInto (by omega) (by omega) kc_639 (c_X1_splitInto k_v1 k_v3 hc) hl.1 rfl (Nat.le_of_ble_eq_true rfl) dX1_formInto_31 xv_00 (fun H locs hH z_x2 => ?_)
    cases hf
    exact q_retz C hH z_x2 z_x2 dX1_formInto_34
  rw [if_neg h_0] at hf
  by_cases h_1 : v2 = 1
  · rw [if_pos h_1] at hf
    refine lv_tableIn (tgt := 35) hx hb dX1_formInto_1 (by rw [h_1]; decide) (by rw [h_1]; decide) (by rw [h_1]; rfl) (by decide) ?_
    refine lv_aload_n hx hb dX1_formInto_35 rfl (lv_at hl 0 rfl) ?_
    refine lv_aload_n hx hb dX1_formInto_36 rfl (lv_at hl 1 rfl) ?_
    refine lv_aload_n hx hb dX1_formInto_37 rfl (lv_at hl 3 rfl) ?_
    obtain ⟨x4, w3, hc, hf⟩ := bd_some hf
    refine q_callV1 (v := .int x4) (As := [.ref (B + v1), .ref (B + v3)]) C hH (ci := 1) rfl (by omega) gk_X1_40 yd_X1_joinInto (by omega) (by omega) kc_639 (c_X1_joinInto k_v1 k_v3 hc) hl.1 rfl (Nat.le_of_ble_eq_true rfl) dX1_formInto_38 xv_00 (fun H locs hH z_x4 => ?_)
    cases hf
    exact q_retz C hH z_x4 z_x4 dX1_formInto_41
  rw [if_neg h_1] at hf
  by_cases h_2 : v2 = 2
  · rw [if_pos h_2] at hf
    refine lv_tableIn (tgt := 42) hx hb dX1_formInto_1 (by rw [h_2]; decide) (by rw [h_2]; decide) (by rw [h_2]; rfl) (by decide) ?_
    refine lv_aload_n hx hb dX1_formInto_42 rfl (lv_at hl 0 rfl) ?_
    refine lv_aload_n hx hb dX1_formInto_43 rfl (lv_at hl 1 rfl) ?_
    refine lv_aload_n hx hb dX1_formInto_44 rfl (lv_at hl 3 rfl) ?_
    obtain ⟨x6, w5, hc, hf⟩ := bd_some hf
    refine q_callV1 (v := .int x6) (As := [.ref (B + v1), .ref (B + v3)]) C hH (ci := 1) rfl (by omega) gk_X1_43 yd_X1_foldInto (by omega) (by omega) kc_639 (c_X1_foldInto k_v1 k_v3 hc) hl.1 rfl (Nat.le_of_ble_eq_true rfl) dX1_formInto_45 xv_00 (fun H locs hH z_x6 => ?_)
    cases hf
    exact q_retz C hH z_x6 z_x6 dX1_formInto_48
  rw [if_neg h_2] at hf
  refine lv_tableOut (tgt := 49) hx hb dX1_formInto_1 (by have q_0 := sw_ne2 (n := 0) h_0 (by decide); have q_1 := sw_ne2 (n := 1) h_1 (by decide); have q_2 := sw_ne2 (n := 2) h_2 (by decide); omega) (by decide) ?_
  refine lv_aload_n hx hb dX1_formInto_49 rfl (lv_at hl 0 rfl) ?_
  refine lv_aload_n hx hb dX1_formInto_50 rfl (lv_at hl 1 rfl) ?_
  refine lv_aload_n hx hb dX1_formInto_51 rfl (lv_at hl 3 rfl) ?_
  obtain ⟨x8, w7, hc, hf⟩ := bd_some hf
  refine q_callV1 (v := .int x8) (As := [.ref (B + v1), .ref (B + v3)]) C hH (ci := 1) rfl (by omega) gk_X1_46 yd_X1_skeletonInto (by omega) (by omega) kc_639 (c_X1_skeletonInto k_v1 k_v3 hc) hl.1 rfl (Nat.le_of_ble_eq_true rfl) dX1_formInto_52 xv_00 (fun H locs hH z_x8 => ?_)
  cases hf
  exact q_retz C hH z_x8 z_x8 dX1_formInto_55
set_option maxRecDepth 100000 in
theorem c_X1_formInto {l : Launch} {D : va_G} {B : Nat} {Y : Nat → ClassId} {v1 : Nat} {v2 : Int32} {v3 : Nat} {w : Wd} {r : Int32} {w1 : Wd} (k_v1 : KD v1 = 7) (k_v3 : KD v3 = 7)  (hf : f_X1_formInto v1 v2 v3 w = some (r, w1)) : CM l D B Y yX1_formInto cX1_formInto 4 (some .boolean) 5 [.ref (B + 639), .ref (B + v1), .int v2, .ref (B + v3)] w (some (.int r)) w1 (isZ r) :=
  CM_of (by decide +kernel) (Nat.le_of_ble_eq_true rfl) (fun p e s m args below meth c ls C hH hl => t_X1_formInto_0 C k_v1 k_v3 hH (lv_sub hl [0, 1, 2, 3] rfl) hf)
/-! LetterTables.checkForm -/
set_option maxRecDepth 100000 in
set_option maxHeartbeats 4000000 in
theorem t_X10_checkForm_0 {D : va_G} {B : Nat} {Y : Nat → ClassId} {p : Program} {l : Launch} {e : Env} {s : State} {m : MethodId} {args : Array Value} {below : List Frame} {meth : Method} {c : Code} {z : ((Nat ⊕ Unit) × Wd)} {H : Heap} {locs : List Loc} {ls : Array Slot} {w : Wd} {v0 : Int32} (C : CX D B Y p s m args meth c cX10_checkForm 1 RX10 none) (hxt : ∀ x ∈ c.exceptionTable.toList, False) (htr : l.stackTraces = false)    (z_v0 : isZ v0) (hH : HS D B Y w s H locs) (hl : lv_has ls 1 [(0, .int v0)]) (hf : f_X10_checkForm v0 w = some z) : W p l e (RM 0 (xv (zoV z.1)) (6 * xv (zoV z.1))) s m args below meth c H locs 0 0 (vx_MQ below (QX D B Y (zoV z.1) z.2 True) (XX D B Y (zoV z.1) z.2) args s (xv (zoV z.1)) (6 * xv (zoV z.1)) (AB B)) (F0 m 0 ls []) := by
  have hx := C.1
  have hb := C.2.1
  unfold f_X10_checkForm at hf
  refine lv_iload_n hx hb dX10_checkForm_0 rfl (lv_at hl 0 rfl) ?_
  refine b_if_ne (tgt := 15) hx hb hf dX10_checkForm_1 (by decide) (fun hf => ?_) (fun hf => ?_)
  · cases hf
    exact q_x0 rfl (q_retv C hH trivial dX10_checkForm_15)
  · cases hf
    exact q_throwW C hH hxt htr (Or.inr (Or.inr rfl)) wd_574 wd_66 wd_584 (List.mem_of_getElem? (i := 11) rfl) hl.1 dX10_checkForm_4 dX10_checkForm_7 dX10_checkForm_8 dX10_checkForm_11 dX10_checkForm_14 (Nat.le_of_ble_eq_true rfl) (xv_1 rfl) (xv_6 rfl)
set_option maxRecDepth 100000 in
theorem c_X10_checkForm {l : Launch} {D : va_G} {B : Nat} {Y : Nat → ClassId} {v0 : Int32} {w : Wd} {r : (Nat ⊕ Unit)} {w1 : Wd} (htr : l.stackTraces = false)  (z_v0 : isZ v0) (hf : f_X10_checkForm v0 w = some (r, w1)) : XM l D B Y yX10_checkForm cX10_checkForm 1 none 0 [.int v0] w (zoV r) w1 True :=
  XM_of (by decide +kernel) (Nat.le_of_ble_eq_true rfl) (fun p e s m args below meth c ls C hxt hH hl => t_X10_checkForm_0 C hxt htr z_v0 hH (lv_sub hl [0] rfl) hf)
/-! LetterTables.form -/
set_option maxRecDepth 100000 in
set_option maxHeartbeats 4000000 in
theorem t_X10_form_57 {D : va_G} {B : Nat} {Y : Nat → ClassId} {p : Program} {l : Launch} {e : Env} {s : State} {m : MethodId} {args : Array Value} {below : List Frame} {meth : Method} {c : Code} {z : ((Nat ⊕ Int32) × Wd)} {H : Heap} {locs : List Loc} {ls : Array Slot} {w : Wd} {v5 : Nat} {t0 : Int32} (C : CX D B Y p s m args meth c cX10_form 6 RX10 (some .int)) (hxt : ∀ x ∈ c.exceptionTable.toList, False) (htr : l.stackTraces = false)   (k_v5 : KD v5 = 7) (z_t0 : isZ t0) (hH : HS D B Y w s H locs) (hl : lv_has ls 6 [(0, .ref (B + 0)), (5, .ref (B + v5))]) (hf : f_X10_form_57 v5 t0 w = some z) : W p l e (RM 6 (xv (zoI z.1)) (6 * xv (zoI z.1))) s m args below meth c H locs 0 0 (vx_MQ below (QX D B Y (zoI z.1) z.2 True) (XX D B Y (zoI z.1) z.2) args s (xv (zoI z.1)) (6 * xv (zoI z.1)) (AB B)) (F0 m 57 ls [.int t0]) := by
  have hx := C.1
  have hb := C.2.1
  unfold f_X10_form_57 at hf
  rcases bdx_some hf with ⟨k, w1, hc, rfl⟩ | ⟨u, w1, hc, hf⟩
  · exact q_xrunX (k0 := k) (q_xS (As := [.int t0]) C hH gk_X10_250 yd_X10_checkForm (by omega) (by omega) (c_X10_checkForm (r := .inl k) htr z_t0 hc) hl.1 rfl (Nat.le_of_ble_eq_true rfl) dX10_form_57 (xv_le rfl)) hH (fun H locs ce q hH h1 h2 h3 => q_out C hH hxt h1 h2 h3 (xv_1 rfl) (xv_6 rfl))
  refine q_xrun (ov := none) (q_xS (As := [.int t0]) C hH gk_X10_250 yd_X10_checkForm (by omega) (by omega) (c_X10_checkForm (r := .inr u) htr z_t0 hc) hl.1 rfl (Nat.le_of_ble_eq_true rfl) dX10_form_57 (xv_0 rfl xv_00)) hH (fun H locs hH hP => ?_)
  refine lv_aload hx hb dX10_form_60 (lv_at hl 1 rfl) ?_
  refine lv_aload_n hx hb dX10_form_62 rfl (lv_at hl 0 rfl) ?_
  refine fg_X10_78 C hH dX10_form_63 ?_
  obtain ⟨u, w2, hc, hf⟩ := bd_some hf
  refine q_callV0 (As := [.ref (B + 699)]) C hH (ci := 7) rfl (by omega) gk_X10_253 yd_X7_takeOver (by omega) (by omega) k_v5 (c_X7_takeOver k_v5 kc_699 hc) hl.1 rfl (Nat.le_of_ble_eq_true rfl) dX10_form_66 xv_00 (fun H locs hH hP => ?_)
  refine lv_aload hx hb dX10_form_69 (lv_at hl 1 rfl) ?_
  obtain ⟨x4, w3, hc, hf⟩ := bd_some hf
  refine q_callV1 (v := .int x4) (As := []) C hH (ci := 7) rfl (by omega) gk_X10_107 yd_X7_size (by omega) (by omega) k_v5 (c_X7_size k_v5 hc) hl.1 rfl (Nat.le_of_ble_eq_true rfl) dX10_form_71 xv_00 (fun H locs hH hP => ?_)
  cases hf
  exact q_x0 rfl (q_reti C hH trivial dX10_form_74)
set_option maxRecDepth 100000 in
set_option maxHeartbeats 4000000 in
theorem t_X10_form_56 {D : va_G} {B : Nat} {Y : Nat → ClassId} {p : Program} {l : Launch} {e : Env} {s : State} {m : MethodId} {args : Array Value} {below : List Frame} {meth : Method} {c : Code} {z : ((Nat ⊕ Int32) × Wd)} {H : Heap} {locs : List Loc} {ls : Array Slot} {w : Wd} {v5 : Nat} (C : CX D B Y p s m args meth c cX10_form 6 RX10 (some .int)) (hxt : ∀ x ∈ c.exceptionTable.toList, False) (htr : l.stackTraces = false)   (k_v5 : KD v5 = 7)  (hH : HS D B Y w s H locs) (hl : lv_has ls 6 [(0, .ref (B + 0)), (5, .ref (B + v5))]) (hf : f_X10_form_56 v5 w = some z) : W p l e (RM 6 (xv (zoI z.1)) (6 * xv (zoI z.1))) s m args below meth c H locs 0 0 (vx_MQ below (QX D B Y (zoI z.1) z.2 True) (XX D B Y (zoI z.1) z.2) args s (xv (zoI z.1)) (6 * xv (zoI z.1)) (AB B)) (F0 m 56 ls []) := by
  have hx := C.1
  have hb := C.2.1
  unfold f_X10_form_56 at hf
  refine lv_iconst (v := (0 : Int32)) hx hb dX10_form_56 (by decide) ?_
  exact t_X10_form_57 C hxt htr k_v5 isZ_0 hH (lv_sub hl [0, 1] rfl) hf
set_option maxRecDepth 100000 in
set_option maxHeartbeats 4000000 in
theorem t_X10_form_0 {D : va_G} {B : Nat} {Y : Nat → ClassId} {p : Program} {l : Launch} {e : Env} {s : State} {m : MethodId} {args : Array Value} {below : List Frame} {meth : Method} {c : Code} {z : ((Nat ⊕ Int32) × Wd)} {H : Heap} {locs : List Loc} {ls : Array Slot} {w : Wd} {v1 : Int32} {v2 : Int32} {v3 : Int32} (C : CX D B Y p s m args meth c cX10_form 6 RX10 (some .int)) (hxt : ∀ x ∈ c.exceptionTable.toList, False) (htr : l.stackTraces = false)     (hH : HS D B Y w s H locs) (hl : lv_has ls 6 [(0, .ref (B + 0)), (1, .int v1), (2, .int v2), (3, .int v3)]) (hf : f_X10_form v1 v2 v3 w = some z) : W p l e (RM 6 (xv (zoI z.1)) (6 * xv (zoI z.1))) s m args below meth c H locs 0 0 (vx_MQ below (QX D B Y (zoI z.1) z.2 True) (XX D B Y (zoI z.1) z.2) args s (xv (zoI z.1)) (6 * xv (zoI z.1)) (AB B)) (F0 m 0 ls []) := by
  have hx := C.1
  have hb := C.2.1
  unfold f_X10_form at hf
  refine lv_aload_n hx hb dX10_form_0 rfl (lv_at hl 0 rfl) ?_
  refine lv_iload_n hx hb dX10_form_1 rfl (lv_at hl 1 rfl) ?_
  rcases bdx_some hf with ⟨k, w1, hc, rfl⟩ | ⟨r2, w1, hc, hf⟩
  · exact q_xrunX (k0 := k) (q_xV (As := [.int v1]) C hH (ci := 10) rfl (by omega) gk_X10_194 yd_X10_textOf (by omega) (by omega) kc_0 (c_X10_textOf (r := .inl k) htr hc) hl.1 rfl (Nat.le_of_ble_eq_true rfl) dX10_form_2 (xv_le rfl)) hH (fun H locs ce q hH h1 h2 h3 => q_out C hH hxt h1 h2 h3 (xv_1 rfl) (xv_6 rfl))
  refine q_xrun (ov := some (.ref (B + r2))) (q_xV (As := [.int v1]) C hH (ci := 10) rfl (by omega) gk_X10_194 yd_X10_textOf (by omega) (by omega) kc_0 (c_X10_textOf (r := .inr r2) htr hc) hl.1 rfl (Nat.le_of_ble_eq_true rfl) dX10_form_2 (xv_0 rfl xv_00)) hH (fun H locs hH k_r2 => ?_)
  refine lv_astore (lv' := [(4, .ref (B + r2)), (0, .ref (B + 0)), (1, .int v1), (2, .int v2), (3, .int v3)]) hx hb dX10_form_5 hl (by decide) rfl (fun ls hl => ?_)
  refine lv_aload_n hx hb dX10_form_7 rfl (lv_at hl 1 rfl) ?_
  refine lv_iload_n hx hb dX10_form_8 rfl (lv_at hl 4 rfl) ?_
  rcases bdx_some hf with ⟨k, w3, hc, rfl⟩ | ⟨r4, w3, hc, hf⟩
  · exact q_xrunX (k0 := k) (q_xV (As := [.int v3]) C hH (ci := 10) rfl (by omega) gk_X10_194 yd_X10_textOf (by omega) (by omega) kc_0 (c_X10_textOf (r := .inl k) htr hc) hl.1 rfl (Nat.le_of_ble_eq_true rfl) dX10_form_9 (xv_le rfl)) hH (fun H locs ce q hH h1 h2 h3 => q_out C hH hxt h1 h2 h3 (xv_1 rfl) (xv_6 rfl))
  refine q_xrun (ov := some (.ref (B + r4))) (q_xV (As := [.int v3]) C hH (ci := 10) rfl (by omega) gk_X10_194 yd_X10_textOf (by omega) (by omega) kc_0 (c_X10_textOf (r := .inr r4) htr hc) hl.1 rfl (Nat.le_of_ble_eq_true rfl) dX10_form_9 (xv_0 rfl xv_00)) hH (fun H locs hH k_r4 => ?_)
  refine lv_astore (lv' := [(5, .ref (B + r4)), (4, .ref (B + r2)), (0, .ref (B + 0)), (1, .int v1), (2, .int v2), (3, .int v3)]) hx hb dX10_form_12 hl (by decide) rfl (fun ls hl => ?_)
  refine lv_iload_n hx hb dX10_form_14 rfl (lv_at hl 4 rfl) ?_
  refine lv_iconst (v := (0 : Int32)) hx hb dX10_form_15 (by decide) ?_
  refine lv_iconst (v := (3 : Int32)) hx hb dX10_form_16 (by decide) ?_
  obtain ⟨x6, w5, hc, hf⟩ := bd_some hf
  refine q_callS1 (v := .int x6) (As := [.int v2, .int (0 : Int32), .int (3 : Int32)]) C hH gk_X10_99 yd_X10_isWithin (by omega) (by omega) (c_X10_isWithin hc) hl.1 rfl (Nat.le_of_ble_eq_true rfl) dX10_form_17 xv_00 (fun H locs hH z_x6 => ?_)
  rcases bdx_some hf with ⟨k, w7, hc, rfl⟩ | ⟨u, w7, hc, hf⟩
  · exact q_xrunX (k0 := k) (q_xS (As := [.int x6]) C hH gk_X10_103 yd_X10_checkArgument (by omega) (by omega) (c_X10_checkArgument (r := .inl k) htr z_x6 hc) hl.1 rfl (Nat.le_of_ble_eq_true rfl) dX10_form_20 (xv_le rfl)) hH (fun H locs ce q hH h1 h2 h3 => q_out C hH hxt h1 h2 h3 (xv_1 rfl) (xv_6 rfl))
  refine q_xrun (ov := none) (q_xS (As := [.int x6]) C hH gk_X10_103 yd_X10_checkArgument (by omega) (by omega) (c_X10_checkArgument (r := .inr u) htr z_x6 hc) hl.1 rfl (Nat.le_of_ble_eq_true rfl) dX10_form_20 (xv_0 rfl xv_00)) hH (fun H locs hH hP => ?_)
  refine lv_aload_n hx hb dX10_form_23 rfl (lv_at hl 2 rfl) ?_
  refine fg_X10_41 C hH dX10_form_24 ?_
  refine lv_aload hx hb dX10_form_27 (lv_at hl 1 rfl) ?_
  refine lv_iload_n hx hb dX10_form_29 rfl (lv_at hl 4 rfl) ?_
  refine lv_aload_n hx hb dX10_form_30 rfl (lv_at hl 2 rfl) ?_
  refine fg_X10_78 C hH dX10_form_31 ?_
  obtain ⟨x9, w8, hc, hf⟩ := bd_some hf
  refine q_callV1 (v := .int x9) (As := [.ref (B + r2), .int v2, .ref (B + 699)]) C hH (ci := 1) rfl (by omega) gk_X10_246 yd_X1_formInto (by omega) (by omega) kc_639 (c_X1_formInto k_r2 kc_699 hc) hl.1 rfl (Nat.le_of_ble_eq_true rfl) dX10_form_34 xv_00 (fun H locs hH z_x9 => ?_)
  refine b_if_eq (tgt := 56) hx hb hf dX10_form_37 (by decide) (fun hf => ?_) (fun hf => ?_)
  · exact t_X10_form_56 C hxt htr k_r4 hH (lv_sub hl [2, 0] rfl) hf
  · refine lv_aload_n hx hb dX10_form_40 rfl (lv_at hl 2 rfl) ?_
    refine fg_X10_78 C hH dX10_form_41 ?_
    obtain ⟨x11, w10, hc, hf⟩ := bd_some hf
    refine q_callV1 (v := .int x11) (As := []) C hH (ci := 7) rfl (by omega) gk_X10_107 yd_X7_size (by omega) (by omega) kc_699 (c_X7_size kc_699 hc) hl.1 rfl (Nat.le_of_ble_eq_true rfl) dX10_form_44 xv_00 (fun H locs hH hP => ?_)
    refine lv_bipush (v := (40 : Int32)) hx hb dX10_form_47 (by decide) ?_
    refine b_icmp_gt (tgt := 56) hx hb hf dX10_form_49 (by decide) (fun hf => ?_) (fun hf => ?_)
    · exact t_X10_form_56 C hxt htr k_r4 hH (lv_sub hl [2, 0] rfl) hf
    · refine lv_iconst (v := (1 : Int32)) hx hb dX10_form_52 (by decide) ?_
      refine lv_goto (tgt := 57) hx hb dX10_form_53 (by decide) ?_
      exact t_X10_form_57 C hxt htr k_r4 isZ_1 hH (lv_sub hl [2, 0] rfl) hf
set_option maxRecDepth 100000 in
theorem c_X10_form {l : Launch} {D : va_G} {B : Nat} {Y : Nat → ClassId} {v1 : Int32} {v2 : Int32} {v3 : Int32} {w : Wd} {r : (Nat ⊕ Int32)} {w1 : Wd} (htr : l.stackTraces = false)   (hf : f_X10_form v1 v2 v3 w = some (r, w1)) : XM l D B Y yX10_form cX10_form 6 (some .int) 6 [.ref (B + 0), .int v1, .int v2, .int v3] w (zoI r) w1 True :=
  XM_of (by decide +kernel) (Nat.le_of_ble_eq_true rfl) (fun p e s m args below meth c ls C hxt hH hl => t_X10_form_0 C hxt htr  hH (lv_sub hl [0, 1, 2, 3] rfl) hf)
/-! LetterTables$Row.holds -/
set_option maxRecDepth 100000 in
set_option maxHeartbeats 4000000 in
theorem tb_X7_holds_21 {D : va_G} {B : Nat} {Y : Nat → ClassId} {p : Program} {l : Launch} {e : Env} {s : State} {m : MethodId} {args : Array Value} {below : List Frame} {meth : Method} {c : Code} {z : (Int32 × Wd)} {H : Heap} {locs : List Loc} {ls : Array Slot} {w : Wd} {v0 : Nat} {v1 : Nat} {v2 : Int32} {v3 : Int32} (C : CX D B Y p s m args meth c cX7_holds 4 RX7 (some .boolean))  {rc_21 : Nat × Nat × Int32 × Int32 × Wd → Option (Int32 × Wd)} (hr_21 : ∀ (v0 : Nat) (v1 : Nat) (v2 : Int32) (v3 : Int32) (w : Wd), rc_21 (v0, v1, v2, v3, w) = some z → KD v0 = 7 → KD v1 = 7 → ∀ (H : Heap) (locs : List Loc) (ls : Array Slot), HS D B Y w s H locs → lv_has ls 4 [(0, .ref (B + v0)), (1, .ref (B + v1)), (2, .int v2), (3, .int v3)] → W p l e (RM 1 0 0) s m args below meth c H locs 0 0 (MQ below (QG D B Y (some (.int z.1)) z.2 (isZ z.1)) args s 0 0 (AB B)) (F0 m 21 ls []))  (k_v0 : KD v0 = 7) (k_v1 : KD v1 = 7)  (hH : HS D B Y w s H locs) (hl : lv_has ls 4 [(0, .ref (B + v0)), (1, .ref (B + v1)), (2, .int v2), (3, .int v3)]) (hf : g_X7_holds_21 rc_21 v0 v1 v2 v3 w = some z) : W p l e (RM 1 0 0) s m args below meth c H locs 0 0 (MQ below (QG D B Y (some (.int z.1)) z.2 (isZ z.1)) args s 0 0 (AB B)) (F0 m 21 ls []) := by
  have hx := C.1
  have hb := C.2.1
  unfold g_X7_holds_21 at hf
  refine lv_iload_n hx hb dX7_holds_21 rfl (lv_at hl 3 rfl) ?_
  refine lv_aload_n hx hb dX7_holds_22 rfl (lv_at hl 1 rfl) ?_
  refine fg_X7_15 C hH k_v1 dX7_holds_23 ?_
  refine b_icmp_ge (tgt := 52) hx hb hf dX7_holds_26 (by decide) (fun hf => ?_) (fun hf => ?_)
  · refine lv_iconst (v := (1 : Int32)) hx hb dX7_holds_52 (by decide) ?_
    cases hf
    exact q_retz C hH isZ_1 isZ_1 dX7_holds_53
  · refine lv_aload_n hx hb dX7_holds_29 rfl (lv_at hl 0 rfl) ?_
    refine lv_iload_n hx hb dX7_holds_30 rfl (lv_at hl 2 rfl) ?_
    refine lv_iload_n hx hb dX7_holds_31 rfl (lv_at hl 3 rfl) ?_
    refine lv_iadd hx hb dX7_holds_32 ?_
    obtain ⟨x2, w1, hc, hf⟩ := bd_some hf
    refine q_callV1 (v := .int x2) (As := [.int (v2 + v3)]) C hH (ci := 7) rfl (by omega) gk_X7_19 yd_X7_get (by omega) (by omega) k_v0 (c_X7_get k_v0 hc) hl.1 rfl (Nat.le_of_ble_eq_true rfl) dX7_holds_33 xv_00 (fun H locs hH hP => ?_)
    refine lv_aload_n hx hb dX7_holds_36 rfl (lv_at hl 1 rfl) ?_
    refine lv_iload_n hx hb dX7_holds_37 rfl (lv_at hl 3 rfl) ?_
    obtain ⟨x4, w3, hc, hf⟩ := bd_some hf
    refine q_callV1 (v := .int x4) (As := [.int v3]) C hH (ci := 7) rfl (by omega) gk_X7_19 yd_X7_get (by omega) (by omega) k_v1 (c_X7_get k_v1 hc) hl.1 rfl (Nat.le_of_ble_eq_true rfl) dX7_holds_38 xv_00 (fun H locs hH hP => ?_)
    refine b_icmp_eq (tgt := 46) hx hb hf dX7_holds_41 (by decide) (fun hf => ?_) (fun hf => ?_)
    · refine b_let hf (fun x5 he hf => ?_)
      refine lv_iinc (v := x5) (lv' := [(3, .int x5), (0, .ref (B + v0)), (1, .ref (B + v1)), (2, .int v2)]) hx hb dX7_holds_46 hl (k := 3) rfl (by rw [← he]; rfl) (by decide) rfl (fun ls hl => ?_)
      refine lv_goto (tgt := 21) hx hb dX7_holds_49 (by decide) ?_
      exact hr_21 v0 v1 v2 x5 w3 hf k_v0 k_v1 _ _ _ hH (lv_sub hl [1, 2, 3, 0] rfl)
    · refine lv_iconst (v := (0 : Int32)) hx hb dX7_holds_44 (by decide) ?_
      cases hf
      exact q_retz C hH isZ_0 isZ_0 dX7_holds_45
set_option maxRecDepth 100000 in
set_option maxHeartbeats 4000000 in
theorem t_X7_holds_21 {D : va_G} {B : Nat} {Y : Nat → ClassId} {p : Program} {l : Launch} {e : Env} {s : State} {m : MethodId} {args : Array Value} {below : List Frame} {meth : Method} {c : Code} {z : (Int32 × Wd)} {H : Heap} {locs : List Loc} {ls : Array Slot} {w : Wd} {v0 : Nat} {v1 : Nat} {v2 : Int32} {v3 : Int32} (C : CX D B Y p s m args meth c cX7_holds 4 RX7 (some .boolean))   (k_v0 : KD v0 = 7) (k_v1 : KD v1 = 7)  (hH : HS D B Y w s H locs) (hl : lv_has ls 4 [(0, .ref (B + v0)), (1, .ref (B + v1)), (2, .int v2), (3, .int v3)]) (hf : f_X7_holds_21 v0 v1 v2 v3 w = some z) : W p l e (RM 1 0 0) s m args below meth c H locs 0 0 (MQ below (QG D B Y (some (.int z.1)) z.2 (isZ z.1)) args s 0 0 (AB B)) (F0 m 21 ls []) := by
  exact loopN_ind (z := z) (body := fun rc σ => g_X7_holds_21 rc  σ.1 σ.2.1 σ.2.2.1 σ.2.2.2.1 σ.2.2.2.2)
    (P := fun σ => KD σ.1 = 7 → KD σ.2.1 = 7 → ∀ (H : Heap) (locs : List Loc) (ls : Array Slot), HS D B Y σ.2.2.2.2 s H locs → lv_has ls 4 [(0, .ref (B + σ.1)), (1, .ref (B + σ.2.1)), (2, .int σ.2.2.1), (3, .int σ.2.2.2.1)] → W p l e (RM 1 0 0) s m args below meth c H locs 0 0 (MQ below (QG D B Y (some (.int z.1)) z.2 (isZ z.1)) args s 0 0 (AB B)) (F0 m 21 ls []))
    (fun rc hrec σ hf k_v0 k_v1 H locs ls hH hl => tb_X7_holds_21 C (fun v0 v1 v2 v3 w hr k_v0 k_v1 H locs ls hH hl => hrec (v0, v1, v2, v3, w) hr k_v0 k_v1 H locs ls hH hl)  k_v0 k_v1 hH hl hf) FU (v0, v1, v2, v3, w) hf k_v0 k_v1 H locs ls hH hl
set_option maxRecDepth 100000 in
set_option maxHeartbeats 4000000 in
theorem t_X7_holds_0 {D : va_G} {B : Nat} {Y : Nat → ClassId} {p : Program} {l : Launch} {e : Env} {s : State} {m : MethodId} {args : Array Value} {below : List Frame} {meth : Method} {c : Code} {z : (Int32 × Wd)} {H : Heap} {locs : List Loc} {ls : Array Slot} {w : Wd} {v0 : Nat} {v1 : Nat} {v2 : Int32} (C : CX D B Y p s m args meth c cX7_holds 4 RX7 (some .boolean))   (k_v0 : KD v0 = 7) (k_v1 : KD v1 = 7)  (hH : HS D B Y w s H locs) (hl : lv_has ls 4 [(0, .ref (B + v0)), (1, .ref (B + v1)), (2, .int v2)]) (hf : f_X7_holds v0 v1 v2 w = some z) : W p l e (RM 1 0 0) s m args below meth c H locs 0 0 (MQ below (QG D B Y (some (.int z.1)) z.2 (isZ z.1)) args s 0 0 (AB B)) (F0 m 0 ls []) := by
  have hx := C.1
  have hb := C.2.1
  unfold f_X7_holds at hf
  refine lv_iload_n hx hb dX7_holds_0 rfl (lv_at hl 2 rfl) ?_
  refine b_if_lt (tgt := 17) hx hb hf dX7_holds_1 (by decide) (fun hf => ?_) (fun hf => ?_)
  · refine lv_iconst (v := (0 : Int32)) hx hb dX7_holds_17 (by decide) ?_
    cases hf
    exact q_retz C hH isZ_0 isZ_0 dX7_holds_18
  · refine lv_aload_n hx hb dX7_holds_4 rfl (lv_at hl 1 rfl) ?_
    refine fg_X7_15 C hH k_v1 dX7_holds_5 ?_
    refine lv_aload_n hx hb dX7_holds_8 rfl (lv_at hl 0 rfl) ?_
    refine fg_X7_15 C hH k_v0 dX7_holds_9 ?_
    refine lv_iload_n hx hb dX7_holds_12 rfl (lv_at hl 2 rfl) ?_
    refine lv_isub hx hb dX7_holds_13 ?_
    refine b_icmp_le (tgt := 19) hx hb hf dX7_holds_14 (by decide) (fun hf => ?_) (fun hf => ?_)
    · refine lv_iconst (v := (0 : Int32)) hx hb dX7_holds_19 (by decide) ?_
      refine lv_istore_n (lv' := [(3, .int (0 : Int32)), (0, .ref (B + v0)), (1, .ref (B + v1)), (2, .int v2)]) hx hb dX7_holds_20 rfl hl (by decide) rfl (fun ls hl => ?_)
      exact t_X7_holds_21 C k_v0 k_v1 hH (lv_sub hl [1, 2, 3, 0] rfl) hf
    · refine lv_iconst (v := (0 : Int32)) hx hb dX7_holds_17 (by decide) ?_
      cases hf
      exact q_retz C hH isZ_0 isZ_0 dX7_holds_18
set_option maxRecDepth 100000 in
theorem c_X7_holds {l : Launch} {D : va_G} {B : Nat} {Y : Nat → ClassId} {v0 : Nat} {v1 : Nat} {v2 : Int32} {w : Wd} {r : Int32} {w1 : Wd} (k_v0 : KD v0 = 7) (k_v1 : KD v1 = 7)  (hf : f_X7_holds v0 v1 v2 w = some (r, w1)) : CM l D B Y yX7_holds cX7_holds 4 (some .boolean) 1 [.ref (B + v0), .ref (B + v1), .int v2] w (some (.int r)) w1 (isZ r) :=
  CM_of (by decide +kernel) (Nat.le_of_ble_eq_true rfl) (fun p e s m args below meth c ls C hH hl => t_X7_holds_0 C k_v0 k_v1 hH (lv_sub hl [0, 1, 2] rfl) hf)
/-! LetterTables$Row.isLike -/
set_option maxRecDepth 100000 in
set_option maxHeartbeats 4000000 in
theorem t_X7_isLike_0 {D : va_G} {B : Nat} {Y : Nat → ClassId} {p : Program} {l : Launch} {e : Env} {s : State} {m : MethodId} {args : Array Value} {below : List Frame} {meth : Method} {c : Code} {z : (Int32 × Wd)} {H : Heap} {locs : List Loc} {ls : Array Slot} {w : Wd} {v0 : Nat} {v1 : Nat} (C : CX D B Y p s m args meth c cX7_isLike 2 RX7 (some .boolean))   (k_v0 : KD v0 = 7) (k_v1 : KD v1 = 7)  (hH : HS D B Y w s H locs) (hl : lv_has ls 2 [(0, .ref (B + v0)), (1, .ref (B + v1))]) (hf : f_X7_isLike v0 v1 w = some z) : W p l e (RM 2 0 0) s m args below meth c H locs 0 0 (MQ below (QG D B Y (some (.int z.1)) z.2 (isZ z.1)) args s 0 0 (AB B)) (F0 m 0 ls []) := by
  have hx := C.1
  have hb := C.2.1
  unfold f_X7_isLike at hf
  refine lv_aload_n hx hb dX7_isLike_0 rfl (lv_at hl 0 rfl) ?_
  refine fg_X7_15 C hH k_v0 dX7_isLike_1 ?_
  refine lv_aload_n hx hb dX7_isLike_4 rfl (lv_at hl 1 rfl) ?_
  refine fg_X7_15 C hH k_v1 dX7_isLike_5 ?_
  refine b_icmp_ne (tgt := 24) hx hb hf dX7_isLike_8 (by decide) (fun hf => ?_) (fun hf => ?_)
  · refine lv_iconst (v := (0 : Int32)) hx hb dX7_isLike_24 (by decide) ?_
    cases hf
    exact q_retz C hH isZ_0 isZ_0 dX7_isLike_25
  · refine lv_aload_n hx hb dX7_isLike_11 rfl (lv_at hl 0 rfl) ?_
    refine lv_aload_n hx hb dX7_isLike_12 rfl (lv_at hl 1 rfl) ?_
    refine lv_iconst (v := (0 : Int32)) hx hb dX7_isLike_13 (by decide) ?_
    obtain ⟨x2, w1, hc, hf⟩ := bd_some hf
    refine q_callV1 (v := .int x2) (As := [.ref (B + v1), .int (0 : Int32)]) C hH (ci := 7) rfl (by omega) gk_X7_31 yd_X7_holds (by omega) (by omega) k_v0 (c_X7_holds k_v0 k_v1 hc) hl.1 rfl (Nat.le_of_ble_eq_true rfl) dX7_isLike_14 xv_00 (fun H locs hH z_x2 => ?_)
    refine b_if_eq (tgt := 24) hx hb hf dX7_isLike_17 (by decide) (fun hf => ?_) (fun hf => ?_)
    · refine lv_iconst (v := (0 : Int32)) hx hb dX7_isLike_24 (by decide) ?_
      cases hf
      exact q_retz C hH isZ_0 isZ_0 dX7_isLike_25
    · refine lv_iconst (v := (1 : Int32)) hx hb dX7_isLike_20 (by decide) ?_
      refine lv_goto (tgt := 25) hx hb dX7_isLike_21 (by decide) ?_
      cases hf
      exact q_retz C hH isZ_1 isZ_1 dX7_isLike_25
set_option maxRecDepth 100000 in
theorem c_X7_isLike {l : Launch} {D : va_G} {B : Nat} {Y : Nat → ClassId} {v0 : Nat} {v1 : Nat} {w : Wd} {r : Int32} {w1 : Wd} (k_v0 : KD v0 = 7) (k_v1 : KD v1 = 7)  (hf : f_X7_isLike v0 v1 w = some (r, w1)) : CM l D B Y yX7_isLike cX7_isLike 2 (some .boolean) 2 [.ref (B + v0), .ref (B + v1)] w (some (.int r)) w1 (isZ r) :=
  CM_of (by decide +kernel) (Nat.le_of_ble_eq_true rfl) (fun p e s m args below meth c ls C hH hl => t_X7_isLike_0 C k_v0 k_v1 hH (lv_sub hl [0, 1] rfl) hf)
/-! LetterTables.looksLike -/
set_option maxRecDepth 100000 in
set_option maxHeartbeats 4000000 in
theorem t_X10_looksLike_49 {D : va_G} {B : Nat} {Y : Nat → ClassId} {p : Program} {l : Launch} {e : Env} {s : State} {m : MethodId} {args : Array Value} {below : List Frame} {meth : Method} {c : Code} {z : ((Nat ⊕ Int32) × Wd)} {H : Heap} {locs : List Loc} {ls : Array Slot} {w : Wd} {t0 : Int32} (C : CX D B Y p s m args meth c cX10_looksLike 5 RX10 (some .boolean)) (hxt : ∀ x ∈ c.exceptionTable.toList, False) (htr : l.stackTraces = false)    (z_t0 : isZ t0) (hH : HS D B Y w s H locs) (hl : lv_has ls 5 [(0, .ref (B + 0))]) (hf : f_X10_looksLike_49 t0 w = some z) : W p l e (RM 5 (xv (zoI z.1)) (6 * xv (zoI z.1))) s m args below meth c H locs 0 0 (vx_MQ below (QX D B Y (zoI z.1) z.2 (pZ z.1)) (XX D B Y (zoI z.1) z.2) args s (xv (zoI z.1)) (6 * xv (zoI z.1)) (AB B)) (F0 m 49 ls [.int t0]) := by
  have hx := C.1
  have hb := C.2.1
  unfold f_X10_looksLike_49 at hf
  rcases bdx_some hf with ⟨k, w1, hc, rfl⟩ | ⟨u, w1, hc, hf⟩
  · exact q_xrunX (k0 := k) (q_xS (As := [.int t0]) C hH gk_X10_250 yd_X10_checkForm (by omega) (by omega) (c_X10_checkForm (r := .inl k) htr z_t0 hc) hl.1 rfl (Nat.le_of_ble_eq_true rfl) dX10_looksLike_49 (xv_le rfl)) hH (fun H locs ce q hH h1 h2 h3 => q_out C hH hxt h1 h2 h3 (xv_1 rfl) (xv_6 rfl))
  refine q_xrun (ov := none) (q_xS (As := [.int t0]) C hH gk_X10_250 yd_X10_checkForm (by omega) (by omega) (c_X10_checkForm (r := .inr u) htr z_t0 hc) hl.1 rfl (Nat.le_of_ble_eq_true rfl) dX10_looksLike_49 (xv_0 rfl xv_00)) hH (fun H locs hH hP => ?_)
  refine lv_aload_n hx hb dX10_looksLike_52 rfl (lv_at hl 0 rfl) ?_
  refine fg_X10_78 C hH dX10_looksLike_53 ?_
  refine lv_aload_n hx hb dX10_looksLike_56 rfl (lv_at hl 0 rfl) ?_
  refine fg_X10_81 C hH dX10_looksLike_57 ?_
  obtain ⟨x3, w2, hc, hf⟩ := bd_some hf
  refine q_callV1 (v := .int x3) (As := [.ref (B + 701)]) C hH (ci := 7) rfl (by omega) gk_X10_260 yd_X7_isLike (by omega) (by omega) kc_699 (c_X7_isLike kc_699 kc_701 hc) hl.1 rfl (Nat.le_of_ble_eq_true rfl) dX10_looksLike_60 xv_00 (fun H locs hH z_x3 => ?_)
  cases hf
  exact q_x0 rfl (q_retz C hH z_x3 z_x3 dX10_looksLike_63)
set_option maxRecDepth 100000 in
set_option maxHeartbeats 4000000 in
theorem t_X10_looksLike_48 {D : va_G} {B : Nat} {Y : Nat → ClassId} {p : Program} {l : Launch} {e : Env} {s : State} {m : MethodId} {args : Array Value} {below : List Frame} {meth : Method} {c : Code} {z : ((Nat ⊕ Int32) × Wd)} {H : Heap} {locs : List Loc} {ls : Array Slot} {w : Wd}  (C : CX D B Y p s m args meth c cX10_looksLike 5 RX10 (some .boolean)) (hxt : ∀ x ∈ c.exceptionTable.toList, False) (htr : l.stackTraces = false)     (hH : HS D B Y w s H locs) (hl : lv_has ls 5 [(0, .ref (B + 0))]) (hf : f_X10_looksLike_48 w = some z) : W p l e (RM 5 (xv (zoI z.1)) (6 * xv (zoI z.1))) s m args below meth c H locs 0 0 (vx_MQ below (QX D B Y (zoI z.1) z.2 (pZ z.1)) (XX D B Y (zoI z.1) z.2) args s (xv (zoI z.1)) (6 * xv (zoI z.1)) (AB B)) (F0 m 48 ls []) := by
  have hx := C.1
  have hb := C.2.1
  unfold f_X10_looksLike_48 at hf
  refine lv_iconst (v := (0 : Int32)) hx hb dX10_looksLike_48 (by decide) ?_
  exact t_X10_looksLike_49 C hxt htr isZ_0 hH (lv_sub hl [0] rfl) hf
set_option maxRecDepth 100000 in
set_option maxHeartbeats 4000000 in
theorem t_X10_looksLike_0 {D : va_G} {B : Nat} {Y : Nat → ClassId} {p : Program} {l : Launch} {e : Env} {s : State} {m : MethodId} {args : Array Value} {below : List Frame} {meth : Method} {c : Code} {z : ((Nat ⊕ Int32) × Wd)} {H : Heap} {locs : List Loc} {ls : Array Slot} {w : Wd} {v1 : Int32} {v2 : Int32} (C : CX D B Y p s m args meth c cX10_looksLike 5 RX10 (some .boolean)) (hxt : ∀ x ∈ c.exceptionTable.toList, False) (htr : l.stackTraces = false)     (hH : HS D B Y w s H locs) (hl : lv_has ls 5 [(0, .ref (B + 0)), (1, .int v1), (2, .int v2)]) (hf : f_X10_looksLike v1 v2 w = some z) : W p l e (RM 5 (xv (zoI z.1)) (6 * xv (zoI z.1))) s m args below meth c H locs 0 0 (vx_MQ below (QX D B Y (zoI z.1) z.2 (pZ z.1)) (XX D B Y (zoI z.1) z.2) args s (xv (zoI z.1)) (6 * xv (zoI z.1)) (AB B)) (F0 m 0 ls []) := by
  have hx := C.1
  have hb := C.2.1
  unfold f_X10_looksLike at hf
  refine lv_aload_n hx hb dX10_looksLike_0 rfl (lv_at hl 0 rfl) ?_
  refine lv_iload_n hx hb dX10_looksLike_1 rfl (lv_at hl 1 rfl) ?_
  rcases bdx_some hf with ⟨k, w1, hc, rfl⟩ | ⟨r2, w1, hc, hf⟩
  · exact q_xrunX (k0 := k) (q_xV (As := [.int v1]) C hH (ci := 10) rfl (by omega) gk_X10_194 yd_X10_textOf (by omega) (by omega) kc_0 (c_X10_textOf (r := .inl k) htr hc) hl.1 rfl (Nat.le_of_ble_eq_true rfl) dX10_looksLike_2 (xv_le rfl)) hH (fun H locs ce q hH h1 h2 h3 => q_out C hH hxt h1 h2 h3 (xv_1 rfl) (xv_6 rfl))
  refine q_xrun (ov := some (.ref (B + r2))) (q_xV (As := [.int v1]) C hH (ci := 10) rfl (by omega) gk_X10_194 yd_X10_textOf (by omega) (by omega) kc_0 (c_X10_textOf (r := .inr r2) htr hc) hl.1 rfl (Nat.le_of_ble_eq_true rfl) dX10_looksLike_2 (xv_0 rfl xv_00)) hH (fun H locs hH k_r2 => ?_)
  refine lv_astore_n (lv' := [(3, .ref (B + r2)), (0, .ref (B + 0)), (1, .int v1), (2, .int v2)]) hx hb dX10_looksLike_5 rfl hl (by decide) rfl (fun ls hl => ?_)
  refine lv_aload_n hx hb dX10_looksLike_6 rfl (lv_at hl 1 rfl) ?_
  refine lv_iload_n hx hb dX10_looksLike_7 rfl (lv_at hl 3 rfl) ?_
  rcases bdx_some hf with ⟨k, w3, hc, rfl⟩ | ⟨r4, w3, hc, hf⟩
  · exact q_xrunX (k0 := k) (q_xV (As := [.int v2]) C hH (ci := 10) rfl (by omega) gk_X10_194 yd_X10_textOf (by omega) (by omega) kc_0 (c_X10_textOf (r := .inl k) htr hc) hl.1 rfl (Nat.le_of_ble_eq_true rfl) dX10_looksLike_8 (xv_le rfl)) hH (fun H locs ce q hH h1 h2 h3 => q_out C hH hxt h1 h2 h3 (xv_1 rfl) (xv_6 rfl))
  refine q_xrun (ov := some (.ref (B + r4))) (q_xV (As := [.int v2]) C hH (ci := 10) rfl (by omega) gk_X10_194 yd_X10_textOf (by omega) (by omega) kc_0 (c_X10_textOf (r := .inr r4) htr hc) hl.1 rfl (Nat.le_of_ble_eq_true rfl) dX10_looksLike_8 (xv_0 rfl xv_00)) hH (fun H locs hH k_r4 => ?_)
  refine lv_astore (lv' := [(4, .ref (B + r4)), (3, .ref (B + r2)), (0, .ref (B + 0)), (1, .int v1), (2, .int v2)]) hx hb dX10_looksLike_11 hl (by decide) rfl (fun ls hl => ?_)
  refine lv_aload_n hx hb dX10_looksLike_13 rfl (lv_at hl 2 rfl) ?_
  refine fg_X10_41 C hH dX10_looksLike_14 ?_
  refine lv_aload_n hx hb dX10_looksLike_17 rfl (lv_at hl 1 rfl) ?_
  refine lv_aload_n hx hb dX10_looksLike_18 rfl (lv_at hl 2 rfl) ?_
  refine fg_X10_78 C hH dX10_looksLike_19 ?_
  obtain ⟨x6, w5, hc, hf⟩ := bd_some hf
  refine q_callV1 (v := .int x6) (As := [.ref (B + r2), .ref (B + 699)]) C hH (ci := 1) rfl (by omega) gk_X10_256 yd_X1_skeletonInto (by omega) (by omega) kc_639 (c_X1_skeletonInto k_r2 kc_699 hc) hl.1 rfl (Nat.le_of_ble_eq_true rfl) dX10_looksLike_22 xv_00 (fun H locs hH z_x6 => ?_)
  refine b_if_eq (tgt := 48) hx hb hf dX10_looksLike_25 (by decide) (fun hf => ?_) (fun hf => ?_)
  · exact t_X10_looksLike_48 C hxt htr hH (lv_sub hl [2] rfl) hf
  · refine lv_aload_n hx hb dX10_looksLike_28 rfl (lv_at hl 2 rfl) ?_
    refine fg_X10_41 C hH dX10_looksLike_29 ?_
    refine lv_aload hx hb dX10_looksLike_32 (lv_at hl 0 rfl) ?_
    refine lv_aload_n hx hb dX10_looksLike_34 rfl (lv_at hl 2 rfl) ?_
    refine fg_X10_81 C hH dX10_looksLike_35 ?_
    obtain ⟨x8, w7, hc, hf⟩ := bd_some hf
    refine q_callV1 (v := .int x8) (As := [.ref (B + r4), .ref (B + 701)]) C hH (ci := 1) rfl (by omega) gk_X10_256 yd_X1_skeletonInto (by omega) (by omega) kc_639 (c_X1_skeletonInto k_r4 kc_701 hc) hl.1 rfl (Nat.le_of_ble_eq_true rfl) dX10_looksLike_38 xv_00 (fun H locs hH z_x8 => ?_)
    refine b_if_eq (tgt := 48) hx hb hf dX10_looksLike_41 (by decide) (fun hf => ?_) (fun hf => ?_)
    · exact t_X10_looksLike_48 C hxt htr hH (lv_sub hl [2] rfl) hf
    · refine lv_iconst (v := (1 : Int32)) hx hb dX10_looksLike_44 (by decide) ?_
      refine lv_goto (tgt := 49) hx hb dX10_looksLike_45 (by decide) ?_
      exact t_X10_looksLike_49 C hxt htr isZ_1 hH (lv_sub hl [2] rfl) hf
set_option maxRecDepth 100000 in
theorem c_X10_looksLike {l : Launch} {D : va_G} {B : Nat} {Y : Nat → ClassId} {v1 : Int32} {v2 : Int32} {w : Wd} {r : (Nat ⊕ Int32)} {w1 : Wd} (htr : l.stackTraces = false)   (hf : f_X10_looksLike v1 v2 w = some (r, w1)) : XM l D B Y yX10_looksLike cX10_looksLike 5 (some .boolean) 5 [.ref (B + 0), .int v1, .int v2] w (zoI r) w1 (pZ r) :=
  XM_of (by decide +kernel) (Nat.le_of_ble_eq_true rfl) (fun p e s m args below meth c ls C hxt hH hl => t_X10_looksLike_0 C hxt htr  hH (lv_sub hl [0, 1, 2] rfl) hf)
/-! LetterTables$Tables.directionOf -/
set_option maxRecDepth 100000 in
set_option maxHeartbeats 4000000 in
theorem t_X9_directionOf_0 {D : va_G} {B : Nat} {Y : Nat → ClassId} {p : Program} {l : Launch} {e : Env} {s : State} {m : MethodId} {args : Array Value} {below : List Frame} {meth : Method} {c : Code} {z : (Int32 × Wd)} {H : Heap} {locs : List Loc} {ls : Array Slot} {w : Wd} {v0 : Nat} {v1 : Int32} (C : CX D B Y p s m args meth c cX9_directionOf 2 RX9 (some .int))   (k_v0 : KD v0 = 9)  (hH : HS D B Y w s H locs) (hl : lv_has ls 2 [(0, .ref (B + v0)), (1, .int v1)]) (hf : f_X9_directionOf v0 v1 w = some z) : W p l e (RM 1 0 0) s m args below meth c H locs 0 0 (MQ below (QG D B Y (some (.int z.1)) z.2 True) args s 0 0 (AB B)) (F0 m 0 ls []) := by
  have hx := C.1
  have hb := C.2.1
  unfold f_X9_directionOf at hf
  refine lv_aload_n hx hb dX9_directionOf_0 rfl (lv_at hl 0 rfl) ?_
  refine fg_X9_15 C hH k_v0 dX9_directionOf_1 ?_
  refine lv_iload_n hx hb dX9_directionOf_4 rfl (lv_at hl 1 rfl) ?_
  refine lv_iconst (v := (3 : Int32)) hx hb dX9_directionOf_5 (by decide) ?_
  obtain ⟨x2, w1, hc, hf⟩ := bd_some hf
  refine q_callN1 (v := .int x2) (As := [.ref (B + (v0 + 2)), .int v1, .int (3 : Int32)]) C hH (List.mem_of_getElem? (i := 2) rfl) wd_573 wd_50 wd_572 yd_X10_cellOf (by omega) (by omega) (c_X10_cellOf (ko_9_1 k_v0) hc) hl.1 rfl (Nat.le_of_ble_eq_true rfl) dX9_directionOf_6 xv_00 (fun H locs hH hP => ?_)
  cases hf
  exact q_reti C hH trivial dX9_directionOf_9
set_option maxRecDepth 100000 in
theorem c_X9_directionOf {l : Launch} {D : va_G} {B : Nat} {Y : Nat → ClassId} {v0 : Nat} {v1 : Int32} {w : Wd} {r : Int32} {w1 : Wd} (k_v0 : KD v0 = 9)  (hf : f_X9_directionOf v0 v1 w = some (r, w1)) : CM l D B Y yX9_directionOf cX9_directionOf 2 (some .int) 1 [.ref (B + v0), .int v1] w (some (.int r)) w1 True :=
  CM_of (by decide +kernel) (Nat.le_of_ble_eq_true rfl) (fun p e s m args below meth c ls C hH hl => t_X9_directionOf_0 C k_v0 hH (lv_sub hl [0, 1] rfl) hf)
/-! LetterTables$Levels.isIsolate -/
set_option maxRecDepth 100000 in
set_option maxHeartbeats 4000000 in
theorem t_X3_isIsolate_0 {D : va_G} {B : Nat} {Y : Nat → ClassId} {p : Program} {l : Launch} {e : Env} {s : State} {m : MethodId} {args : Array Value} {below : List Frame} {meth : Method} {c : Code} {z : (Int32 × Wd)} {H : Heap} {locs : List Loc} {ls : Array Slot} {w : Wd} {v0 : Int32} (C : CX D B Y p s m args meth c cX3_isIsolate 1 RX3 (some .boolean))     (hH : HS D B Y w s H locs) (hl : lv_has ls 1 [(0, .int v0)]) (hf : f_X3_isIsolate v0 w = some z) : W p l e (RM 0 0 0) s m args below meth c H locs 0 0 (MQ below (QG D B Y (some (.int z.1)) z.2 (isZ z.1)) args s 0 0 (AB B)) (F0 m 0 ls []) := by
  have hx := C.1
  have hb := C.2.1
  unfold f_X3_isIsolate at hf
  refine lv_iload_n hx hb dX3_isIsolate_0 rfl (lv_at hl 0 rfl) ?_
  refine lv_bipush (v := (7 : Int32)) hx hb dX3_isIsolate_1 (by decide) ?_
  refine b_icmp_eq (tgt := 18) hx hb hf dX3_isIsolate_3 (by decide) (fun hf => ?_) (fun hf => ?_)
  · refine lv_iconst (v := (1 : Int32)) hx hb dX3_isIsolate_18 (by decide) ?_
    refine lv_goto (tgt := 23) hx hb dX3_isIsolate_19 (by decide) ?_
    cases hf
    exact q_retz C hH isZ_1 isZ_1 dX3_isIsolate_23
  · refine lv_iload_n hx hb dX3_isIsolate_6 rfl (lv_at hl 0 rfl) ?_
    refine lv_bipush (v := (8 : Int32)) hx hb dX3_isIsolate_7 (by decide) ?_
    refine b_icmp_eq (tgt := 18) hx hb hf dX3_isIsolate_9 (by decide) (fun hf => ?_) (fun hf => ?_)
    · refine lv_iconst (v := (1 : Int32)) hx hb dX3_isIsolate_18 (by decide) ?_
      refine lv_goto (tgt := 23) hx hb dX3_isIsolate_19 (by decide) ?_
      cases hf
      exact q_retz C hH isZ_1 isZ_1 dX3_isIsolate_23
    · refine lv_iload_n hx hb dX3_isIsolate_12 rfl (lv_at hl 0 rfl) ?_
      refine lv_bipush (v := (9 : Int32)) hx hb dX3_isIsolate_13 (by decide) ?_
      refine b_icmp_ne (tgt := 22) hx hb hf dX3_isIsolate_15 (by decide) (fun hf => ?_) (fun hf => ?_)
      · refine lv_iconst (v := (0 : Int32)) hx hb dX3_isIsolate_22 (by decide) ?_
        cases hf
        exact q_retz C hH isZ_0 isZ_0 dX3_isIsolate_23
      · refine lv_iconst (v := (1 : Int32)) hx hb dX3_isIsolate_18 (by decide) ?_
        refine lv_goto (tgt := 23) hx hb dX3_isIsolate_19 (by decide) ?_
        cases hf
        exact q_retz C hH isZ_1 isZ_1 dX3_isIsolate_23
set_option maxRecDepth 100000 in
theorem c_X3_isIsolate {l : Launch} {D : va_G} {B : Nat} {Y : Nat → ClassId} {v0 : Int32} {w : Wd} {r : Int32} {w1 : Wd}   (hf : f_X3_isIsolate v0 w = some (r, w1)) : CM l D B Y yX3_isIsolate cX3_isIsolate 1 (some .boolean) 0 [.int v0] w (some (.int r)) w1 (isZ r) :=
  CM_of (by decide +kernel) (Nat.le_of_ble_eq_true rfl) (fun p e s m args below meth c ls C hH hl => t_X3_isIsolate_0 C  hH (lv_sub hl [0] rfl) hf)
/-! LetterTables$Levels.baseFrom -/
set_option maxRecDepth 100000 in
set_option maxHeartbeats 4000000 in
theorem t_X3_baseFrom_96 {D : va_G} {B : Nat} {Y : Nat → ClassId} {p : Program} {l : Launch} {e : Env} {s : State} {m : MethodId} {args : Array Value} {below : List Frame} {meth : Method} {c : Code} {z : (Int32 × Wd)} {H : Heap} {locs : List Loc} {ls : Array Slot} {w : Wd} {v6 : Int32} (C : CX D B Y p s m args meth c cX3_baseFrom 7 RX3 (some .int))     (hH : HS D B Y w s H locs) (hl : lv_has ls 7 [(6, .int v6)]) (hf : f_X3_baseFrom_96 v6 w = some z) : W p l e (RM 2 0 0) s m args below meth c H locs 0 0 (MQ below (QG D B Y (some (.int z.1)) z.2 True) args s 0 0 (AB B)) (F0 m 96 ls []) := by
  have hx := C.1
  have hb := C.2.1
  unfold f_X3_baseFrom_96 at hf
  refine lv_iload hx hb dX3_baseFrom_96 (lv_at hl 0 rfl) ?_
  refine lv_iconst (v := (1 : Int32)) hx hb dX3_baseFrom_98 (by decide) ?_
  refine b_icmp_ne (tgt := 106) hx hb hf dX3_baseFrom_99 (by decide) (fun hf => ?_) (fun hf => ?_)
  · refine lv_iconst (v := (0 : Int32)) hx hb dX3_baseFrom_106 (by decide) ?_
    cases hf
    exact q_reti C hH trivial dX3_baseFrom_107
  · refine lv_iconst (v := (1 : Int32)) hx hb dX3_baseFrom_102 (by decide) ?_
    refine lv_goto (tgt := 107) hx hb dX3_baseFrom_103 (by decide) ?_
    cases hf
    exact q_reti C hH trivial dX3_baseFrom_107
set_option maxRecDepth 100000 in
set_option maxHeartbeats 4000000 in
theorem t_X3_baseFrom_62 {D : va_G} {B : Nat} {Y : Nat → ClassId} {p : Program} {l : Launch} {e : Env} {s : State} {m : MethodId} {args : Array Value} {below : List Frame} {meth : Method} {c : Code} {z : (Int32 × Wd)} {H : Heap} {locs : List Loc} {ls : Array Slot} {w : Wd} {v1 : Nat} {v3 : Int32} {v4 : Int32} {v5 : Int32} (C : CX D B Y p s m args meth c cX3_baseFrom 7 RX3 (some .int))  {rc_6 : Nat × Int32 × Int32 × Int32 × Wd → Option (Int32 × Wd)} (hr_6 : ∀ (v1 : Nat) (v3 : Int32) (v4 : Int32) (v5 : Int32) (w : Wd), rc_6 (v1, v3, v4, v5, w) = some z → KD v1 = 7 → isZ v3 → ∀ (H : Heap) (locs : List Loc) (ls : Array Slot), HS D B Y w s H locs → lv_has ls 7 [(0, .ref (B + 650)), (1, .ref (B + v1)), (3, .int v3), (4, .int v4), (5, .int v5)] → W p l e (RM 2 0 0) s m args below meth c H locs 0 0 (MQ below (QG D B Y (some (.int z.1)) z.2 True) args s 0 0 (AB B)) (F0 m 6 ls []))  (k_v1 : KD v1 = 7) (z_v3 : isZ v3) (hH : HS D B Y w s H locs) (hl : lv_has ls 7 [(0, .ref (B + 650)), (1, .ref (B + v1)), (3, .int v3), (4, .int v4), (5, .int v5)]) (hf : f_X3_baseFrom_62 rc_6 v1 v3 v4 v5 w = some z) : W p l e (RM 2 0 0) s m args below meth c H locs 0 0 (MQ below (QG D B Y (some (.int z.1)) z.2 True) args s 0 0 (AB B)) (F0 m 62 ls []) := by
  have hx := C.1
  have hb := C.2.1
  unfold f_X3_baseFrom_62 at hf
  refine lv_iload hx hb dX3_baseFrom_62 (lv_at hl 3 rfl) ?_
  refine b_if_le (tgt := 74) hx hb hf dX3_baseFrom_64 (by decide) (fun hf => ?_) (fun hf => ?_)
  · refine lv_iconst (v := (0 : Int32)) hx hb dX3_baseFrom_74 (by decide) ?_
    refine lv_istore (lv' := [(4, .int (0 : Int32)), (0, .ref (B + 650)), (1, .ref (B + v1)), (3, .int v3), (5, .int v5)]) hx hb dX3_baseFrom_75 hl (by decide) rfl (fun ls hl => ?_)
    refine lv_goto (tgt := 108) hx hb dX3_baseFrom_77 (by decide) ?_
    refine b_let hf (fun x1 he hf => ?_)
    refine lv_iinc (v := x1) (lv' := [(5, .int x1), (4, .int (0 : Int32)), (0, .ref (B + 650)), (1, .ref (B + v1)), (3, .int v3)]) hx hb dX3_baseFrom_108 hl (k := 4) rfl (by rw [← he]; rfl) (by decide) rfl (fun ls hl => ?_)
    refine lv_goto (tgt := 6) hx hb dX3_baseFrom_111 (by decide) ?_
    exact hr_6 v1 v3 (0 : Int32) x1 w hf k_v1 z_v3 _ _ _ hH (lv_sub hl [2, 3, 4, 1, 0] rfl)
  · refine lv_iload hx hb dX3_baseFrom_67 (lv_at hl 3 rfl) ?_
    refine lv_iconst (v := (1 : Int32)) hx hb dX3_baseFrom_69 (by decide) ?_
    refine lv_isub hx hb dX3_baseFrom_70 ?_
    refine lv_goto (tgt := 75) hx hb dX3_baseFrom_71 (by decide) ?_
    refine b_leti hf (fun x2 hf => ?_)
    refine lv_istore (lv' := [(4, .int x2), (0, .ref (B + 650)), (1, .ref (B + v1)), (3, .int v3), (5, .int v5)]) hx hb dX3_baseFrom_75 hl (by decide) rfl (fun ls hl => ?_)
    refine lv_goto (tgt := 108) hx hb dX3_baseFrom_77 (by decide) ?_
    refine b_let hf (fun x3 he hf => ?_)
    refine lv_iinc (v := x3) (lv' := [(5, .int x3), (4, .int x2), (0, .ref (B + 650)), (1, .ref (B + v1)), (3, .int v3)]) hx hb dX3_baseFrom_108 hl (k := 4) rfl (by rw [← he]; rfl) (by decide) rfl (fun ls hl => ?_)
    refine lv_goto (tgt := 6) hx hb dX3_baseFrom_111 (by decide) ?_
    exact hr_6 v1 v3 x2 x3 w hf k_v1 z_v3 _ _ _ hH (lv_sub hl [2, 3, 4, 1, 0] rfl)
set_option maxRecDepth 100000 in
set_option maxHeartbeats 4000000 in
theorem tb_X3_baseFrom_6 {D : va_G} {B : Nat} {Y : Nat → ClassId} {p : Program} {l : Launch} {e : Env} {s : State} {m : MethodId} {args : Array Value} {below : List Frame} {meth : Method} {c : Code} {z : (Int32 × Wd)} {H : Heap} {locs : List Loc} {ls : Array Slot} {w : Wd} {v1 : Nat} {v3 : Int32} {v4 : Int32} {v5 : Int32} (C : CX D B Y p s m args meth c cX3_baseFrom 7 RX3 (some .int))  {rc_6 : Nat × Int32 × Int32 × Int32 × Wd → Option (Int32 × Wd)} (hr_6 : ∀ (v1 : Nat) (v3 : Int32) (v4 : Int32) (v5 : Int32) (w : Wd), rc_6 (v1, v3, v4, v5, w) = some z → KD v1 = 7 → isZ v3 → ∀ (H : Heap) (locs : List Loc) (ls : Array Slot), HS D B Y w s H locs → lv_has ls 7 [(0, .ref (B + 650)), (1, .ref (B + v1)), (3, .int v3), (4, .int v4), (5, .int v5)] → W p l e (RM 2 0 0) s m args below meth c H locs 0 0 (MQ below (QG D B Y (some (.int z.1)) z.2 True) args s 0 0 (AB B)) (F0 m 6 ls []))  (k_v1 : KD v1 = 7) (z_v3 : isZ v3) (hH : HS D B Y w s H locs) (hl : lv_has ls 7 [(0, .ref (B + 650)), (1, .ref (B + v1)), (3, .int v3), (4, .int v4), (5, .int v5)]) (hf : g_X3_baseFrom_6 rc_6 v1 v3 v4 v5 w = some z) : W p l e (RM 2 0 0) s m args below meth c H locs 0 0 (MQ below (QG D B Y (some (.int z.1)) z.2 True) args s 0 0 (AB B)) (F0 m 6 ls []) := by
  have hx := C.1
  have hb := C.2.1
  unfold g_X3_baseFrom_6 at hf
  refine lv_iload hx hb dX3_baseFrom_6 (lv_at hl 4 rfl) ?_
  refine lv_aload_n hx hb dX3_baseFrom_8 rfl (lv_at hl 1 rfl) ?_
  obtain ⟨x2, w1, hc, hf⟩ := bd_some hf
  refine q_callV1 (v := .int x2) (As := []) C hH (ci := 7) rfl (by omega) gk_X3_54 yd_X7_size (by omega) (by omega) k_v1 (c_X7_size k_v1 hc) hl.1 rfl (Nat.le_of_ble_eq_true rfl) dX3_baseFrom_9 xv_00 (fun H locs hH hP => ?_)
  refine b_icmp_ge (tgt := 114) hx hb hf dX3_baseFrom_12 (by decide) (fun hf => ?_) (fun hf => ?_)
  · refine lv_iconst (v := (0 : Int32)) hx hb dX3_baseFrom_114 (by decide) ?_
    cases hf
    exact q_reti C hH trivial dX3_baseFrom_115
  · refine lv_aload_n hx hb dX3_baseFrom_15 rfl (lv_at hl 0 rfl) ?_
    refine fg_X3_9 C hH dX3_baseFrom_16 ?_
    refine lv_aload_n hx hb dX3_baseFrom_19 rfl (lv_at hl 1 rfl) ?_
    refine lv_iload hx hb dX3_baseFrom_20 (lv_at hl 4 rfl) ?_
    obtain ⟨x4, w3, hc, hf⟩ := bd_some hf
    refine q_callV1 (v := .int x4) (As := [.int v5]) C hH (ci := 7) rfl (by omega) gk_X3_58 yd_X7_get (by omega) (by omega) k_v1 (c_X7_get k_v1 hc) hl.1 rfl (Nat.le_of_ble_eq_true rfl) dX3_baseFrom_22 xv_00 (fun H locs hH hP => ?_)
    obtain ⟨x6, w5, hc, hf⟩ := bd_some hf
    refine q_callV1 (v := .int x6) (As := [.int x4]) C hH (ci := 9) rfl (by omega) gk_X3_62 yd_X9_directionOf (by omega) (by omega) kc_1 (c_X9_directionOf kc_1 hc) hl.1 rfl (Nat.le_of_ble_eq_true rfl) dX3_baseFrom_25 xv_00 (fun H locs hH hP => ?_)
    refine lv_istore (lv' := [(6, .int x6), (0, .ref (B + 650)), (1, .ref (B + v1)), (3, .int v3), (4, .int v4), (5, .int v5)]) hx hb dX3_baseFrom_28 hl (by decide) rfl (fun ls hl => ?_)
    refine lv_iload hx hb dX3_baseFrom_30 (lv_at hl 0 rfl) ?_
    obtain ⟨x8, w7, hc, hf⟩ := bd_some hf
    refine q_callS1 (v := .int x8) (As := [.int x6]) C hH gk_X3_67 yd_X3_isIsolate (by omega) (by omega) (c_X3_isIsolate hc) hl.1 rfl (Nat.le_of_ble_eq_true rfl) dX3_baseFrom_32 xv_00 (fun H locs hH z_x8 => ?_)
    refine b_if_eq (tgt := 44) hx hb hf dX3_baseFrom_35 (by decide) (fun hf => ?_) (fun hf => ?_)
    · refine lv_iload hx hb dX3_baseFrom_44 (lv_at hl 0 rfl) ?_
      refine lv_bipush (v := (10 : Int32)) hx hb dX3_baseFrom_46 (by decide) ?_
      refine b_icmp_ne (tgt := 80) hx hb hf dX3_baseFrom_48 (by decide) (fun hf => ?_) (fun hf => ?_)
      · refine lv_iload hx hb dX3_baseFrom_80 (lv_at hl 4 rfl) ?_
        refine b_if_ne (tgt := 108) hx hb hf dX3_baseFrom_82 (by decide) (fun hf => ?_) (fun hf => ?_)
        · refine b_let hf (fun x9 he hf => ?_)
          refine lv_iinc (v := x9) (lv' := [(5, .int x9), (6, .int x6), (0, .ref (B + 650)), (1, .ref (B + v1)), (3, .int v3), (4, .int v4)]) hx hb dX3_baseFrom_108 hl (k := 5) rfl (by rw [← he]; rfl) (by decide) rfl (fun ls hl => ?_)
          refine lv_goto (tgt := 6) hx hb dX3_baseFrom_111 (by decide) ?_
          exact hr_6 v1 v3 v4 x9 w7 hf k_v1 z_v3 _ _ _ hH (lv_sub hl [2, 3, 4, 5, 0] rfl)
        · refine lv_iload hx hb dX3_baseFrom_85 (lv_at hl 0 rfl) ?_
          refine b_if_eq (tgt := 96) hx hb hf dX3_baseFrom_87 (by decide) (fun hf => ?_) (fun hf => ?_)
          · exact t_X3_baseFrom_96 C hH (lv_sub hl [0] rfl) hf
          · refine lv_iload hx hb dX3_baseFrom_90 (lv_at hl 0 rfl) ?_
            refine lv_iconst (v := (1 : Int32)) hx hb dX3_baseFrom_92 (by decide) ?_
            refine b_icmp_ne (tgt := 108) hx hb hf dX3_baseFrom_93 (by decide) (fun hf => ?_) (fun hf => ?_)
            · refine b_let hf (fun x10 he hf => ?_)
              refine lv_iinc (v := x10) (lv' := [(5, .int x10), (6, .int x6), (0, .ref (B + 650)), (1, .ref (B + v1)), (3, .int v3), (4, .int v4)]) hx hb dX3_baseFrom_108 hl (k := 5) rfl (by rw [← he]; rfl) (by decide) rfl (fun ls hl => ?_)
              refine lv_goto (tgt := 6) hx hb dX3_baseFrom_111 (by decide) ?_
              exact hr_6 v1 v3 v4 x10 w7 hf k_v1 z_v3 _ _ _ hH (lv_sub hl [2, 3, 4, 5, 0] rfl)
            · exact t_X3_baseFrom_96 C hH (lv_sub hl [0] rfl) hf
      · refine lv_iload hx hb dX3_baseFrom_51 (lv_at hl 4 rfl) ?_
        refine b_if_ne (tgt := 62) hx hb hf dX3_baseFrom_53 (by decide) (fun hf => ?_) (fun hf => ?_)
        · exact t_X3_baseFrom_62 C hr_6 k_v1 z_v3 hH (lv_sub hl [1, 2, 3, 4, 5] rfl) hf
        · refine lv_iload_n hx hb dX3_baseFrom_56 rfl (lv_at hl 3 rfl) ?_
          refine b_if_eq (tgt := 62) hx hb hf dX3_baseFrom_57 (by decide) (fun hf => ?_) (fun hf => ?_)
          · exact t_X3_baseFrom_62 C hr_6 k_v1 z_v3 hH (lv_sub hl [1, 2, 3, 4, 5] rfl) hf
          · refine lv_iconst (v := (0 : Int32)) hx hb dX3_baseFrom_60 (by decide) ?_
            cases hf
            exact q_reti C hH trivial dX3_baseFrom_61
    · refine b_let hf (fun x11 he hf => ?_)
      refine lv_iinc (v := x11) (lv' := [(4, .int x11), (6, .int x6), (0, .ref (B + 650)), (1, .ref (B + v1)), (3, .int v3), (5, .int v5)]) hx hb dX3_baseFrom_38 hl (k := 4) rfl (by rw [← he]; rfl) (by decide) rfl (fun ls hl => ?_)
      refine lv_goto (tgt := 108) hx hb dX3_baseFrom_41 (by decide) ?_
      refine b_let hf (fun x12 he hf => ?_)
      refine lv_iinc (v := x12) (lv' := [(5, .int x12), (4, .int x11), (6, .int x6), (0, .ref (B + 650)), (1, .ref (B + v1)), (3, .int v3)]) hx hb dX3_baseFrom_108 hl (k := 5) rfl (by rw [← he]; rfl) (by decide) rfl (fun ls hl => ?_)
      refine lv_goto (tgt := 6) hx hb dX3_baseFrom_111 (by decide) ?_
      exact hr_6 v1 v3 x11 x12 w7 hf k_v1 z_v3 _ _ _ hH (lv_sub hl [3, 4, 5, 1, 0] rfl)
set_option maxRecDepth 100000 in
set_option maxHeartbeats 4000000 in
theorem t_X3_baseFrom_6 {D : va_G} {B : Nat} {Y : Nat → ClassId} {p : Program} {l : Launch} {e : Env} {s : State} {m : MethodId} {args : Array Value} {below : List Frame} {meth : Method} {c : Code} {z : (Int32 × Wd)} {H : Heap} {locs : List Loc} {ls : Array Slot} {w : Wd} {v1 : Nat} {v3 : Int32} {v4 : Int32} {v5 : Int32} (C : CX D B Y p s m args meth c cX3_baseFrom 7 RX3 (some .int))   (k_v1 : KD v1 = 7) (z_v3 : isZ v3) (hH : HS D B Y w s H locs) (hl : lv_has ls 7 [(0, .ref (B + 650)), (1, .ref (B + v1)), (3, .int v3), (4, .int v4), (5, .int v5)]) (hf : f_X3_baseFrom_6 v1 v3 v4 v5 w = some z) : W p l e (RM 2 0 0) s m args below meth c H locs 0 0 (MQ below (QG D B Y (some (.int z.1)) z.2 True) args s 0 0 (AB B)) (F0 m 6 ls []) := by
  exact loopN_ind (z := z) (body := fun rc σ => g_X3_baseFrom_6 rc  σ.1 σ.2.1 σ.2.2.1 σ.2.2.2.1 σ.2.2.2.2)
    (P := fun σ => KD σ.1 = 7 → isZ σ.2.1 → ∀ (H : Heap) (locs : List Loc) (ls : Array Slot), HS D B Y σ.2.2.2.2 s H locs → lv_has ls 7 [(0, .ref (B + 650)), (1, .ref (B + σ.1)), (3, .int σ.2.1), (4, .int σ.2.2.1), (5, .int σ.2.2.2.1)] → W p l e (RM 2 0 0) s m args below meth c H locs 0 0 (MQ below (QG D B Y (some (.int z.1)) z.2 True) args s 0 0 (AB B)) (F0 m 6 ls []))
    (fun rc hrec σ hf k_v1 z_v3 H locs ls hH hl => tb_X3_baseFrom_6 C (fun v1 v3 v4 v5 w hr k_v1 z_v3 H locs ls hH hl => hrec (v1, v3, v4, v5, w) hr k_v1 z_v3 H locs ls hH hl)  k_v1 z_v3 hH hl hf) FU (v1, v3, v4, v5, w) hf k_v1 z_v3 H locs ls hH hl
set_option maxRecDepth 100000 in
set_option maxHeartbeats 4000000 in
theorem t_X3_baseFrom_0 {D : va_G} {B : Nat} {Y : Nat → ClassId} {p : Program} {l : Launch} {e : Env} {s : State} {m : MethodId} {args : Array Value} {below : List Frame} {meth : Method} {c : Code} {z : (Int32 × Wd)} {H : Heap} {locs : List Loc} {ls : Array Slot} {w : Wd} {v1 : Nat} {v2 : Int32} {v3 : Int32} (C : CX D B Y p s m args meth c cX3_baseFrom 7 RX3 (some .int))   (k_v1 : KD v1 = 7) (z_v3 : isZ v3) (hH : HS D B Y w s H locs) (hl : lv_has ls 7 [(0, .ref (B + 650)), (1, .ref (B + v1)), (2, .int v2), (3, .int v3)]) (hf : f_X3_baseFrom v1 v2 v3 w = some z) : W p l e (RM 2 0 0) s m args below meth c H locs 0 0 (MQ below (QG D B Y (some (.int z.1)) z.2 True) args s 0 0 (AB B)) (F0 m 0 ls []) := by
  have hx := C.1
  have hb := C.2.1
  unfold f_X3_baseFrom at hf
  refine lv_iconst (v := (0 : Int32)) hx hb dX3_baseFrom_0 (by decide) ?_
  refine lv_istore (lv' := [(4, .int (0 : Int32)), (0, .ref (B + 650)), (1, .ref (B + v1)), (2, .int v2), (3, .int v3)]) hx hb dX3_baseFrom_1 hl (by decide) rfl (fun ls hl => ?_)
  refine lv_iload_n hx hb dX3_baseFrom_3 rfl (lv_at hl 3 rfl) ?_
  refine lv_istore (lv' := [(5, .int v2), (4, .int (0 : Int32)), (0, .ref (B + 650)), (1, .ref (B + v1)), (2, .int v2), (3, .int v3)]) hx hb dX3_baseFrom_4 hl (by decide) rfl (fun ls hl => ?_)
  exact t_X3_baseFrom_6 C k_v1 z_v3 hH (lv_sub hl [2, 3, 5, 1, 0] rfl) hf
set_option maxRecDepth 100000 in
theorem c_X3_baseFrom {l : Launch} {D : va_G} {B : Nat} {Y : Nat → ClassId} {v1 : Nat} {v2 : Int32} {v3 : Int32} {w : Wd} {r : Int32} {w1 : Wd} (k_v1 : KD v1 = 7) (z_v3 : isZ v3) (hf : f_X3_baseFrom v1 v2 v3 w = some (r, w1)) : CM l D B Y yX3_baseFrom cX3_baseFrom 7 (some .int) 2 [.ref (B + 650), .ref (B + v1), .int v2, .int v3] w (some (.int r)) w1 True :=
  CM_of (by decide +kernel) (Nat.le_of_ble_eq_true rfl) (fun p e s m args below meth c ls C hH hl => t_X3_baseFrom_0 C k_v1 z_v3 hH (lv_sub hl [0, 1, 2, 3] rfl) hf)
/-! LetterTables.base -/
set_option maxRecDepth 100000 in
set_option maxHeartbeats 4000000 in
theorem t_X10_base_0 {D : va_G} {B : Nat} {Y : Nat → ClassId} {p : Program} {l : Launch} {e : Env} {s : State} {m : MethodId} {args : Array Value} {below : List Frame} {meth : Method} {c : Code} {z : ((Nat ⊕ Int32) × Wd)} {H : Heap} {locs : List Loc} {ls : Array Slot} {w : Wd} {v1 : Int32} (C : CX D B Y p s m args meth c cX10_base 2 RX10 (some .int)) (hxt : ∀ x ∈ c.exceptionTable.toList, False) (htr : l.stackTraces = false)     (hH : HS D B Y w s H locs) (hl : lv_has ls 2 [(0, .ref (B + 0)), (1, .int v1)]) (hf : f_X10_base v1 w = some z) : W p l e (RM 3 (xv (zoI z.1)) (6 * xv (zoI z.1))) s m args below meth c H locs 0 0 (vx_MQ below (QX D B Y (zoI z.1) z.2 True) (XX D B Y (zoI z.1) z.2) args s (xv (zoI z.1)) (6 * xv (zoI z.1)) (AB B)) (F0 m 0 ls []) := by
  have hx := C.1
  have hb := C.2.1
  unfold f_X10_base at hf
  refine lv_aload_n hx hb dX10_base_0 rfl (lv_at hl 0 rfl) ?_
  refine fg_X10_48 C hH dX10_base_1 ?_
  refine lv_aload_n hx hb dX10_base_4 rfl (lv_at hl 0 rfl) ?_
  refine lv_iload_n hx hb dX10_base_5 rfl (lv_at hl 1 rfl) ?_
  rcases bdx_some hf with ⟨k, w1, hc, rfl⟩ | ⟨r2, w1, hc, hf⟩
  · exact q_xrunX (k0 := k) (q_xV (As := [.int v1]) C hH (ci := 10) rfl (by omega) gk_X10_194 yd_X10_textOf (by omega) (by omega) kc_0 (c_X10_textOf (r := .inl k) htr hc) hl.1 rfl (Nat.le_of_ble_eq_true rfl) dX10_base_6 (xv_le rfl)) hH (fun H locs ce q hH h1 h2 h3 => q_out C hH hxt h1 h2 h3 (xv_1 rfl) (xv_6 rfl))
  refine q_xrun (ov := some (.ref (B + r2))) (q_xV (As := [.int v1]) C hH (ci := 10) rfl (by omega) gk_X10_194 yd_X10_textOf (by omega) (by omega) kc_0 (c_X10_textOf (r := .inr r2) htr hc) hl.1 rfl (Nat.le_of_ble_eq_true rfl) dX10_base_6 (xv_0 rfl xv_00)) hH (fun H locs hH k_r2 => ?_)
  refine lv_iconst (v := (0 : Int32)) hx hb dX10_base_9 (by decide) ?_
  refine lv_iconst (v := (0 : Int32)) hx hb dX10_base_10 (by decide) ?_
  obtain ⟨x4, w3, hc, hf⟩ := bd_some hf
  refine q_callV1 (v := .int x4) (As := [.ref (B + r2), .int (0 : Int32), .int (0 : Int32)]) C hH (ci := 3) rfl (by omega) gk_X10_263 yd_X3_baseFrom (by omega) (by omega) kc_650 (c_X3_baseFrom k_r2 isZ_0 hc) hl.1 rfl (Nat.le_of_ble_eq_true rfl) dX10_base_11 xv_00 (fun H locs hH hP => ?_)
  cases hf
  exact q_x0 rfl (q_reti C hH trivial dX10_base_14)
set_option maxRecDepth 100000 in
theorem c_X10_base {l : Launch} {D : va_G} {B : Nat} {Y : Nat → ClassId} {v1 : Int32} {w : Wd} {r : (Nat ⊕ Int32)} {w1 : Wd} (htr : l.stackTraces = false)   (hf : f_X10_base v1 w = some (r, w1)) : XM l D B Y yX10_base cX10_base 2 (some .int) 3 [.ref (B + 0), .int v1] w (zoI r) w1 True :=
  XM_of (by decide +kernel) (Nat.le_of_ble_eq_true rfl) (fun p e s m args below meth c ls C hxt hH hl => t_X10_base_0 C hxt htr  hH (lv_sub hl [0, 1] rfl) hf)
/-! LetterTables$Levels.addFrame -/
set_option maxRecDepth 100000 in
set_option maxHeartbeats 4000000 in
theorem t_X3_addFrame_0 {D : va_G} {B : Nat} {Y : Nat → ClassId} {p : Program} {l : Launch} {e : Env} {s : State} {m : MethodId} {args : Array Value} {below : List Frame} {meth : Method} {c : Code} {z : (Int32 × Wd)} {H : Heap} {locs : List Loc} {ls : Array Slot} {w : Wd} {v1 : Int32} {v2 : Int32} {v3 : Int32} (C : CX D B Y p s m args meth c cX3_addFrame 4 RX3 (some .int))     (hH : HS D B Y w s H locs) (hl : lv_has ls 4 [(0, .ref (B + 650)), (1, .int v1), (2, .int v2), (3, .int v3)]) (hf : f_X3_addFrame v1 v2 v3 w = some z) : W p l e (RM 1 0 0) s m args below meth c H locs 0 0 (MQ below (QG D B Y (some (.int z.1)) z.2 True) args s 0 0 (AB B)) (F0 m 0 ls []) := by
  have hx := C.1
  have hb := C.2.1
  unfold f_X3_addFrame at hf
  refine lv_aload_n hx hb dX3_addFrame_0 rfl (lv_at hl 0 rfl) ?_
  refine fg_X3_24 C hH dX3_addFrame_1 ?_
  refine lv_iload_n hx hb dX3_addFrame_4 rfl (lv_at hl 1 rfl) ?_
  obtain ⟨x2, w1, hc, hf⟩ := bd_some hf
  refine q_callV1 (v := .int x2) (As := [.int v1]) C hH (ci := 7) rfl (by omega) gk_X3_111 yd_X7_add (by omega) (by omega) kc_653 (c_X7_add kc_653 hc) hl.1 rfl (Nat.le_of_ble_eq_true rfl) dX3_addFrame_5 xv_00 (fun H locs hH z_x2 => ?_)
  refine lv_pop hx hb dX3_addFrame_8 rfl ?_
  refine lv_aload_n hx hb dX3_addFrame_9 rfl (lv_at hl 0 rfl) ?_
  refine fg_X3_27 C hH dX3_addFrame_10 ?_
  refine lv_iload_n hx hb dX3_addFrame_13 rfl (lv_at hl 2 rfl) ?_
  obtain ⟨x4, w3, hc, hf⟩ := bd_some hf
  refine q_callV1 (v := .int x4) (As := [.int v2]) C hH (ci := 7) rfl (by omega) gk_X3_111 yd_X7_add (by omega) (by omega) kc_655 (c_X7_add kc_655 hc) hl.1 rfl (Nat.le_of_ble_eq_true rfl) dX3_addFrame_14 xv_00 (fun H locs hH z_x4 => ?_)
  refine lv_pop hx hb dX3_addFrame_17 rfl ?_
  refine lv_aload_n hx hb dX3_addFrame_18 rfl (lv_at hl 0 rfl) ?_
  refine fg_X3_30 C hH dX3_addFrame_19 ?_
  refine lv_iload_n hx hb dX3_addFrame_22 rfl (lv_at hl 3 rfl) ?_
  obtain ⟨x6, w5, hc, hf⟩ := bd_some hf
  refine q_callV1 (v := .int x6) (As := [.int v3]) C hH (ci := 7) rfl (by omega) gk_X3_111 yd_X7_add (by omega) (by omega) kc_657 (c_X7_add kc_657 hc) hl.1 rfl (Nat.le_of_ble_eq_true rfl) dX3_addFrame_23 xv_00 (fun H locs hH z_x6 => ?_)
  refine lv_pop hx hb dX3_addFrame_26 rfl ?_
  refine lv_aload_n hx hb dX3_addFrame_27 rfl (lv_at hl 0 rfl) ?_
  refine fg_X3_24 C hH dX3_addFrame_28 ?_
  obtain ⟨x8, w7, hc, hf⟩ := bd_some hf
  refine q_callV1 (v := .int x8) (As := []) C hH (ci := 7) rfl (by omega) gk_X3_54 yd_X7_size (by omega) (by omega) kc_653 (c_X7_size kc_653 hc) hl.1 rfl (Nat.le_of_ble_eq_true rfl) dX3_addFrame_31 xv_00 (fun H locs hH hP => ?_)
  refine lv_iconst (v := (1 : Int32)) hx hb dX3_addFrame_34 (by decide) ?_
  refine lv_isub hx hb dX3_addFrame_35 ?_
  cases hf
  exact q_reti C hH trivial dX3_addFrame_36
set_option maxRecDepth 100000 in
theorem c_X3_addFrame {l : Launch} {D : va_G} {B : Nat} {Y : Nat → ClassId} {v1 : Int32} {v2 : Int32} {v3 : Int32} {w : Wd} {r : Int32} {w1 : Wd}   (hf : f_X3_addFrame v1 v2 v3 w = some (r, w1)) : CM l D B Y yX3_addFrame cX3_addFrame 4 (some .int) 1 [.ref (B + 650), .int v1, .int v2, .int v3] w (some (.int r)) w1 True :=
  CM_of (by decide +kernel) (Nat.le_of_ble_eq_true rfl) (fun p e s m args below meth c ls C hH hl => t_X3_addFrame_0 C  hH (lv_sub hl [0, 1, 2, 3] rfl) hf)
/-! LetterTables$Levels.aroundIsolate -/
set_option maxRecDepth 100000 in
set_option maxHeartbeats 4000000 in
theorem tb_X3_aroundIsolate_4 {D : va_G} {B : Nat} {Y : Nat → ClassId} {p : Program} {l : Launch} {e : Env} {s : State} {m : MethodId} {args : Array Value} {below : List Frame} {meth : Method} {c : Code} {z : (Int32 × Wd)} {H : Heap} {locs : List Loc} {ls : Array Slot} {w : Wd} {v1 : Int32} {v2 : Int32} {v3 : Int32} (C : CX D B Y p s m args meth c cX3_aroundIsolate 4 RX3 (some .int))  {rc_4 : Int32 × Int32 × Int32 × Wd → Option (Int32 × Wd)} (hr_4 : ∀ (v1 : Int32) (v2 : Int32) (v3 : Int32) (w : Wd), rc_4 (v1, v2, v3, w) = some z → ∀ (H : Heap) (locs : List Loc) (ls : Array Slot), HS D B Y w s H locs → lv_has ls 4 [(0, .ref (B + 650)), (1, .int v1), (2, .int v2), (3, .int v3)] → W p l e (RM 1 0 0) s m args below meth c H locs 0 0 (MQ below (QG D B Y (some (.int z.1)) z.2 True) args s 0 0 (AB B)) (F0 m 4 ls []))    (hH : HS D B Y w s H locs) (hl : lv_has ls 4 [(0, .ref (B + 650)), (1, .int v1), (2, .int v2), (3, .int v3)]) (hf : g_X3_aroundIsolate_4 rc_4 v1 v2 v3 w = some z) : W p l e (RM 1 0 0) s m args below meth c H locs 0 0 (MQ below (QG D B Y (some (.int z.1)) z.2 True) args s 0 0 (AB B)) (F0 m 4 ls []) := by
  have hx := C.1
  have hb := C.2.1
  unfold g_X3_aroundIsolate_4 at hf
  refine lv_iload_n hx hb dX3_aroundIsolate_4 rfl (lv_at hl 3 rfl) ?_
  refine lv_bipush (v := (40 : Int32)) hx hb dX3_aroundIsolate_5 (by decide) ?_
  refine b_icmp_gt (tgt := 52) hx hb hf dX3_aroundIsolate_7 (by decide) (fun hf => ?_) (fun hf => ?_)
  · refine lv_iload_n hx hb dX3_aroundIsolate_52 rfl (lv_at hl 1 rfl) ?_
    cases hf
    exact q_reti C hH trivial dX3_aroundIsolate_53
  · refine lv_iload_n hx hb dX3_aroundIsolate_10 rfl (lv_at hl 2 rfl) ?_
    refine b_if_le (tgt := 52) hx hb hf dX3_aroundIsolate_11 (by decide) (fun hf => ?_) (fun hf => ?_)
    · refine lv_iload_n hx hb dX3_aroundIsolate_52 rfl (lv_at hl 1 rfl) ?_
      cases hf
      exact q_reti C hH trivial dX3_aroundIsolate_53
    · refine lv_aload_n hx hb dX3_aroundIsolate_14 rfl (lv_at hl 0 rfl) ?_
      refine fg_X3_30 C hH dX3_aroundIsolate_15 ?_
      refine lv_iload_n hx hb dX3_aroundIsolate_18 rfl (lv_at hl 2 rfl) ?_
      obtain ⟨x2, w1, hc, hf⟩ := bd_some hf
      refine q_callV1 (v := .int x2) (As := [.int v2]) C hH (ci := 7) rfl (by omega) gk_X3_58 yd_X7_get (by omega) (by omega) kc_657 (c_X7_get kc_657 hc) hl.1 rfl (Nat.le_of_ble_eq_true rfl) dX3_aroundIsolate_19 xv_00 (fun H locs hH hP => ?_)
      obtain ⟨x4, w3, hc, hf⟩ := bd_some hf
      refine q_callS1 (v := .int x4) (As := [.int x2]) C hH gk_X3_67 yd_X3_isIsolate (by omega) (by omega) (c_X3_isIsolate hc) hl.1 rfl (Nat.le_of_ble_eq_true rfl) dX3_aroundIsolate_22 xv_00 (fun H locs hH z_x4 => ?_)
      refine b_if_eq (tgt := 37) hx hb hf dX3_aroundIsolate_25 (by decide) (fun hf => ?_) (fun hf => ?_)
      · refine lv_aload_n hx hb dX3_aroundIsolate_37 rfl (lv_at hl 0 rfl) ?_
        refine fg_X3_27 C hH dX3_aroundIsolate_38 ?_
        refine lv_iload_n hx hb dX3_aroundIsolate_41 rfl (lv_at hl 2 rfl) ?_
        obtain ⟨x6, w5, hc, hf⟩ := bd_some hf
        refine q_callV1 (v := .int x6) (As := [.int v2]) C hH (ci := 7) rfl (by omega) gk_X3_58 yd_X7_get (by omega) (by omega) kc_655 (c_X7_get kc_655 hc) hl.1 rfl (Nat.le_of_ble_eq_true rfl) dX3_aroundIsolate_42 xv_00 (fun H locs hH hP => ?_)
        refine lv_istore_n (lv' := [(2, .int x6), (0, .ref (B + 650)), (1, .int v1), (3, .int v3)]) hx hb dX3_aroundIsolate_45 rfl hl (by decide) rfl (fun ls hl => ?_)
        refine b_let hf (fun x7 he hf => ?_)
        refine lv_iinc (v := x7) (lv' := [(3, .int x7), (2, .int x6), (0, .ref (B + 650)), (1, .int v1)]) hx hb dX3_aroundIsolate_46 hl (k := 3) rfl (by rw [← he]; rfl) (by decide) rfl (fun ls hl => ?_)
        refine lv_goto (tgt := 4) hx hb dX3_aroundIsolate_49 (by decide) ?_
        exact hr_4 v1 x6 x7 w5 hf _ _ _ hH (lv_sub hl [2, 3, 1, 0] rfl)
      · refine lv_aload_n hx hb dX3_aroundIsolate_28 rfl (lv_at hl 0 rfl) ?_
        refine fg_X3_27 C hH dX3_aroundIsolate_29 ?_
        refine lv_iload_n hx hb dX3_aroundIsolate_32 rfl (lv_at hl 2 rfl) ?_
        obtain ⟨x9, w8, hc, hf⟩ := bd_some hf
        refine q_callV1 (v := .int x9) (As := [.int v2]) C hH (ci := 7) rfl (by omega) gk_X3_58 yd_X7_get (by omega) (by omega) kc_655 (c_X7_get kc_655 hc) hl.1 rfl (Nat.le_of_ble_eq_true rfl) dX3_aroundIsolate_33 xv_00 (fun H locs hH hP => ?_)
        cases hf
        exact q_reti C hH trivial dX3_aroundIsolate_36
set_option maxRecDepth 100000 in
set_option maxHeartbeats 4000000 in
theorem t_X3_aroundIsolate_4 {D : va_G} {B : Nat} {Y : Nat → ClassId} {p : Program} {l : Launch} {e : Env} {s : State} {m : MethodId} {args : Array Value} {below : List Frame} {meth : Method} {c : Code} {z : (Int32 × Wd)} {H : Heap} {locs : List Loc} {ls : Array Slot} {w : Wd} {v1 : Int32} {v2 : Int32} {v3 : Int32} (C : CX D B Y p s m args meth c cX3_aroundIsolate 4 RX3 (some .int))     (hH : HS D B Y w s H locs) (hl : lv_has ls 4 [(0, .ref (B + 650)), (1, .int v1), (2, .int v2), (3, .int v3)]) (hf : f_X3_aroundIsolate_4 v1 v2 v3 w = some z) : W p l e (RM 1 0 0) s m args below meth c H locs 0 0 (MQ below (QG D B Y (some (.int z.1)) z.2 True) args s 0 0 (AB B)) (F0 m 4 ls []) := by
  exact loopN_ind (z := z) (body := fun rc σ => g_X3_aroundIsolate_4 rc  σ.1 σ.2.1 σ.2.2.1 σ.2.2.2)
    (P := fun σ => ∀ (H : Heap) (locs : List Loc) (ls : Array Slot), HS D B Y σ.2.2.2 s H locs → lv_has ls 4 [(0, .ref (B + 650)), (1, .int σ.1), (2, .int σ.2.1), (3, .int σ.2.2.1)] → W p l e (RM 1 0 0) s m args below meth c H locs 0 0 (MQ below (QG D B Y (some (.int z.1)) z.2 True) args s 0 0 (AB B)) (F0 m 4 ls []))
    (fun rc hrec σ hf  H locs ls hH hl => tb_X3_aroundIsolate_4 C (fun v1 v2 v3 w hr  H locs ls hH hl => hrec (v1, v2, v3, w) hr  H locs ls hH hl)   hH hl hf) FU (v1, v2, v3, w) hf  H locs ls hH hl
set_option maxRecDepth 100000 in
set_option maxHeartbeats 4000000 in
theorem t_X3_aroundIsolate_0 {D : va_G} {B : Nat} {Y : Nat → ClassId} {p : Program} {l : Launch} {e : Env} {s : State} {m : MethodId} {args : Array Value} {below : List Frame} {meth : Method} {c : Code} {z : (Int32 × Wd)} {H : Heap} {locs : List Loc} {ls : Array Slot} {w : Wd} {v1 : Int32} (C : CX D B Y p s m args meth c cX3_aroundIsolate 4 RX3 (some .int))     (hH : HS D B Y w s H locs) (hl : lv_has ls 4 [(0, .ref (B + 650)), (1, .int v1)]) (hf : f_X3_aroundIsolate v1 w = some z) : W p l e (RM 1 0 0) s m args below meth c H locs 0 0 (MQ below (QG D B Y (some (.int z.1)) z.2 True) args s 0 0 (AB B)) (F0 m 0 ls []) := by
  have hx := C.1
  have hb := C.2.1
  unfold f_X3_aroundIsolate at hf
  refine lv_iload_n hx hb dX3_aroundIsolate_0 rfl (lv_at hl 1 rfl) ?_
  refine lv_istore_n (lv' := [(2, .int v1), (0, .ref (B + 650)), (1, .int v1)]) hx hb dX3_aroundIsolate_1 rfl hl (by decide) rfl (fun ls hl => ?_)
  refine lv_iconst (v := (0 : Int32)) hx hb dX3_aroundIsolate_2 (by decide) ?_
  refine lv_istore_n (lv' := [(3, .int (0 : Int32)), (2, .int v1), (0, .ref (B + 650)), (1, .int v1)]) hx hb dX3_aroundIsolate_3 rfl hl (by decide) rfl (fun ls hl => ?_)
  exact t_X3_aroundIsolate_4 C hH (lv_sub hl [2, 3, 1, 0] rfl) hf
set_option maxRecDepth 100000 in
theorem c_X3_aroundIsolate {l : Launch} {D : va_G} {B : Nat} {Y : Nat → ClassId} {v1 : Int32} {w : Wd} {r : Int32} {w1 : Wd}   (hf : f_X3_aroundIsolate v1 w = some (r, w1)) : CM l D B Y yX3_aroundIsolate cX3_aroundIsolate 4 (some .int) 1 [.ref (B + 650), .int v1] w (some (.int r)) w1 True :=
  CM_of (by decide +kernel) (Nat.le_of_ble_eq_true rfl) (fun p e s m args below meth c ls C hH hl => t_X3_aroundIsolate_0 C  hH (lv_sub hl [0, 1] rfl) hf)
/-! LetterTables$Levels.isEmbed -/
set_option maxRecDepth 100000 in
set_option maxHeartbeats 4000000 in
theorem t_X3_isEmbed_0 {D : va_G} {B : Nat} {Y : Nat → ClassId} {p : Program} {l : Launch} {e : Env} {s : State} {m : MethodId} {args : Array Value} {below : List Frame} {meth : Method} {c : Code} {z : (Int32 × Wd)} {H : Heap} {locs : List Loc} {ls : Array Slot} {w : Wd} {v0 : Int32} (C : CX D B Y p s m args meth c cX3_isEmbed 1 RX3 (some .boolean))     (hH : HS D B Y w s H locs) (hl : lv_has ls 1 [(0, .int v0)]) (hf : f_X3_isEmbed v0 w = some z) : W p l e (RM 0 0 0) s m args below meth c H locs 0 0 (MQ below (QG D B Y (some (.int z.1)) z.2 (isZ z.1)) args s 0 0 (AB B)) (F0 m 0 ls []) := by
  have hx := C.1
  have hb := C.2.1
  unfold f_X3_isEmbed at hf
  refine lv_iload_n hx hb dX3_isEmbed_0 rfl (lv_at hl 0 rfl) ?_
  refine lv_iconst (v := (4 : Int32)) hx hb dX3_isEmbed_1 (by decide) ?_
  refine b_icmp_eq (tgt := 10) hx hb hf dX3_isEmbed_2 (by decide) (fun hf => ?_) (fun hf => ?_)
  · refine lv_iconst (v := (1 : Int32)) hx hb dX3_isEmbed_10 (by decide) ?_
    refine lv_goto (tgt := 15) hx hb dX3_isEmbed_11 (by decide) ?_
    cases hf
    exact q_retz C hH isZ_1 isZ_1 dX3_isEmbed_15
  · refine lv_iload_n hx hb dX3_isEmbed_5 rfl (lv_at hl 0 rfl) ?_
    refine lv_iconst (v := (5 : Int32)) hx hb dX3_isEmbed_6 (by decide) ?_
    refine b_icmp_ne (tgt := 14) hx hb hf dX3_isEmbed_7 (by decide) (fun hf => ?_) (fun hf => ?_)
    · refine lv_iconst (v := (0 : Int32)) hx hb dX3_isEmbed_14 (by decide) ?_
      cases hf
      exact q_retz C hH isZ_0 isZ_0 dX3_isEmbed_15
    · refine lv_iconst (v := (1 : Int32)) hx hb dX3_isEmbed_10 (by decide) ?_
      refine lv_goto (tgt := 15) hx hb dX3_isEmbed_11 (by decide) ?_
      cases hf
      exact q_retz C hH isZ_1 isZ_1 dX3_isEmbed_15
set_option maxRecDepth 100000 in
theorem c_X3_isEmbed {l : Launch} {D : va_G} {B : Nat} {Y : Nat → ClassId} {v0 : Int32} {w : Wd} {r : Int32} {w1 : Wd}   (hf : f_X3_isEmbed v0 w = some (r, w1)) : CM l D B Y yX3_isEmbed cX3_isEmbed 1 (some .boolean) 0 [.int v0] w (some (.int r)) w1 (isZ r) :=
  CM_of (by decide +kernel) (Nat.le_of_ble_eq_true rfl) (fun p e s m args below meth c ls C hH hl => t_X3_isEmbed_0 C  hH (lv_sub hl [0] rfl) hf)
/-! LetterTables$Levels.wayOf -/
set_option maxRecDepth 100000 in
set_option maxHeartbeats 4000000 in
theorem t_X3_wayOf_0 {D : va_G} {B : Nat} {Y : Nat → ClassId} {p : Program} {l : Launch} {e : Env} {s : State} {m : MethodId} {args : Array Value} {below : List Frame} {meth : Method} {c : Code} {z : (Int32 × Wd)} {H : Heap} {locs : List Loc} {ls : Array Slot} {w : Wd} {v0 : Int32} (C : CX D B Y p s m args meth c cX3_wayOf 1 RX3 (some .int))     (hH : HS D B Y w s H locs) (hl : lv_has ls 1 [(0, .int v0)]) (hf : f_X3_wayOf v0 w = some z) : W p l e (RM 0 0 0) s m args below meth c H locs 0 0 (MQ below (QG D B Y (some (.int z.1)) z.2 True) args s 0 0 (AB B)) (F0 m 0 ls []) := by
  have hx := C.1
  have hb := C.2.1
  unfold f_X3_wayOf at hf
  refine lv_iload_n hx hb dX3_wayOf_0 rfl (lv_at hl 0 rfl) ?_
  refine lv_iconst (v := (1 : Int32)) hx hb dX3_wayOf_1 (by decide) ?_
  refine lv_iand hx hb dX3_wayOf_2 ?_
  refine b_if_ne (tgt := 10) hx hb hf dX3_wayOf_3 (by decide) (fun hf => ?_) (fun hf => ?_)
  · refine lv_iconst (v := (1 : Int32)) hx hb dX3_wayOf_10 (by decide) ?_
    cases hf
    exact q_reti C hH trivial dX3_wayOf_11
  · refine lv_iconst (v := (0 : Int32)) hx hb dX3_wayOf_6 (by decide) ?_
    refine lv_goto (tgt := 11) hx hb dX3_wayOf_7 (by decide) ?_
    cases hf
    exact q_reti C hH trivial dX3_wayOf_11
set_option maxRecDepth 100000 in
theorem c_X3_wayOf {l : Launch} {D : va_G} {B : Nat} {Y : Nat → ClassId} {v0 : Int32} {w : Wd} {r : Int32} {w1 : Wd}   (hf : f_X3_wayOf v0 w = some (r, w1)) : CM l D B Y yX3_wayOf cX3_wayOf 1 (some .int) 0 [.int v0] w (some (.int r)) w1 True :=
  CM_of (by decide +kernel) (Nat.le_of_ble_eq_true rfl) (fun p e s m args below meth c ls C hH hl => t_X3_wayOf_0 C  hH (lv_sub hl [0] rfl) hf)
/-! LetterTables$Levels.levelWithin -/
set_option maxRecDepth 100000 in
set_option maxHeartbeats 4000000 in
theorem t_X3_levelWithin_75 {D : va_G} {B : Nat} {Y : Nat → ClassId} {p : Program} {l : Launch} {e : Env} {s : State} {m : MethodId} {args : Array Value} {below : List Frame} {meth : Method} {c : Code} {z : (Int32 × Wd)} {H : Heap} {locs : List Loc} {ls : Array Slot} {w : Wd} {v5 : Int32} {v7 : Int32} (C : CX D B Y p s m args meth c cX3_levelWithin 8 RX3 (some .int))     (hH : HS D B Y w s H locs) (hl : lv_has ls 8 [(5, .int v5), (7, .int v7)]) (hf : f_X3_levelWithin_75 v5 v7 w = some z) : W p l e (RM 3 0 0) s m args below meth c H locs 0 0 (MQ below (QG D B Y (some (.int z.1)) z.2 True) args s 0 0 (AB B)) (F0 m 75 ls []) := by
  have hx := C.1
  have hb := C.2.1
  unfold f_X3_levelWithin_75 at hf
  refine lv_iload hx hb dX3_levelWithin_75 (lv_at hl 1 rfl) ?_
  refine lv_bipush (v := (9 : Int32)) hx hb dX3_levelWithin_77 (by decide) ?_
  refine b_icmp_le (tgt := 87) hx hb hf dX3_levelWithin_79 (by decide) (fun hf => ?_) (fun hf => ?_)
  · refine lv_iload hx hb dX3_levelWithin_87 (lv_at hl 1 rfl) ?_
    cases hf
    exact q_reti C hH trivial dX3_levelWithin_89
  · refine lv_iload hx hb dX3_levelWithin_82 (lv_at hl 0 rfl) ?_
    refine lv_goto (tgt := 89) hx hb dX3_levelWithin_84 (by decide) ?_
    cases hf
    exact q_reti C hH trivial dX3_levelWithin_89
set_option maxRecDepth 100000 in
set_option maxHeartbeats 4000000 in
theorem t_X3_levelWithin_69 {D : va_G} {B : Nat} {Y : Nat → ClassId} {p : Program} {l : Launch} {e : Env} {s : State} {m : MethodId} {args : Array Value} {below : List Frame} {meth : Method} {c : Code} {z : (Int32 × Wd)} {H : Heap} {locs : List Loc} {ls : Array Slot} {w : Wd} {v5 : Int32} {v7 : Int32} {t0 : Int32} {t1 : Int32} (C : CX D B Y p s m args meth c cX3_levelWithin 8 RX3 (some .int))    (z_t1 : isZ t1) (hH : HS D B Y w s H locs) (hl : lv_has ls 8 [(5, .int v5), (7, .int v7)]) (hf : f_X3_levelWithin_69 v5 v7 t0 t1 w = some z) : W p l e (RM 3 0 0) s m args below meth c H locs 0 0 (MQ below (QG D B Y (some (.int z.1)) z.2 True) args s 0 0 (AB B)) (F0 m 69 ls [.int t1, .int t0]) := by
  have hx := C.1
  have hb := C.2.1
  unfold f_X3_levelWithin_69 at hf
  refine b_icmp_eq (tgt := 75) hx hb hf dX3_levelWithin_69 (by decide) (fun hf => ?_) (fun hf => ?_)
  · exact t_X3_levelWithin_75 C hH (lv_sub hl [0, 1] rfl) hf
  · refine b_let hf (fun x1 he hf => ?_)
    refine lv_iinc (v := x1) (lv' := [(7, .int x1), (5, .int v5)]) hx hb dX3_levelWithin_72 hl (k := 1) rfl (by rw [← he]; rfl) (by decide) rfl (fun ls hl => ?_)
    exact t_X3_levelWithin_75 C hH (lv_sub hl [1, 0] rfl) hf
set_option maxRecDepth 100000 in
set_option maxHeartbeats 4000000 in
theorem t_X3_levelWithin_46 {D : va_G} {B : Nat} {Y : Nat → ClassId} {p : Program} {l : Launch} {e : Env} {s : State} {m : MethodId} {args : Array Value} {below : List Frame} {meth : Method} {c : Code} {z : (Int32 × Wd)} {H : Heap} {locs : List Loc} {ls : Array Slot} {w : Wd} {v5 : Int32} {t0 : Int32} (C : CX D B Y p s m args meth c cX3_levelWithin 8 RX3 (some .int))    (z_t0 : isZ t0) (hH : HS D B Y w s H locs) (hl : lv_has ls 8 [(5, .int v5)]) (hf : f_X3_levelWithin_46 v5 t0 w = some z) : W p l e (RM 3 0 0) s m args below meth c H locs 0 0 (MQ below (QG D B Y (some (.int z.1)) z.2 True) args s 0 0 (AB B)) (F0 m 46 ls [.int t0]) := by
  have hx := C.1
  have hb := C.2.1
  unfold f_X3_levelWithin_46 at hf
  refine lv_istore (lv' := [(6, .int t0), (5, .int v5)]) hx hb dX3_levelWithin_46 hl (by decide) rfl (fun ls hl => ?_)
  refine lv_iload hx hb dX3_levelWithin_48 (lv_at hl 1 rfl) ?_
  refine lv_iconst (v := (1 : Int32)) hx hb dX3_levelWithin_50 (by decide) ?_
  refine lv_iadd hx hb dX3_levelWithin_51 ?_
  refine b_leti hf (fun x1 hf => ?_)
  refine lv_istore (lv' := [(7, .int x1), (6, .int t0), (5, .int v5)]) hx hb dX3_levelWithin_52 hl (by decide) rfl (fun ls hl => ?_)
  refine lv_iload hx hb dX3_levelWithin_54 (lv_at hl 0 rfl) ?_
  obtain ⟨x3, w2, hc, hf⟩ := bd_some hf
  refine q_callS1 (v := .int x3) (As := [.int x1]) C hH gk_X3_86 yd_X3_wayOf (by omega) (by omega) (c_X3_wayOf hc) hl.1 rfl (Nat.le_of_ble_eq_true rfl) dX3_levelWithin_56 xv_00 (fun H locs hH hP => ?_)
  refine lv_iload hx hb dX3_levelWithin_59 (lv_at hl 1 rfl) ?_
  refine b_if_eq (tgt := 68) hx hb hf dX3_levelWithin_61 (by decide) (fun hf => ?_) (fun hf => ?_)
  · refine lv_iconst (v := (0 : Int32)) hx hb dX3_levelWithin_68 (by decide) ?_
    exact t_X3_levelWithin_69 C isZ_0 hH (lv_sub hl [2, 0] rfl) hf
  · refine lv_iconst (v := (1 : Int32)) hx hb dX3_levelWithin_64 (by decide) ?_
    refine lv_goto (tgt := 69) hx hb dX3_levelWithin_65 (by decide) ?_
    exact t_X3_levelWithin_69 C isZ_1 hH (lv_sub hl [2, 0] rfl) hf
set_option maxRecDepth 100000 in
set_option maxHeartbeats 4000000 in
theorem t_X3_levelWithin_45 {D : va_G} {B : Nat} {Y : Nat → ClassId} {p : Program} {l : Launch} {e : Env} {s : State} {m : MethodId} {args : Array Value} {below : List Frame} {meth : Method} {c : Code} {z : (Int32 × Wd)} {H : Heap} {locs : List Loc} {ls : Array Slot} {w : Wd} {v5 : Int32} (C : CX D B Y p s m args meth c cX3_levelWithin 8 RX3 (some .int))     (hH : HS D B Y w s H locs) (hl : lv_has ls 8 [(5, .int v5)]) (hf : f_X3_levelWithin_45 v5 w = some z) : W p l e (RM 3 0 0) s m args below meth c H locs 0 0 (MQ below (QG D B Y (some (.int z.1)) z.2 True) args s 0 0 (AB B)) (F0 m 45 ls []) := by
  have hx := C.1
  have hb := C.2.1
  unfold f_X3_levelWithin_45 at hf
  refine lv_iconst (v := (0 : Int32)) hx hb dX3_levelWithin_45 (by decide) ?_
  exact t_X3_levelWithin_46 C isZ_0 hH (lv_sub hl [0] rfl) hf
set_option maxRecDepth 100000 in
set_option maxHeartbeats 4000000 in
theorem t_X3_levelWithin_0 {D : va_G} {B : Nat} {Y : Nat → ClassId} {p : Program} {l : Launch} {e : Env} {s : State} {m : MethodId} {args : Array Value} {below : List Frame} {meth : Method} {c : Code} {z : (Int32 × Wd)} {H : Heap} {locs : List Loc} {ls : Array Slot} {w : Wd} {v1 : Nat} {v2 : Int32} {v3 : Int32} {v4 : Int32} (C : CX D B Y p s m args meth c cX3_levelWithin 8 RX3 (some .int))   (k_v1 : KD v1 = 7)  (hH : HS D B Y w s H locs) (hl : lv_has ls 8 [(0, .ref (B + 650)), (1, .ref (B + v1)), (2, .int v2), (3, .int v3), (4, .int v4)]) (hf : f_X3_levelWithin v1 v2 v3 v4 w = some z) : W p l e (RM 3 0 0) s m args below meth c H locs 0 0 (MQ below (QG D B Y (some (.int z.1)) z.2 True) args s 0 0 (AB B)) (F0 m 0 ls []) := by
  have hx := C.1
  have hb := C.2.1
  unfold f_X3_levelWithin at hf
  refine lv_aload_n hx hb dX3_levelWithin_0 rfl (lv_at hl 0 rfl) ?_
  refine fg_X3_24 C hH dX3_levelWithin_1 ?_
  refine lv_iload hx hb dX3_levelWithin_4 (lv_at hl 4 rfl) ?_
  obtain ⟨x2, w1, hc, hf⟩ := bd_some hf
  refine q_callV1 (v := .int x2) (As := [.int v4]) C hH (ci := 7) rfl (by omega) gk_X3_58 yd_X7_get (by omega) (by omega) kc_653 (c_X7_get kc_653 hc) hl.1 rfl (Nat.le_of_ble_eq_true rfl) dX3_levelWithin_6 xv_00 (fun H locs hH hP => ?_)
  refine lv_istore (lv' := [(5, .int x2), (0, .ref (B + 650)), (1, .ref (B + v1)), (2, .int v2), (3, .int v3), (4, .int v4)]) hx hb dX3_levelWithin_9 hl (by decide) rfl (fun ls hl => ?_)
  refine lv_iload_n hx hb dX3_levelWithin_11 rfl (lv_at hl 4 rfl) ?_
  refine lv_iconst (v := (5 : Int32)) hx hb dX3_levelWithin_12 (by decide) ?_
  refine b_icmp_eq (tgt := 41) hx hb hf dX3_levelWithin_13 (by decide) (fun hf => ?_) (fun hf => ?_)
  · refine lv_iconst (v := (1 : Int32)) hx hb dX3_levelWithin_41 (by decide) ?_
    refine lv_goto (tgt := 46) hx hb dX3_levelWithin_42 (by decide) ?_
    exact t_X3_levelWithin_46 C isZ_1 hH (lv_sub hl [0] rfl) hf
  · refine lv_iload_n hx hb dX3_levelWithin_16 rfl (lv_at hl 4 rfl) ?_
    refine lv_bipush (v := (8 : Int32)) hx hb dX3_levelWithin_17 (by decide) ?_
    refine b_icmp_eq (tgt := 41) hx hb hf dX3_levelWithin_19 (by decide) (fun hf => ?_) (fun hf => ?_)
    · refine lv_iconst (v := (1 : Int32)) hx hb dX3_levelWithin_41 (by decide) ?_
      refine lv_goto (tgt := 46) hx hb dX3_levelWithin_42 (by decide) ?_
      exact t_X3_levelWithin_46 C isZ_1 hH (lv_sub hl [0] rfl) hf
    · refine lv_iload_n hx hb dX3_levelWithin_22 rfl (lv_at hl 4 rfl) ?_
      refine lv_bipush (v := (9 : Int32)) hx hb dX3_levelWithin_23 (by decide) ?_
      refine b_icmp_ne (tgt := 45) hx hb hf dX3_levelWithin_25 (by decide) (fun hf => ?_) (fun hf => ?_)
      · exact t_X3_levelWithin_45 C hH (lv_sub hl [0] rfl) hf
      · refine lv_aload_n hx hb dX3_levelWithin_28 rfl (lv_at hl 1 rfl) ?_
        refine lv_aload_n hx hb dX3_levelWithin_29 rfl (lv_at hl 2 rfl) ?_
        refine lv_iload_n hx hb dX3_levelWithin_30 rfl (lv_at hl 3 rfl) ?_
        refine lv_iconst (v := (1 : Int32)) hx hb dX3_levelWithin_31 (by decide) ?_
        refine lv_iadd hx hb dX3_levelWithin_32 ?_
        refine lv_iconst (v := (1 : Int32)) hx hb dX3_levelWithin_33 (by decide) ?_
        obtain ⟨x4, w3, hc, hf⟩ := bd_some hf
        refine q_callV1 (v := .int x4) (As := [.ref (B + v1), .int (v2 + (1 : Int32)), .int (1 : Int32)]) C hH (ci := 3) rfl (by omega) gk_X3_71 yd_X3_baseFrom (by omega) (by omega) kc_650 (c_X3_baseFrom k_v1 isZ_1 hc) hl.1 rfl (Nat.le_of_ble_eq_true rfl) dX3_levelWithin_34 xv_00 (fun H locs hH hP => ?_)
        refine lv_iconst (v := (1 : Int32)) hx hb dX3_levelWithin_37 (by decide) ?_
        refine b_icmp_ne (tgt := 45) hx hb hf dX3_levelWithin_38 (by decide) (fun hf => ?_) (fun hf => ?_)
        · exact t_X3_levelWithin_45 C hH (lv_sub hl [0] rfl) hf
        · refine lv_iconst (v := (1 : Int32)) hx hb dX3_levelWithin_41 (by decide) ?_
          refine lv_goto (tgt := 46) hx hb dX3_levelWithin_42 (by decide) ?_
          exact t_X3_levelWithin_46 C isZ_1 hH (lv_sub hl [0] rfl) hf
set_option maxRecDepth 100000 in
theorem c_X3_levelWithin {l : Launch} {D : va_G} {B : Nat} {Y : Nat → ClassId} {v1 : Nat} {v2 : Int32} {v3 : Int32} {v4 : Int32} {w : Wd} {r : Int32} {w1 : Wd} (k_v1 : KD v1 = 7)  (hf : f_X3_levelWithin v1 v2 v3 v4 w = some (r, w1)) : CM l D B Y yX3_levelWithin cX3_levelWithin 8 (some .int) 3 [.ref (B + 650), .ref (B + v1), .int v2, .int v3, .int v4] w (some (.int r)) w1 True :=
  CM_of (by decide +kernel) (Nat.le_of_ble_eq_true rfl) (fun p e s m args below meth c ls C hH hl => t_X3_levelWithin_0 C k_v1 hH (lv_sub hl [0, 1, 2, 3, 4] rfl) hf)
