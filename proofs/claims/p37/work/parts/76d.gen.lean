/-! LetterTables$Levels.turnRows -/
set_option maxRecDepth 100000 in
set_option maxHeartbeats 4000000 in
theorem t_X3_turnRows_67 {D : va_G} {B : Nat} {Y : Nat → ClassId} {p : Program} {l : Launch} {e : Env} {s : State} {m : MethodId} {args : Array Value} {below : List Frame} {meth : Method} {c : Code} {z : (Unit × Wd)} {H : Heap} {locs : List Loc} {ls : Array Slot} {w : Wd} {v1 : Int32} {v2 : Int32} {v3 : Int32} {v4 : Int32} (C : CX D B Y p s m args meth c cX3_turnRows 5 RX3 none)  {rc_4 : Int32 × Int32 × Int32 × Wd → Option (Unit × Wd)} (hr_4 : ∀ (v1 : Int32) (v2 : Int32) (v3 : Int32) (w : Wd), rc_4 (v1, v2, v3, w) = some z → ∀ (H : Heap) (locs : List Loc) (ls : Array Slot), HS D B Y w s H locs → lv_has ls 5 [(0, .ref (B + 650)), (1, .int v1), (2, .int v2), (3, .int v3)] → W p l e (RM 2 0 0) s m args below meth c H locs 0 0 (MQ below (QG D B Y none z.2 True) args s 0 0 (AB B)) (F0 m 4 ls []))   (z_v4 : isZ v4) (hH : HS D B Y w s H locs) (hl : lv_has ls 5 [(0, .ref (B + 650)), (1, .int v1), (2, .int v2), (3, .int v3), (4, .int v4)]) (hf : f_X3_turnRows_67 rc_4 v1 v2 v3 v4 w = some z) : W p l e (RM 2 0 0) s m args below meth c H locs 0 0 (MQ below (QG D B Y none z.2 True) args s 0 0 (AB B)) (F0 m 67 ls []) := by
  have hx := C.1
  have hb := C.2.1
  unfold f_X3_turnRows_67 at hf
  refine lv_iload hx hb dX3_turnRows_67 (lv_at hl 4 rfl) ?_
  refine b_if_ne (tgt := 90) hx hb hf dX3_turnRows_69 (by decide) (fun hf => ?_) (fun hf => ?_)
  · refine b_let hf (fun x1 he hf => ?_)
    refine lv_iinc (v := x1) (lv' := [(3, .int x1), (0, .ref (B + 650)), (1, .int v1), (2, .int v2), (4, .int v4)]) hx hb dX3_turnRows_90 hl (k := 3) rfl (by rw [← he]; rfl) (by decide) rfl (fun ls hl => ?_)
    refine lv_goto (tgt := 4) hx hb dX3_turnRows_93 (by decide) ?_
    exact hr_4 v1 v2 x1 w hf _ _ _ hH (lv_sub hl [1, 2, 3, 0] rfl)
  · refine lv_iload_n hx hb dX3_turnRows_72 rfl (lv_at hl 2 rfl) ?_
    refine lv_iconst (v := (-1 : Int32)) hx hb dX3_turnRows_73 (by decide) ?_
    refine b_icmp_eq (tgt := 90) hx hb hf dX3_turnRows_74 (by decide) (fun hf => ?_) (fun hf => ?_)
    · refine b_let hf (fun x2 he hf => ?_)
      refine lv_iinc (v := x2) (lv' := [(3, .int x2), (0, .ref (B + 650)), (1, .int v1), (2, .int v2), (4, .int v4)]) hx hb dX3_turnRows_90 hl (k := 3) rfl (by rw [← he]; rfl) (by decide) rfl (fun ls hl => ?_)
      refine lv_goto (tgt := 4) hx hb dX3_turnRows_93 (by decide) ?_
      exact hr_4 v1 v2 x2 w hf _ _ _ hH (lv_sub hl [1, 2, 3, 0] rfl)
    · refine lv_aload_n hx hb dX3_turnRows_77 rfl (lv_at hl 0 rfl) ?_
      refine fg_X3_51 C hH dX3_turnRows_78 ?_
      refine lv_iload_n hx hb dX3_turnRows_81 rfl (lv_at hl 2 rfl) ?_
      refine lv_iload_n hx hb dX3_turnRows_82 rfl (lv_at hl 3 rfl) ?_
      refine lv_iconst (v := (1 : Int32)) hx hb dX3_turnRows_83 (by decide) ?_
      refine lv_isub hx hb dX3_turnRows_84 ?_
      obtain ⟨u, w3, hc, hf⟩ := bd_some hf
      refine q_callV0 (As := [.int v2, .int (v3 - (1 : Int32))]) C hH (ci := 7) rfl (by omega) gk_X3_155 yd_X7_turn (by omega) (by omega) kc_671 (c_X7_turn kc_671 hc) hl.1 rfl (Nat.le_of_ble_eq_true rfl) dX3_turnRows_85 xv_00 (fun H locs hH hP => ?_)
      refine lv_iconst (v := (-1 : Int32)) hx hb dX3_turnRows_88 (by decide) ?_
      refine lv_istore_n (lv' := [(2, .int (-1 : Int32)), (0, .ref (B + 650)), (1, .int v1), (3, .int v3), (4, .int v4)]) hx hb dX3_turnRows_89 rfl hl (by decide) rfl (fun ls hl => ?_)
      refine b_let hf (fun x4 he hf => ?_)
      refine lv_iinc (v := x4) (lv' := [(3, .int x4), (2, .int (-1 : Int32)), (0, .ref (B + 650)), (1, .int v1), (4, .int v4)]) hx hb dX3_turnRows_90 hl (k := 3) rfl (by rw [← he]; rfl) (by decide) rfl (fun ls hl => ?_)
      refine lv_goto (tgt := 4) hx hb dX3_turnRows_93 (by decide) ?_
      exact hr_4 v1 (-1 : Int32) x4 w3 hf _ _ _ hH (lv_sub hl [2, 3, 1, 0] rfl)
set_option maxRecDepth 100000 in
set_option maxHeartbeats 4000000 in
theorem t_X3_turnRows_50 {D : va_G} {B : Nat} {Y : Nat → ClassId} {p : Program} {l : Launch} {e : Env} {s : State} {m : MethodId} {args : Array Value} {below : List Frame} {meth : Method} {c : Code} {z : (Unit × Wd)} {H : Heap} {locs : List Loc} {ls : Array Slot} {w : Wd} {v1 : Int32} {v2 : Int32} {v3 : Int32} {t0 : Int32} (C : CX D B Y p s m args meth c cX3_turnRows 5 RX3 none)  {rc_4 : Int32 × Int32 × Int32 × Wd → Option (Unit × Wd)} (hr_4 : ∀ (v1 : Int32) (v2 : Int32) (v3 : Int32) (w : Wd), rc_4 (v1, v2, v3, w) = some z → ∀ (H : Heap) (locs : List Loc) (ls : Array Slot), HS D B Y w s H locs → lv_has ls 5 [(0, .ref (B + 650)), (1, .int v1), (2, .int v2), (3, .int v3)] → W p l e (RM 2 0 0) s m args below meth c H locs 0 0 (MQ below (QG D B Y none z.2 True) args s 0 0 (AB B)) (F0 m 4 ls []))   (z_t0 : isZ t0) (hH : HS D B Y w s H locs) (hl : lv_has ls 5 [(0, .ref (B + 650)), (1, .int v1), (2, .int v2), (3, .int v3)]) (hf : f_X3_turnRows_50 rc_4 v1 v2 v3 t0 w = some z) : W p l e (RM 2 0 0) s m args below meth c H locs 0 0 (MQ below (QG D B Y none z.2 True) args s 0 0 (AB B)) (F0 m 50 ls [.int t0]) := by
  have hx := C.1
  have hb := C.2.1
  unfold f_X3_turnRows_50 at hf
  refine lv_istore (lv' := [(4, .int t0), (0, .ref (B + 650)), (1, .int v1), (2, .int v2), (3, .int v3)]) hx hb dX3_turnRows_50 hl (by decide) rfl (fun ls hl => ?_)
  refine lv_iload hx hb dX3_turnRows_52 (lv_at hl 0 rfl) ?_
  refine b_if_eq (tgt := 67) hx hb hf dX3_turnRows_54 (by decide) (fun hf => ?_) (fun hf => ?_)
  · exact t_X3_turnRows_67 C hr_4 z_t0 hH (lv_sub hl [1, 2, 3, 4, 0] rfl) hf
  · refine lv_iload_n hx hb dX3_turnRows_57 rfl (lv_at hl 3 rfl) ?_
    refine lv_iconst (v := (-1 : Int32)) hx hb dX3_turnRows_58 (by decide) ?_
    refine b_icmp_ne (tgt := 67) hx hb hf dX3_turnRows_59 (by decide) (fun hf => ?_) (fun hf => ?_)
    · exact t_X3_turnRows_67 C hr_4 z_t0 hH (lv_sub hl [1, 2, 3, 4, 0] rfl) hf
    · refine lv_iload_n hx hb dX3_turnRows_62 rfl (lv_at hl 4 rfl) ?_
      refine lv_istore_n (lv' := [(2, .int v3), (4, .int t0), (0, .ref (B + 650)), (1, .int v1), (3, .int v3)]) hx hb dX3_turnRows_63 rfl hl (by decide) rfl (fun ls hl => ?_)
      refine lv_goto (tgt := 90) hx hb dX3_turnRows_64 (by decide) ?_
      refine b_let hf (fun x1 he hf => ?_)
      refine lv_iinc (v := x1) (lv' := [(3, .int x1), (2, .int v3), (4, .int t0), (0, .ref (B + 650)), (1, .int v1)]) hx hb dX3_turnRows_90 hl (k := 4) rfl (by rw [← he]; rfl) (by decide) rfl (fun ls hl => ?_)
      refine lv_goto (tgt := 4) hx hb dX3_turnRows_93 (by decide) ?_
      exact hr_4 v1 v3 x1 w hf _ _ _ hH (lv_sub hl [3, 4, 1, 0] rfl)
set_option maxRecDepth 100000 in
set_option maxHeartbeats 4000000 in
theorem t_X3_turnRows_49 {D : va_G} {B : Nat} {Y : Nat → ClassId} {p : Program} {l : Launch} {e : Env} {s : State} {m : MethodId} {args : Array Value} {below : List Frame} {meth : Method} {c : Code} {z : (Unit × Wd)} {H : Heap} {locs : List Loc} {ls : Array Slot} {w : Wd} {v1 : Int32} {v2 : Int32} {v3 : Int32} (C : CX D B Y p s m args meth c cX3_turnRows 5 RX3 none)  {rc_4 : Int32 × Int32 × Int32 × Wd → Option (Unit × Wd)} (hr_4 : ∀ (v1 : Int32) (v2 : Int32) (v3 : Int32) (w : Wd), rc_4 (v1, v2, v3, w) = some z → ∀ (H : Heap) (locs : List Loc) (ls : Array Slot), HS D B Y w s H locs → lv_has ls 5 [(0, .ref (B + 650)), (1, .int v1), (2, .int v2), (3, .int v3)] → W p l e (RM 2 0 0) s m args below meth c H locs 0 0 (MQ below (QG D B Y none z.2 True) args s 0 0 (AB B)) (F0 m 4 ls []))    (hH : HS D B Y w s H locs) (hl : lv_has ls 5 [(0, .ref (B + 650)), (1, .int v1), (2, .int v2), (3, .int v3)]) (hf : f_X3_turnRows_49 rc_4 v1 v2 v3 w = some z) : W p l e (RM 2 0 0) s m args below meth c H locs 0 0 (MQ below (QG D B Y none z.2 True) args s 0 0 (AB B)) (F0 m 49 ls []) := by
  have hx := C.1
  have hb := C.2.1
  unfold f_X3_turnRows_49 at hf
  refine lv_iconst (v := (0 : Int32)) hx hb dX3_turnRows_49 (by decide) ?_
  exact t_X3_turnRows_50 C hr_4 isZ_0 hH (lv_sub hl [0, 1, 2, 3] rfl) hf
set_option maxRecDepth 100000 in
set_option maxHeartbeats 4000000 in
theorem tb_X3_turnRows_4 {D : va_G} {B : Nat} {Y : Nat → ClassId} {p : Program} {l : Launch} {e : Env} {s : State} {m : MethodId} {args : Array Value} {below : List Frame} {meth : Method} {c : Code} {z : (Unit × Wd)} {H : Heap} {locs : List Loc} {ls : Array Slot} {w : Wd} {v1 : Int32} {v2 : Int32} {v3 : Int32} (C : CX D B Y p s m args meth c cX3_turnRows 5 RX3 none)  {rc_4 : Int32 × Int32 × Int32 × Wd → Option (Unit × Wd)} (hr_4 : ∀ (v1 : Int32) (v2 : Int32) (v3 : Int32) (w : Wd), rc_4 (v1, v2, v3, w) = some z → ∀ (H : Heap) (locs : List Loc) (ls : Array Slot), HS D B Y w s H locs → lv_has ls 5 [(0, .ref (B + 650)), (1, .int v1), (2, .int v2), (3, .int v3)] → W p l e (RM 2 0 0) s m args below meth c H locs 0 0 (MQ below (QG D B Y none z.2 True) args s 0 0 (AB B)) (F0 m 4 ls []))    (hH : HS D B Y w s H locs) (hl : lv_has ls 5 [(0, .ref (B + 650)), (1, .int v1), (2, .int v2), (3, .int v3)]) (hf : g_X3_turnRows_4 rc_4 v1 v2 v3 w = some z) : W p l e (RM 2 0 0) s m args below meth c H locs 0 0 (MQ below (QG D B Y none z.2 True) args s 0 0 (AB B)) (F0 m 4 ls []) := by
  have hx := C.1
  have hb := C.2.1
  unfold g_X3_turnRows_4 at hf
  refine lv_iload_n hx hb dX3_turnRows_4 rfl (lv_at hl 3 rfl) ?_
  refine lv_aload_n hx hb dX3_turnRows_5 rfl (lv_at hl 0 rfl) ?_
  refine fg_X3_51 C hH dX3_turnRows_6 ?_
  obtain ⟨x2, w1, hc, hf⟩ := bd_some hf
  refine q_callV1 (v := .int x2) (As := []) C hH (ci := 7) rfl (by omega) gk_X3_54 yd_X7_size (by omega) (by omega) kc_671 (c_X7_size kc_671 hc) hl.1 rfl (Nat.le_of_ble_eq_true rfl) dX3_turnRows_9 xv_00 (fun H locs hH hP => ?_)
  refine b_icmp_gt (tgt := 96) hx hb hf dX3_turnRows_12 (by decide) (fun hf => ?_) (fun hf => ?_)
  · cases hf
    exact q_retv C hH trivial dX3_turnRows_96
  · refine lv_iload_n hx hb dX3_turnRows_15 rfl (lv_at hl 3 rfl) ?_
    refine lv_aload_n hx hb dX3_turnRows_16 rfl (lv_at hl 0 rfl) ?_
    refine fg_X3_51 C hH dX3_turnRows_17 ?_
    obtain ⟨x4, w3, hc, hf⟩ := bd_some hf
    refine q_callV1 (v := .int x4) (As := []) C hH (ci := 7) rfl (by omega) gk_X3_54 yd_X7_size (by omega) (by omega) kc_671 (c_X7_size kc_671 hc) hl.1 rfl (Nat.le_of_ble_eq_true rfl) dX3_turnRows_20 xv_00 (fun H locs hH hP => ?_)
    refine b_icmp_ge (tgt := 49) hx hb hf dX3_turnRows_23 (by decide) (fun hf => ?_) (fun hf => ?_)
    · exact t_X3_turnRows_49 C hr_4 hH (lv_sub hl [0, 1, 2, 3] rfl) hf
    · refine lv_aload_n hx hb dX3_turnRows_26 rfl (lv_at hl 0 rfl) ?_
      refine fg_X3_48 C hH dX3_turnRows_27 ?_
      refine lv_aload_n hx hb dX3_turnRows_30 rfl (lv_at hl 0 rfl) ?_
      refine fg_X3_51 C hH dX3_turnRows_31 ?_
      refine lv_iload_n hx hb dX3_turnRows_34 rfl (lv_at hl 3 rfl) ?_
      obtain ⟨x6, w5, hc, hf⟩ := bd_some hf
      refine q_callV1 (v := .int x6) (As := [.int v3]) C hH (ci := 7) rfl (by omega) gk_X3_58 yd_X7_get (by omega) (by omega) kc_671 (c_X7_get kc_671 hc) hl.1 rfl (Nat.le_of_ble_eq_true rfl) dX3_turnRows_35 xv_00 (fun H locs hH hP => ?_)
      obtain ⟨x8, w7, hc, hf⟩ := bd_some hf
      refine q_callV1 (v := .int x8) (As := [.int x6]) C hH (ci := 7) rfl (by omega) gk_X3_58 yd_X7_get (by omega) (by omega) kc_669 (c_X7_get kc_669 hc) hl.1 rfl (Nat.le_of_ble_eq_true rfl) dX3_turnRows_38 xv_00 (fun H locs hH hP => ?_)
      refine lv_iload_n hx hb dX3_turnRows_41 rfl (lv_at hl 1 rfl) ?_
      refine b_icmp_lt (tgt := 49) hx hb hf dX3_turnRows_42 (by decide) (fun hf => ?_) (fun hf => ?_)
      · exact t_X3_turnRows_49 C hr_4 hH (lv_sub hl [0, 1, 2, 3] rfl) hf
      · refine lv_iconst (v := (1 : Int32)) hx hb dX3_turnRows_45 (by decide) ?_
        refine lv_goto (tgt := 50) hx hb dX3_turnRows_46 (by decide) ?_
        exact t_X3_turnRows_50 C hr_4 isZ_1 hH (lv_sub hl [0, 1, 2, 3] rfl) hf
set_option maxRecDepth 100000 in
set_option maxHeartbeats 4000000 in
theorem t_X3_turnRows_4 {D : va_G} {B : Nat} {Y : Nat → ClassId} {p : Program} {l : Launch} {e : Env} {s : State} {m : MethodId} {args : Array Value} {below : List Frame} {meth : Method} {c : Code} {z : (Unit × Wd)} {H : Heap} {locs : List Loc} {ls : Array Slot} {w : Wd} {v1 : Int32} {v2 : Int32} {v3 : Int32} (C : CX D B Y p s m args meth c cX3_turnRows 5 RX3 none)     (hH : HS D B Y w s H locs) (hl : lv_has ls 5 [(0, .ref (B + 650)), (1, .int v1), (2, .int v2), (3, .int v3)]) (hf : f_X3_turnRows_4 v1 v2 v3 w = some z) : W p l e (RM 2 0 0) s m args below meth c H locs 0 0 (MQ below (QG D B Y none z.2 True) args s 0 0 (AB B)) (F0 m 4 ls []) := by
  exact loopN_ind (z := z) (body := fun rc σ => g_X3_turnRows_4 rc  σ.1 σ.2.1 σ.2.2.1 σ.2.2.2)
    (P := fun σ => ∀ (H : Heap) (locs : List Loc) (ls : Array Slot), HS D B Y σ.2.2.2 s H locs → lv_has ls 5 [(0, .ref (B + 650)), (1, .int σ.1), (2, .int σ.2.1), (3, .int σ.2.2.1)] → W p l e (RM 2 0 0) s m args below meth c H locs 0 0 (MQ below (QG D B Y none z.2 True) args s 0 0 (AB B)) (F0 m 4 ls []))
    (fun rc hrec σ hf  H locs ls hH hl => tb_X3_turnRows_4 C (fun v1 v2 v3 w hr  H locs ls hH hl => hrec (v1, v2, v3, w) hr  H locs ls hH hl)   hH hl hf) FU (v1, v2, v3, w) hf  H locs ls hH hl
set_option maxRecDepth 100000 in
set_option maxHeartbeats 4000000 in
theorem t_X3_turnRows_0 {D : va_G} {B : Nat} {Y : Nat → ClassId} {p : Program} {l : Launch} {e : Env} {s : State} {m : MethodId} {args : Array Value} {below : List Frame} {meth : Method} {c : Code} {z : (Unit × Wd)} {H : Heap} {locs : List Loc} {ls : Array Slot} {w : Wd} {v1 : Int32} (C : CX D B Y p s m args meth c cX3_turnRows 5 RX3 none)     (hH : HS D B Y w s H locs) (hl : lv_has ls 5 [(0, .ref (B + 650)), (1, .int v1)]) (hf : f_X3_turnRows v1 w = some z) : W p l e (RM 2 0 0) s m args below meth c H locs 0 0 (MQ below (QG D B Y none z.2 True) args s 0 0 (AB B)) (F0 m 0 ls []) := by
  have hx := C.1
  have hb := C.2.1
  unfold f_X3_turnRows at hf
  refine lv_iconst (v := (-1 : Int32)) hx hb dX3_turnRows_0 (by decide) ?_
  refine lv_istore_n (lv' := [(2, .int (-1 : Int32)), (0, .ref (B + 650)), (1, .int v1)]) hx hb dX3_turnRows_1 rfl hl (by decide) rfl (fun ls hl => ?_)
  refine lv_iconst (v := (0 : Int32)) hx hb dX3_turnRows_2 (by decide) ?_
  refine lv_istore_n (lv' := [(3, .int (0 : Int32)), (2, .int (-1 : Int32)), (0, .ref (B + 650)), (1, .int v1)]) hx hb dX3_turnRows_3 rfl hl (by decide) rfl (fun ls hl => ?_)
  exact t_X3_turnRows_4 C hH (lv_sub hl [2, 3, 1, 0] rfl) hf
set_option maxRecDepth 100000 in
theorem c_X3_turnRows {l : Launch} {D : va_G} {B : Nat} {Y : Nat → ClassId} {v1 : Int32} {w : Wd} {r : Unit} {w1 : Wd}   (hf : f_X3_turnRows v1 w = some (r, w1)) : CM l D B Y yX3_turnRows cX3_turnRows 5 none 2 [.ref (B + 650), .int v1] w none w1 True :=
  CM_of (by decide +kernel) (Nat.le_of_ble_eq_true rfl) (fun p e s m args below meth c ls C hH hl => t_X3_turnRows_0 C  hH (lv_sub hl [0, 1] rfl) hf)
/-! LetterTables$Levels.screen -/
set_option maxRecDepth 100000 in
set_option maxHeartbeats 4000000 in
theorem tb_X3_screen_65 {D : va_G} {B : Nat} {Y : Nat → ClassId} {p : Program} {l : Launch} {e : Env} {s : State} {m : MethodId} {args : Array Value} {below : List Frame} {meth : Method} {c : Code} {z : (Nat × Wd)} {H : Heap} {locs : List Loc} {ls : Array Slot} {w : Wd} {v2 : Int32} (C : CX D B Y p s m args meth c cX3_screen 3 RX3 (some (.object "LetterTables$Row")))  {rc_65 : Int32 × Wd → Option (Nat × Wd)} (hr_65 : ∀ (v2 : Int32) (w : Wd), rc_65 (v2, w) = some z → ∀ (H : Heap) (locs : List Loc) (ls : Array Slot), HS D B Y w s H locs → lv_has ls 3 [(0, .ref (B + 650)), (2, .int v2)] → W p l e (RM 3 0 0) s m args below meth c H locs 0 0 (MQ below (QG D B Y (some (.ref (B + z.1))) z.2 (KD z.1 = 7)) args s 0 0 (AB B)) (F0 m 65 ls []))    (hH : HS D B Y w s H locs) (hl : lv_has ls 3 [(0, .ref (B + 650)), (2, .int v2)]) (hf : g_X3_screen_65 rc_65 v2 w = some z) : W p l e (RM 3 0 0) s m args below meth c H locs 0 0 (MQ below (QG D B Y (some (.ref (B + z.1))) z.2 (KD z.1 = 7)) args s 0 0 (AB B)) (F0 m 65 ls []) := by
  have hx := C.1
  have hb := C.2.1
  unfold g_X3_screen_65 at hf
  refine lv_iload_n hx hb dX3_screen_65 rfl (lv_at hl 1 rfl) ?_
  refine lv_iconst (v := (1 : Int32)) hx hb dX3_screen_66 (by decide) ?_
  refine b_icmp_lt (tgt := 81) hx hb hf dX3_screen_67 (by decide) (fun hf => ?_) (fun hf => ?_)
  · refine lv_aload_n hx hb dX3_screen_81 rfl (lv_at hl 0 rfl) ?_
    refine fg_X3_51 C hH dX3_screen_82 ?_
    cases hf
    exact q_retr C hH kc_671 dX3_screen_85
  · refine lv_aload_n hx hb dX3_screen_70 rfl (lv_at hl 0 rfl) ?_
    refine lv_iload_n hx hb dX3_screen_71 rfl (lv_at hl 1 rfl) ?_
    obtain ⟨u, w1, hc, hf⟩ := bd_some hf
    refine q_callV0 (As := [.int v2]) C hH (ci := 3) rfl (by omega) gk_X3_152 yd_X3_turnRows (by omega) (by omega) kc_650 (c_X3_turnRows hc) hl.1 rfl (Nat.le_of_ble_eq_true rfl) dX3_screen_72 xv_00 (fun H locs hH hP => ?_)
    refine b_let hf (fun x2 he hf => ?_)
    refine lv_iinc (v := x2) (lv' := [(2, .int x2), (0, .ref (B + 650))]) hx hb dX3_screen_75 hl (k := 1) rfl (by rw [← he]; rfl) (by decide) rfl (fun ls hl => ?_)
    refine lv_goto (tgt := 65) hx hb dX3_screen_78 (by decide) ?_
    exact hr_65 x2 w1 hf _ _ _ hH (lv_sub hl [1, 0] rfl)
set_option maxRecDepth 100000 in
set_option maxHeartbeats 4000000 in
theorem t_X3_screen_65 {D : va_G} {B : Nat} {Y : Nat → ClassId} {p : Program} {l : Launch} {e : Env} {s : State} {m : MethodId} {args : Array Value} {below : List Frame} {meth : Method} {c : Code} {z : (Nat × Wd)} {H : Heap} {locs : List Loc} {ls : Array Slot} {w : Wd} {v2 : Int32} (C : CX D B Y p s m args meth c cX3_screen 3 RX3 (some (.object "LetterTables$Row")))     (hH : HS D B Y w s H locs) (hl : lv_has ls 3 [(0, .ref (B + 650)), (2, .int v2)]) (hf : f_X3_screen_65 v2 w = some z) : W p l e (RM 3 0 0) s m args below meth c H locs 0 0 (MQ below (QG D B Y (some (.ref (B + z.1))) z.2 (KD z.1 = 7)) args s 0 0 (AB B)) (F0 m 65 ls []) := by
  exact loopN_ind (z := z) (body := fun rc σ => g_X3_screen_65 rc  σ.1 σ.2)
    (P := fun σ => ∀ (H : Heap) (locs : List Loc) (ls : Array Slot), HS D B Y σ.2 s H locs → lv_has ls 3 [(0, .ref (B + 650)), (2, .int σ.1)] → W p l e (RM 3 0 0) s m args below meth c H locs 0 0 (MQ below (QG D B Y (some (.ref (B + z.1))) z.2 (KD z.1 = 7)) args s 0 0 (AB B)) (F0 m 65 ls []))
    (fun rc hrec σ hf  H locs ls hH hl => tb_X3_screen_65 C (fun v2 w hr  H locs ls hH hl => hrec (v2, w) hr  H locs ls hH hl)   hH hl hf) FU (v2, w) hf  H locs ls hH hl
set_option maxRecDepth 100000 in
set_option maxHeartbeats 4000000 in
theorem tb_X3_screen_12 {D : va_G} {B : Nat} {Y : Nat → ClassId} {p : Program} {l : Launch} {e : Env} {s : State} {m : MethodId} {args : Array Value} {below : List Frame} {meth : Method} {c : Code} {z : (Nat × Wd)} {H : Heap} {locs : List Loc} {ls : Array Slot} {w : Wd} {v1 : Int32} {v2 : Int32} (C : CX D B Y p s m args meth c cX3_screen 3 RX3 (some (.object "LetterTables$Row")))  {rc_12 : Int32 × Int32 × Wd → Option (Nat × Wd)} (hr_12 : ∀ (v1 : Int32) (v2 : Int32) (w : Wd), rc_12 (v1, v2, w) = some z → ∀ (H : Heap) (locs : List Loc) (ls : Array Slot), HS D B Y w s H locs → lv_has ls 3 [(0, .ref (B + 650)), (1, .int v1), (2, .int v2)] → W p l e (RM 3 0 0) s m args below meth c H locs 0 0 (MQ below (QG D B Y (some (.ref (B + z.1))) z.2 (KD z.1 = 7)) args s 0 0 (AB B)) (F0 m 12 ls []))    (hH : HS D B Y w s H locs) (hl : lv_has ls 3 [(0, .ref (B + 650)), (1, .int v1), (2, .int v2)]) (hf : g_X3_screen_12 rc_12 v1 v2 w = some z) : W p l e (RM 3 0 0) s m args below meth c H locs 0 0 (MQ below (QG D B Y (some (.ref (B + z.1))) z.2 (KD z.1 = 7)) args s 0 0 (AB B)) (F0 m 12 ls []) := by
  have hx := C.1
  have hb := C.2.1
  unfold g_X3_screen_12 at hf
  refine lv_iload_n hx hb dX3_screen_12 rfl (lv_at hl 2 rfl) ?_
  refine lv_aload_n hx hb dX3_screen_13 rfl (lv_at hl 0 rfl) ?_
  refine fg_X3_48 C hH dX3_screen_14 ?_
  obtain ⟨x2, w1, hc, hf⟩ := bd_some hf
  refine q_callV1 (v := .int x2) (As := []) C hH (ci := 7) rfl (by omega) gk_X3_54 yd_X7_size (by omega) (by omega) kc_669 (c_X7_size kc_669 hc) hl.1 rfl (Nat.le_of_ble_eq_true rfl) dX3_screen_17 xv_00 (fun H locs hH hP => ?_)
  refine b_icmp_ge (tgt := 63) hx hb hf dX3_screen_20 (by decide) (fun hf => ?_) (fun hf => ?_)
  · refine lv_iload_n hx hb dX3_screen_63 rfl (lv_at hl 1 rfl) ?_
    refine lv_istore_n (lv' := [(2, .int v1), (0, .ref (B + 650)), (1, .int v1)]) hx hb dX3_screen_64 rfl hl (by decide) rfl (fun ls hl => ?_)
    exact t_X3_screen_65 C hH (lv_sub hl [1, 0] rfl) hf
  · refine lv_aload_n hx hb dX3_screen_23 rfl (lv_at hl 0 rfl) ?_
    refine fg_X3_51 C hH dX3_screen_24 ?_
    refine lv_iload_n hx hb dX3_screen_27 rfl (lv_at hl 2 rfl) ?_
    obtain ⟨x4, w3, hc, hf⟩ := bd_some hf
    refine q_callV1 (v := .int x4) (As := [.int v2]) C hH (ci := 7) rfl (by omega) gk_X3_111 yd_X7_add (by omega) (by omega) kc_671 (c_X7_add kc_671 hc) hl.1 rfl (Nat.le_of_ble_eq_true rfl) dX3_screen_28 xv_00 (fun H locs hH z_x4 => ?_)
    refine lv_pop hx hb dX3_screen_31 rfl ?_
    refine lv_aload_n hx hb dX3_screen_32 rfl (lv_at hl 0 rfl) ?_
    refine fg_X3_48 C hH dX3_screen_33 ?_
    refine lv_iload_n hx hb dX3_screen_36 rfl (lv_at hl 2 rfl) ?_
    obtain ⟨x6, w5, hc, hf⟩ := bd_some hf
    refine q_callV1 (v := .int x6) (As := [.int v2]) C hH (ci := 7) rfl (by omega) gk_X3_58 yd_X7_get (by omega) (by omega) kc_669 (c_X7_get kc_669 hc) hl.1 rfl (Nat.le_of_ble_eq_true rfl) dX3_screen_37 xv_00 (fun H locs hH hP => ?_)
    refine lv_iload_n hx hb dX3_screen_40 rfl (lv_at hl 1 rfl) ?_
    refine b_icmp_le (tgt := 55) hx hb hf dX3_screen_41 (by decide) (fun hf => ?_) (fun hf => ?_)
    · refine lv_iload_n hx hb dX3_screen_55 rfl (lv_at hl 1 rfl) ?_
      refine lv_istore_n (lv' := [(1, .int v1), (0, .ref (B + 650)), (2, .int v2)]) hx hb dX3_screen_56 rfl hl (by decide) rfl (fun ls hl => ?_)
      refine b_let hf (fun x7 he hf => ?_)
      refine lv_iinc (v := x7) (lv' := [(2, .int x7), (1, .int v1), (0, .ref (B + 650))]) hx hb dX3_screen_57 hl (k := 2) rfl (by rw [← he]; rfl) (by decide) rfl (fun ls hl => ?_)
      refine lv_goto (tgt := 12) hx hb dX3_screen_60 (by decide) ?_
      exact hr_12 v1 x7 w5 hf _ _ _ hH (lv_sub hl [2, 1, 0] rfl)
    · refine lv_aload_n hx hb dX3_screen_44 rfl (lv_at hl 0 rfl) ?_
      refine fg_X3_48 C hH dX3_screen_45 ?_
      refine lv_iload_n hx hb dX3_screen_48 rfl (lv_at hl 2 rfl) ?_
      obtain ⟨x9, w8, hc, hf⟩ := bd_some hf
      refine q_callV1 (v := .int x9) (As := [.int v2]) C hH (ci := 7) rfl (by omega) gk_X3_58 yd_X7_get (by omega) (by omega) kc_669 (c_X7_get kc_669 hc) hl.1 rfl (Nat.le_of_ble_eq_true rfl) dX3_screen_49 xv_00 (fun H locs hH hP => ?_)
      refine lv_goto (tgt := 56) hx hb dX3_screen_52 (by decide) ?_
      refine lv_istore_n (lv' := [(1, .int x9), (0, .ref (B + 650)), (2, .int v2)]) hx hb dX3_screen_56 rfl hl (by decide) rfl (fun ls hl => ?_)
      refine b_let hf (fun x10 he hf => ?_)
      refine lv_iinc (v := x10) (lv' := [(2, .int x10), (1, .int x9), (0, .ref (B + 650))]) hx hb dX3_screen_57 hl (k := 2) rfl (by rw [← he]; rfl) (by decide) rfl (fun ls hl => ?_)
      refine lv_goto (tgt := 12) hx hb dX3_screen_60 (by decide) ?_
      exact hr_12 x9 x10 w8 hf _ _ _ hH (lv_sub hl [2, 1, 0] rfl)
set_option maxRecDepth 100000 in
set_option maxHeartbeats 4000000 in
theorem t_X3_screen_12 {D : va_G} {B : Nat} {Y : Nat → ClassId} {p : Program} {l : Launch} {e : Env} {s : State} {m : MethodId} {args : Array Value} {below : List Frame} {meth : Method} {c : Code} {z : (Nat × Wd)} {H : Heap} {locs : List Loc} {ls : Array Slot} {w : Wd} {v1 : Int32} {v2 : Int32} (C : CX D B Y p s m args meth c cX3_screen 3 RX3 (some (.object "LetterTables$Row")))     (hH : HS D B Y w s H locs) (hl : lv_has ls 3 [(0, .ref (B + 650)), (1, .int v1), (2, .int v2)]) (hf : f_X3_screen_12 v1 v2 w = some z) : W p l e (RM 3 0 0) s m args below meth c H locs 0 0 (MQ below (QG D B Y (some (.ref (B + z.1))) z.2 (KD z.1 = 7)) args s 0 0 (AB B)) (F0 m 12 ls []) := by
  exact loopN_ind (z := z) (body := fun rc σ => g_X3_screen_12 rc  σ.1 σ.2.1 σ.2.2)
    (P := fun σ => ∀ (H : Heap) (locs : List Loc) (ls : Array Slot), HS D B Y σ.2.2 s H locs → lv_has ls 3 [(0, .ref (B + 650)), (1, .int σ.1), (2, .int σ.2.1)] → W p l e (RM 3 0 0) s m args below meth c H locs 0 0 (MQ below (QG D B Y (some (.ref (B + z.1))) z.2 (KD z.1 = 7)) args s 0 0 (AB B)) (F0 m 12 ls []))
    (fun rc hrec σ hf  H locs ls hH hl => tb_X3_screen_12 C (fun v1 v2 w hr  H locs ls hH hl => hrec (v1, v2, w) hr  H locs ls hH hl)   hH hl hf) FU (v1, v2, w) hf  H locs ls hH hl
set_option maxRecDepth 100000 in
set_option maxHeartbeats 4000000 in
theorem t_X3_screen_0 {D : va_G} {B : Nat} {Y : Nat → ClassId} {p : Program} {l : Launch} {e : Env} {s : State} {m : MethodId} {args : Array Value} {below : List Frame} {meth : Method} {c : Code} {z : (Nat × Wd)} {H : Heap} {locs : List Loc} {ls : Array Slot} {w : Wd}  (C : CX D B Y p s m args meth c cX3_screen 3 RX3 (some (.object "LetterTables$Row")))     (hH : HS D B Y w s H locs) (hl : lv_has ls 3 [(0, .ref (B + 650))]) (hf : f_X3_screen w = some z) : W p l e (RM 3 0 0) s m args below meth c H locs 0 0 (MQ below (QG D B Y (some (.ref (B + z.1))) z.2 (KD z.1 = 7)) args s 0 0 (AB B)) (F0 m 0 ls []) := by
  have hx := C.1
  have hb := C.2.1
  unfold f_X3_screen at hf
  refine lv_aload_n hx hb dX3_screen_0 rfl (lv_at hl 0 rfl) ?_
  refine fg_X3_51 C hH dX3_screen_1 ?_
  refine lv_iconst (v := (0 : Int32)) hx hb dX3_screen_4 (by decide) ?_
  obtain ⟨u, w1, hc, hf⟩ := bd_some hf
  refine q_callV0 (As := [.int (0 : Int32)]) C hH (ci := 7) rfl (by omega) gk_X3_101 yd_X7_cutTo (by omega) (by omega) kc_671 (c_X7_cutTo kc_671 hc) hl.1 rfl (Nat.le_of_ble_eq_true rfl) dX3_screen_5 xv_00 (fun H locs hH hP => ?_)
  refine lv_iconst (v := (0 : Int32)) hx hb dX3_screen_8 (by decide) ?_
  refine lv_istore_n (lv' := [(1, .int (0 : Int32)), (0, .ref (B + 650))]) hx hb dX3_screen_9 rfl hl (by decide) rfl (fun ls hl => ?_)
  refine lv_iconst (v := (0 : Int32)) hx hb dX3_screen_10 (by decide) ?_
  refine lv_istore_n (lv' := [(2, .int (0 : Int32)), (1, .int (0 : Int32)), (0, .ref (B + 650))]) hx hb dX3_screen_11 rfl hl (by decide) rfl (fun ls hl => ?_)
  exact t_X3_screen_12 C hH (lv_sub hl [2, 1, 0] rfl) hf
set_option maxRecDepth 100000 in
theorem c_X3_screen {l : Launch} {D : va_G} {B : Nat} {Y : Nat → ClassId}  {w : Wd} {r : Nat} {w1 : Wd}   (hf : f_X3_screen w = some (r, w1)) : CM l D B Y yX3_screen cX3_screen 3 (some (.object "LetterTables$Row")) 3 [.ref (B + 650)] w (some (.ref (B + r))) w1 (KD r = 7) :=
  CM_of (by decide +kernel) (Nat.le_of_ble_eq_true rfl) (fun p e s m args below meth c ls C hH hl => t_X3_screen_0 C  hH (lv_sub hl [0] rfl) hf)
/-! LetterTables.shown -/
set_option maxRecDepth 100000 in
set_option maxHeartbeats 4000000 in
theorem t_X10_shown_0 {D : va_G} {B : Nat} {Y : Nat → ClassId} {p : Program} {l : Launch} {e : Env} {s : State} {m : MethodId} {args : Array Value} {below : List Frame} {meth : Method} {c : Code} {z : ((Nat ⊕ Int32) × Wd)} {H : Heap} {locs : List Loc} {ls : Array Slot} {w : Wd} {v1 : Int32} {v2 : Int32} {v3 : Int32} (C : CX D B Y p s m args meth c cX10_shown 5 RX10 (some .int)) (hxt : ∀ x ∈ c.exceptionTable.toList, False) (htr : l.stackTraces = false)     (hH : HS D B Y w s H locs) (hl : lv_has ls 5 [(0, .ref (B + 0)), (1, .int v1), (2, .int v2), (3, .int v3)]) (hf : f_X10_shown v1 v2 v3 w = some z) : W p l e (RM 6 (xv (zoI z.1)) (6 * xv (zoI z.1))) s m args below meth c H locs 0 0 (vx_MQ below (QX D B Y (zoI z.1) z.2 True) (XX D B Y (zoI z.1) z.2) args s (xv (zoI z.1)) (6 * xv (zoI z.1)) (AB B)) (F0 m 0 ls []) := by
  have hx := C.1
  have hb := C.2.1
  unfold f_X10_shown at hf
  refine lv_aload_n hx hb dX10_shown_0 rfl (lv_at hl 0 rfl) ?_
  refine lv_iload_n hx hb dX10_shown_1 rfl (lv_at hl 1 rfl) ?_
  rcases bdx_some hf with ⟨k, w1, hc, rfl⟩ | ⟨r2, w1, hc, hf⟩
  · exact q_xrunX (k0 := k) (q_xV (As := [.int v1]) C hH (ci := 10) rfl (by omega) gk_X10_194 yd_X10_textOf (by omega) (by omega) kc_0 (c_X10_textOf (r := .inl k) htr hc) hl.1 rfl (Nat.le_of_ble_eq_true rfl) dX10_shown_2 (xv_le rfl)) hH (fun H locs ce q hH h1 h2 h3 => q_out C hH hxt h1 h2 h3 (xv_1 rfl) (xv_6 rfl))
  refine q_xrun (ov := some (.ref (B + r2))) (q_xV (As := [.int v1]) C hH (ci := 10) rfl (by omega) gk_X10_194 yd_X10_textOf (by omega) (by omega) kc_0 (c_X10_textOf (r := .inr r2) htr hc) hl.1 rfl (Nat.le_of_ble_eq_true rfl) dX10_shown_2 (xv_0 rfl xv_00)) hH (fun H locs hH k_r2 => ?_)
  refine lv_astore (lv' := [(4, .ref (B + r2)), (0, .ref (B + 0)), (1, .int v1), (2, .int v2), (3, .int v3)]) hx hb dX10_shown_5 hl (by decide) rfl (fun ls hl => ?_)
  refine lv_iload_n hx hb dX10_shown_7 rfl (lv_at hl 3 rfl) ?_
  refine lv_aload hx hb dX10_shown_8 (lv_at hl 0 rfl) ?_
  obtain ⟨x4, w3, hc, hf⟩ := bd_some hf
  refine q_callV1 (v := .int x4) (As := []) C hH (ci := 7) rfl (by omega) gk_X10_107 yd_X7_size (by omega) (by omega) k_r2 (c_X7_size k_r2 hc) hl.1 rfl (Nat.le_of_ble_eq_true rfl) dX10_shown_10 xv_00 (fun H locs hH hP => ?_)
  rcases bdx_some hf with ⟨k, w5, hc, rfl⟩ | ⟨u, w5, hc, hf⟩
  · exact q_xrunX (k0 := k) (q_xS (As := [.int v2, .int x4]) C hH gk_X10_240 yd_X10_checkPlace (by omega) (by omega) (c_X10_checkPlace (r := .inl k) htr hc) hl.1 rfl (Nat.le_of_ble_eq_true rfl) dX10_shown_13 (xv_le rfl)) hH (fun H locs ce q hH h1 h2 h3 => q_out C hH hxt h1 h2 h3 (xv_1 rfl) (xv_6 rfl))
  refine q_xrun (ov := none) (q_xS (As := [.int v2, .int x4]) C hH gk_X10_240 yd_X10_checkPlace (by omega) (by omega) (c_X10_checkPlace (r := .inr u) htr hc) hl.1 rfl (Nat.le_of_ble_eq_true rfl) dX10_shown_13 (xv_0 rfl xv_00)) hH (fun H locs hH hP => ?_)
  refine lv_iload_n hx hb dX10_shown_16 rfl (lv_at hl 4 rfl) ?_
  refine lv_iconst (v := (-1 : Int32)) hx hb dX10_shown_17 (by decide) ?_
  refine lv_iconst (v := (1 : Int32)) hx hb dX10_shown_18 (by decide) ?_
  obtain ⟨x7, w6, hc, hf⟩ := bd_some hf
  refine q_callS1 (v := .int x7) (As := [.int v3, .int (-1 : Int32), .int (1 : Int32)]) C hH gk_X10_99 yd_X10_isWithin (by omega) (by omega) (c_X10_isWithin hc) hl.1 rfl (Nat.le_of_ble_eq_true rfl) dX10_shown_19 xv_00 (fun H locs hH z_x7 => ?_)
  rcases bdx_some hf with ⟨k, w8, hc, rfl⟩ | ⟨u, w8, hc, hf⟩
  · exact q_xrunX (k0 := k) (q_xS (As := [.int x7]) C hH gk_X10_103 yd_X10_checkArgument (by omega) (by omega) (c_X10_checkArgument (r := .inl k) htr z_x7 hc) hl.1 rfl (Nat.le_of_ble_eq_true rfl) dX10_shown_22 (xv_le rfl)) hH (fun H locs ce q hH h1 h2 h3 => q_out C hH hxt h1 h2 h3 (xv_1 rfl) (xv_6 rfl))
  refine q_xrun (ov := none) (q_xS (As := [.int x7]) C hH gk_X10_103 yd_X10_checkArgument (by omega) (by omega) (c_X10_checkArgument (r := .inr u) htr z_x7 hc) hl.1 rfl (Nat.le_of_ble_eq_true rfl) dX10_shown_22 (xv_0 rfl xv_00)) hH (fun H locs hH hP => ?_)
  refine lv_aload_n hx hb dX10_shown_25 rfl (lv_at hl 1 rfl) ?_
  refine fg_X10_48 C hH dX10_shown_26 ?_
  refine lv_aload hx hb dX10_shown_29 (lv_at hl 0 rfl) ?_
  refine lv_iload_n hx hb dX10_shown_31 rfl (lv_at hl 4 rfl) ?_
  obtain ⟨u, w9, hc, hf⟩ := bd_some hf
  refine q_callV0 (As := [.ref (B + r2), .int v3]) C hH (ci := 3) rfl (by omega) gk_X10_267 yd_X3_lookAt (by omega) (by omega) kc_650 (c_X3_lookAt k_r2 hc) hl.1 rfl (Nat.le_of_ble_eq_true rfl) dX10_shown_32 xv_00 (fun H locs hH hP => ?_)
  refine lv_aload_n hx hb dX10_shown_35 rfl (lv_at hl 1 rfl) ?_
  refine fg_X10_48 C hH dX10_shown_36 ?_
  obtain ⟨r11, w10, hc, hf⟩ := bd_some hf
  refine q_callV1 (v := .ref (B + r11)) (As := []) C hH (ci := 3) rfl (by omega) gk_X10_274 yd_X3_screen (by omega) (by omega) kc_650 (c_X3_screen hc) hl.1 rfl (Nat.le_of_ble_eq_true rfl) dX10_shown_39 xv_00 (fun H locs hH k_r11 => ?_)
  refine lv_iload_n hx hb dX10_shown_42 rfl (lv_at hl 3 rfl) ?_
  obtain ⟨x13, w12, hc, hf⟩ := bd_some hf
  refine q_callV1 (v := .int x13) (As := [.int v2]) C hH (ci := 7) rfl (by omega) gk_X10_243 yd_X7_get (by omega) (by omega) k_r11 (c_X7_get k_r11 hc) hl.1 rfl (Nat.le_of_ble_eq_true rfl) dX10_shown_43 xv_00 (fun H locs hH hP => ?_)
  cases hf
  exact q_x0 rfl (q_reti C hH trivial dX10_shown_46)
set_option maxRecDepth 100000 in
theorem c_X10_shown {l : Launch} {D : va_G} {B : Nat} {Y : Nat → ClassId} {v1 : Int32} {v2 : Int32} {v3 : Int32} {w : Wd} {r : (Nat ⊕ Int32)} {w1 : Wd} (htr : l.stackTraces = false)   (hf : f_X10_shown v1 v2 v3 w = some (r, w1)) : XM l D B Y yX10_shown cX10_shown 5 (some .int) 6 [.ref (B + 0), .int v1, .int v2, .int v3] w (zoI r) w1 True :=
  XM_of (by decide +kernel) (Nat.le_of_ble_eq_true rfl) (fun p e s m args below meth c ls C hxt hH hl => t_X10_shown_0 C hxt htr  hH (lv_sub hl [0, 1, 2, 3] rfl) hf)
/-! LetterTables$Tables.kindOf -/
set_option maxRecDepth 100000 in
set_option maxHeartbeats 4000000 in
theorem t_X9_kindOf_0 {D : va_G} {B : Nat} {Y : Nat → ClassId} {p : Program} {l : Launch} {e : Env} {s : State} {m : MethodId} {args : Array Value} {below : List Frame} {meth : Method} {c : Code} {z : (Int32 × Wd)} {H : Heap} {locs : List Loc} {ls : Array Slot} {w : Wd} {v0 : Nat} {v1 : Int32} (C : CX D B Y p s m args meth c cX9_kindOf 2 RX9 (some .int))   (k_v0 : KD v0 = 9)  (hH : HS D B Y w s H locs) (hl : lv_has ls 2 [(0, .ref (B + v0)), (1, .int v1)]) (hf : f_X9_kindOf v0 v1 w = some z) : W p l e (RM 1 0 0) s m args below meth c H locs 0 0 (MQ below (QG D B Y (some (.int z.1)) z.2 True) args s 0 0 (AB B)) (F0 m 0 ls []) := by
  have hx := C.1
  have hb := C.2.1
  unfold f_X9_kindOf at hf
  refine lv_aload_n hx hb dX9_kindOf_0 rfl (lv_at hl 0 rfl) ?_
  refine fg_X9_18 C hH k_v0 dX9_kindOf_1 ?_
  refine lv_iload_n hx hb dX9_kindOf_4 rfl (lv_at hl 1 rfl) ?_
  refine lv_iconst (v := (0 : Int32)) hx hb dX9_kindOf_5 (by decide) ?_
  obtain ⟨x2, w1, hc, hf⟩ := bd_some hf
  refine q_callN1 (v := .int x2) (As := [.ref (B + (v0 + 3)), .int v1, .int (0 : Int32)]) C hH (List.mem_of_getElem? (i := 2) rfl) wd_573 wd_50 wd_572 yd_X10_cellOf (by omega) (by omega) (c_X10_cellOf (ko_9_2 k_v0) hc) hl.1 rfl (Nat.le_of_ble_eq_true rfl) dX9_kindOf_6 xv_00 (fun H locs hH hP => ?_)
  cases hf
  exact q_reti C hH trivial dX9_kindOf_9
set_option maxRecDepth 100000 in
theorem c_X9_kindOf {l : Launch} {D : va_G} {B : Nat} {Y : Nat → ClassId} {v0 : Nat} {v1 : Int32} {w : Wd} {r : Int32} {w1 : Wd} (k_v0 : KD v0 = 9)  (hf : f_X9_kindOf v0 v1 w = some (r, w1)) : CM l D B Y yX9_kindOf cX9_kindOf 2 (some .int) 1 [.ref (B + v0), .int v1] w (some (.int r)) w1 True :=
  CM_of (by decide +kernel) (Nat.le_of_ble_eq_true rfl) (fun p e s m args below meth c ls C hH hl => t_X9_kindOf_0 C k_v0 hH (lv_sub hl [0, 1] rfl) hf)
/-! LetterTables$Borders.kindAt -/
set_option maxRecDepth 100000 in
set_option maxHeartbeats 4000000 in
theorem t_X0_kindAt_0 {D : va_G} {B : Nat} {Y : Nat → ClassId} {p : Program} {l : Launch} {e : Env} {s : State} {m : MethodId} {args : Array Value} {below : List Frame} {meth : Method} {c : Code} {z : (Int32 × Wd)} {H : Heap} {locs : List Loc} {ls : Array Slot} {w : Wd} {v1 : Nat} {v2 : Int32} (C : CX D B Y p s m args meth c cX0_kindAt 3 RX0 (some .int))   (k_v1 : KD v1 = 7)  (hH : HS D B Y w s H locs) (hl : lv_has ls 3 [(0, .ref (B + 673)), (1, .ref (B + v1)), (2, .int v2)]) (hf : f_X0_kindAt v1 v2 w = some z) : W p l e (RM 2 0 0) s m args below meth c H locs 0 0 (MQ below (QG D B Y (some (.int z.1)) z.2 True) args s 0 0 (AB B)) (F0 m 0 ls []) := by
  have hx := C.1
  have hb := C.2.1
  unfold f_X0_kindAt at hf
  refine lv_aload_n hx hb dX0_kindAt_0 rfl (lv_at hl 0 rfl) ?_
  refine fg_X0_9 C hH dX0_kindAt_1 ?_
  refine lv_aload_n hx hb dX0_kindAt_4 rfl (lv_at hl 1 rfl) ?_
  refine lv_iload_n hx hb dX0_kindAt_5 rfl (lv_at hl 2 rfl) ?_
  obtain ⟨x2, w1, hc, hf⟩ := bd_some hf
  refine q_callV1 (v := .int x2) (As := [.int v2]) C hH (ci := 7) rfl (by omega) gk_X0_19 yd_X7_get (by omega) (by omega) k_v1 (c_X7_get k_v1 hc) hl.1 rfl (Nat.le_of_ble_eq_true rfl) dX0_kindAt_6 xv_00 (fun H locs hH hP => ?_)
  obtain ⟨x4, w3, hc, hf⟩ := bd_some hf
  refine q_callV1 (v := .int x4) (As := [.int x2]) C hH (ci := 9) rfl (by omega) gk_X0_25 yd_X9_kindOf (by omega) (by omega) kc_1 (c_X9_kindOf kc_1 hc) hl.1 rfl (Nat.le_of_ble_eq_true rfl) dX0_kindAt_9 xv_00 (fun H locs hH hP => ?_)
  cases hf
  exact q_reti C hH trivial dX0_kindAt_12
set_option maxRecDepth 100000 in
theorem c_X0_kindAt {l : Launch} {D : va_G} {B : Nat} {Y : Nat → ClassId} {v1 : Nat} {v2 : Int32} {w : Wd} {r : Int32} {w1 : Wd} (k_v1 : KD v1 = 7)  (hf : f_X0_kindAt v1 v2 w = some (r, w1)) : CM l D B Y yX0_kindAt cX0_kindAt 3 (some .int) 2 [.ref (B + 673), .ref (B + v1), .int v2] w (some (.int r)) w1 True :=
  CM_of (by decide +kernel) (Nat.le_of_ble_eq_true rfl) (fun p e s m args below meth c ls C hH hl => t_X0_kindAt_0 C k_v1 hH (lv_sub hl [0, 1, 2] rfl) hf)
/-! LetterTables$Borders.clusterBreaks -/
set_option maxRecDepth 100000 in
set_option maxHeartbeats 4000000 in
theorem tb_X0_clusterBreaks_5 {D : va_G} {B : Nat} {Y : Nat → ClassId} {p : Program} {l : Launch} {e : Env} {s : State} {m : MethodId} {args : Array Value} {below : List Frame} {meth : Method} {c : Code} {z : (Int64 × Wd)} {H : Heap} {locs : List Loc} {ls : Array Slot} {w : Wd} {v1 : Nat} {v2 : Int64} {v4 : Int32} (C : CX D B Y p s m args meth c cX0_clusterBreaks 5 RX0 (some .long))  {rc_5 : Nat × Int64 × Int32 × Wd → Option (Int64 × Wd)} (hr_5 : ∀ (v1 : Nat) (v2 : Int64) (v4 : Int32) (w : Wd), rc_5 (v1, v2, v4, w) = some z → KD v1 = 7 → ∀ (H : Heap) (locs : List Loc) (ls : Array Slot), HS D B Y w s H locs → lv_has ls 5 [(0, .ref (B + 673)), (1, .ref (B + v1)), (2, .long v2), (4, .int v4)] → W p l e (RM 3 0 0) s m args below meth c H locs 0 0 (MQ below (QG D B Y (some (.long z.1)) z.2 True) args s 0 0 (AB B)) (F0 m 5 ls []))  (k_v1 : KD v1 = 7)  (hH : HS D B Y w s H locs) (hl : lv_has ls 5 [(0, .ref (B + 673)), (1, .ref (B + v1)), (2, .long v2), (4, .int v4)]) (hf : g_X0_clusterBreaks_5 rc_5 v1 v2 v4 w = some z) : W p l e (RM 3 0 0) s m args below meth c H locs 0 0 (MQ below (QG D B Y (some (.long z.1)) z.2 True) args s 0 0 (AB B)) (F0 m 5 ls []) := by
  have hx := C.1
  have hb := C.2.1
  unfold g_X0_clusterBreaks_5 at hf
  refine lv_iload hx hb dX0_clusterBreaks_5 (lv_at hl 3 rfl) ?_
  refine lv_aload_n hx hb dX0_clusterBreaks_7 rfl (lv_at hl 1 rfl) ?_
  obtain ⟨x2, w1, hc, hf⟩ := bd_some hf
  refine q_callV1 (v := .int x2) (As := []) C hH (ci := 7) rfl (by omega) gk_X0_30 yd_X7_size (by omega) (by omega) k_v1 (c_X7_size k_v1 hc) hl.1 rfl (Nat.le_of_ble_eq_true rfl) dX0_clusterBreaks_8 xv_00 (fun H locs hH hP => ?_)
  refine b_icmp_ge (tgt := 51) hx hb hf dX0_clusterBreaks_11 (by decide) (fun hf => ?_) (fun hf => ?_)
  · refine lv_lload_n hx hb dX0_clusterBreaks_51 rfl (lv_at hl 2 rfl) ?_
    cases hf
    exact q_retl C hH trivial dX0_clusterBreaks_52
  · refine lv_aload_n hx hb dX0_clusterBreaks_14 rfl (lv_at hl 0 rfl) ?_
    refine lv_aload_n hx hb dX0_clusterBreaks_15 rfl (lv_at hl 1 rfl) ?_
    refine lv_iload hx hb dX0_clusterBreaks_16 (lv_at hl 3 rfl) ?_
    obtain ⟨x4, w3, hc, hf⟩ := bd_some hf
    refine q_callV1 (v := .int x4) (As := [.ref (B + v1), .int v4]) C hH (ci := 0) rfl (by omega) gk_X0_34 yd_X0_kindAt (by omega) (by omega) kc_673 (c_X0_kindAt k_v1 hc) hl.1 rfl (Nat.le_of_ble_eq_true rfl) dX0_clusterBreaks_18 xv_00 (fun H locs hH hP => ?_)
    refine lv_iconst (v := (2 : Int32)) hx hb dX0_clusterBreaks_21 (by decide) ?_
    refine b_icmp_eq (tgt := 45) hx hb hf dX0_clusterBreaks_22 (by decide) (fun hf => ?_) (fun hf => ?_)
    · refine b_let hf (fun x5 he hf => ?_)
      refine lv_iinc (v := x5) (lv' := [(4, .int x5), (0, .ref (B + 673)), (1, .ref (B + v1)), (2, .long v2)]) hx hb dX0_clusterBreaks_45 hl (k := 3) rfl (by rw [← he]; rfl) (by decide) rfl (fun ls hl => ?_)
      refine lv_goto (tgt := 5) hx hb dX0_clusterBreaks_48 (by decide) ?_
      exact hr_5 v1 v2 x5 w3 hf k_v1 _ _ _ hH (lv_sub hl [1, 2, 3, 0] rfl)
    · refine lv_aload_n hx hb dX0_clusterBreaks_25 rfl (lv_at hl 0 rfl) ?_
      refine lv_aload_n hx hb dX0_clusterBreaks_26 rfl (lv_at hl 1 rfl) ?_
      refine lv_iload hx hb dX0_clusterBreaks_27 (lv_at hl 3 rfl) ?_
      refine lv_iconst (v := (1 : Int32)) hx hb dX0_clusterBreaks_29 (by decide) ?_
      refine lv_isub hx hb dX0_clusterBreaks_30 ?_
      obtain ⟨x7, w6, hc, hf⟩ := bd_some hf
      refine q_callV1 (v := .int x7) (As := [.ref (B + v1), .int (v4 - (1 : Int32))]) C hH (ci := 0) rfl (by omega) gk_X0_34 yd_X0_kindAt (by omega) (by omega) kc_673 (c_X0_kindAt k_v1 hc) hl.1 rfl (Nat.le_of_ble_eq_true rfl) dX0_clusterBreaks_31 xv_00 (fun H locs hH hP => ?_)
      refine lv_iconst (v := (5 : Int32)) hx hb dX0_clusterBreaks_34 (by decide) ?_
      refine b_icmp_eq (tgt := 45) hx hb hf dX0_clusterBreaks_35 (by decide) (fun hf => ?_) (fun hf => ?_)
      · refine b_let hf (fun x8 he hf => ?_)
        refine lv_iinc (v := x8) (lv' := [(4, .int x8), (0, .ref (B + 673)), (1, .ref (B + v1)), (2, .long v2)]) hx hb dX0_clusterBreaks_45 hl (k := 3) rfl (by rw [← he]; rfl) (by decide) rfl (fun ls hl => ?_)
        refine lv_goto (tgt := 5) hx hb dX0_clusterBreaks_48 (by decide) ?_
        exact hr_5 v1 v2 x8 w6 hf k_v1 _ _ _ hH (lv_sub hl [1, 2, 3, 0] rfl)
      · refine lv_lload_n hx hb dX0_clusterBreaks_38 rfl (lv_at hl 2 rfl) ?_
        refine lv_lconst (v := (1 : Int64)) hx hb dX0_clusterBreaks_39 (by decide) ?_
        refine lv_iload hx hb dX0_clusterBreaks_40 (lv_at hl 3 rfl) ?_
        refine lv_lshl (v := (1 : Int64) <<< (v4.toInt64 &&& 63)) hx hb dX0_clusterBreaks_42 rfl ?_
        refine lv_lor hx hb dX0_clusterBreaks_43 ?_
        refine b_letl hf (fun y9 hf => ?_)
        refine lv_lstore_n (lv' := [(2, .long y9), (0, .ref (B + 673)), (1, .ref (B + v1)), (4, .int v4)]) hx hb dX0_clusterBreaks_44 rfl hl (by decide) rfl (fun ls hl => ?_)
        refine b_let hf (fun x10 he hf => ?_)
        refine lv_iinc (v := x10) (lv' := [(4, .int x10), (2, .long y9), (0, .ref (B + 673)), (1, .ref (B + v1))]) hx hb dX0_clusterBreaks_45 hl (k := 3) rfl (by rw [← he]; rfl) (by decide) rfl (fun ls hl => ?_)
        refine lv_goto (tgt := 5) hx hb dX0_clusterBreaks_48 (by decide) ?_
        exact hr_5 v1 y9 x10 w6 hf k_v1 _ _ _ hH (lv_sub hl [2, 3, 1, 0] rfl)
set_option maxRecDepth 100000 in
set_option maxHeartbeats 4000000 in
theorem t_X0_clusterBreaks_5 {D : va_G} {B : Nat} {Y : Nat → ClassId} {p : Program} {l : Launch} {e : Env} {s : State} {m : MethodId} {args : Array Value} {below : List Frame} {meth : Method} {c : Code} {z : (Int64 × Wd)} {H : Heap} {locs : List Loc} {ls : Array Slot} {w : Wd} {v1 : Nat} {v2 : Int64} {v4 : Int32} (C : CX D B Y p s m args meth c cX0_clusterBreaks 5 RX0 (some .long))   (k_v1 : KD v1 = 7)  (hH : HS D B Y w s H locs) (hl : lv_has ls 5 [(0, .ref (B + 673)), (1, .ref (B + v1)), (2, .long v2), (4, .int v4)]) (hf : f_X0_clusterBreaks_5 v1 v2 v4 w = some z) : W p l e (RM 3 0 0) s m args below meth c H locs 0 0 (MQ below (QG D B Y (some (.long z.1)) z.2 True) args s 0 0 (AB B)) (F0 m 5 ls []) := by
  exact loopN_ind (z := z) (body := fun rc σ => g_X0_clusterBreaks_5 rc  σ.1 σ.2.1 σ.2.2.1 σ.2.2.2)
    (P := fun σ => KD σ.1 = 7 → ∀ (H : Heap) (locs : List Loc) (ls : Array Slot), HS D B Y σ.2.2.2 s H locs → lv_has ls 5 [(0, .ref (B + 673)), (1, .ref (B + σ.1)), (2, .long σ.2.1), (4, .int σ.2.2.1)] → W p l e (RM 3 0 0) s m args below meth c H locs 0 0 (MQ below (QG D B Y (some (.long z.1)) z.2 True) args s 0 0 (AB B)) (F0 m 5 ls []))
    (fun rc hrec σ hf k_v1 H locs ls hH hl => tb_X0_clusterBreaks_5 C (fun v1 v2 v4 w hr k_v1 H locs ls hH hl => hrec (v1, v2, v4, w) hr k_v1 H locs ls hH hl)  k_v1 hH hl hf) FU (v1, v2, v4, w) hf k_v1 H locs ls hH hl
set_option maxRecDepth 100000 in
set_option maxHeartbeats 4000000 in
theorem t_X0_clusterBreaks_0 {D : va_G} {B : Nat} {Y : Nat → ClassId} {p : Program} {l : Launch} {e : Env} {s : State} {m : MethodId} {args : Array Value} {below : List Frame} {meth : Method} {c : Code} {z : (Int64 × Wd)} {H : Heap} {locs : List Loc} {ls : Array Slot} {w : Wd} {v1 : Nat} (C : CX D B Y p s m args meth c cX0_clusterBreaks 5 RX0 (some .long))   (k_v1 : KD v1 = 7)  (hH : HS D B Y w s H locs) (hl : lv_has ls 5 [(0, .ref (B + 673)), (1, .ref (B + v1))]) (hf : f_X0_clusterBreaks v1 w = some z) : W p l e (RM 3 0 0) s m args below meth c H locs 0 0 (MQ below (QG D B Y (some (.long z.1)) z.2 True) args s 0 0 (AB B)) (F0 m 0 ls []) := by
  have hx := C.1
  have hb := C.2.1
  unfold f_X0_clusterBreaks at hf
  refine lv_lconst (v := (0 : Int64)) hx hb dX0_clusterBreaks_0 (by decide) ?_
  refine lv_lstore_n (lv' := [(2, .long (0 : Int64)), (0, .ref (B + 673)), (1, .ref (B + v1))]) hx hb dX0_clusterBreaks_1 rfl hl (by decide) rfl (fun ls hl => ?_)
  refine lv_iconst (v := (1 : Int32)) hx hb dX0_clusterBreaks_2 (by decide) ?_
  refine lv_istore (lv' := [(4, .int (1 : Int32)), (2, .long (0 : Int64)), (0, .ref (B + 673)), (1, .ref (B + v1))]) hx hb dX0_clusterBreaks_3 hl (by decide) rfl (fun ls hl => ?_)
  exact t_X0_clusterBreaks_5 C k_v1 hH (lv_sub hl [2, 3, 1, 0] rfl) hf
set_option maxRecDepth 100000 in
theorem c_X0_clusterBreaks {l : Launch} {D : va_G} {B : Nat} {Y : Nat → ClassId} {v1 : Nat} {w : Wd} {r : Int64} {w1 : Wd} (k_v1 : KD v1 = 7)  (hf : f_X0_clusterBreaks v1 w = some (r, w1)) : CM l D B Y yX0_clusterBreaks cX0_clusterBreaks 5 (some .long) 3 [.ref (B + 673), .ref (B + v1)] w (some (.long r)) w1 True :=
  CM_of (by decide +kernel) (Nat.le_of_ble_eq_true rfl) (fun p e s m args below meth c ls C hH hl => t_X0_clusterBreaks_0 C k_v1 hH (lv_sub hl [0, 1] rfl) hf)
/-! LetterTables$Row.placeOf -/
set_option maxRecDepth 100000 in
set_option maxHeartbeats 4000000 in
theorem tb_X7_placeOf_2 {D : va_G} {B : Nat} {Y : Nat → ClassId} {p : Program} {l : Launch} {e : Env} {s : State} {m : MethodId} {args : Array Value} {below : List Frame} {meth : Method} {c : Code} {z : (Int32 × Wd)} {H : Heap} {locs : List Loc} {ls : Array Slot} {w : Wd} {v0 : Nat} {v1 : Int32} {v2 : Int32} (C : CX D B Y p s m args meth c cX7_placeOf 3 RX7 (some .int))  {rc_2 : Nat × Int32 × Int32 × Wd → Option (Int32 × Wd)} (hr_2 : ∀ (v0 : Nat) (v1 : Int32) (v2 : Int32) (w : Wd), rc_2 (v0, v1, v2, w) = some z → KD v0 = 7 → ∀ (H : Heap) (locs : List Loc) (ls : Array Slot), HS D B Y w s H locs → lv_has ls 3 [(0, .ref (B + v0)), (1, .int v1), (2, .int v2)] → W p l e (RM 1 0 0) s m args below meth c H locs 0 0 (MQ below (QG D B Y (some (.int z.1)) z.2 True) args s 0 0 (AB B)) (F0 m 2 ls []))  (k_v0 : KD v0 = 7)  (hH : HS D B Y w s H locs) (hl : lv_has ls 3 [(0, .ref (B + v0)), (1, .int v1), (2, .int v2)]) (hf : g_X7_placeOf_2 rc_2 v0 v1 v2 w = some z) : W p l e (RM 1 0 0) s m args below meth c H locs 0 0 (MQ below (QG D B Y (some (.int z.1)) z.2 True) args s 0 0 (AB B)) (F0 m 2 ls []) := by
  have hx := C.1
  have hb := C.2.1
  unfold g_X7_placeOf_2 at hf
  refine lv_iload_n hx hb dX7_placeOf_2 rfl (lv_at hl 2 rfl) ?_
  refine lv_aload_n hx hb dX7_placeOf_3 rfl (lv_at hl 0 rfl) ?_
  refine fg_X7_15 C hH k_v0 dX7_placeOf_4 ?_
  refine b_icmp_ge (tgt := 27) hx hb hf dX7_placeOf_7 (by decide) (fun hf => ?_) (fun hf => ?_)
  · refine lv_iconst (v := (-1 : Int32)) hx hb dX7_placeOf_27 (by decide) ?_
    cases hf
    exact q_reti C hH trivial dX7_placeOf_28
  · refine lv_aload_n hx hb dX7_placeOf_10 rfl (lv_at hl 0 rfl) ?_
    refine lv_iload_n hx hb dX7_placeOf_11 rfl (lv_at hl 2 rfl) ?_
    obtain ⟨x2, w1, hc, hf⟩ := bd_some hf
    refine q_callV1 (v := .int x2) (As := [.int v2]) C hH (ci := 7) rfl (by omega) gk_X7_19 yd_X7_get (by omega) (by omega) k_v0 (c_X7_get k_v0 hc) hl.1 rfl (Nat.le_of_ble_eq_true rfl) dX7_placeOf_12 xv_00 (fun H locs hH hP => ?_)
    refine lv_iload_n hx hb dX7_placeOf_15 rfl (lv_at hl 1 rfl) ?_
    refine b_icmp_ne (tgt := 21) hx hb hf dX7_placeOf_16 (by decide) (fun hf => ?_) (fun hf => ?_)
    · refine b_let hf (fun x3 he hf => ?_)
      refine lv_iinc (v := x3) (lv' := [(2, .int x3), (0, .ref (B + v0)), (1, .int v1)]) hx hb dX7_placeOf_21 hl (k := 2) rfl (by rw [← he]; rfl) (by decide) rfl (fun ls hl => ?_)
      refine lv_goto (tgt := 2) hx hb dX7_placeOf_24 (by decide) ?_
      exact hr_2 v0 v1 x3 w1 hf k_v0 _ _ _ hH (lv_sub hl [1, 2, 0] rfl)
    · refine lv_iload_n hx hb dX7_placeOf_19 rfl (lv_at hl 2 rfl) ?_
      cases hf
      exact q_reti C hH trivial dX7_placeOf_20
set_option maxRecDepth 100000 in
set_option maxHeartbeats 4000000 in
theorem t_X7_placeOf_2 {D : va_G} {B : Nat} {Y : Nat → ClassId} {p : Program} {l : Launch} {e : Env} {s : State} {m : MethodId} {args : Array Value} {below : List Frame} {meth : Method} {c : Code} {z : (Int32 × Wd)} {H : Heap} {locs : List Loc} {ls : Array Slot} {w : Wd} {v0 : Nat} {v1 : Int32} {v2 : Int32} (C : CX D B Y p s m args meth c cX7_placeOf 3 RX7 (some .int))   (k_v0 : KD v0 = 7)  (hH : HS D B Y w s H locs) (hl : lv_has ls 3 [(0, .ref (B + v0)), (1, .int v1), (2, .int v2)]) (hf : f_X7_placeOf_2 v0 v1 v2 w = some z) : W p l e (RM 1 0 0) s m args below meth c H locs 0 0 (MQ below (QG D B Y (some (.int z.1)) z.2 True) args s 0 0 (AB B)) (F0 m 2 ls []) := by
  exact loopN_ind (z := z) (body := fun rc σ => g_X7_placeOf_2 rc  σ.1 σ.2.1 σ.2.2.1 σ.2.2.2)
    (P := fun σ => KD σ.1 = 7 → ∀ (H : Heap) (locs : List Loc) (ls : Array Slot), HS D B Y σ.2.2.2 s H locs → lv_has ls 3 [(0, .ref (B + σ.1)), (1, .int σ.2.1), (2, .int σ.2.2.1)] → W p l e (RM 1 0 0) s m args below meth c H locs 0 0 (MQ below (QG D B Y (some (.int z.1)) z.2 True) args s 0 0 (AB B)) (F0 m 2 ls []))
    (fun rc hrec σ hf k_v0 H locs ls hH hl => tb_X7_placeOf_2 C (fun v0 v1 v2 w hr k_v0 H locs ls hH hl => hrec (v0, v1, v2, w) hr k_v0 H locs ls hH hl)  k_v0 hH hl hf) FU (v0, v1, v2, w) hf k_v0 H locs ls hH hl
set_option maxRecDepth 100000 in
set_option maxHeartbeats 4000000 in
theorem t_X7_placeOf_0 {D : va_G} {B : Nat} {Y : Nat → ClassId} {p : Program} {l : Launch} {e : Env} {s : State} {m : MethodId} {args : Array Value} {below : List Frame} {meth : Method} {c : Code} {z : (Int32 × Wd)} {H : Heap} {locs : List Loc} {ls : Array Slot} {w : Wd} {v0 : Nat} {v1 : Int32} (C : CX D B Y p s m args meth c cX7_placeOf 3 RX7 (some .int))   (k_v0 : KD v0 = 7)  (hH : HS D B Y w s H locs) (hl : lv_has ls 3 [(0, .ref (B + v0)), (1, .int v1)]) (hf : f_X7_placeOf v0 v1 w = some z) : W p l e (RM 1 0 0) s m args below meth c H locs 0 0 (MQ below (QG D B Y (some (.int z.1)) z.2 True) args s 0 0 (AB B)) (F0 m 0 ls []) := by
  have hx := C.1
  have hb := C.2.1
  unfold f_X7_placeOf at hf
  refine lv_iconst (v := (0 : Int32)) hx hb dX7_placeOf_0 (by decide) ?_
  refine lv_istore_n (lv' := [(2, .int (0 : Int32)), (0, .ref (B + v0)), (1, .int v1)]) hx hb dX7_placeOf_1 rfl hl (by decide) rfl (fun ls hl => ?_)
  exact t_X7_placeOf_2 C k_v0 hH (lv_sub hl [1, 2, 0] rfl) hf
set_option maxRecDepth 100000 in
theorem c_X7_placeOf {l : Launch} {D : va_G} {B : Nat} {Y : Nat → ClassId} {v0 : Nat} {v1 : Int32} {w : Wd} {r : Int32} {w1 : Wd} (k_v0 : KD v0 = 7)  (hf : f_X7_placeOf v0 v1 w = some (r, w1)) : CM l D B Y yX7_placeOf cX7_placeOf 3 (some .int) 1 [.ref (B + v0), .int v1] w (some (.int r)) w1 True :=
  CM_of (by decide +kernel) (Nat.le_of_ble_eq_true rfl) (fun p e s m args below meth c ls C hH hl => t_X7_placeOf_0 C k_v0 hH (lv_sub hl [0, 1] rfl) hf)
/-! LetterTables$Borders.isMarked -/
set_option maxRecDepth 100000 in
set_option maxHeartbeats 4000000 in
theorem t_X0_isMarked_0 {D : va_G} {B : Nat} {Y : Nat → ClassId} {p : Program} {l : Launch} {e : Env} {s : State} {m : MethodId} {args : Array Value} {below : List Frame} {meth : Method} {c : Code} {z : (Int32 × Wd)} {H : Heap} {locs : List Loc} {ls : Array Slot} {w : Wd} {v0 : Int64} {v2 : Int32} (C : CX D B Y p s m args meth c cX0_isMarked 3 RX0 (some .boolean))     (hH : HS D B Y w s H locs) (hl : lv_has ls 3 [(0, .long v0), (2, .int v2)]) (hf : f_X0_isMarked v0 v2 w = some z) : W p l e (RM 0 0 0) s m args below meth c H locs 0 0 (MQ below (QG D B Y (some (.int z.1)) z.2 (isZ z.1)) args s 0 0 (AB B)) (F0 m 0 ls []) := by
  have hx := C.1
  have hb := C.2.1
  unfold f_X0_isMarked at hf
  refine lv_iload_n hx hb dX0_isMarked_0 rfl (lv_at hl 1 rfl) ?_
  refine b_if_le (tgt := 24) hx hb hf dX0_isMarked_1 (by decide) (fun hf => ?_) (fun hf => ?_)
  · refine lv_iconst (v := (0 : Int32)) hx hb dX0_isMarked_24 (by decide) ?_
    cases hf
    exact q_retz C hH isZ_0 isZ_0 dX0_isMarked_25
  · refine lv_iload_n hx hb dX0_isMarked_4 rfl (lv_at hl 1 rfl) ?_
    refine lv_bipush (v := (64 : Int32)) hx hb dX0_isMarked_5 (by decide) ?_
    refine b_icmp_ge (tgt := 24) hx hb hf dX0_isMarked_7 (by decide) (fun hf => ?_) (fun hf => ?_)
    · refine lv_iconst (v := (0 : Int32)) hx hb dX0_isMarked_24 (by decide) ?_
      cases hf
      exact q_retz C hH isZ_0 isZ_0 dX0_isMarked_25
    · refine lv_lload_n hx hb dX0_isMarked_10 rfl (lv_at hl 0 rfl) ?_
      refine lv_iload_n hx hb dX0_isMarked_11 rfl (lv_at hl 1 rfl) ?_
      refine lv_lushr (v := (v0.toUInt64 >>> (v2.toInt64.toUInt64 &&& Int64.toUInt64 63)).toInt64) hx hb dX0_isMarked_12 rfl ?_
      refine lv_lconst (v := (1 : Int64)) hx hb dX0_isMarked_13 (by decide) ?_
      refine lv_land hx hb dX0_isMarked_14 ?_
      refine lv_lconst (v := (0 : Int64)) hx hb dX0_isMarked_15 (by decide) ?_
      refine W.lcmp hx hb dX0_isMarked_16 ?_
      refine b_if_eq (tgt := 24) hx hb hf dX0_isMarked_17 (by decide) (fun hf => ?_) (fun hf => ?_)
      · refine lv_iconst (v := (0 : Int32)) hx hb dX0_isMarked_24 (by decide) ?_
        cases hf
        exact q_retz C hH isZ_0 isZ_0 dX0_isMarked_25
      · refine lv_iconst (v := (1 : Int32)) hx hb dX0_isMarked_20 (by decide) ?_
        refine lv_goto (tgt := 25) hx hb dX0_isMarked_21 (by decide) ?_
        cases hf
        exact q_retz C hH isZ_1 isZ_1 dX0_isMarked_25
set_option maxRecDepth 100000 in
theorem c_X0_isMarked {l : Launch} {D : va_G} {B : Nat} {Y : Nat → ClassId} {v0 : Int64} {v2 : Int32} {w : Wd} {r : Int32} {w1 : Wd}   (hf : f_X0_isMarked v0 v2 w = some (r, w1)) : CM l D B Y yX0_isMarked cX0_isMarked 3 (some .boolean) 0 [.long v0, .int v2] w (some (.int r)) w1 (isZ r) :=
  CM_of (by decide +kernel) (Nat.le_of_ble_eq_true rfl) (fun p e s m args below meth c ls C hH hl => t_X0_isMarked_0 C  hH (lv_sub hl [0, 1] rfl) hf)
/-! LetterTables$Borders.isBeginning -/
set_option maxRecDepth 100000 in
set_option maxHeartbeats 4000000 in
theorem t_X0_isBeginning_0 {D : va_G} {B : Nat} {Y : Nat → ClassId} {p : Program} {l : Launch} {e : Env} {s : State} {m : MethodId} {args : Array Value} {below : List Frame} {meth : Method} {c : Code} {z : (Int32 × Wd)} {H : Heap} {locs : List Loc} {ls : Array Slot} {w : Wd} {v0 : Int64} {v2 : Int32} (C : CX D B Y p s m args meth c cX0_isBeginning 3 RX0 (some .boolean))     (hH : HS D B Y w s H locs) (hl : lv_has ls 3 [(0, .long v0), (2, .int v2)]) (hf : f_X0_isBeginning v0 v2 w = some z) : W p l e (RM 1 0 0) s m args below meth c H locs 0 0 (MQ below (QG D B Y (some (.int z.1)) z.2 (isZ z.1)) args s 0 0 (AB B)) (F0 m 0 ls []) := by
  have hx := C.1
  have hb := C.2.1
  unfold f_X0_isBeginning at hf
  refine lv_iload_n hx hb dX0_isBeginning_0 rfl (lv_at hl 1 rfl) ?_
  refine b_if_eq (tgt := 12) hx hb hf dX0_isBeginning_1 (by decide) (fun hf => ?_) (fun hf => ?_)
  · refine lv_iconst (v := (1 : Int32)) hx hb dX0_isBeginning_12 (by decide) ?_
    refine lv_goto (tgt := 17) hx hb dX0_isBeginning_13 (by decide) ?_
    cases hf
    exact q_retz C hH isZ_1 isZ_1 dX0_isBeginning_17
  · refine lv_lload_n hx hb dX0_isBeginning_4 rfl (lv_at hl 0 rfl) ?_
    refine lv_iload_n hx hb dX0_isBeginning_5 rfl (lv_at hl 1 rfl) ?_
    obtain ⟨x2, w1, hc, hf⟩ := bd_some hf
    refine q_callS1 (v := .int x2) (As := [.long v0, .int v2]) C hH gk_X0_15 yd_X0_isMarked (by omega) (by omega) (c_X0_isMarked hc) hl.1 rfl (Nat.le_of_ble_eq_true rfl) dX0_isBeginning_6 xv_00 (fun H locs hH z_x2 => ?_)
    refine b_if_eq (tgt := 16) hx hb hf dX0_isBeginning_9 (by decide) (fun hf => ?_) (fun hf => ?_)
    · refine lv_iconst (v := (0 : Int32)) hx hb dX0_isBeginning_16 (by decide) ?_
      cases hf
      exact q_retz C hH isZ_0 isZ_0 dX0_isBeginning_17
    · refine lv_iconst (v := (1 : Int32)) hx hb dX0_isBeginning_12 (by decide) ?_
      refine lv_goto (tgt := 17) hx hb dX0_isBeginning_13 (by decide) ?_
      cases hf
      exact q_retz C hH isZ_1 isZ_1 dX0_isBeginning_17
set_option maxRecDepth 100000 in
theorem c_X0_isBeginning {l : Launch} {D : va_G} {B : Nat} {Y : Nat → ClassId} {v0 : Int64} {v2 : Int32} {w : Wd} {r : Int32} {w1 : Wd}   (hf : f_X0_isBeginning v0 v2 w = some (r, w1)) : CM l D B Y yX0_isBeginning cX0_isBeginning 3 (some .boolean) 1 [.long v0, .int v2] w (some (.int r)) w1 (isZ r) :=
  CM_of (by decide +kernel) (Nat.le_of_ble_eq_true rfl) (fun p e s m args below meth c ls C hH hl => t_X0_isBeginning_0 C  hH (lv_sub hl [0, 1] rfl) hf)
/-! LetterTables.bySight -/
set_option maxRecDepth 100000 in
set_option maxHeartbeats 4000000 in
theorem tb_X10_bySight_68 {D : va_G} {B : Nat} {Y : Nat → ClassId} {p : Program} {l : Launch} {e : Env} {s : State} {m : MethodId} {args : Array Value} {below : List Frame} {meth : Method} {c : Code} {z : ((Nat ⊕ Int32) × Wd)} {H : Heap} {locs : List Loc} {ls : Array Slot} {w : Wd} {v5 : Nat} {v6 : Int64} {v8 : Int32} {v9 : Int32} (C : CX D B Y p s m args meth c cX10_bySight 11 RX10 (some .int)) (hxt : ∀ x ∈ c.exceptionTable.toList, False) (htr : l.stackTraces = false)  {rc_68 : Nat × Int64 × Int32 × Int32 × Wd → Option ((Nat ⊕ Int32) × Wd)} (hr_68 : ∀ (v5 : Nat) (v6 : Int64) (v8 : Int32) (v9 : Int32) (w : Wd), rc_68 (v5, v6, v8, v9, w) = some z → KD v5 = 7 → ∀ (H : Heap) (locs : List Loc) (ls : Array Slot), HS D B Y w s H locs → lv_has ls 11 [(5, .ref (B + v5)), (6, .long v6), (8, .int v8), (9, .int v9)] → W p l e (RM 6 (xv (zoI z.1)) (6 * xv (zoI z.1))) s m args below meth c H locs 0 0 (vx_MQ below (QX D B Y (zoI z.1) z.2 True) (XX D B Y (zoI z.1) z.2) args s (xv (zoI z.1)) (6 * xv (zoI z.1)) (AB B)) (F0 m 68 ls []))  (k_v5 : KD v5 = 7)  (hH : HS D B Y w s H locs) (hl : lv_has ls 11 [(5, .ref (B + v5)), (6, .long v6), (8, .int v8), (9, .int v9)]) (hf : g_X10_bySight_68 rc_68 v5 v6 v8 v9 w = some z) : W p l e (RM 6 (xv (zoI z.1)) (6 * xv (zoI z.1))) s m args below meth c H locs 0 0 (vx_MQ below (QX D B Y (zoI z.1) z.2 True) (XX D B Y (zoI z.1) z.2) args s (xv (zoI z.1)) (6 * xv (zoI z.1)) (AB B)) (F0 m 68 ls []) := by
  have hx := C.1
  have hb := C.2.1
  unfold g_X10_bySight_68 at hf
  refine lv_iload hx hb dX10_bySight_68 (lv_at hl 3 rfl) ?_
  refine b_if_lt (tgt := 115) hx hb hf dX10_bySight_70 (by decide) (fun hf => ?_) (fun hf => ?_)
  · refine lv_iconst (v := (-1 : Int32)) hx hb dX10_bySight_115 (by decide) ?_
    cases hf
    exact q_x0 rfl (q_reti C hH trivial dX10_bySight_116)
  · refine lv_iload hx hb dX10_bySight_73 (lv_at hl 3 rfl) ?_
    refine lv_aload hx hb dX10_bySight_75 (lv_at hl 0 rfl) ?_
    obtain ⟨x2, w1, hc, hf⟩ := bd_some hf
    refine q_callV1 (v := .int x2) (As := []) C hH (ci := 7) rfl (by omega) gk_X10_107 yd_X7_size (by omega) (by omega) k_v5 (c_X7_size k_v5 hc) hl.1 rfl (Nat.le_of_ble_eq_true rfl) dX10_bySight_77 xv_00 (fun H locs hH hP => ?_)
    refine b_icmp_ge (tgt := 115) hx hb hf dX10_bySight_80 (by decide) (fun hf => ?_) (fun hf => ?_)
    · refine lv_iconst (v := (-1 : Int32)) hx hb dX10_bySight_115 (by decide) ?_
      cases hf
      exact q_x0 rfl (q_reti C hH trivial dX10_bySight_116)
    · refine lv_aload hx hb dX10_bySight_83 (lv_at hl 0 rfl) ?_
      refine lv_iload hx hb dX10_bySight_85 (lv_at hl 3 rfl) ?_
      obtain ⟨x4, w3, hc, hf⟩ := bd_some hf
      refine q_callV1 (v := .int x4) (As := [.int v9]) C hH (ci := 7) rfl (by omega) gk_X10_243 yd_X7_get (by omega) (by omega) k_v5 (c_X7_get k_v5 hc) hl.1 rfl (Nat.le_of_ble_eq_true rfl) dX10_bySight_87 xv_00 (fun H locs hH hP => ?_)
      refine lv_istore (lv' := [(10, .int x4), (5, .ref (B + v5)), (6, .long v6), (8, .int v8), (9, .int v9)]) hx hb dX10_bySight_90 hl (by decide) rfl (fun ls hl => ?_)
      refine lv_lload hx hb dX10_bySight_92 (lv_at hl 2 rfl) ?_
      refine lv_iload hx hb dX10_bySight_94 (lv_at hl 0 rfl) ?_
      obtain ⟨x6, w5, hc, hf⟩ := bd_some hf
      refine q_callS1 (v := .int x6) (As := [.long v6, .int x4]) C hH gk_X10_285 yd_X0_isBeginning (by omega) (by omega) (c_X0_isBeginning hc) hl.1 rfl (Nat.le_of_ble_eq_true rfl) dX10_bySight_96 xv_00 (fun H locs hH z_x6 => ?_)
      refine b_if_eq (tgt := 105) hx hb hf dX10_bySight_99 (by decide) (fun hf => ?_) (fun hf => ?_)
      · refine lv_iload hx hb dX10_bySight_105 (lv_at hl 4 rfl) ?_
        refine lv_iload hx hb dX10_bySight_107 (lv_at hl 3 rfl) ?_
        refine lv_iadd hx hb dX10_bySight_109 ?_
        refine b_leti hf (fun x7 hf => ?_)
        refine lv_istore (lv' := [(9, .int x7), (10, .int x4), (5, .ref (B + v5)), (6, .long v6), (8, .int v8)]) hx hb dX10_bySight_110 hl (by decide) rfl (fun ls hl => ?_)
        refine lv_goto (tgt := 68) hx hb dX10_bySight_112 (by decide) ?_
        exact hr_68 v5 v6 v8 x7 w5 hf k_v5 _ _ _ hH (lv_sub hl [2, 3, 4, 0] rfl)
      · refine lv_iload hx hb dX10_bySight_102 (lv_at hl 0 rfl) ?_
        cases hf
        exact q_x0 rfl (q_reti C hH trivial dX10_bySight_104)
set_option maxRecDepth 100000 in
set_option maxHeartbeats 4000000 in
theorem t_X10_bySight_68 {D : va_G} {B : Nat} {Y : Nat → ClassId} {p : Program} {l : Launch} {e : Env} {s : State} {m : MethodId} {args : Array Value} {below : List Frame} {meth : Method} {c : Code} {z : ((Nat ⊕ Int32) × Wd)} {H : Heap} {locs : List Loc} {ls : Array Slot} {w : Wd} {v5 : Nat} {v6 : Int64} {v8 : Int32} {v9 : Int32} (C : CX D B Y p s m args meth c cX10_bySight 11 RX10 (some .int)) (hxt : ∀ x ∈ c.exceptionTable.toList, False) (htr : l.stackTraces = false)   (k_v5 : KD v5 = 7)  (hH : HS D B Y w s H locs) (hl : lv_has ls 11 [(5, .ref (B + v5)), (6, .long v6), (8, .int v8), (9, .int v9)]) (hf : f_X10_bySight_68 v5 v6 v8 v9 w = some z) : W p l e (RM 6 (xv (zoI z.1)) (6 * xv (zoI z.1))) s m args below meth c H locs 0 0 (vx_MQ below (QX D B Y (zoI z.1) z.2 True) (XX D B Y (zoI z.1) z.2) args s (xv (zoI z.1)) (6 * xv (zoI z.1)) (AB B)) (F0 m 68 ls []) := by
  exact loopN_ind (z := z) (body := fun rc σ => g_X10_bySight_68 rc  σ.1 σ.2.1 σ.2.2.1 σ.2.2.2.1 σ.2.2.2.2)
    (P := fun σ => KD σ.1 = 7 → ∀ (H : Heap) (locs : List Loc) (ls : Array Slot), HS D B Y σ.2.2.2.2 s H locs → lv_has ls 11 [(5, .ref (B + σ.1)), (6, .long σ.2.1), (8, .int σ.2.2.1), (9, .int σ.2.2.2.1)] → W p l e (RM 6 (xv (zoI z.1)) (6 * xv (zoI z.1))) s m args below meth c H locs 0 0 (vx_MQ below (QX D B Y (zoI z.1) z.2 True) (XX D B Y (zoI z.1) z.2) args s (xv (zoI z.1)) (6 * xv (zoI z.1)) (AB B)) (F0 m 68 ls []))
    (fun rc hrec σ hf k_v5 H locs ls hH hl => tb_X10_bySight_68 C hxt htr (fun v5 v6 v8 v9 w hr k_v5 H locs ls hH hl => hrec (v5, v6, v8, v9, w) hr k_v5 H locs ls hH hl)  k_v5 hH hl hf) FU (v5, v6, v8, v9, w) hf k_v5 H locs ls hH hl
set_option maxRecDepth 100000 in
set_option maxHeartbeats 4000000 in
theorem t_X10_bySight_55 {D : va_G} {B : Nat} {Y : Nat → ClassId} {p : Program} {l : Launch} {e : Env} {s : State} {m : MethodId} {args : Array Value} {below : List Frame} {meth : Method} {c : Code} {z : ((Nat ⊕ Int32) × Wd)} {H : Heap} {locs : List Loc} {ls : Array Slot} {w : Wd} {v2 : Int32} {v5 : Nat} {v6 : Int64} {t0 : Int32} (C : CX D B Y p s m args meth c cX10_bySight 11 RX10 (some .int)) (hxt : ∀ x ∈ c.exceptionTable.toList, False) (htr : l.stackTraces = false)   (k_v5 : KD v5 = 7)  (hH : HS D B Y w s H locs) (hl : lv_has ls 11 [(2, .int v2), (5, .ref (B + v5)), (6, .long v6)]) (hf : f_X10_bySight_55 v2 v5 v6 t0 w = some z) : W p l e (RM 6 (xv (zoI z.1)) (6 * xv (zoI z.1))) s m args below meth c H locs 0 0 (vx_MQ below (QX D B Y (zoI z.1) z.2 True) (XX D B Y (zoI z.1) z.2) args s (xv (zoI z.1)) (6 * xv (zoI z.1)) (AB B)) (F0 m 55 ls [.int t0]) := by
  have hx := C.1
  have hb := C.2.1
  unfold f_X10_bySight_55 at hf
  refine lv_istore (lv' := [(8, .int t0), (2, .int v2), (5, .ref (B + v5)), (6, .long v6)]) hx hb dX10_bySight_55 hl (by decide) rfl (fun ls hl => ?_)
  refine lv_aload hx hb dX10_bySight_57 (lv_at hl 2 rfl) ?_
  refine lv_iload_n hx hb dX10_bySight_59 rfl (lv_at hl 1 rfl) ?_
  obtain ⟨x2, w1, hc, hf⟩ := bd_some hf
  refine q_callV1 (v := .int x2) (As := [.int v2]) C hH (ci := 7) rfl (by omega) gk_X10_282 yd_X7_placeOf (by omega) (by omega) k_v5 (c_X7_placeOf k_v5 hc) hl.1 rfl (Nat.le_of_ble_eq_true rfl) dX10_bySight_60 xv_00 (fun H locs hH hP => ?_)
  refine lv_iload hx hb dX10_bySight_63 (lv_at hl 0 rfl) ?_
  refine lv_iadd hx hb dX10_bySight_65 ?_
  refine b_leti hf (fun x3 hf => ?_)
  refine lv_istore (lv' := [(9, .int x3), (8, .int t0), (2, .int v2), (5, .ref (B + v5)), (6, .long v6)]) hx hb dX10_bySight_66 hl (by decide) rfl (fun ls hl => ?_)
  exact t_X10_bySight_68 C hxt htr k_v5 hH (lv_sub hl [3, 4, 1, 0] rfl) hf
set_option maxRecDepth 100000 in
set_option maxHeartbeats 4000000 in
theorem t_X10_bySight_0 {D : va_G} {B : Nat} {Y : Nat → ClassId} {p : Program} {l : Launch} {e : Env} {s : State} {m : MethodId} {args : Array Value} {below : List Frame} {meth : Method} {c : Code} {z : ((Nat ⊕ Int32) × Wd)} {H : Heap} {locs : List Loc} {ls : Array Slot} {w : Wd} {v1 : Int32} {v2 : Int32} {v3 : Int32} (C : CX D B Y p s m args meth c cX10_bySight 11 RX10 (some .int)) (hxt : ∀ x ∈ c.exceptionTable.toList, False) (htr : l.stackTraces = false)    (z_v3 : isZ v3) (hH : HS D B Y w s H locs) (hl : lv_has ls 11 [(0, .ref (B + 0)), (1, .int v1), (2, .int v2), (3, .int v3)]) (hf : f_X10_bySight v1 v2 v3 w = some z) : W p l e (RM 6 (xv (zoI z.1)) (6 * xv (zoI z.1))) s m args below meth c H locs 0 0 (vx_MQ below (QX D B Y (zoI z.1) z.2 True) (XX D B Y (zoI z.1) z.2) args s (xv (zoI z.1)) (6 * xv (zoI z.1)) (AB B)) (F0 m 0 ls []) := by
  have hx := C.1
  have hb := C.2.1
  unfold f_X10_bySight at hf
  refine lv_aload_n hx hb dX10_bySight_0 rfl (lv_at hl 0 rfl) ?_
  refine lv_iload_n hx hb dX10_bySight_1 rfl (lv_at hl 1 rfl) ?_
  rcases bdx_some hf with ⟨k, w1, hc, rfl⟩ | ⟨r2, w1, hc, hf⟩
  · exact q_xrunX (k0 := k) (q_xV (As := [.int v1]) C hH (ci := 10) rfl (by omega) gk_X10_194 yd_X10_textOf (by omega) (by omega) kc_0 (c_X10_textOf (r := .inl k) htr hc) hl.1 rfl (Nat.le_of_ble_eq_true rfl) dX10_bySight_2 (xv_le rfl)) hH (fun H locs ce q hH h1 h2 h3 => q_out C hH hxt h1 h2 h3 (xv_1 rfl) (xv_6 rfl))
  refine q_xrun (ov := some (.ref (B + r2))) (q_xV (As := [.int v1]) C hH (ci := 10) rfl (by omega) gk_X10_194 yd_X10_textOf (by omega) (by omega) kc_0 (c_X10_textOf (r := .inr r2) htr hc) hl.1 rfl (Nat.le_of_ble_eq_true rfl) dX10_bySight_2 (xv_0 rfl xv_00)) hH (fun H locs hH k_r2 => ?_)
  refine lv_astore (lv' := [(4, .ref (B + r2)), (0, .ref (B + 0)), (1, .int v1), (2, .int v2), (3, .int v3)]) hx hb dX10_bySight_5 hl (by decide) rfl (fun ls hl => ?_)
  refine lv_iload_n hx hb dX10_bySight_7 rfl (lv_at hl 3 rfl) ?_
  refine lv_aload hx hb dX10_bySight_8 (lv_at hl 0 rfl) ?_
  obtain ⟨x4, w3, hc, hf⟩ := bd_some hf
  refine q_callV1 (v := .int x4) (As := []) C hH (ci := 7) rfl (by omega) gk_X10_107 yd_X7_size (by omega) (by omega) k_r2 (c_X7_size k_r2 hc) hl.1 rfl (Nat.le_of_ble_eq_true rfl) dX10_bySight_10 xv_00 (fun H locs hH hP => ?_)
  rcases bdx_some hf with ⟨k, w5, hc, rfl⟩ | ⟨u, w5, hc, hf⟩
  · exact q_xrunX (k0 := k) (q_xS (As := [.int v2, .int x4]) C hH gk_X10_240 yd_X10_checkPlace (by omega) (by omega) (c_X10_checkPlace (r := .inl k) htr hc) hl.1 rfl (Nat.le_of_ble_eq_true rfl) dX10_bySight_13 (xv_le rfl)) hH (fun H locs ce q hH h1 h2 h3 => q_out C hH hxt h1 h2 h3 (xv_1 rfl) (xv_6 rfl))
  refine q_xrun (ov := none) (q_xS (As := [.int v2, .int x4]) C hH gk_X10_240 yd_X10_checkPlace (by omega) (by omega) (c_X10_checkPlace (r := .inr u) htr hc) hl.1 rfl (Nat.le_of_ble_eq_true rfl) dX10_bySight_13 (xv_0 rfl xv_00)) hH (fun H locs hH hP => ?_)
  refine lv_aload_n hx hb dX10_bySight_16 rfl (lv_at hl 1 rfl) ?_
  refine fg_X10_48 C hH dX10_bySight_17 ?_
  refine lv_aload hx hb dX10_bySight_20 (lv_at hl 0 rfl) ?_
  refine lv_iconst (v := (-1 : Int32)) hx hb dX10_bySight_22 (by decide) ?_
  obtain ⟨u, w6, hc, hf⟩ := bd_some hf
  refine q_callV0 (As := [.ref (B + r2), .int (-1 : Int32)]) C hH (ci := 3) rfl (by omega) gk_X10_267 yd_X3_lookAt (by omega) (by omega) kc_650 (c_X3_lookAt k_r2 hc) hl.1 rfl (Nat.le_of_ble_eq_true rfl) dX10_bySight_23 xv_00 (fun H locs hH hP => ?_)
  refine lv_aload_n hx hb dX10_bySight_26 rfl (lv_at hl 1 rfl) ?_
  refine fg_X10_48 C hH dX10_bySight_27 ?_
  obtain ⟨r8, w7, hc, hf⟩ := bd_some hf
  refine q_callV1 (v := .ref (B + r8)) (As := []) C hH (ci := 3) rfl (by omega) gk_X10_274 yd_X3_screen (by omega) (by omega) kc_650 (c_X3_screen hc) hl.1 rfl (Nat.le_of_ble_eq_true rfl) dX10_bySight_30 xv_00 (fun H locs hH k_r8 => ?_)
  refine lv_astore (lv' := [(5, .ref (B + r8)), (4, .ref (B + r2)), (0, .ref (B + 0)), (1, .int v1), (2, .int v2), (3, .int v3)]) hx hb dX10_bySight_33 hl (by decide) rfl (fun ls hl => ?_)
  refine lv_aload_n hx hb dX10_bySight_35 rfl (lv_at hl 2 rfl) ?_
  refine fg_X10_55 C hH dX10_bySight_36 ?_
  refine lv_aload hx hb dX10_bySight_39 (lv_at hl 1 rfl) ?_
  obtain ⟨y10, w9, hc, hf⟩ := bd_some hf
  refine q_callV1 (v := .long y10) (As := [.ref (B + r2)]) C hH (ci := 0) rfl (by omega) gk_X10_278 yd_X0_clusterBreaks (by omega) (by omega) kc_673 (c_X0_clusterBreaks k_r2 hc) hl.1 rfl (Nat.le_of_ble_eq_true rfl) dX10_bySight_41 xv_00 (fun H locs hH hP => ?_)
  refine lv_lstore (lv' := [(6, .long y10), (5, .ref (B + r8)), (4, .ref (B + r2)), (0, .ref (B + 0)), (1, .int v1), (2, .int v2), (3, .int v3)]) hx hb dX10_bySight_44 hl (by decide) rfl (fun ls hl => ?_)
  refine lv_iload_n hx hb dX10_bySight_46 rfl (lv_at hl 6 rfl) ?_
  refine b_if_eq (tgt := 54) hx hb hf dX10_bySight_47 (by decide) (fun hf => ?_) (fun hf => ?_)
  · refine lv_iconst (v := (-1 : Int32)) hx hb dX10_bySight_54 (by decide) ?_
    exact t_X10_bySight_55 C hxt htr k_r8 hH (lv_sub hl [5, 1, 0] rfl) hf
  · refine lv_iconst (v := (1 : Int32)) hx hb dX10_bySight_50 (by decide) ?_
    refine lv_goto (tgt := 55) hx hb dX10_bySight_51 (by decide) ?_
    exact t_X10_bySight_55 C hxt htr k_r8 hH (lv_sub hl [5, 1, 0] rfl) hf
set_option maxRecDepth 100000 in
theorem c_X10_bySight {l : Launch} {D : va_G} {B : Nat} {Y : Nat → ClassId} {v1 : Int32} {v2 : Int32} {v3 : Int32} {w : Wd} {r : (Nat ⊕ Int32)} {w1 : Wd} (htr : l.stackTraces = false)  (z_v3 : isZ v3) (hf : f_X10_bySight v1 v2 v3 w = some (r, w1)) : XM l D B Y yX10_bySight cX10_bySight 11 (some .int) 6 [.ref (B + 0), .int v1, .int v2, .int v3] w (zoI r) w1 True :=
  XM_of (by decide +kernel) (Nat.le_of_ble_eq_true rfl) (fun p e s m args below meth c ls C hxt hH hl => t_X10_bySight_0 C hxt htr z_v3 hH (lv_sub hl [0, 1, 2, 3] rfl) hf)
/-! LetterTables$Borders.clusterEnd -/
set_option maxRecDepth 100000 in
set_option maxHeartbeats 4000000 in
theorem tb_X0_clusterEnd_6 {D : va_G} {B : Nat} {Y : Nat → ClassId} {p : Program} {l : Launch} {e : Env} {s : State} {m : MethodId} {args : Array Value} {below : List Frame} {meth : Method} {c : Code} {z : (Int32 × Wd)} {H : Heap} {locs : List Loc} {ls : Array Slot} {w : Wd} {v1 : Nat} {v2 : Int64} {v5 : Int32} (C : CX D B Y p s m args meth c cX0_clusterEnd 6 RX0 (some .int))  {rc_6 : Nat × Int64 × Int32 × Wd → Option (Int32 × Wd)} (hr_6 : ∀ (v1 : Nat) (v2 : Int64) (v5 : Int32) (w : Wd), rc_6 (v1, v2, v5, w) = some z → KD v1 = 7 → ∀ (H : Heap) (locs : List Loc) (ls : Array Slot), HS D B Y w s H locs → lv_has ls 6 [(1, .ref (B + v1)), (2, .long v2), (5, .int v5)] → W p l e (RM 1 0 0) s m args below meth c H locs 0 0 (MQ below (QG D B Y (some (.int z.1)) z.2 True) args s 0 0 (AB B)) (F0 m 6 ls []))  (k_v1 : KD v1 = 7)  (hH : HS D B Y w s H locs) (hl : lv_has ls 6 [(1, .ref (B + v1)), (2, .long v2), (5, .int v5)]) (hf : g_X0_clusterEnd_6 rc_6 v1 v2 v5 w = some z) : W p l e (RM 1 0 0) s m args below meth c H locs 0 0 (MQ below (QG D B Y (some (.int z.1)) z.2 True) args s 0 0 (AB B)) (F0 m 6 ls []) := by
  have hx := C.1
  have hb := C.2.1
  unfold g_X0_clusterEnd_6 at hf
  refine lv_iload hx hb dX0_clusterEnd_6 (lv_at hl 2 rfl) ?_
  refine lv_aload_n hx hb dX0_clusterEnd_8 rfl (lv_at hl 0 rfl) ?_
  obtain ⟨x2, w1, hc, hf⟩ := bd_some hf
  refine q_callV1 (v := .int x2) (As := []) C hH (ci := 7) rfl (by omega) gk_X0_30 yd_X7_size (by omega) (by omega) k_v1 (c_X7_size k_v1 hc) hl.1 rfl (Nat.le_of_ble_eq_true rfl) dX0_clusterEnd_9 xv_00 (fun H locs hH hP => ?_)
  refine b_icmp_ge (tgt := 33) hx hb hf dX0_clusterEnd_12 (by decide) (fun hf => ?_) (fun hf => ?_)
  · refine lv_aload_n hx hb dX0_clusterEnd_33 rfl (lv_at hl 0 rfl) ?_
    obtain ⟨x4, w3, hc, hf⟩ := bd_some hf
    refine q_callV1 (v := .int x4) (As := []) C hH (ci := 7) rfl (by omega) gk_X0_30 yd_X7_size (by omega) (by omega) k_v1 (c_X7_size k_v1 hc) hl.1 rfl (Nat.le_of_ble_eq_true rfl) dX0_clusterEnd_34 xv_00 (fun H locs hH hP => ?_)
    cases hf
    exact q_reti C hH trivial dX0_clusterEnd_37
  · refine lv_lload_n hx hb dX0_clusterEnd_15 rfl (lv_at hl 1 rfl) ?_
    refine lv_iload hx hb dX0_clusterEnd_16 (lv_at hl 2 rfl) ?_
    obtain ⟨x6, w5, hc, hf⟩ := bd_some hf
    refine q_callS1 (v := .int x6) (As := [.long v2, .int v5]) C hH gk_X0_15 yd_X0_isMarked (by omega) (by omega) (c_X0_isMarked hc) hl.1 rfl (Nat.le_of_ble_eq_true rfl) dX0_clusterEnd_18 xv_00 (fun H locs hH z_x6 => ?_)
    refine b_if_eq (tgt := 27) hx hb hf dX0_clusterEnd_21 (by decide) (fun hf => ?_) (fun hf => ?_)
    · refine b_let hf (fun x7 he hf => ?_)
      refine lv_iinc (v := x7) (lv' := [(5, .int x7), (1, .ref (B + v1)), (2, .long v2)]) hx hb dX0_clusterEnd_27 hl (k := 2) rfl (by rw [← he]; rfl) (by decide) rfl (fun ls hl => ?_)
      refine lv_goto (tgt := 6) hx hb dX0_clusterEnd_30 (by decide) ?_
      exact hr_6 v1 v2 x7 w5 hf k_v1 _ _ _ hH (lv_sub hl [1, 2, 0] rfl)
    · refine lv_iload hx hb dX0_clusterEnd_24 (lv_at hl 2 rfl) ?_
      cases hf
      exact q_reti C hH trivial dX0_clusterEnd_26
set_option maxRecDepth 100000 in
set_option maxHeartbeats 4000000 in
theorem t_X0_clusterEnd_6 {D : va_G} {B : Nat} {Y : Nat → ClassId} {p : Program} {l : Launch} {e : Env} {s : State} {m : MethodId} {args : Array Value} {below : List Frame} {meth : Method} {c : Code} {z : (Int32 × Wd)} {H : Heap} {locs : List Loc} {ls : Array Slot} {w : Wd} {v1 : Nat} {v2 : Int64} {v5 : Int32} (C : CX D B Y p s m args meth c cX0_clusterEnd 6 RX0 (some .int))   (k_v1 : KD v1 = 7)  (hH : HS D B Y w s H locs) (hl : lv_has ls 6 [(1, .ref (B + v1)), (2, .long v2), (5, .int v5)]) (hf : f_X0_clusterEnd_6 v1 v2 v5 w = some z) : W p l e (RM 1 0 0) s m args below meth c H locs 0 0 (MQ below (QG D B Y (some (.int z.1)) z.2 True) args s 0 0 (AB B)) (F0 m 6 ls []) := by
  exact loopN_ind (z := z) (body := fun rc σ => g_X0_clusterEnd_6 rc  σ.1 σ.2.1 σ.2.2.1 σ.2.2.2)
    (P := fun σ => KD σ.1 = 7 → ∀ (H : Heap) (locs : List Loc) (ls : Array Slot), HS D B Y σ.2.2.2 s H locs → lv_has ls 6 [(1, .ref (B + σ.1)), (2, .long σ.2.1), (5, .int σ.2.2.1)] → W p l e (RM 1 0 0) s m args below meth c H locs 0 0 (MQ below (QG D B Y (some (.int z.1)) z.2 True) args s 0 0 (AB B)) (F0 m 6 ls []))
    (fun rc hrec σ hf k_v1 H locs ls hH hl => tb_X0_clusterEnd_6 C (fun v1 v2 v5 w hr k_v1 H locs ls hH hl => hrec (v1, v2, v5, w) hr k_v1 H locs ls hH hl)  k_v1 hH hl hf) FU (v1, v2, v5, w) hf k_v1 H locs ls hH hl
set_option maxRecDepth 100000 in
set_option maxHeartbeats 4000000 in
theorem t_X0_clusterEnd_0 {D : va_G} {B : Nat} {Y : Nat → ClassId} {p : Program} {l : Launch} {e : Env} {s : State} {m : MethodId} {args : Array Value} {below : List Frame} {meth : Method} {c : Code} {z : (Int32 × Wd)} {H : Heap} {locs : List Loc} {ls : Array Slot} {w : Wd} {v1 : Nat} {v2 : Int64} {v4 : Int32} (C : CX D B Y p s m args meth c cX0_clusterEnd 6 RX0 (some .int))   (k_v1 : KD v1 = 7)  (hH : HS D B Y w s H locs) (hl : lv_has ls 6 [(0, .ref (B + 673)), (1, .ref (B + v1)), (2, .long v2), (4, .int v4)]) (hf : f_X0_clusterEnd v1 v2 v4 w = some z) : W p l e (RM 1 0 0) s m args below meth c H locs 0 0 (MQ below (QG D B Y (some (.int z.1)) z.2 True) args s 0 0 (AB B)) (F0 m 0 ls []) := by
  have hx := C.1
  have hb := C.2.1
  unfold f_X0_clusterEnd at hf
  refine lv_iload hx hb dX0_clusterEnd_0 (lv_at hl 3 rfl) ?_
  refine lv_iconst (v := (1 : Int32)) hx hb dX0_clusterEnd_2 (by decide) ?_
  refine lv_iadd hx hb dX0_clusterEnd_3 ?_
  refine b_leti hf (fun x1 hf => ?_)
  refine lv_istore (lv' := [(5, .int x1), (0, .ref (B + 673)), (1, .ref (B + v1)), (2, .long v2), (4, .int v4)]) hx hb dX0_clusterEnd_4 hl (by decide) rfl (fun ls hl => ?_)
  exact t_X0_clusterEnd_6 C k_v1 hH (lv_sub hl [2, 3, 0] rfl) hf
set_option maxRecDepth 100000 in
theorem c_X0_clusterEnd {l : Launch} {D : va_G} {B : Nat} {Y : Nat → ClassId} {v1 : Nat} {v2 : Int64} {v4 : Int32} {w : Wd} {r : Int32} {w1 : Wd} (k_v1 : KD v1 = 7)  (hf : f_X0_clusterEnd v1 v2 v4 w = some (r, w1)) : CM l D B Y yX0_clusterEnd cX0_clusterEnd 6 (some .int) 1 [.ref (B + 673), .ref (B + v1), .long v2, .int v4] w (some (.int r)) w1 True :=
  CM_of (by decide +kernel) (Nat.le_of_ble_eq_true rfl) (fun p e s m args below meth c ls C hH hl => t_X0_clusterEnd_0 C k_v1 hH (lv_sub hl [0, 1, 2, 3] rfl) hf)
/-! LetterTables$Borders.seamlessLimit -/
set_option maxRecDepth 100000 in
set_option maxHeartbeats 4000000 in
theorem tb_X0_seamlessLimit_6 {D : va_G} {B : Nat} {Y : Nat → ClassId} {p : Program} {l : Launch} {e : Env} {s : State} {m : MethodId} {args : Array Value} {below : List Frame} {meth : Method} {c : Code} {z : (Int32 × Wd)} {H : Heap} {locs : List Loc} {ls : Array Slot} {w : Wd} {v1 : Nat} {v2 : Int64} {v5 : Int32} (C : CX D B Y p s m args meth c cX0_seamlessLimit 6 RX0 (some .int))  {rc_6 : Nat × Int64 × Int32 × Wd → Option (Int32 × Wd)} (hr_6 : ∀ (v1 : Nat) (v2 : Int64) (v5 : Int32) (w : Wd), rc_6 (v1, v2, v5, w) = some z → KD v1 = 7 → ∀ (H : Heap) (locs : List Loc) (ls : Array Slot), HS D B Y w s H locs → lv_has ls 6 [(0, .ref (B + 673)), (1, .ref (B + v1)), (2, .long v2), (5, .int v5)] → W p l e (RM 3 0 0) s m args below meth c H locs 0 0 (MQ below (QG D B Y (some (.int z.1)) z.2 True) args s 0 0 (AB B)) (F0 m 6 ls []))  (k_v1 : KD v1 = 7)  (hH : HS D B Y w s H locs) (hl : lv_has ls 6 [(0, .ref (B + 673)), (1, .ref (B + v1)), (2, .long v2), (5, .int v5)]) (hf : g_X0_seamlessLimit_6 rc_6 v1 v2 v5 w = some z) : W p l e (RM 3 0 0) s m args below meth c H locs 0 0 (MQ below (QG D B Y (some (.int z.1)) z.2 True) args s 0 0 (AB B)) (F0 m 6 ls []) := by
  have hx := C.1
  have hb := C.2.1
  unfold g_X0_seamlessLimit_6 at hf
  refine lv_iload hx hb dX0_seamlessLimit_6 (lv_at hl 3 rfl) ?_
  refine lv_aload_n hx hb dX0_seamlessLimit_8 rfl (lv_at hl 1 rfl) ?_
  obtain ⟨x2, w1, hc, hf⟩ := bd_some hf
  refine q_callV1 (v := .int x2) (As := []) C hH (ci := 7) rfl (by omega) gk_X0_30 yd_X7_size (by omega) (by omega) k_v1 (c_X7_size k_v1 hc) hl.1 rfl (Nat.le_of_ble_eq_true rfl) dX0_seamlessLimit_9 xv_00 (fun H locs hH hP => ?_)
  refine b_icmp_ge (tgt := 45) hx hb hf dX0_seamlessLimit_12 (by decide) (fun hf => ?_) (fun hf => ?_)
  · refine lv_aload_n hx hb dX0_seamlessLimit_45 rfl (lv_at hl 1 rfl) ?_
    obtain ⟨x4, w3, hc, hf⟩ := bd_some hf
    refine q_callV1 (v := .int x4) (As := []) C hH (ci := 7) rfl (by omega) gk_X0_30 yd_X7_size (by omega) (by omega) k_v1 (c_X7_size k_v1 hc) hl.1 rfl (Nat.le_of_ble_eq_true rfl) dX0_seamlessLimit_46 xv_00 (fun H locs hH hP => ?_)
    cases hf
    exact q_reti C hH trivial dX0_seamlessLimit_49
  · refine lv_lload_n hx hb dX0_seamlessLimit_15 rfl (lv_at hl 2 rfl) ?_
    refine lv_iload hx hb dX0_seamlessLimit_16 (lv_at hl 3 rfl) ?_
    obtain ⟨x6, w5, hc, hf⟩ := bd_some hf
    refine q_callS1 (v := .int x6) (As := [.long v2, .int v5]) C hH gk_X0_15 yd_X0_isMarked (by omega) (by omega) (c_X0_isMarked hc) hl.1 rfl (Nat.le_of_ble_eq_true rfl) dX0_seamlessLimit_18 xv_00 (fun H locs hH z_x6 => ?_)
    refine b_if_eq (tgt := 39) hx hb hf dX0_seamlessLimit_21 (by decide) (fun hf => ?_) (fun hf => ?_)
    · refine b_let hf (fun x7 he hf => ?_)
      refine lv_iinc (v := x7) (lv' := [(5, .int x7), (0, .ref (B + 673)), (1, .ref (B + v1)), (2, .long v2)]) hx hb dX0_seamlessLimit_39 hl (k := 3) rfl (by rw [← he]; rfl) (by decide) rfl (fun ls hl => ?_)
      refine lv_goto (tgt := 6) hx hb dX0_seamlessLimit_42 (by decide) ?_
      exact hr_6 v1 v2 x7 w5 hf k_v1 _ _ _ hH (lv_sub hl [1, 2, 3, 0] rfl)
    · refine lv_aload_n hx hb dX0_seamlessLimit_24 rfl (lv_at hl 0 rfl) ?_
      refine lv_aload_n hx hb dX0_seamlessLimit_25 rfl (lv_at hl 1 rfl) ?_
      refine lv_iload hx hb dX0_seamlessLimit_26 (lv_at hl 3 rfl) ?_
      obtain ⟨x9, w8, hc, hf⟩ := bd_some hf
      refine q_callV1 (v := .int x9) (As := [.ref (B + v1), .int v5]) C hH (ci := 0) rfl (by omega) gk_X0_34 yd_X0_kindAt (by omega) (by omega) kc_673 (c_X0_kindAt k_v1 hc) hl.1 rfl (Nat.le_of_ble_eq_true rfl) dX0_seamlessLimit_28 xv_00 (fun H locs hH hP => ?_)
      refine lv_bipush (v := (6 : Int32)) hx hb dX0_seamlessLimit_31 (by decide) ?_
      refine b_icmp_eq (tgt := 39) hx hb hf dX0_seamlessLimit_33 (by decide) (fun hf => ?_) (fun hf => ?_)
      · refine b_let hf (fun x10 he hf => ?_)
        refine lv_iinc (v := x10) (lv' := [(5, .int x10), (0, .ref (B + 673)), (1, .ref (B + v1)), (2, .long v2)]) hx hb dX0_seamlessLimit_39 hl (k := 3) rfl (by rw [← he]; rfl) (by decide) rfl (fun ls hl => ?_)
        refine lv_goto (tgt := 6) hx hb dX0_seamlessLimit_42 (by decide) ?_
        exact hr_6 v1 v2 x10 w8 hf k_v1 _ _ _ hH (lv_sub hl [1, 2, 3, 0] rfl)
      · refine lv_iload hx hb dX0_seamlessLimit_36 (lv_at hl 3 rfl) ?_
        cases hf
        exact q_reti C hH trivial dX0_seamlessLimit_38
set_option maxRecDepth 100000 in
set_option maxHeartbeats 4000000 in
theorem t_X0_seamlessLimit_6 {D : va_G} {B : Nat} {Y : Nat → ClassId} {p : Program} {l : Launch} {e : Env} {s : State} {m : MethodId} {args : Array Value} {below : List Frame} {meth : Method} {c : Code} {z : (Int32 × Wd)} {H : Heap} {locs : List Loc} {ls : Array Slot} {w : Wd} {v1 : Nat} {v2 : Int64} {v5 : Int32} (C : CX D B Y p s m args meth c cX0_seamlessLimit 6 RX0 (some .int))   (k_v1 : KD v1 = 7)  (hH : HS D B Y w s H locs) (hl : lv_has ls 6 [(0, .ref (B + 673)), (1, .ref (B + v1)), (2, .long v2), (5, .int v5)]) (hf : f_X0_seamlessLimit_6 v1 v2 v5 w = some z) : W p l e (RM 3 0 0) s m args below meth c H locs 0 0 (MQ below (QG D B Y (some (.int z.1)) z.2 True) args s 0 0 (AB B)) (F0 m 6 ls []) := by
  exact loopN_ind (z := z) (body := fun rc σ => g_X0_seamlessLimit_6 rc  σ.1 σ.2.1 σ.2.2.1 σ.2.2.2)
    (P := fun σ => KD σ.1 = 7 → ∀ (H : Heap) (locs : List Loc) (ls : Array Slot), HS D B Y σ.2.2.2 s H locs → lv_has ls 6 [(0, .ref (B + 673)), (1, .ref (B + σ.1)), (2, .long σ.2.1), (5, .int σ.2.2.1)] → W p l e (RM 3 0 0) s m args below meth c H locs 0 0 (MQ below (QG D B Y (some (.int z.1)) z.2 True) args s 0 0 (AB B)) (F0 m 6 ls []))
    (fun rc hrec σ hf k_v1 H locs ls hH hl => tb_X0_seamlessLimit_6 C (fun v1 v2 v5 w hr k_v1 H locs ls hH hl => hrec (v1, v2, v5, w) hr k_v1 H locs ls hH hl)  k_v1 hH hl hf) FU (v1, v2, v5, w) hf k_v1 H locs ls hH hl
set_option maxRecDepth 100000 in
set_option maxHeartbeats 4000000 in
theorem t_X0_seamlessLimit_0 {D : va_G} {B : Nat} {Y : Nat → ClassId} {p : Program} {l : Launch} {e : Env} {s : State} {m : MethodId} {args : Array Value} {below : List Frame} {meth : Method} {c : Code} {z : (Int32 × Wd)} {H : Heap} {locs : List Loc} {ls : Array Slot} {w : Wd} {v1 : Nat} {v2 : Int64} {v4 : Int32} (C : CX D B Y p s m args meth c cX0_seamlessLimit 6 RX0 (some .int))   (k_v1 : KD v1 = 7)  (hH : HS D B Y w s H locs) (hl : lv_has ls 6 [(0, .ref (B + 673)), (1, .ref (B + v1)), (2, .long v2), (4, .int v4)]) (hf : f_X0_seamlessLimit v1 v2 v4 w = some z) : W p l e (RM 3 0 0) s m args below meth c H locs 0 0 (MQ below (QG D B Y (some (.int z.1)) z.2 True) args s 0 0 (AB B)) (F0 m 0 ls []) := by
  have hx := C.1
  have hb := C.2.1
  unfold f_X0_seamlessLimit at hf
  refine lv_iload hx hb dX0_seamlessLimit_0 (lv_at hl 3 rfl) ?_
  refine lv_iconst (v := (1 : Int32)) hx hb dX0_seamlessLimit_2 (by decide) ?_
  refine lv_iadd hx hb dX0_seamlessLimit_3 ?_
  refine b_leti hf (fun x1 hf => ?_)
  refine lv_istore (lv' := [(5, .int x1), (0, .ref (B + 673)), (1, .ref (B + v1)), (2, .long v2), (4, .int v4)]) hx hb dX0_seamlessLimit_4 hl (by decide) rfl (fun ls hl => ?_)
  exact t_X0_seamlessLimit_6 C k_v1 hH (lv_sub hl [1, 2, 3, 0] rfl) hf
set_option maxRecDepth 100000 in
theorem c_X0_seamlessLimit {l : Launch} {D : va_G} {B : Nat} {Y : Nat → ClassId} {v1 : Nat} {v2 : Int64} {v4 : Int32} {w : Wd} {r : Int32} {w1 : Wd} (k_v1 : KD v1 = 7)  (hf : f_X0_seamlessLimit v1 v2 v4 w = some (r, w1)) : CM l D B Y yX0_seamlessLimit cX0_seamlessLimit 6 (some .int) 3 [.ref (B + 673), .ref (B + v1), .long v2, .int v4] w (some (.int r)) w1 True :=
  CM_of (by decide +kernel) (Nat.le_of_ble_eq_true rfl) (fun p e s m args below meth c ls C hH hl => t_X0_seamlessLimit_0 C k_v1 hH (lv_sub hl [0, 1, 2, 3] rfl) hf)
/-! LetterTables$Tables.wordAt -/
set_option maxRecDepth 100000 in
set_option maxHeartbeats 4000000 in
theorem t_X9_wordAt_0 {D : va_G} {B : Nat} {Y : Nat → ClassId} {p : Program} {l : Launch} {e : Env} {s : State} {m : MethodId} {args : Array Value} {below : List Frame} {meth : Method} {c : Code} {z : (Option Nat × Wd)} {H : Heap} {locs : List Loc} {ls : Array Slot} {w : Wd} {v0 : Nat} {v1 : Int32} (C : CX D B Y p s m args meth c cX9_wordAt 2 RX9 (some (.object "LetterTables$Row")))   (k_v0 : KD v0 = 9)  (hH : HS D B Y w s H locs) (hl : lv_has ls 2 [(0, .ref (B + v0)), (1, .int v1)]) (hf : f_X9_wordAt v0 v1 w = some z) : W p l e (RM 0 0 0) s m args below meth c H locs 0 0 (MQ below (QG D B Y (some (vq B z.1)) z.2 (pQ 7 z.1)) args s 0 0 (AB B)) (F0 m 0 ls []) := by
  have hx := C.1
  have hb := C.2.1
  unfold f_X9_wordAt at hf
  refine lv_iload_n hx hb dX9_wordAt_0 rfl (lv_at hl 1 rfl) ?_
  refine b_if_lt (tgt := 21) hx hb hf dX9_wordAt_1 (by decide) (fun hf => ?_) (fun hf => ?_)
  · refine lv_null hx hb dX9_wordAt_21 ?_
    refine lv_goto (tgt := 31) hx hb dX9_wordAt_22 (by decide) ?_
    cases hf
    exact q_retn C hH trivial dX9_wordAt_31
  · refine lv_iload_n hx hb dX9_wordAt_4 rfl (lv_at hl 1 rfl) ?_
    refine lv_aload_n hx hb dX9_wordAt_5 rfl (lv_at hl 0 rfl) ?_
    refine fg_X9_81 C hH k_v0 dX9_wordAt_6 ?_
    refine b_icmp_ge (tgt := 21) hx hb hf dX9_wordAt_9 (by decide) (fun hf => ?_) (fun hf => ?_)
    · refine lv_null hx hb dX9_wordAt_21 ?_
      refine lv_goto (tgt := 31) hx hb dX9_wordAt_22 (by decide) ?_
      cases hf
      exact q_retn C hH trivial dX9_wordAt_31
    · refine lv_iload_n hx hb dX9_wordAt_12 rfl (lv_at hl 1 rfl) ?_
      refine lv_aload_n hx hb dX9_wordAt_13 rfl (lv_at hl 0 rfl) ?_
      refine fg_X9_55 C hH k_v0 dX9_wordAt_14 ?_
      refine q_alen C hH (t0 := 3) (ci := 23) rfl (by omega) (ko_9_11 k_v0) dX9_wordAt_17 ?_
      refine b_icmp_lt (tgt := 25) hx hb hf dX9_wordAt_18 (by decide) (fun hf => ?_) (fun hf => ?_)
      · refine lv_aload_n hx hb dX9_wordAt_25 rfl (lv_at hl 0 rfl) ?_
        refine fg_X9_55 C hH k_v0 dX9_wordAt_26 ?_
        refine lv_iload_n hx hb dX9_wordAt_29 rfl (lv_at hl 1 rfl) ?_
        refine g_aald C hH (t0 := 3) (ci := 23) (K := 7) rfl (by omega) (fun _ h => ka_23 (ko_9_11 k_v0) h) (ko_9_11 k_v0) hf dX9_wordAt_30 (fun r1 k_r1 hf => ?_)
        cases hf
        exact q_retr C hH k_r1 dX9_wordAt_31
      · refine lv_null hx hb dX9_wordAt_21 ?_
        refine lv_goto (tgt := 31) hx hb dX9_wordAt_22 (by decide) ?_
        cases hf
        exact q_retn C hH trivial dX9_wordAt_31
set_option maxRecDepth 100000 in
theorem c_X9_wordAt {l : Launch} {D : va_G} {B : Nat} {Y : Nat → ClassId} {v0 : Nat} {v1 : Int32} {w : Wd} {r : Option Nat} {w1 : Wd} (k_v0 : KD v0 = 9)  (hf : f_X9_wordAt v0 v1 w = some (r, w1)) : CM l D B Y yX9_wordAt cX9_wordAt 2 (some (.object "LetterTables$Row")) 0 [.ref (B + v0), .int v1] w (some (vq B r)) w1 (pQ 7 r) :=
  CM_of (by decide +kernel) (Nat.le_of_ble_eq_true rfl) (fun p e s m args below meth c ls C hH hl => t_X9_wordAt_0 C k_v0 hH (lv_sub hl [0, 1] rfl) hf)
/-! LetterTables$Borders.wordEnd -/
set_option maxRecDepth 100000 in
set_option maxHeartbeats 4000000 in
theorem t_X0_wordEnd_101 {D : va_G} {B : Nat} {Y : Nat → ClassId} {p : Program} {l : Launch} {e : Env} {s : State} {m : MethodId} {args : Array Value} {below : List Frame} {meth : Method} {c : Code} {z : (Int32 × Wd)} {H : Heap} {locs : List Loc} {ls : Array Slot} {w : Wd} {v1 : Nat} {v2 : Int64} {v4 : Int32} {v5 : Int32} {v6 : Int32} {v8 : Int32} {v9 : Nat} (C : CX D B Y p s m args meth c cX0_wordEnd 11 RX0 (some .int))  {rc_16 : Nat × Int64 × Int32 × Int32 × Int32 × Int32 × Int32 × Wd → Option (Int32 × Wd)} (hr_16 : ∀ (v1 : Nat) (v2 : Int64) (v4 : Int32) (v5 : Int32) (v6 : Int32) (v7 : Int32) (v8 : Int32) (w : Wd), rc_16 (v1, v2, v4, v5, v6, v7, v8, w) = some z → KD v1 = 7 → ∀ (H : Heap) (locs : List Loc) (ls : Array Slot), HS D B Y w s H locs → lv_has ls 11 [(0, .ref (B + 673)), (1, .ref (B + v1)), (2, .long v2), (4, .int v4), (5, .int v5), (6, .int v6), (7, .int v7), (8, .int v8)] → W p l e (RM 4 0 0) s m args below meth c H locs 0 0 (MQ below (QG D B Y (some (.int z.1)) z.2 True) args s 0 0 (AB B)) (F0 m 16 ls []))  (k_v1 : KD v1 = 7) (k_v9 : KD v9 = 7)  (hH : HS D B Y w s H locs) (hl : lv_has ls 11 [(0, .ref (B + 673)), (1, .ref (B + v1)), (2, .long v2), (4, .int v4), (5, .int v5), (6, .int v6), (8, .int v8), (9, .ref (B + v9))]) (hf : f_X0_wordEnd_101 rc_16 v1 v2 v4 v5 v6 v8 v9 w = some z) : W p l e (RM 4 0 0) s m args below meth c H locs 0 0 (MQ below (QG D B Y (some (.int z.1)) z.2 True) args s 0 0 (AB B)) (F0 m 101 ls []) := by
  have hx := C.1
  have hb := C.2.1
  unfold f_X0_wordEnd_101 at hf
  refine lv_aload hx hb dX0_wordEnd_101 (lv_at hl 7 rfl) ?_
  obtain ⟨x2, w1, hc, hf⟩ := bd_some hf
  refine q_callV1 (v := .int x2) (As := []) C hH (ci := 7) rfl (by omega) gk_X0_30 yd_X7_size (by omega) (by omega) k_v9 (c_X7_size k_v9 hc) hl.1 rfl (Nat.le_of_ble_eq_true rfl) dX0_wordEnd_103 xv_00 (fun H locs hH hP => ?_)
  refine lv_istore (lv' := [(7, .int x2), (0, .ref (B + 673)), (1, .ref (B + v1)), (2, .long v2), (4, .int v4), (5, .int v5), (6, .int v6), (8, .int v8), (9, .ref (B + v9))]) hx hb dX0_wordEnd_106 hl (by decide) rfl (fun ls hl => ?_)
  refine b_let hf (fun x3 he hf => ?_)
  refine lv_iinc (v := x3) (lv' := [(8, .int x3), (7, .int x2), (0, .ref (B + 673)), (1, .ref (B + v1)), (2, .long v2), (4, .int v4), (5, .int v5), (6, .int v6), (9, .ref (B + v9))]) hx hb dX0_wordEnd_108 hl (k := 7) rfl (by rw [← he]; rfl) (by decide) rfl (fun ls hl => ?_)
  refine lv_goto (tgt := 16) hx hb dX0_wordEnd_111 (by decide) ?_
  exact hr_16 v1 v2 v4 v5 v6 x2 x3 w1 hf k_v1 _ _ _ hH (lv_sub hl [2, 3, 4, 5, 6, 7, 1, 0] rfl)
set_option maxRecDepth 100000 in
set_option maxHeartbeats 4000000 in
theorem tb_X0_wordEnd_16 {D : va_G} {B : Nat} {Y : Nat → ClassId} {p : Program} {l : Launch} {e : Env} {s : State} {m : MethodId} {args : Array Value} {below : List Frame} {meth : Method} {c : Code} {z : (Int32 × Wd)} {H : Heap} {locs : List Loc} {ls : Array Slot} {w : Wd} {v1 : Nat} {v2 : Int64} {v4 : Int32} {v5 : Int32} {v6 : Int32} {v7 : Int32} {v8 : Int32} (C : CX D B Y p s m args meth c cX0_wordEnd 11 RX0 (some .int))  {rc_16 : Nat × Int64 × Int32 × Int32 × Int32 × Int32 × Int32 × Wd → Option (Int32 × Wd)} (hr_16 : ∀ (v1 : Nat) (v2 : Int64) (v4 : Int32) (v5 : Int32) (v6 : Int32) (v7 : Int32) (v8 : Int32) (w : Wd), rc_16 (v1, v2, v4, v5, v6, v7, v8, w) = some z → KD v1 = 7 → ∀ (H : Heap) (locs : List Loc) (ls : Array Slot), HS D B Y w s H locs → lv_has ls 11 [(0, .ref (B + 673)), (1, .ref (B + v1)), (2, .long v2), (4, .int v4), (5, .int v5), (6, .int v6), (7, .int v7), (8, .int v8)] → W p l e (RM 4 0 0) s m args below meth c H locs 0 0 (MQ below (QG D B Y (some (.int z.1)) z.2 True) args s 0 0 (AB B)) (F0 m 16 ls []))  (k_v1 : KD v1 = 7)  (hH : HS D B Y w s H locs) (hl : lv_has ls 11 [(0, .ref (B + 673)), (1, .ref (B + v1)), (2, .long v2), (4, .int v4), (5, .int v5), (6, .int v6), (7, .int v7), (8, .int v8)]) (hf : g_X0_wordEnd_16 rc_16 v1 v2 v4 v5 v6 v7 v8 w = some z) : W p l e (RM 4 0 0) s m args below meth c H locs 0 0 (MQ below (QG D B Y (some (.int z.1)) z.2 True) args s 0 0 (AB B)) (F0 m 16 ls []) := by
  have hx := C.1
  have hb := C.2.1
  unfold g_X0_wordEnd_16 at hf
  refine lv_iload hx hb dX0_wordEnd_16 (lv_at hl 7 rfl) ?_
  refine lv_aload_n hx hb dX0_wordEnd_18 rfl (lv_at hl 0 rfl) ?_
  refine fg_X0_9 C hH dX0_wordEnd_19 ?_
  obtain ⟨x2, w1, hc, hf⟩ := bd_some hf
  refine q_callV1 (v := .int x2) (As := []) C hH (ci := 9) rfl (by omega) gk_X0_65 yd_X9_wordCount (by omega) (by omega) kc_1 (c_X9_wordCount kc_1 hc) hl.1 rfl (Nat.le_of_ble_eq_true rfl) dX0_wordEnd_22 xv_00 (fun H locs hH hP => ?_)
  refine b_icmp_ge (tgt := 114) hx hb hf dX0_wordEnd_25 (by decide) (fun hf => ?_) (fun hf => ?_)
  · refine lv_iload hx hb dX0_wordEnd_114 (lv_at hl 6 rfl) ?_
    refine b_if_ne (tgt := 124) hx hb hf dX0_wordEnd_116 (by decide) (fun hf => ?_) (fun hf => ?_)
    · refine lv_iload hx hb dX0_wordEnd_124 (lv_at hl 3 rfl) ?_
      refine lv_iload hx hb dX0_wordEnd_126 (lv_at hl 6 rfl) ?_
      refine lv_iadd hx hb dX0_wordEnd_128 ?_
      cases hf
      exact q_reti C hH trivial dX0_wordEnd_129
    · refine lv_iload hx hb dX0_wordEnd_119 (lv_at hl 4 rfl) ?_
      refine lv_goto (tgt := 129) hx hb dX0_wordEnd_121 (by decide) ?_
      cases hf
      exact q_reti C hH trivial dX0_wordEnd_129
  · refine lv_aload_n hx hb dX0_wordEnd_28 rfl (lv_at hl 0 rfl) ?_
    refine fg_X0_9 C hH dX0_wordEnd_29 ?_
    refine lv_iload hx hb dX0_wordEnd_32 (lv_at hl 7 rfl) ?_
    rcases bdq_some hf with ⟨w4, hc, hf⟩ | ⟨r3, w5, hc, hf⟩
    · refine q_callV1 (v := .null) (As := [.int v8]) C hH (ci := 9) rfl (by omega) gk_X0_68 yd_X9_wordAt (by omega) (by omega) kc_1 (c_X9_wordAt kc_1 hc) hl.1 rfl (Nat.le_of_ble_eq_true rfl) dX0_wordEnd_34 xv_00 (fun H locs hH hP => ?_)
      refine lv_astoreN (lv' := [(9, .null), (0, .ref (B + 673)), (1, .ref (B + v1)), (2, .long v2), (4, .int v4), (5, .int v5), (6, .int v6), (7, .int v7), (8, .int v8)]) hx hb dX0_wordEnd_37 hl (by decide) rfl (fun ls hl => ?_)
      refine lv_aloadN hx hb dX0_wordEnd_39 (lv_at hl 0 rfl) ?_
      refine lv_ifnullN (tgt := 108) hx hb dX0_wordEnd_41 (by decide) ?_
      refine b_let hf (fun x6 he hf => ?_)
      refine lv_iinc (v := x6) (lv' := [(8, .int x6), (9, .null), (0, .ref (B + 673)), (1, .ref (B + v1)), (2, .long v2), (4, .int v4), (5, .int v5), (6, .int v6), (7, .int v7)]) hx hb dX0_wordEnd_108 hl (k := 8) rfl (by rw [← he]; rfl) (by decide) rfl (fun ls hl => ?_)
      refine lv_goto (tgt := 16) hx hb dX0_wordEnd_111 (by decide) ?_
      exact hr_16 v1 v2 v4 v5 v6 v7 x6 w4 hf k_v1 _ _ _ hH (lv_sub hl [2, 3, 4, 5, 6, 7, 8, 0] rfl)
    · refine q_callV1 (v := .ref (B + r3)) (As := [.int v8]) C hH (ci := 9) rfl (by omega) gk_X0_68 yd_X9_wordAt (by omega) (by omega) kc_1 (c_X9_wordAt kc_1 hc) hl.1 rfl (Nat.le_of_ble_eq_true rfl) dX0_wordEnd_34 xv_00 (fun H locs hH k_r3 => ?_)
      refine lv_astore (lv' := [(9, .ref (B + r3)), (0, .ref (B + 673)), (1, .ref (B + v1)), (2, .long v2), (4, .int v4), (5, .int v5), (6, .int v6), (7, .int v7), (8, .int v8)]) hx hb dX0_wordEnd_37 hl (by decide) rfl (fun ls hl => ?_)
      refine lv_aload hx hb dX0_wordEnd_39 (lv_at hl 0 rfl) ?_
      refine lv_ifnull hx hb dX0_wordEnd_41 ?_
      refine lv_aload hx hb dX0_wordEnd_44 (lv_at hl 0 rfl) ?_
      obtain ⟨x8, w7, hc, hf⟩ := bd_some hf
      refine q_callV1 (v := .int x8) (As := []) C hH (ci := 7) rfl (by omega) gk_X0_30 yd_X7_size (by omega) (by omega) k_r3 (c_X7_size k_r3 hc) hl.1 rfl (Nat.le_of_ble_eq_true rfl) dX0_wordEnd_46 xv_00 (fun H locs hH hP => ?_)
      refine lv_iload hx hb dX0_wordEnd_49 (lv_at hl 7 rfl) ?_
      refine b_icmp_le (tgt := 108) hx hb hf dX0_wordEnd_51 (by decide) (fun hf => ?_) (fun hf => ?_)
      · refine b_let hf (fun x9 he hf => ?_)
        refine lv_iinc (v := x9) (lv' := [(8, .int x9), (9, .ref (B + r3)), (0, .ref (B + 673)), (1, .ref (B + v1)), (2, .long v2), (4, .int v4), (5, .int v5), (6, .int v6), (7, .int v7)]) hx hb dX0_wordEnd_108 hl (k := 8) rfl (by rw [← he]; rfl) (by decide) rfl (fun ls hl => ?_)
        refine lv_goto (tgt := 16) hx hb dX0_wordEnd_111 (by decide) ?_
        exact hr_16 v1 v2 v4 v5 v6 v7 x9 w7 hf k_v1 _ _ _ hH (lv_sub hl [2, 3, 4, 5, 6, 7, 8, 0] rfl)
      · refine lv_aload_n hx hb dX0_wordEnd_54 rfl (lv_at hl 2 rfl) ?_
        refine lv_aload hx hb dX0_wordEnd_55 (lv_at hl 0 rfl) ?_
        refine lv_iload hx hb dX0_wordEnd_57 (lv_at hl 4 rfl) ?_
        obtain ⟨x11, w10, hc, hf⟩ := bd_some hf
        refine q_callV1 (v := .int x11) (As := [.ref (B + r3), .int v4]) C hH (ci := 7) rfl (by omega) gk_X0_72 yd_X7_holds (by omega) (by omega) k_v1 (c_X7_holds k_v1 k_r3 hc) hl.1 rfl (Nat.le_of_ble_eq_true rfl) dX0_wordEnd_59 xv_00 (fun H locs hH z_x11 => ?_)
        refine b_if_ne (tgt := 68) hx hb hf dX0_wordEnd_62 (by decide) (fun hf => ?_) (fun hf => ?_)
        · refine lv_iload hx hb dX0_wordEnd_68 (lv_at hl 4 rfl) ?_
          refine lv_aload hx hb dX0_wordEnd_70 (lv_at hl 0 rfl) ?_
          obtain ⟨x13, w12, hc, hf⟩ := bd_some hf
          refine q_callV1 (v := .int x13) (As := []) C hH (ci := 7) rfl (by omega) gk_X0_30 yd_X7_size (by omega) (by omega) k_r3 (c_X7_size k_r3 hc) hl.1 rfl (Nat.le_of_ble_eq_true rfl) dX0_wordEnd_72 xv_00 (fun H locs hH hP => ?_)
          refine lv_iadd hx hb dX0_wordEnd_75 ?_
          refine b_leti hf (fun x14 hf => ?_)
          refine lv_istore (lv' := [(10, .int x14), (9, .ref (B + r3)), (0, .ref (B + 673)), (1, .ref (B + v1)), (2, .long v2), (4, .int v4), (5, .int v5), (6, .int v6), (7, .int v7), (8, .int v8)]) hx hb dX0_wordEnd_76 hl (by decide) rfl (fun ls hl => ?_)
          refine lv_iload hx hb dX0_wordEnd_78 (lv_at hl 0 rfl) ?_
          refine lv_iload hx hb dX0_wordEnd_80 (lv_at hl 7 rfl) ?_
          refine b_icmp_eq (tgt := 101) hx hb hf dX0_wordEnd_82 (by decide) (fun hf => ?_) (fun hf => ?_)
          · exact t_X0_wordEnd_101 C hr_16 k_v1 k_r3 hH (lv_sub hl [2, 3, 4, 5, 6, 7, 9, 1] rfl) hf
          · refine lv_iload hx hb dX0_wordEnd_85 (lv_at hl 0 rfl) ?_
            refine lv_iload hx hb dX0_wordEnd_87 (lv_at hl 7 rfl) ?_
            refine b_icmp_ge (tgt := 108) hx hb hf dX0_wordEnd_89 (by decide) (fun hf => ?_) (fun hf => ?_)
            · refine b_let hf (fun x15 he hf => ?_)
              refine lv_iinc (v := x15) (lv' := [(8, .int x15), (10, .int x14), (9, .ref (B + r3)), (0, .ref (B + 673)), (1, .ref (B + v1)), (2, .long v2), (4, .int v4), (5, .int v5), (6, .int v6), (7, .int v7)]) hx hb dX0_wordEnd_108 hl (k := 9) rfl (by rw [← he]; rfl) (by decide) rfl (fun ls hl => ?_)
              refine lv_goto (tgt := 16) hx hb dX0_wordEnd_111 (by decide) ?_
              exact hr_16 v1 v2 v4 v5 v6 v7 x15 w12 hf k_v1 _ _ _ hH (lv_sub hl [3, 4, 5, 6, 7, 8, 9, 0] rfl)
            · refine lv_lload_n hx hb dX0_wordEnd_92 rfl (lv_at hl 4 rfl) ?_
              refine lv_iload hx hb dX0_wordEnd_93 (lv_at hl 0 rfl) ?_
              obtain ⟨x17, w16, hc, hf⟩ := bd_some hf
              refine q_callS1 (v := .int x17) (As := [.long v2, .int x14]) C hH gk_X0_15 yd_X0_isMarked (by omega) (by omega) (c_X0_isMarked hc) hl.1 rfl (Nat.le_of_ble_eq_true rfl) dX0_wordEnd_95 xv_00 (fun H locs hH z_x17 => ?_)
              refine b_if_eq (tgt := 108) hx hb hf dX0_wordEnd_98 (by decide) (fun hf => ?_) (fun hf => ?_)
              · refine b_let hf (fun x18 he hf => ?_)
                refine lv_iinc (v := x18) (lv' := [(8, .int x18), (10, .int x14), (9, .ref (B + r3)), (0, .ref (B + 673)), (1, .ref (B + v1)), (2, .long v2), (4, .int v4), (5, .int v5), (6, .int v6), (7, .int v7)]) hx hb dX0_wordEnd_108 hl (k := 9) rfl (by rw [← he]; rfl) (by decide) rfl (fun ls hl => ?_)
                refine lv_goto (tgt := 16) hx hb dX0_wordEnd_111 (by decide) ?_
                exact hr_16 v1 v2 v4 v5 v6 v7 x18 w16 hf k_v1 _ _ _ hH (lv_sub hl [3, 4, 5, 6, 7, 8, 9, 0] rfl)
              · exact t_X0_wordEnd_101 C hr_16 k_v1 k_r3 hH (lv_sub hl [2, 3, 4, 5, 6, 7, 9, 1] rfl) hf
        · refine lv_goto (tgt := 108) hx hb dX0_wordEnd_65 (by decide) ?_
          refine b_let hf (fun x19 he hf => ?_)
          refine lv_iinc (v := x19) (lv' := [(8, .int x19), (9, .ref (B + r3)), (0, .ref (B + 673)), (1, .ref (B + v1)), (2, .long v2), (4, .int v4), (5, .int v5), (6, .int v6), (7, .int v7)]) hx hb dX0_wordEnd_108 hl (k := 8) rfl (by rw [← he]; rfl) (by decide) rfl (fun ls hl => ?_)
          refine lv_goto (tgt := 16) hx hb dX0_wordEnd_111 (by decide) ?_
          exact hr_16 v1 v2 v4 v5 v6 v7 x19 w10 hf k_v1 _ _ _ hH (lv_sub hl [2, 3, 4, 5, 6, 7, 8, 0] rfl)
set_option maxRecDepth 100000 in
set_option maxHeartbeats 4000000 in
theorem t_X0_wordEnd_16 {D : va_G} {B : Nat} {Y : Nat → ClassId} {p : Program} {l : Launch} {e : Env} {s : State} {m : MethodId} {args : Array Value} {below : List Frame} {meth : Method} {c : Code} {z : (Int32 × Wd)} {H : Heap} {locs : List Loc} {ls : Array Slot} {w : Wd} {v1 : Nat} {v2 : Int64} {v4 : Int32} {v5 : Int32} {v6 : Int32} {v7 : Int32} {v8 : Int32} (C : CX D B Y p s m args meth c cX0_wordEnd 11 RX0 (some .int))   (k_v1 : KD v1 = 7)  (hH : HS D B Y w s H locs) (hl : lv_has ls 11 [(0, .ref (B + 673)), (1, .ref (B + v1)), (2, .long v2), (4, .int v4), (5, .int v5), (6, .int v6), (7, .int v7), (8, .int v8)]) (hf : f_X0_wordEnd_16 v1 v2 v4 v5 v6 v7 v8 w = some z) : W p l e (RM 4 0 0) s m args below meth c H locs 0 0 (MQ below (QG D B Y (some (.int z.1)) z.2 True) args s 0 0 (AB B)) (F0 m 16 ls []) := by
  exact loopN_ind (z := z) (body := fun rc σ => g_X0_wordEnd_16 rc  σ.1 σ.2.1 σ.2.2.1 σ.2.2.2.1 σ.2.2.2.2.1 σ.2.2.2.2.2.1 σ.2.2.2.2.2.2.1 σ.2.2.2.2.2.2.2)
    (P := fun σ => KD σ.1 = 7 → ∀ (H : Heap) (locs : List Loc) (ls : Array Slot), HS D B Y σ.2.2.2.2.2.2.2 s H locs → lv_has ls 11 [(0, .ref (B + 673)), (1, .ref (B + σ.1)), (2, .long σ.2.1), (4, .int σ.2.2.1), (5, .int σ.2.2.2.1), (6, .int σ.2.2.2.2.1), (7, .int σ.2.2.2.2.2.1), (8, .int σ.2.2.2.2.2.2.1)] → W p l e (RM 4 0 0) s m args below meth c H locs 0 0 (MQ below (QG D B Y (some (.int z.1)) z.2 True) args s 0 0 (AB B)) (F0 m 16 ls []))
    (fun rc hrec σ hf k_v1 H locs ls hH hl => tb_X0_wordEnd_16 C (fun v1 v2 v4 v5 v6 v7 v8 w hr k_v1 H locs ls hH hl => hrec (v1, v2, v4, v5, v6, v7, v8, w) hr k_v1 H locs ls hH hl)  k_v1 hH hl hf) FU (v1, v2, v4, v5, v6, v7, v8, w) hf k_v1 H locs ls hH hl
set_option maxRecDepth 100000 in
set_option maxHeartbeats 4000000 in
theorem t_X0_wordEnd_0 {D : va_G} {B : Nat} {Y : Nat → ClassId} {p : Program} {l : Launch} {e : Env} {s : State} {m : MethodId} {args : Array Value} {below : List Frame} {meth : Method} {c : Code} {z : (Int32 × Wd)} {H : Heap} {locs : List Loc} {ls : Array Slot} {w : Wd} {v1 : Nat} {v2 : Int64} {v4 : Int32} {v5 : Int32} (C : CX D B Y p s m args meth c cX0_wordEnd 11 RX0 (some .int))   (k_v1 : KD v1 = 7)  (hH : HS D B Y w s H locs) (hl : lv_has ls 11 [(0, .ref (B + 673)), (1, .ref (B + v1)), (2, .long v2), (4, .int v4), (5, .int v5)]) (hf : f_X0_wordEnd v1 v2 v4 v5 w = some z) : W p l e (RM 4 0 0) s m args below meth c H locs 0 0 (MQ below (QG D B Y (some (.int z.1)) z.2 True) args s 0 0 (AB B)) (F0 m 0 ls []) := by
  have hx := C.1
  have hb := C.2.1
  unfold f_X0_wordEnd at hf
  refine lv_aload_n hx hb dX0_wordEnd_0 rfl (lv_at hl 0 rfl) ?_
  refine lv_aload_n hx hb dX0_wordEnd_1 rfl (lv_at hl 1 rfl) ?_
  refine lv_lload_n hx hb dX0_wordEnd_2 rfl (lv_at hl 2 rfl) ?_
  refine lv_iload hx hb dX0_wordEnd_3 (lv_at hl 3 rfl) ?_
  obtain ⟨x2, w1, hc, hf⟩ := bd_some hf
  refine q_callV1 (v := .int x2) (As := [.ref (B + v1), .long v2, .int v4]) C hH (ci := 0) rfl (by omega) gk_X0_62 yd_X0_seamlessLimit (by omega) (by omega) kc_673 (c_X0_seamlessLimit k_v1 hc) hl.1 rfl (Nat.le_of_ble_eq_true rfl) dX0_wordEnd_5 xv_00 (fun H locs hH hP => ?_)
  refine lv_istore (lv' := [(6, .int x2), (0, .ref (B + 673)), (1, .ref (B + v1)), (2, .long v2), (4, .int v4), (5, .int v5)]) hx hb dX0_wordEnd_8 hl (by decide) rfl (fun ls hl => ?_)
  refine lv_iconst (v := (0 : Int32)) hx hb dX0_wordEnd_10 (by decide) ?_
  refine lv_istore (lv' := [(7, .int (0 : Int32)), (6, .int x2), (0, .ref (B + 673)), (1, .ref (B + v1)), (2, .long v2), (4, .int v4), (5, .int v5)]) hx hb dX0_wordEnd_11 hl (by decide) rfl (fun ls hl => ?_)
  refine lv_iconst (v := (0 : Int32)) hx hb dX0_wordEnd_13 (by decide) ?_
  refine lv_istore (lv' := [(8, .int (0 : Int32)), (7, .int (0 : Int32)), (6, .int x2), (0, .ref (B + 673)), (1, .ref (B + v1)), (2, .long v2), (4, .int v4), (5, .int v5)]) hx hb dX0_wordEnd_14 hl (by decide) rfl (fun ls hl => ?_)
  exact t_X0_wordEnd_16 C k_v1 hH (lv_sub hl [3, 4, 5, 6, 7, 2, 1, 0] rfl) hf
set_option maxRecDepth 100000 in
theorem c_X0_wordEnd {l : Launch} {D : va_G} {B : Nat} {Y : Nat → ClassId} {v1 : Nat} {v2 : Int64} {v4 : Int32} {v5 : Int32} {w : Wd} {r : Int32} {w1 : Wd} (k_v1 : KD v1 = 7)  (hf : f_X0_wordEnd v1 v2 v4 v5 w = some (r, w1)) : CM l D B Y yX0_wordEnd cX0_wordEnd 11 (some .int) 4 [.ref (B + 673), .ref (B + v1), .long v2, .int v4, .int v5] w (some (.int r)) w1 True :=
  CM_of (by decide +kernel) (Nat.le_of_ble_eq_true rfl) (fun p e s m args below meth c ls C hH hl => t_X0_wordEnd_0 C k_v1 hH (lv_sub hl [0, 1, 2, 3, 4] rfl) hf)
/-! LetterTables$Borders.seamlessEnds -/
set_option maxRecDepth 100000 in
set_option maxHeartbeats 4000000 in
theorem t_X0_seamlessEnds_59 {D : va_G} {B : Nat} {Y : Nat → ClassId} {p : Program} {l : Launch} {e : Env} {s : State} {m : MethodId} {args : Array Value} {below : List Frame} {meth : Method} {c : Code} {z : (Int64 × Wd)} {H : Heap} {locs : List Loc} {ls : Array Slot} {w : Wd} {v1 : Nat} {v2 : Int64} {v4 : Int64} {v7 : Int32} {v8 : Int32} (C : CX D B Y p s m args meth c cX0_seamlessEnds 9 RX0 (some .long))  {rc_9 : Nat × Int64 × Int64 × Int32 × Int32 × Wd → Option (Int64 × Wd)} (hr_9 : ∀ (v1 : Nat) (v2 : Int64) (v4 : Int64) (v6 : Int32) (v7 : Int32) (w : Wd), rc_9 (v1, v2, v4, v6, v7, w) = some z → KD v1 = 7 → ∀ (H : Heap) (locs : List Loc) (ls : Array Slot), HS D B Y w s H locs → lv_has ls 9 [(0, .ref (B + 673)), (1, .ref (B + v1)), (2, .long v2), (4, .long v4), (6, .int v6), (7, .int v7)] → W p l e (RM 5 0 0) s m args below meth c H locs 0 0 (MQ below (QG D B Y (some (.long z.1)) z.2 True) args s 0 0 (AB B)) (F0 m 9 ls []))  (k_v1 : KD v1 = 7)  (hH : HS D B Y w s H locs) (hl : lv_has ls 9 [(0, .ref (B + 673)), (1, .ref (B + v1)), (2, .long v2), (4, .long v4), (7, .int v7), (8, .int v8)]) (hf : f_X0_seamlessEnds_59 rc_9 v1 v2 v4 v7 v8 w = some z) : W p l e (RM 5 0 0) s m args below meth c H locs 0 0 (MQ below (QG D B Y (some (.long z.1)) z.2 True) args s 0 0 (AB B)) (F0 m 59 ls []) := by
  have hx := C.1
  have hb := C.2.1
  unfold f_X0_seamlessEnds_59 at hf
  refine lv_lload hx hb dX0_seamlessEnds_59 (lv_at hl 3 rfl) ?_
  refine lv_lconst (v := (1 : Int64)) hx hb dX0_seamlessEnds_61 (by decide) ?_
  refine lv_iload hx hb dX0_seamlessEnds_62 (lv_at hl 5 rfl) ?_
  refine lv_lshl (v := (1 : Int64) <<< (v8.toInt64 &&& 63)) hx hb dX0_seamlessEnds_64 rfl ?_
  refine lv_lor hx hb dX0_seamlessEnds_65 ?_
  refine b_letl hf (fun y1 hf => ?_)
  refine lv_lstore (lv' := [(4, .long y1), (0, .ref (B + 673)), (1, .ref (B + v1)), (2, .long v2), (7, .int v7), (8, .int v8)]) hx hb dX0_seamlessEnds_66 hl (by decide) rfl (fun ls hl => ?_)
  refine lv_iload hx hb dX0_seamlessEnds_68 (lv_at hl 5 rfl) ?_
  refine lv_istore (lv' := [(6, .int v8), (4, .long y1), (0, .ref (B + 673)), (1, .ref (B + v1)), (2, .long v2), (7, .int v7), (8, .int v8)]) hx hb dX0_seamlessEnds_70 hl (by decide) rfl (fun ls hl => ?_)
  refine b_let hf (fun x2 he hf => ?_)
  refine lv_iinc (v := x2) (lv' := [(7, .int x2), (6, .int v8), (4, .long y1), (0, .ref (B + 673)), (1, .ref (B + v1)), (2, .long v2), (8, .int v8)]) hx hb dX0_seamlessEnds_72 hl (k := 5) rfl (by rw [← he]; rfl) (by decide) rfl (fun ls hl => ?_)
  refine lv_goto (tgt := 9) hx hb dX0_seamlessEnds_75 (by decide) ?_
  exact hr_9 v1 v2 y1 v8 x2 w hf k_v1 _ _ _ hH (lv_sub hl [3, 4, 5, 2, 1, 0] rfl)
set_option maxRecDepth 100000 in
set_option maxHeartbeats 4000000 in
theorem tb_X0_seamlessEnds_9 {D : va_G} {B : Nat} {Y : Nat → ClassId} {p : Program} {l : Launch} {e : Env} {s : State} {m : MethodId} {args : Array Value} {below : List Frame} {meth : Method} {c : Code} {z : (Int64 × Wd)} {H : Heap} {locs : List Loc} {ls : Array Slot} {w : Wd} {v1 : Nat} {v2 : Int64} {v4 : Int64} {v6 : Int32} {v7 : Int32} (C : CX D B Y p s m args meth c cX0_seamlessEnds 9 RX0 (some .long))  {rc_9 : Nat × Int64 × Int64 × Int32 × Int32 × Wd → Option (Int64 × Wd)} (hr_9 : ∀ (v1 : Nat) (v2 : Int64) (v4 : Int64) (v6 : Int32) (v7 : Int32) (w : Wd), rc_9 (v1, v2, v4, v6, v7, w) = some z → KD v1 = 7 → ∀ (H : Heap) (locs : List Loc) (ls : Array Slot), HS D B Y w s H locs → lv_has ls 9 [(0, .ref (B + 673)), (1, .ref (B + v1)), (2, .long v2), (4, .long v4), (6, .int v6), (7, .int v7)] → W p l e (RM 5 0 0) s m args below meth c H locs 0 0 (MQ below (QG D B Y (some (.long z.1)) z.2 True) args s 0 0 (AB B)) (F0 m 9 ls []))  (k_v1 : KD v1 = 7)  (hH : HS D B Y w s H locs) (hl : lv_has ls 9 [(0, .ref (B + 673)), (1, .ref (B + v1)), (2, .long v2), (4, .long v4), (6, .int v6), (7, .int v7)]) (hf : g_X0_seamlessEnds_9 rc_9 v1 v2 v4 v6 v7 w = some z) : W p l e (RM 5 0 0) s m args below meth c H locs 0 0 (MQ below (QG D B Y (some (.long z.1)) z.2 True) args s 0 0 (AB B)) (F0 m 9 ls []) := by
  have hx := C.1
  have hb := C.2.1
  unfold g_X0_seamlessEnds_9 at hf
  refine lv_iload hx hb dX0_seamlessEnds_9 (lv_at hl 5 rfl) ?_
  refine lv_bipush (v := (40 : Int32)) hx hb dX0_seamlessEnds_11 (by decide) ?_
  refine b_icmp_ge (tgt := 78) hx hb hf dX0_seamlessEnds_13 (by decide) (fun hf => ?_) (fun hf => ?_)
  · refine lv_lload hx hb dX0_seamlessEnds_78 (lv_at hl 3 rfl) ?_
    cases hf
    exact q_retl C hH trivial dX0_seamlessEnds_80
  · refine lv_iload hx hb dX0_seamlessEnds_16 (lv_at hl 4 rfl) ?_
    refine lv_aload_n hx hb dX0_seamlessEnds_18 rfl (lv_at hl 1 rfl) ?_
    obtain ⟨x2, w1, hc, hf⟩ := bd_some hf
    refine q_callV1 (v := .int x2) (As := []) C hH (ci := 7) rfl (by omega) gk_X0_30 yd_X7_size (by omega) (by omega) k_v1 (c_X7_size k_v1 hc) hl.1 rfl (Nat.le_of_ble_eq_true rfl) dX0_seamlessEnds_19 xv_00 (fun H locs hH hP => ?_)
    refine b_icmp_ge (tgt := 78) hx hb hf dX0_seamlessEnds_22 (by decide) (fun hf => ?_) (fun hf => ?_)
    · refine lv_lload hx hb dX0_seamlessEnds_78 (lv_at hl 3 rfl) ?_
      cases hf
      exact q_retl C hH trivial dX0_seamlessEnds_80
    · refine lv_aload_n hx hb dX0_seamlessEnds_25 rfl (lv_at hl 0 rfl) ?_
      refine lv_aload_n hx hb dX0_seamlessEnds_26 rfl (lv_at hl 1 rfl) ?_
      refine lv_lload_n hx hb dX0_seamlessEnds_27 rfl (lv_at hl 2 rfl) ?_
      refine lv_iload hx hb dX0_seamlessEnds_28 (lv_at hl 4 rfl) ?_
      obtain ⟨x4, w3, hc, hf⟩ := bd_some hf
      refine q_callV1 (v := .int x4) (As := [.ref (B + v1), .long v2, .int v6]) C hH (ci := 0) rfl (by omega) gk_X0_54 yd_X0_clusterEnd (by omega) (by omega) kc_673 (c_X0_clusterEnd k_v1 hc) hl.1 rfl (Nat.le_of_ble_eq_true rfl) dX0_seamlessEnds_30 xv_00 (fun H locs hH hP => ?_)
      refine lv_istore (lv' := [(8, .int x4), (0, .ref (B + 673)), (1, .ref (B + v1)), (2, .long v2), (4, .long v4), (6, .int v6), (7, .int v7)]) hx hb dX0_seamlessEnds_33 hl (by decide) rfl (fun ls hl => ?_)
      refine lv_aload_n hx hb dX0_seamlessEnds_35 rfl (lv_at hl 1 rfl) ?_
      refine lv_aload_n hx hb dX0_seamlessEnds_36 rfl (lv_at hl 2 rfl) ?_
      refine lv_iload hx hb dX0_seamlessEnds_37 (lv_at hl 5 rfl) ?_
      obtain ⟨x6, w5, hc, hf⟩ := bd_some hf
      refine q_callV1 (v := .int x6) (As := [.ref (B + v1), .int v6]) C hH (ci := 0) rfl (by omega) gk_X0_34 yd_X0_kindAt (by omega) (by omega) kc_673 (c_X0_kindAt k_v1 hc) hl.1 rfl (Nat.le_of_ble_eq_true rfl) dX0_seamlessEnds_39 xv_00 (fun H locs hH hP => ?_)
      refine lv_bipush (v := (6 : Int32)) hx hb dX0_seamlessEnds_42 (by decide) ?_
      refine b_icmp_ne (tgt := 59) hx hb hf dX0_seamlessEnds_44 (by decide) (fun hf => ?_) (fun hf => ?_)
      · exact t_X0_seamlessEnds_59 C hr_9 k_v1 hH (lv_sub hl [1, 2, 3, 4, 6, 0] rfl) hf
      · refine lv_aload_n hx hb dX0_seamlessEnds_47 rfl (lv_at hl 1 rfl) ?_
        refine lv_aload_n hx hb dX0_seamlessEnds_48 rfl (lv_at hl 2 rfl) ?_
        refine lv_lload_n hx hb dX0_seamlessEnds_49 rfl (lv_at hl 3 rfl) ?_
        refine lv_iload hx hb dX0_seamlessEnds_50 (lv_at hl 5 rfl) ?_
        refine lv_iload hx hb dX0_seamlessEnds_52 (lv_at hl 0 rfl) ?_
        obtain ⟨x8, w7, hc, hf⟩ := bd_some hf
        refine q_callV1 (v := .int x8) (As := [.ref (B + v1), .long v2, .int v6, .int x4]) C hH (ci := 0) rfl (by omega) gk_X0_58 yd_X0_wordEnd (by omega) (by omega) kc_673 (c_X0_wordEnd k_v1 hc) hl.1 rfl (Nat.le_of_ble_eq_true rfl) dX0_seamlessEnds_54 xv_00 (fun H locs hH hP => ?_)
        refine lv_istore (lv' := [(8, .int x8), (0, .ref (B + 673)), (1, .ref (B + v1)), (2, .long v2), (4, .long v4), (6, .int v6), (7, .int v7)]) hx hb dX0_seamlessEnds_57 hl (by decide) rfl (fun ls hl => ?_)
        exact t_X0_seamlessEnds_59 C hr_9 k_v1 hH (lv_sub hl [1, 2, 3, 4, 6, 0] rfl) hf
set_option maxRecDepth 100000 in
set_option maxHeartbeats 4000000 in
theorem t_X0_seamlessEnds_9 {D : va_G} {B : Nat} {Y : Nat → ClassId} {p : Program} {l : Launch} {e : Env} {s : State} {m : MethodId} {args : Array Value} {below : List Frame} {meth : Method} {c : Code} {z : (Int64 × Wd)} {H : Heap} {locs : List Loc} {ls : Array Slot} {w : Wd} {v1 : Nat} {v2 : Int64} {v4 : Int64} {v6 : Int32} {v7 : Int32} (C : CX D B Y p s m args meth c cX0_seamlessEnds 9 RX0 (some .long))   (k_v1 : KD v1 = 7)  (hH : HS D B Y w s H locs) (hl : lv_has ls 9 [(0, .ref (B + 673)), (1, .ref (B + v1)), (2, .long v2), (4, .long v4), (6, .int v6), (7, .int v7)]) (hf : f_X0_seamlessEnds_9 v1 v2 v4 v6 v7 w = some z) : W p l e (RM 5 0 0) s m args below meth c H locs 0 0 (MQ below (QG D B Y (some (.long z.1)) z.2 True) args s 0 0 (AB B)) (F0 m 9 ls []) := by
  exact loopN_ind (z := z) (body := fun rc σ => g_X0_seamlessEnds_9 rc  σ.1 σ.2.1 σ.2.2.1 σ.2.2.2.1 σ.2.2.2.2.1 σ.2.2.2.2.2)
    (P := fun σ => KD σ.1 = 7 → ∀ (H : Heap) (locs : List Loc) (ls : Array Slot), HS D B Y σ.2.2.2.2.2 s H locs → lv_has ls 9 [(0, .ref (B + 673)), (1, .ref (B + σ.1)), (2, .long σ.2.1), (4, .long σ.2.2.1), (6, .int σ.2.2.2.1), (7, .int σ.2.2.2.2.1)] → W p l e (RM 5 0 0) s m args below meth c H locs 0 0 (MQ below (QG D B Y (some (.long z.1)) z.2 True) args s 0 0 (AB B)) (F0 m 9 ls []))
    (fun rc hrec σ hf k_v1 H locs ls hH hl => tb_X0_seamlessEnds_9 C (fun v1 v2 v4 v6 v7 w hr k_v1 H locs ls hH hl => hrec (v1, v2, v4, v6, v7, w) hr k_v1 H locs ls hH hl)  k_v1 hH hl hf) FU (v1, v2, v4, v6, v7, w) hf k_v1 H locs ls hH hl
set_option maxRecDepth 100000 in
set_option maxHeartbeats 4000000 in
theorem t_X0_seamlessEnds_0 {D : va_G} {B : Nat} {Y : Nat → ClassId} {p : Program} {l : Launch} {e : Env} {s : State} {m : MethodId} {args : Array Value} {below : List Frame} {meth : Method} {c : Code} {z : (Int64 × Wd)} {H : Heap} {locs : List Loc} {ls : Array Slot} {w : Wd} {v1 : Nat} {v2 : Int64} (C : CX D B Y p s m args meth c cX0_seamlessEnds 9 RX0 (some .long))   (k_v1 : KD v1 = 7)  (hH : HS D B Y w s H locs) (hl : lv_has ls 9 [(0, .ref (B + 673)), (1, .ref (B + v1)), (2, .long v2)]) (hf : f_X0_seamlessEnds v1 v2 w = some z) : W p l e (RM 5 0 0) s m args below meth c H locs 0 0 (MQ below (QG D B Y (some (.long z.1)) z.2 True) args s 0 0 (AB B)) (F0 m 0 ls []) := by
  have hx := C.1
  have hb := C.2.1
  unfold f_X0_seamlessEnds at hf
  refine lv_lconst (v := (0 : Int64)) hx hb dX0_seamlessEnds_0 (by decide) ?_
  refine lv_lstore (lv' := [(4, .long (0 : Int64)), (0, .ref (B + 673)), (1, .ref (B + v1)), (2, .long v2)]) hx hb dX0_seamlessEnds_1 hl (by decide) rfl (fun ls hl => ?_)
  refine lv_iconst (v := (0 : Int32)) hx hb dX0_seamlessEnds_3 (by decide) ?_
  refine lv_istore (lv' := [(6, .int (0 : Int32)), (4, .long (0 : Int64)), (0, .ref (B + 673)), (1, .ref (B + v1)), (2, .long v2)]) hx hb dX0_seamlessEnds_4 hl (by decide) rfl (fun ls hl => ?_)
  refine lv_iconst (v := (0 : Int32)) hx hb dX0_seamlessEnds_6 (by decide) ?_
  refine lv_istore (lv' := [(7, .int (0 : Int32)), (6, .int (0 : Int32)), (4, .long (0 : Int64)), (0, .ref (B + 673)), (1, .ref (B + v1)), (2, .long v2)]) hx hb dX0_seamlessEnds_7 hl (by decide) rfl (fun ls hl => ?_)
  exact t_X0_seamlessEnds_9 C k_v1 hH (lv_sub hl [3, 4, 5, 2, 1, 0] rfl) hf
set_option maxRecDepth 100000 in
theorem c_X0_seamlessEnds {l : Launch} {D : va_G} {B : Nat} {Y : Nat → ClassId} {v1 : Nat} {v2 : Int64} {w : Wd} {r : Int64} {w1 : Wd} (k_v1 : KD v1 = 7)  (hf : f_X0_seamlessEnds v1 v2 w = some (r, w1)) : CM l D B Y yX0_seamlessEnds cX0_seamlessEnds 9 (some .long) 5 [.ref (B + 673), .ref (B + v1), .long v2] w (some (.long r)) w1 True :=
  CM_of (by decide +kernel) (Nat.le_of_ble_eq_true rfl) (fun p e s m args below meth c ls C hH hl => t_X0_seamlessEnds_0 C k_v1 hH (lv_sub hl [0, 1, 2] rfl) hf)
/-! LetterTables$Borders.isWordBreak -/
set_option maxRecDepth 100000 in
set_option maxHeartbeats 4000000 in
theorem t_X0_isWordBreak_39 {D : va_G} {B : Nat} {Y : Nat → ClassId} {p : Program} {l : Launch} {e : Env} {s : State} {m : MethodId} {args : Array Value} {below : List Frame} {meth : Method} {c : Code} {z : (Int32 × Wd)} {H : Heap} {locs : List Loc} {ls : Array Slot} {w : Wd} {v0 : Int32} {v1 : Int32} {t0 : Int32} (C : CX D B Y p s m args meth c cX0_isWordBreak 4 RX0 (some .boolean))    (z_t0 : isZ t0) (hH : HS D B Y w s H locs) (hl : lv_has ls 4 [(0, .int v0), (1, .int v1)]) (hf : f_X0_isWordBreak_39 v0 v1 t0 w = some z) : W p l e (RM 0 0 0) s m args below meth c H locs 0 0 (MQ below (QG D B Y (some (.int z.1)) z.2 (isZ z.1)) args s 0 0 (AB B)) (F0 m 39 ls [.int t0]) := by
  have hx := C.1
  have hb := C.2.1
  unfold f_X0_isWordBreak_39 at hf
  refine lv_istore_n (lv' := [(3, .int t0), (0, .int v0), (1, .int v1)]) hx hb dX0_isWordBreak_39 rfl hl (by decide) rfl (fun ls hl => ?_)
  refine lv_iload_n hx hb dX0_isWordBreak_40 rfl (lv_at hl 0 rfl) ?_
  refine b_if_ne (tgt := 58) hx hb hf dX0_isWordBreak_41 (by decide) (fun hf => ?_) (fun hf => ?_)
  · refine lv_iconst (v := (0 : Int32)) hx hb dX0_isWordBreak_58 (by decide) ?_
    cases hf
    exact q_retz C hH isZ_0 isZ_0 dX0_isWordBreak_59
  · refine lv_iload_n hx hb dX0_isWordBreak_44 rfl (lv_at hl 1 rfl) ?_
    refine lv_iconst (v := (3 : Int32)) hx hb dX0_isWordBreak_45 (by decide) ?_
    refine b_icmp_ne (tgt := 54) hx hb hf dX0_isWordBreak_46 (by decide) (fun hf => ?_) (fun hf => ?_)
    · refine lv_iconst (v := (1 : Int32)) hx hb dX0_isWordBreak_54 (by decide) ?_
      refine lv_goto (tgt := 59) hx hb dX0_isWordBreak_55 (by decide) ?_
      cases hf
      exact q_retz C hH isZ_1 isZ_1 dX0_isWordBreak_59
    · refine lv_iload_n hx hb dX0_isWordBreak_49 rfl (lv_at hl 2 rfl) ?_
      refine lv_iconst (v := (3 : Int32)) hx hb dX0_isWordBreak_50 (by decide) ?_
      refine b_icmp_eq (tgt := 58) hx hb hf dX0_isWordBreak_51 (by decide) (fun hf => ?_) (fun hf => ?_)
      · refine lv_iconst (v := (0 : Int32)) hx hb dX0_isWordBreak_58 (by decide) ?_
        cases hf
        exact q_retz C hH isZ_0 isZ_0 dX0_isWordBreak_59
      · refine lv_iconst (v := (1 : Int32)) hx hb dX0_isWordBreak_54 (by decide) ?_
        refine lv_goto (tgt := 59) hx hb dX0_isWordBreak_55 (by decide) ?_
        cases hf
        exact q_retz C hH isZ_1 isZ_1 dX0_isWordBreak_59
set_option maxRecDepth 100000 in
set_option maxHeartbeats 4000000 in
theorem t_X0_isWordBreak_38 {D : va_G} {B : Nat} {Y : Nat → ClassId} {p : Program} {l : Launch} {e : Env} {s : State} {m : MethodId} {args : Array Value} {below : List Frame} {meth : Method} {c : Code} {z : (Int32 × Wd)} {H : Heap} {locs : List Loc} {ls : Array Slot} {w : Wd} {v0 : Int32} {v1 : Int32} (C : CX D B Y p s m args meth c cX0_isWordBreak 4 RX0 (some .boolean))     (hH : HS D B Y w s H locs) (hl : lv_has ls 4 [(0, .int v0), (1, .int v1)]) (hf : f_X0_isWordBreak_38 v0 v1 w = some z) : W p l e (RM 0 0 0) s m args below meth c H locs 0 0 (MQ below (QG D B Y (some (.int z.1)) z.2 (isZ z.1)) args s 0 0 (AB B)) (F0 m 38 ls []) := by
  have hx := C.1
  have hb := C.2.1
  unfold f_X0_isWordBreak_38 at hf
  refine lv_iconst (v := (0 : Int32)) hx hb dX0_isWordBreak_38 (by decide) ?_
  exact t_X0_isWordBreak_39 C isZ_0 hH (lv_sub hl [0, 1] rfl) hf
set_option maxRecDepth 100000 in
set_option maxHeartbeats 4000000 in
theorem t_X0_isWordBreak_24 {D : va_G} {B : Nat} {Y : Nat → ClassId} {p : Program} {l : Launch} {e : Env} {s : State} {m : MethodId} {args : Array Value} {below : List Frame} {meth : Method} {c : Code} {z : (Int32 × Wd)} {H : Heap} {locs : List Loc} {ls : Array Slot} {w : Wd} {v0 : Int32} {v1 : Int32} (C : CX D B Y p s m args meth c cX0_isWordBreak 4 RX0 (some .boolean))     (hH : HS D B Y w s H locs) (hl : lv_has ls 4 [(0, .int v0), (1, .int v1)]) (hf : f_X0_isWordBreak_24 v0 v1 w = some z) : W p l e (RM 0 0 0) s m args below meth c H locs 0 0 (MQ below (QG D B Y (some (.int z.1)) z.2 (isZ z.1)) args s 0 0 (AB B)) (F0 m 24 ls []) := by
  have hx := C.1
  have hb := C.2.1
  unfold f_X0_isWordBreak_24 at hf
  refine lv_iload_n hx hb dX0_isWordBreak_24 rfl (lv_at hl 1 rfl) ?_
  refine lv_iconst (v := (1 : Int32)) hx hb dX0_isWordBreak_25 (by decide) ?_
  refine b_icmp_eq (tgt := 34) hx hb hf dX0_isWordBreak_26 (by decide) (fun hf => ?_) (fun hf => ?_)
  · refine lv_iconst (v := (1 : Int32)) hx hb dX0_isWordBreak_34 (by decide) ?_
    refine lv_goto (tgt := 39) hx hb dX0_isWordBreak_35 (by decide) ?_
    exact t_X0_isWordBreak_39 C isZ_1 hH (lv_sub hl [0, 1] rfl) hf
  · refine lv_iload_n hx hb dX0_isWordBreak_29 rfl (lv_at hl 1 rfl) ?_
    refine lv_iconst (v := (4 : Int32)) hx hb dX0_isWordBreak_30 (by decide) ?_
    refine b_icmp_ne (tgt := 38) hx hb hf dX0_isWordBreak_31 (by decide) (fun hf => ?_) (fun hf => ?_)
    · exact t_X0_isWordBreak_38 C hH (lv_sub hl [0, 1] rfl) hf
    · refine lv_iconst (v := (1 : Int32)) hx hb dX0_isWordBreak_34 (by decide) ?_
      refine lv_goto (tgt := 39) hx hb dX0_isWordBreak_35 (by decide) ?_
      exact t_X0_isWordBreak_39 C isZ_1 hH (lv_sub hl [0, 1] rfl) hf
set_option maxRecDepth 100000 in
set_option maxHeartbeats 4000000 in
theorem t_X0_isWordBreak_14 {D : va_G} {B : Nat} {Y : Nat → ClassId} {p : Program} {l : Launch} {e : Env} {s : State} {m : MethodId} {args : Array Value} {below : List Frame} {meth : Method} {c : Code} {z : (Int32 × Wd)} {H : Heap} {locs : List Loc} {ls : Array Slot} {w : Wd} {v0 : Int32} {v1 : Int32} (C : CX D B Y p s m args meth c cX0_isWordBreak 4 RX0 (some .boolean))     (hH : HS D B Y w s H locs) (hl : lv_has ls 4 [(0, .int v0), (1, .int v1)]) (hf : f_X0_isWordBreak_14 v0 v1 w = some z) : W p l e (RM 0 0 0) s m args below meth c H locs 0 0 (MQ below (QG D B Y (some (.int z.1)) z.2 (isZ z.1)) args s 0 0 (AB B)) (F0 m 14 ls []) := by
  have hx := C.1
  have hb := C.2.1
  unfold f_X0_isWordBreak_14 at hf
  refine lv_iload_n hx hb dX0_isWordBreak_14 rfl (lv_at hl 0 rfl) ?_
  refine lv_iconst (v := (1 : Int32)) hx hb dX0_isWordBreak_15 (by decide) ?_
  refine b_icmp_eq (tgt := 24) hx hb hf dX0_isWordBreak_16 (by decide) (fun hf => ?_) (fun hf => ?_)
  · exact t_X0_isWordBreak_24 C hH (lv_sub hl [0, 1] rfl) hf
  · refine lv_iload_n hx hb dX0_isWordBreak_19 rfl (lv_at hl 0 rfl) ?_
    refine lv_iconst (v := (4 : Int32)) hx hb dX0_isWordBreak_20 (by decide) ?_
    refine b_icmp_ne (tgt := 38) hx hb hf dX0_isWordBreak_21 (by decide) (fun hf => ?_) (fun hf => ?_)
    · exact t_X0_isWordBreak_38 C hH (lv_sub hl [0, 1] rfl) hf
    · exact t_X0_isWordBreak_24 C hH (lv_sub hl [0, 1] rfl) hf
set_option maxRecDepth 100000 in
set_option maxHeartbeats 4000000 in
theorem t_X0_isWordBreak_0 {D : va_G} {B : Nat} {Y : Nat → ClassId} {p : Program} {l : Launch} {e : Env} {s : State} {m : MethodId} {args : Array Value} {below : List Frame} {meth : Method} {c : Code} {z : (Int32 × Wd)} {H : Heap} {locs : List Loc} {ls : Array Slot} {w : Wd} {v0 : Int32} {v1 : Int32} {v2 : Int32} (C : CX D B Y p s m args meth c cX0_isWordBreak 4 RX0 (some .boolean))    (z_v2 : isZ v2) (hH : HS D B Y w s H locs) (hl : lv_has ls 4 [(0, .int v0), (1, .int v1), (2, .int v2)]) (hf : f_X0_isWordBreak v0 v1 v2 w = some z) : W p l e (RM 0 0 0) s m args below meth c H locs 0 0 (MQ below (QG D B Y (some (.int z.1)) z.2 (isZ z.1)) args s 0 0 (AB B)) (F0 m 0 ls []) := by
  have hx := C.1
  have hb := C.2.1
  unfold f_X0_isWordBreak at hf
  refine lv_iload_n hx hb dX0_isWordBreak_0 rfl (lv_at hl 0 rfl) ?_
  refine lv_bipush (v := (6 : Int32)) hx hb dX0_isWordBreak_1 (by decide) ?_
  refine b_icmp_ne (tgt := 14) hx hb hf dX0_isWordBreak_3 (by decide) (fun hf => ?_) (fun hf => ?_)
  · exact t_X0_isWordBreak_14 C hH (lv_sub hl [0, 1] rfl) hf
  · refine lv_iload_n hx hb dX0_isWordBreak_6 rfl (lv_at hl 1 rfl) ?_
    refine lv_bipush (v := (6 : Int32)) hx hb dX0_isWordBreak_7 (by decide) ?_
    refine b_icmp_ne (tgt := 14) hx hb hf dX0_isWordBreak_9 (by decide) (fun hf => ?_) (fun hf => ?_)
    · exact t_X0_isWordBreak_14 C hH (lv_sub hl [0, 1] rfl) hf
    · refine lv_iload_n hx hb dX0_isWordBreak_12 rfl (lv_at hl 2 rfl) ?_
      cases hf
      exact q_retz C hH z_v2 z_v2 dX0_isWordBreak_13
set_option maxRecDepth 100000 in
theorem c_X0_isWordBreak {l : Launch} {D : va_G} {B : Nat} {Y : Nat → ClassId} {v0 : Int32} {v1 : Int32} {v2 : Int32} {w : Wd} {r : Int32} {w1 : Wd}  (z_v2 : isZ v2) (hf : f_X0_isWordBreak v0 v1 v2 w = some (r, w1)) : CM l D B Y yX0_isWordBreak cX0_isWordBreak 4 (some .boolean) 0 [.int v0, .int v1, .int v2] w (some (.int r)) w1 (isZ r) :=
  CM_of (by decide +kernel) (Nat.le_of_ble_eq_true rfl) (fun p e s m args below meth c ls C hH hl => t_X0_isWordBreak_0 C z_v2 hH (lv_sub hl [0, 1, 2] rfl) hf)
/-! LetterTables$Borders.isLineBreak -/
set_option maxRecDepth 100000 in
set_option maxHeartbeats 4000000 in
theorem t_X0_isLineBreak_10 {D : va_G} {B : Nat} {Y : Nat → ClassId} {p : Program} {l : Launch} {e : Env} {s : State} {m : MethodId} {args : Array Value} {below : List Frame} {meth : Method} {c : Code} {z : (Int32 × Wd)} {H : Heap} {locs : List Loc} {ls : Array Slot} {w : Wd} {v0 : Int32} {v1 : Int32} (C : CX D B Y p s m args meth c cX0_isLineBreak 2 RX0 (some .boolean))     (hH : HS D B Y w s H locs) (hl : lv_has ls 2 [(0, .int v0), (1, .int v1)]) (hf : f_X0_isLineBreak_10 v0 v1 w = some z) : W p l e (RM 0 0 0) s m args below meth c H locs 0 0 (MQ below (QG D B Y (some (.int z.1)) z.2 (isZ z.1)) args s 0 0 (AB B)) (F0 m 10 ls []) := by
  have hx := C.1
  have hb := C.2.1
  unfold f_X0_isLineBreak_10 at hf
  refine lv_iload_n hx hb dX0_isLineBreak_10 rfl (lv_at hl 0 rfl) ?_
  refine lv_bipush (v := (6 : Int32)) hx hb dX0_isLineBreak_11 (by decide) ?_
  refine b_icmp_ne (tgt := 26) hx hb hf dX0_isLineBreak_13 (by decide) (fun hf => ?_) (fun hf => ?_)
  · refine lv_iconst (v := (0 : Int32)) hx hb dX0_isLineBreak_26 (by decide) ?_
    cases hf
    exact q_retz C hH isZ_0 isZ_0 dX0_isLineBreak_27
  · refine lv_iload_n hx hb dX0_isLineBreak_16 rfl (lv_at hl 1 rfl) ?_
    refine lv_bipush (v := (6 : Int32)) hx hb dX0_isLineBreak_17 (by decide) ?_
    refine b_icmp_ne (tgt := 26) hx hb hf dX0_isLineBreak_19 (by decide) (fun hf => ?_) (fun hf => ?_)
    · refine lv_iconst (v := (0 : Int32)) hx hb dX0_isLineBreak_26 (by decide) ?_
      cases hf
      exact q_retz C hH isZ_0 isZ_0 dX0_isLineBreak_27
    · refine lv_iconst (v := (1 : Int32)) hx hb dX0_isLineBreak_22 (by decide) ?_
      refine lv_goto (tgt := 27) hx hb dX0_isLineBreak_23 (by decide) ?_
      cases hf
      exact q_retz C hH isZ_1 isZ_1 dX0_isLineBreak_27
set_option maxRecDepth 100000 in
set_option maxHeartbeats 4000000 in
theorem t_X0_isLineBreak_0 {D : va_G} {B : Nat} {Y : Nat → ClassId} {p : Program} {l : Launch} {e : Env} {s : State} {m : MethodId} {args : Array Value} {below : List Frame} {meth : Method} {c : Code} {z : (Int32 × Wd)} {H : Heap} {locs : List Loc} {ls : Array Slot} {w : Wd} {v0 : Int32} {v1 : Int32} (C : CX D B Y p s m args meth c cX0_isLineBreak 2 RX0 (some .boolean))     (hH : HS D B Y w s H locs) (hl : lv_has ls 2 [(0, .int v0), (1, .int v1)]) (hf : f_X0_isLineBreak v0 v1 w = some z) : W p l e (RM 0 0 0) s m args below meth c H locs 0 0 (MQ below (QG D B Y (some (.int z.1)) z.2 (isZ z.1)) args s 0 0 (AB B)) (F0 m 0 ls []) := by
  have hx := C.1
  have hb := C.2.1
  unfold f_X0_isLineBreak at hf
  refine lv_iload_n hx hb dX0_isLineBreak_0 rfl (lv_at hl 0 rfl) ?_
  refine lv_iconst (v := (3 : Int32)) hx hb dX0_isLineBreak_1 (by decide) ?_
  refine b_icmp_ne (tgt := 10) hx hb hf dX0_isLineBreak_2 (by decide) (fun hf => ?_) (fun hf => ?_)
  · exact t_X0_isLineBreak_10 C hH (lv_sub hl [0, 1] rfl) hf
  · refine lv_iload_n hx hb dX0_isLineBreak_5 rfl (lv_at hl 1 rfl) ?_
    refine lv_iconst (v := (3 : Int32)) hx hb dX0_isLineBreak_6 (by decide) ?_
    refine b_icmp_ne (tgt := 22) hx hb hf dX0_isLineBreak_7 (by decide) (fun hf => ?_) (fun hf => ?_)
    · refine lv_iconst (v := (1 : Int32)) hx hb dX0_isLineBreak_22 (by decide) ?_
      refine lv_goto (tgt := 27) hx hb dX0_isLineBreak_23 (by decide) ?_
      cases hf
      exact q_retz C hH isZ_1 isZ_1 dX0_isLineBreak_27
    · exact t_X0_isLineBreak_10 C hH (lv_sub hl [0, 1] rfl) hf
set_option maxRecDepth 100000 in
theorem c_X0_isLineBreak {l : Launch} {D : va_G} {B : Nat} {Y : Nat → ClassId} {v0 : Int32} {v1 : Int32} {w : Wd} {r : Int32} {w1 : Wd}   (hf : f_X0_isLineBreak v0 v1 w = some (r, w1)) : CM l D B Y yX0_isLineBreak cX0_isLineBreak 2 (some .boolean) 0 [.int v0, .int v1] w (some (.int r)) w1 (isZ r) :=
  CM_of (by decide +kernel) (Nat.le_of_ble_eq_true rfl) (fun p e s m args below meth c ls C hH hl => t_X0_isLineBreak_0 C  hH (lv_sub hl [0, 1] rfl) hf)
/-! LetterTables$Borders.wordBreaks -/
set_option maxRecDepth 100000 in
set_option maxHeartbeats 4000000 in
theorem t_X0_wordBreaks_106 {D : va_G} {B : Nat} {Y : Nat → ClassId} {p : Program} {l : Launch} {e : Env} {s : State} {m : MethodId} {args : Array Value} {below : List Frame} {meth : Method} {c : Code} {z : (Int64 × Wd)} {H : Heap} {locs : List Loc} {ls : Array Slot} {w : Wd} {v1 : Nat} {v2 : Int32} {v3 : Int64} {v5 : Int64} {v7 : Int64} {v10 : Int32} (C : CX D B Y p s m args meth c cX0_wordBreaks 14 RX0 (some .long))  {rc_23 : Nat × Int32 × Int64 × Int64 × Int64 × Int32 × Int32 × Wd → Option (Int64 × Wd)} (hr_23 : ∀ (v1 : Nat) (v2 : Int32) (v3 : Int64) (v5 : Int64) (v7 : Int64) (v9 : Int32) (v10 : Int32) (w : Wd), rc_23 (v1, v2, v3, v5, v7, v9, v10, w) = some z → KD v1 = 7 → isZ v2 → ∀ (H : Heap) (locs : List Loc) (ls : Array Slot), HS D B Y w s H locs → lv_has ls 14 [(0, .ref (B + 673)), (1, .ref (B + v1)), (2, .int v2), (3, .long v3), (5, .long v5), (7, .long v7), (9, .int v9), (10, .int v10)] → W p l e (RM 6 0 0) s m args below meth c H locs 0 0 (MQ below (QG D B Y (some (.long z.1)) z.2 True) args s 0 0 (AB B)) (F0 m 23 ls []))  (k_v1 : KD v1 = 7) (z_v2 : isZ v2) (hH : HS D B Y w s H locs) (hl : lv_has ls 14 [(0, .ref (B + 673)), (1, .ref (B + v1)), (2, .int v2), (3, .long v3), (5, .long v5), (7, .long v7), (10, .int v10)]) (hf : f_X0_wordBreaks_106 rc_23 v1 v2 v3 v5 v7 v10 w = some z) : W p l e (RM 6 0 0) s m args below meth c H locs 0 0 (MQ below (QG D B Y (some (.long z.1)) z.2 True) args s 0 0 (AB B)) (F0 m 106 ls []) := by
  have hx := C.1
  have hb := C.2.1
  unfold f_X0_wordBreaks_106 at hf
  refine lv_iload hx hb dX0_wordBreaks_106 (lv_at hl 6 rfl) ?_
  refine lv_istore (lv' := [(9, .int v10), (0, .ref (B + 673)), (1, .ref (B + v1)), (2, .int v2), (3, .long v3), (5, .long v5), (7, .long v7), (10, .int v10)]) hx hb dX0_wordBreaks_108 hl (by decide) rfl (fun ls hl => ?_)
  refine b_let hf (fun x1 he hf => ?_)
  refine lv_iinc (v := x1) (lv' := [(10, .int x1), (9, .int v10), (0, .ref (B + 673)), (1, .ref (B + v1)), (2, .int v2), (3, .long v3), (5, .long v5), (7, .long v7)]) hx hb dX0_wordBreaks_110 hl (k := 7) rfl (by rw [← he]; rfl) (by decide) rfl (fun ls hl => ?_)
  refine lv_goto (tgt := 23) hx hb dX0_wordBreaks_113 (by decide) ?_
  exact hr_23 v1 v2 v3 v5 v7 v10 x1 w hf k_v1 z_v2 _ _ _ hH (lv_sub hl [2, 3, 4, 5, 6, 7, 1, 0] rfl)
set_option maxRecDepth 100000 in
set_option maxHeartbeats 4000000 in
theorem t_X0_wordBreaks_97 {D : va_G} {B : Nat} {Y : Nat → ClassId} {p : Program} {l : Launch} {e : Env} {s : State} {m : MethodId} {args : Array Value} {below : List Frame} {meth : Method} {c : Code} {z : (Int64 × Wd)} {H : Heap} {locs : List Loc} {ls : Array Slot} {w : Wd} {v1 : Nat} {v2 : Int32} {v3 : Int64} {v5 : Int64} {v7 : Int64} {v10 : Int32} (C : CX D B Y p s m args meth c cX0_wordBreaks 14 RX0 (some .long))  {rc_23 : Nat × Int32 × Int64 × Int64 × Int64 × Int32 × Int32 × Wd → Option (Int64 × Wd)} (hr_23 : ∀ (v1 : Nat) (v2 : Int32) (v3 : Int64) (v5 : Int64) (v7 : Int64) (v9 : Int32) (v10 : Int32) (w : Wd), rc_23 (v1, v2, v3, v5, v7, v9, v10, w) = some z → KD v1 = 7 → isZ v2 → ∀ (H : Heap) (locs : List Loc) (ls : Array Slot), HS D B Y w s H locs → lv_has ls 14 [(0, .ref (B + 673)), (1, .ref (B + v1)), (2, .int v2), (3, .long v3), (5, .long v5), (7, .long v7), (9, .int v9), (10, .int v10)] → W p l e (RM 6 0 0) s m args below meth c H locs 0 0 (MQ below (QG D B Y (some (.long z.1)) z.2 True) args s 0 0 (AB B)) (F0 m 23 ls []))  (k_v1 : KD v1 = 7) (z_v2 : isZ v2) (hH : HS D B Y w s H locs) (hl : lv_has ls 14 [(0, .ref (B + 673)), (1, .ref (B + v1)), (2, .int v2), (3, .long v3), (5, .long v5), (7, .long v7), (10, .int v10)]) (hf : f_X0_wordBreaks_97 rc_23 v1 v2 v3 v5 v7 v10 w = some z) : W p l e (RM 6 0 0) s m args below meth c H locs 0 0 (MQ below (QG D B Y (some (.long z.1)) z.2 True) args s 0 0 (AB B)) (F0 m 97 ls []) := by
  have hx := C.1
  have hb := C.2.1
  unfold f_X0_wordBreaks_97 at hf
  refine lv_lload hx hb dX0_wordBreaks_97 (lv_at hl 5 rfl) ?_
  refine lv_lconst (v := (1 : Int64)) hx hb dX0_wordBreaks_99 (by decide) ?_
  refine lv_iload hx hb dX0_wordBreaks_100 (lv_at hl 6 rfl) ?_
  refine lv_lshl (v := (1 : Int64) <<< (v10.toInt64 &&& 63)) hx hb dX0_wordBreaks_102 rfl ?_
  refine lv_lor hx hb dX0_wordBreaks_103 ?_
  refine b_letl hf (fun y1 hf => ?_)
  refine lv_lstore (lv' := [(7, .long y1), (0, .ref (B + 673)), (1, .ref (B + v1)), (2, .int v2), (3, .long v3), (5, .long v5), (10, .int v10)]) hx hb dX0_wordBreaks_104 hl (by decide) rfl (fun ls hl => ?_)
  exact t_X0_wordBreaks_106 C hr_23 k_v1 z_v2 hH (lv_sub hl [1, 2, 3, 4, 5, 0, 6] rfl) hf
set_option maxRecDepth 100000 in
set_option maxHeartbeats 4000000 in
theorem tb_X0_wordBreaks_23 {D : va_G} {B : Nat} {Y : Nat → ClassId} {p : Program} {l : Launch} {e : Env} {s : State} {m : MethodId} {args : Array Value} {below : List Frame} {meth : Method} {c : Code} {z : (Int64 × Wd)} {H : Heap} {locs : List Loc} {ls : Array Slot} {w : Wd} {v1 : Nat} {v2 : Int32} {v3 : Int64} {v5 : Int64} {v7 : Int64} {v9 : Int32} {v10 : Int32} (C : CX D B Y p s m args meth c cX0_wordBreaks 14 RX0 (some .long))  {rc_23 : Nat × Int32 × Int64 × Int64 × Int64 × Int32 × Int32 × Wd → Option (Int64 × Wd)} (hr_23 : ∀ (v1 : Nat) (v2 : Int32) (v3 : Int64) (v5 : Int64) (v7 : Int64) (v9 : Int32) (v10 : Int32) (w : Wd), rc_23 (v1, v2, v3, v5, v7, v9, v10, w) = some z → KD v1 = 7 → isZ v2 → ∀ (H : Heap) (locs : List Loc) (ls : Array Slot), HS D B Y w s H locs → lv_has ls 14 [(0, .ref (B + 673)), (1, .ref (B + v1)), (2, .int v2), (3, .long v3), (5, .long v5), (7, .long v7), (9, .int v9), (10, .int v10)] → W p l e (RM 6 0 0) s m args below meth c H locs 0 0 (MQ below (QG D B Y (some (.long z.1)) z.2 True) args s 0 0 (AB B)) (F0 m 23 ls []))  (k_v1 : KD v1 = 7) (z_v2 : isZ v2) (hH : HS D B Y w s H locs) (hl : lv_has ls 14 [(0, .ref (B + 673)), (1, .ref (B + v1)), (2, .int v2), (3, .long v3), (5, .long v5), (7, .long v7), (9, .int v9), (10, .int v10)]) (hf : g_X0_wordBreaks_23 rc_23 v1 v2 v3 v5 v7 v9 v10 w = some z) : W p l e (RM 6 0 0) s m args below meth c H locs 0 0 (MQ below (QG D B Y (some (.long z.1)) z.2 True) args s 0 0 (AB B)) (F0 m 23 ls []) := by
  have hx := C.1
  have hb := C.2.1
  unfold g_X0_wordBreaks_23 at hf
  refine lv_iload hx hb dX0_wordBreaks_23 (lv_at hl 7 rfl) ?_
  refine lv_aload_n hx hb dX0_wordBreaks_25 rfl (lv_at hl 1 rfl) ?_
  obtain ⟨x2, w1, hc, hf⟩ := bd_some hf
  refine q_callV1 (v := .int x2) (As := []) C hH (ci := 7) rfl (by omega) gk_X0_30 yd_X7_size (by omega) (by omega) k_v1 (c_X7_size k_v1 hc) hl.1 rfl (Nat.le_of_ble_eq_true rfl) dX0_wordBreaks_26 xv_00 (fun H locs hH hP => ?_)
  refine b_icmp_ge (tgt := 116) hx hb hf dX0_wordBreaks_29 (by decide) (fun hf => ?_) (fun hf => ?_)
  · refine lv_lload hx hb dX0_wordBreaks_116 (lv_at hl 5 rfl) ?_
    cases hf
    exact q_retl C hH trivial dX0_wordBreaks_118
  · refine lv_lload_n hx hb dX0_wordBreaks_32 rfl (lv_at hl 3 rfl) ?_
    refine lv_iload hx hb dX0_wordBreaks_33 (lv_at hl 7 rfl) ?_
    obtain ⟨x4, w3, hc, hf⟩ := bd_some hf
    refine q_callS1 (v := .int x4) (As := [.long v3, .int v10]) C hH gk_X0_15 yd_X0_isMarked (by omega) (by omega) (c_X0_isMarked hc) hl.1 rfl (Nat.le_of_ble_eq_true rfl) dX0_wordBreaks_35 xv_00 (fun H locs hH z_x4 => ?_)
    refine b_if_ne (tgt := 44) hx hb hf dX0_wordBreaks_38 (by decide) (fun hf => ?_) (fun hf => ?_)
    · refine lv_aload_n hx hb dX0_wordBreaks_44 rfl (lv_at hl 0 rfl) ?_
      refine lv_aload_n hx hb dX0_wordBreaks_45 rfl (lv_at hl 1 rfl) ?_
      refine lv_iload hx hb dX0_wordBreaks_46 (lv_at hl 6 rfl) ?_
      obtain ⟨x6, w5, hc, hf⟩ := bd_some hf
      refine q_callV1 (v := .int x6) (As := [.ref (B + v1), .int v9]) C hH (ci := 0) rfl (by omega) gk_X0_34 yd_X0_kindAt (by omega) (by omega) kc_673 (c_X0_kindAt k_v1 hc) hl.1 rfl (Nat.le_of_ble_eq_true rfl) dX0_wordBreaks_48 xv_00 (fun H locs hH hP => ?_)
      refine lv_istore (lv' := [(11, .int x6), (0, .ref (B + 673)), (1, .ref (B + v1)), (2, .int v2), (3, .long v3), (5, .long v5), (7, .long v7), (9, .int v9), (10, .int v10)]) hx hb dX0_wordBreaks_51 hl (by decide) rfl (fun ls hl => ?_)
      refine lv_aload_n hx hb dX0_wordBreaks_53 rfl (lv_at hl 1 rfl) ?_
      refine lv_aload_n hx hb dX0_wordBreaks_54 rfl (lv_at hl 2 rfl) ?_
      refine lv_iload hx hb dX0_wordBreaks_55 (lv_at hl 8 rfl) ?_
      obtain ⟨x8, w7, hc, hf⟩ := bd_some hf
      refine q_callV1 (v := .int x8) (As := [.ref (B + v1), .int v10]) C hH (ci := 0) rfl (by omega) gk_X0_34 yd_X0_kindAt (by omega) (by omega) kc_673 (c_X0_kindAt k_v1 hc) hl.1 rfl (Nat.le_of_ble_eq_true rfl) dX0_wordBreaks_57 xv_00 (fun H locs hH hP => ?_)
      refine lv_istore (lv' := [(12, .int x8), (11, .int x6), (0, .ref (B + 673)), (1, .ref (B + v1)), (2, .int v2), (3, .long v3), (5, .long v5), (7, .long v7), (9, .int v9), (10, .int v10)]) hx hb dX0_wordBreaks_60 hl (by decide) rfl (fun ls hl => ?_)
      refine lv_iload hx hb dX0_wordBreaks_62 (lv_at hl 1 rfl) ?_
      refine lv_iload hx hb dX0_wordBreaks_64 (lv_at hl 0 rfl) ?_
      refine lv_lload hx hb dX0_wordBreaks_66 (lv_at hl 6 rfl) ?_
      refine lv_iload hx hb dX0_wordBreaks_68 (lv_at hl 9 rfl) ?_
      obtain ⟨x10, w9, hc, hf⟩ := bd_some hf
      refine q_callS1 (v := .int x10) (As := [.long v5, .int v10]) C hH gk_X0_15 yd_X0_isMarked (by omega) (by omega) (c_X0_isMarked hc) hl.1 rfl (Nat.le_of_ble_eq_true rfl) dX0_wordBreaks_70 xv_00 (fun H locs hH z_x10 => ?_)
      obtain ⟨x12, w11, hc, hf⟩ := bd_some hf
      refine q_callS1 (v := .int x12) (As := [.int x6, .int x8, .int x10]) C hH gk_X0_46 yd_X0_isWordBreak (by omega) (by omega) (c_X0_isWordBreak z_x10 hc) hl.1 rfl (Nat.le_of_ble_eq_true rfl) dX0_wordBreaks_73 xv_00 (fun H locs hH z_x12 => ?_)
      refine lv_istore (lv' := [(13, .int x12), (12, .int x8), (11, .int x6), (0, .ref (B + 673)), (1, .ref (B + v1)), (2, .int v2), (3, .long v3), (5, .long v5), (7, .long v7), (9, .int v9), (10, .int v10)]) hx hb dX0_wordBreaks_76 hl (by decide) rfl (fun ls hl => ?_)
      refine lv_iload hx hb dX0_wordBreaks_78 (lv_at hl 0 rfl) ?_
      refine b_if_eq (tgt := 106) hx hb hf dX0_wordBreaks_80 (by decide) (fun hf => ?_) (fun hf => ?_)
      · exact t_X0_wordBreaks_106 C hr_23 k_v1 z_v2 hH (lv_sub hl [3, 4, 5, 6, 7, 8, 10] rfl) hf
      · refine lv_iload_n hx hb dX0_wordBreaks_83 rfl (lv_at hl 5 rfl) ?_
        refine b_if_eq (tgt := 97) hx hb hf dX0_wordBreaks_84 (by decide) (fun hf => ?_) (fun hf => ?_)
        · exact t_X0_wordBreaks_97 C hr_23 k_v1 z_v2 hH (lv_sub hl [3, 4, 5, 6, 7, 8, 10] rfl) hf
        · refine lv_iload hx hb dX0_wordBreaks_87 (lv_at hl 2 rfl) ?_
          refine lv_iload hx hb dX0_wordBreaks_89 (lv_at hl 1 rfl) ?_
          obtain ⟨x14, w13, hc, hf⟩ := bd_some hf
          refine q_callS1 (v := .int x14) (As := [.int x6, .int x8]) C hH gk_X0_50 yd_X0_isLineBreak (by omega) (by omega) (c_X0_isLineBreak hc) hl.1 rfl (Nat.le_of_ble_eq_true rfl) dX0_wordBreaks_91 xv_00 (fun H locs hH z_x14 => ?_)
          refine b_if_eq (tgt := 106) hx hb hf dX0_wordBreaks_94 (by decide) (fun hf => ?_) (fun hf => ?_)
          · exact t_X0_wordBreaks_106 C hr_23 k_v1 z_v2 hH (lv_sub hl [3, 4, 5, 6, 7, 8, 10] rfl) hf
          · exact t_X0_wordBreaks_97 C hr_23 k_v1 z_v2 hH (lv_sub hl [3, 4, 5, 6, 7, 8, 10] rfl) hf
    · refine lv_goto (tgt := 110) hx hb dX0_wordBreaks_41 (by decide) ?_
      refine b_let hf (fun x15 he hf => ?_)
      refine lv_iinc (v := x15) (lv' := [(10, .int x15), (0, .ref (B + 673)), (1, .ref (B + v1)), (2, .int v2), (3, .long v3), (5, .long v5), (7, .long v7), (9, .int v9)]) hx hb dX0_wordBreaks_110 hl (k := 7) rfl (by rw [← he]; rfl) (by decide) rfl (fun ls hl => ?_)
      refine lv_goto (tgt := 23) hx hb dX0_wordBreaks_113 (by decide) ?_
      exact hr_23 v1 v2 v3 v5 v7 v9 x15 w3 hf k_v1 z_v2 _ _ _ hH (lv_sub hl [1, 2, 3, 4, 5, 6, 7, 0] rfl)
set_option maxRecDepth 100000 in
set_option maxHeartbeats 4000000 in
theorem t_X0_wordBreaks_23 {D : va_G} {B : Nat} {Y : Nat → ClassId} {p : Program} {l : Launch} {e : Env} {s : State} {m : MethodId} {args : Array Value} {below : List Frame} {meth : Method} {c : Code} {z : (Int64 × Wd)} {H : Heap} {locs : List Loc} {ls : Array Slot} {w : Wd} {v1 : Nat} {v2 : Int32} {v3 : Int64} {v5 : Int64} {v7 : Int64} {v9 : Int32} {v10 : Int32} (C : CX D B Y p s m args meth c cX0_wordBreaks 14 RX0 (some .long))   (k_v1 : KD v1 = 7) (z_v2 : isZ v2) (hH : HS D B Y w s H locs) (hl : lv_has ls 14 [(0, .ref (B + 673)), (1, .ref (B + v1)), (2, .int v2), (3, .long v3), (5, .long v5), (7, .long v7), (9, .int v9), (10, .int v10)]) (hf : f_X0_wordBreaks_23 v1 v2 v3 v5 v7 v9 v10 w = some z) : W p l e (RM 6 0 0) s m args below meth c H locs 0 0 (MQ below (QG D B Y (some (.long z.1)) z.2 True) args s 0 0 (AB B)) (F0 m 23 ls []) := by
  exact loopN_ind (z := z) (body := fun rc σ => g_X0_wordBreaks_23 rc  σ.1 σ.2.1 σ.2.2.1 σ.2.2.2.1 σ.2.2.2.2.1 σ.2.2.2.2.2.1 σ.2.2.2.2.2.2.1 σ.2.2.2.2.2.2.2)
    (P := fun σ => KD σ.1 = 7 → isZ σ.2.1 → ∀ (H : Heap) (locs : List Loc) (ls : Array Slot), HS D B Y σ.2.2.2.2.2.2.2 s H locs → lv_has ls 14 [(0, .ref (B + 673)), (1, .ref (B + σ.1)), (2, .int σ.2.1), (3, .long σ.2.2.1), (5, .long σ.2.2.2.1), (7, .long σ.2.2.2.2.1), (9, .int σ.2.2.2.2.2.1), (10, .int σ.2.2.2.2.2.2.1)] → W p l e (RM 6 0 0) s m args below meth c H locs 0 0 (MQ below (QG D B Y (some (.long z.1)) z.2 True) args s 0 0 (AB B)) (F0 m 23 ls []))
    (fun rc hrec σ hf k_v1 z_v2 H locs ls hH hl => tb_X0_wordBreaks_23 C (fun v1 v2 v3 v5 v7 v9 v10 w hr k_v1 z_v2 H locs ls hH hl => hrec (v1, v2, v3, v5, v7, v9, v10, w) hr k_v1 z_v2 H locs ls hH hl)  k_v1 z_v2 hH hl hf) FU (v1, v2, v3, v5, v7, v9, v10, w) hf k_v1 z_v2 H locs ls hH hl
set_option maxRecDepth 100000 in
set_option maxHeartbeats 4000000 in
theorem t_X0_wordBreaks_0 {D : va_G} {B : Nat} {Y : Nat → ClassId} {p : Program} {l : Launch} {e : Env} {s : State} {m : MethodId} {args : Array Value} {below : List Frame} {meth : Method} {c : Code} {z : (Int64 × Wd)} {H : Heap} {locs : List Loc} {ls : Array Slot} {w : Wd} {v1 : Nat} {v2 : Int32} (C : CX D B Y p s m args meth c cX0_wordBreaks 14 RX0 (some .long))   (k_v1 : KD v1 = 7) (z_v2 : isZ v2) (hH : HS D B Y w s H locs) (hl : lv_has ls 14 [(0, .ref (B + 673)), (1, .ref (B + v1)), (2, .int v2)]) (hf : f_X0_wordBreaks v1 v2 w = some z) : W p l e (RM 6 0 0) s m args below meth c H locs 0 0 (MQ below (QG D B Y (some (.long z.1)) z.2 True) args s 0 0 (AB B)) (F0 m 0 ls []) := by
  have hx := C.1
  have hb := C.2.1
  unfold f_X0_wordBreaks at hf
  refine lv_aload_n hx hb dX0_wordBreaks_0 rfl (lv_at hl 0 rfl) ?_
  refine lv_aload_n hx hb dX0_wordBreaks_1 rfl (lv_at hl 1 rfl) ?_
  obtain ⟨y2, w1, hc, hf⟩ := bd_some hf
  refine q_callV1 (v := .long y2) (As := [.ref (B + v1)]) C hH (ci := 0) rfl (by omega) gk_X0_38 yd_X0_clusterBreaks (by omega) (by omega) kc_673 (c_X0_clusterBreaks k_v1 hc) hl.1 rfl (Nat.le_of_ble_eq_true rfl) dX0_wordBreaks_2 xv_00 (fun H locs hH hP => ?_)
  refine lv_lstore_n (lv' := [(3, .long y2), (0, .ref (B + 673)), (1, .ref (B + v1)), (2, .int v2)]) hx hb dX0_wordBreaks_5 rfl hl (by decide) rfl (fun ls hl => ?_)
  refine lv_aload_n hx hb dX0_wordBreaks_6 rfl (lv_at hl 1 rfl) ?_
  refine lv_aload_n hx hb dX0_wordBreaks_7 rfl (lv_at hl 2 rfl) ?_
  refine lv_lload_n hx hb dX0_wordBreaks_8 rfl (lv_at hl 0 rfl) ?_
  obtain ⟨y4, w3, hc, hf⟩ := bd_some hf
  refine q_callV1 (v := .long y4) (As := [.ref (B + v1), .long y2]) C hH (ci := 0) rfl (by omega) gk_X0_42 yd_X0_seamlessEnds (by omega) (by omega) kc_673 (c_X0_seamlessEnds k_v1 hc) hl.1 rfl (Nat.le_of_ble_eq_true rfl) dX0_wordBreaks_9 xv_00 (fun H locs hH hP => ?_)
  refine lv_lstore (lv' := [(5, .long y4), (3, .long y2), (0, .ref (B + 673)), (1, .ref (B + v1)), (2, .int v2)]) hx hb dX0_wordBreaks_12 hl (by decide) rfl (fun ls hl => ?_)
  refine lv_lconst (v := (0 : Int64)) hx hb dX0_wordBreaks_14 (by decide) ?_
  refine lv_lstore (lv' := [(7, .long (0 : Int64)), (5, .long y4), (3, .long y2), (0, .ref (B + 673)), (1, .ref (B + v1)), (2, .int v2)]) hx hb dX0_wordBreaks_15 hl (by decide) rfl (fun ls hl => ?_)
  refine lv_iconst (v := (0 : Int32)) hx hb dX0_wordBreaks_17 (by decide) ?_
  refine lv_istore (lv' := [(9, .int (0 : Int32)), (7, .long (0 : Int64)), (5, .long y4), (3, .long y2), (0, .ref (B + 673)), (1, .ref (B + v1)), (2, .int v2)]) hx hb dX0_wordBreaks_18 hl (by decide) rfl (fun ls hl => ?_)
  refine lv_iconst (v := (1 : Int32)) hx hb dX0_wordBreaks_20 (by decide) ?_
  refine lv_istore (lv' := [(10, .int (1 : Int32)), (9, .int (0 : Int32)), (7, .long (0 : Int64)), (5, .long y4), (3, .long y2), (0, .ref (B + 673)), (1, .ref (B + v1)), (2, .int v2)]) hx hb dX0_wordBreaks_21 hl (by decide) rfl (fun ls hl => ?_)
  exact t_X0_wordBreaks_23 C k_v1 z_v2 hH (lv_sub hl [5, 6, 7, 4, 3, 2, 1, 0] rfl) hf
set_option maxRecDepth 100000 in
theorem c_X0_wordBreaks {l : Launch} {D : va_G} {B : Nat} {Y : Nat → ClassId} {v1 : Nat} {v2 : Int32} {w : Wd} {r : Int64} {w1 : Wd} (k_v1 : KD v1 = 7) (z_v2 : isZ v2) (hf : f_X0_wordBreaks v1 v2 w = some (r, w1)) : CM l D B Y yX0_wordBreaks cX0_wordBreaks 14 (some .long) 6 [.ref (B + 673), .ref (B + v1), .int v2] w (some (.long r)) w1 True :=
  CM_of (by decide +kernel) (Nat.le_of_ble_eq_true rfl) (fun p e s m args below meth c ls C hH hl => t_X0_wordBreaks_0 C k_v1 z_v2 hH (lv_sub hl [0, 1, 2] rfl) hf)
/-! LetterTables.breaks -/
set_option maxRecDepth 100000 in
set_option maxHeartbeats 4000000 in
theorem t_X10_breaks_43 {D : va_G} {B : Nat} {Y : Nat → ClassId} {p : Program} {l : Launch} {e : Env} {s : State} {m : MethodId} {args : Array Value} {below : List Frame} {meth : Method} {c : Code} {z : ((Nat ⊕ Int64) × Wd)} {H : Heap} {locs : List Loc} {ls : Array Slot} {w : Wd} {t1 : Nat} {t2 : Int32} (C : CX D B Y p s m args meth c cX10_breaks 4 RX10 (some .long)) (hxt : ∀ x ∈ c.exceptionTable.toList, False) (htr : l.stackTraces = false)   (k_t1 : KD t1 = 7) (z_t2 : isZ t2) (hH : HS D B Y w s H locs) (hl : lv_has ls 4 []) (hf : f_X10_breaks_43 t1 t2 w = some z) : W p l e (RM 7 (xv (zoL z.1)) (6 * xv (zoL z.1))) s m args below meth c H locs 0 0 (vx_MQ below (QX D B Y (zoL z.1) z.2 True) (XX D B Y (zoL z.1) z.2) args s (xv (zoL z.1)) (6 * xv (zoL z.1)) (AB B)) (F0 m 43 ls [.int t2, .ref (B + t1), .ref (B + 673)]) := by
  have hx := C.1
  have hb := C.2.1
  unfold f_X10_breaks_43 at hf
  obtain ⟨y2, w1, hc, hf⟩ := bd_some hf
  refine q_callV1 (v := .long y2) (As := [.ref (B + t1), .int t2]) C hH (ci := 0) rfl (by omega) gk_X10_289 yd_X0_wordBreaks (by omega) (by omega) kc_673 (c_X0_wordBreaks k_t1 z_t2 hc) hl.1 rfl (Nat.le_of_ble_eq_true rfl) dX10_breaks_43 xv_00 (fun H locs hH hP => ?_)
  cases hf
  exact q_x0 rfl (q_retl C hH trivial dX10_breaks_46)
set_option maxRecDepth 100000 in
set_option maxHeartbeats 4000000 in
theorem t_X10_breaks_0 {D : va_G} {B : Nat} {Y : Nat → ClassId} {p : Program} {l : Launch} {e : Env} {s : State} {m : MethodId} {args : Array Value} {below : List Frame} {meth : Method} {c : Code} {z : ((Nat ⊕ Int64) × Wd)} {H : Heap} {locs : List Loc} {ls : Array Slot} {w : Wd} {v1 : Int32} {v2 : Int32} (C : CX D B Y p s m args meth c cX10_breaks 4 RX10 (some .long)) (hxt : ∀ x ∈ c.exceptionTable.toList, False) (htr : l.stackTraces = false)     (hH : HS D B Y w s H locs) (hl : lv_has ls 4 [(0, .ref (B + 0)), (1, .int v1), (2, .int v2)]) (hf : f_X10_breaks v1 v2 w = some z) : W p l e (RM 7 (xv (zoL z.1)) (6 * xv (zoL z.1))) s m args below meth c H locs 0 0 (vx_MQ below (QX D B Y (zoL z.1) z.2 True) (XX D B Y (zoL z.1) z.2) args s (xv (zoL z.1)) (6 * xv (zoL z.1)) (AB B)) (F0 m 0 ls []) := by
  have hx := C.1
  have hb := C.2.1
  unfold f_X10_breaks at hf
  refine lv_aload_n hx hb dX10_breaks_0 rfl (lv_at hl 0 rfl) ?_
  refine lv_iload_n hx hb dX10_breaks_1 rfl (lv_at hl 1 rfl) ?_
  rcases bdx_some hf with ⟨k, w1, hc, rfl⟩ | ⟨r2, w1, hc, hf⟩
  · exact q_xrunX (k0 := k) (q_xV (As := [.int v1]) C hH (ci := 10) rfl (by omega) gk_X10_194 yd_X10_textOf (by omega) (by omega) kc_0 (c_X10_textOf (r := .inl k) htr hc) hl.1 rfl (Nat.le_of_ble_eq_true rfl) dX10_breaks_2 (xv_le rfl)) hH (fun H locs ce q hH h1 h2 h3 => q_out C hH hxt h1 h2 h3 (xv_1 rfl) (xv_6 rfl))
  refine q_xrun (ov := some (.ref (B + r2))) (q_xV (As := [.int v1]) C hH (ci := 10) rfl (by omega) gk_X10_194 yd_X10_textOf (by omega) (by omega) kc_0 (c_X10_textOf (r := .inr r2) htr hc) hl.1 rfl (Nat.le_of_ble_eq_true rfl) dX10_breaks_2 (xv_0 rfl xv_00)) hH (fun H locs hH k_r2 => ?_)
  refine lv_astore_n (lv' := [(3, .ref (B + r2)), (0, .ref (B + 0)), (1, .int v1), (2, .int v2)]) hx hb dX10_breaks_5 rfl hl (by decide) rfl (fun ls hl => ?_)
  refine lv_iload_n hx hb dX10_breaks_6 rfl (lv_at hl 3 rfl) ?_
  refine lv_iconst (v := (0 : Int32)) hx hb dX10_breaks_7 (by decide) ?_
  refine lv_iconst (v := (2 : Int32)) hx hb dX10_breaks_8 (by decide) ?_
  obtain ⟨x4, w3, hc, hf⟩ := bd_some hf
  refine q_callS1 (v := .int x4) (As := [.int v2, .int (0 : Int32), .int (2 : Int32)]) C hH gk_X10_99 yd_X10_isWithin (by omega) (by omega) (c_X10_isWithin hc) hl.1 rfl (Nat.le_of_ble_eq_true rfl) dX10_breaks_9 xv_00 (fun H locs hH z_x4 => ?_)
  rcases bdx_some hf with ⟨k, w5, hc, rfl⟩ | ⟨u, w5, hc, hf⟩
  · exact q_xrunX (k0 := k) (q_xS (As := [.int x4]) C hH gk_X10_103 yd_X10_checkArgument (by omega) (by omega) (c_X10_checkArgument (r := .inl k) htr z_x4 hc) hl.1 rfl (Nat.le_of_ble_eq_true rfl) dX10_breaks_12 (xv_le rfl)) hH (fun H locs ce q hH h1 h2 h3 => q_out C hH hxt h1 h2 h3 (xv_1 rfl) (xv_6 rfl))
  refine q_xrun (ov := none) (q_xS (As := [.int x4]) C hH gk_X10_103 yd_X10_checkArgument (by omega) (by omega) (c_X10_checkArgument (r := .inr u) htr z_x4 hc) hl.1 rfl (Nat.le_of_ble_eq_true rfl) dX10_breaks_12 (xv_0 rfl xv_00)) hH (fun H locs hH hP => ?_)
  refine lv_iload_n hx hb dX10_breaks_15 rfl (lv_at hl 3 rfl) ?_
  refine b_if_ne (tgt := 28) hx hb hf dX10_breaks_16 (by decide) (fun hf => ?_) (fun hf => ?_)
  · refine lv_aload_n hx hb dX10_breaks_28 rfl (lv_at hl 1 rfl) ?_
    refine fg_X10_55 C hH dX10_breaks_29 ?_
    refine lv_aload_n hx hb dX10_breaks_32 rfl (lv_at hl 0 rfl) ?_
    refine lv_iload_n hx hb dX10_breaks_33 rfl (lv_at hl 3 rfl) ?_
    refine lv_iconst (v := (2 : Int32)) hx hb dX10_breaks_34 (by decide) ?_
    refine b_icmp_ne (tgt := 42) hx hb hf dX10_breaks_35 (by decide) (fun hf => ?_) (fun hf => ?_)
    · refine lv_iconst (v := (0 : Int32)) hx hb dX10_breaks_42 (by decide) ?_
      exact t_X10_breaks_43 C hxt htr k_r2 isZ_0 hH (lv_sub hl [] rfl) hf
    · refine lv_iconst (v := (1 : Int32)) hx hb dX10_breaks_38 (by decide) ?_
      refine lv_goto (tgt := 43) hx hb dX10_breaks_39 (by decide) ?_
      exact t_X10_breaks_43 C hxt htr k_r2 isZ_1 hH (lv_sub hl [] rfl) hf
  · refine lv_aload_n hx hb dX10_breaks_19 rfl (lv_at hl 1 rfl) ?_
    refine fg_X10_55 C hH dX10_breaks_20 ?_
    refine lv_aload_n hx hb dX10_breaks_23 rfl (lv_at hl 0 rfl) ?_
    obtain ⟨y7, w6, hc, hf⟩ := bd_some hf
    refine q_callV1 (v := .long y7) (As := [.ref (B + r2)]) C hH (ci := 0) rfl (by omega) gk_X10_278 yd_X0_clusterBreaks (by omega) (by omega) kc_673 (c_X0_clusterBreaks k_r2 hc) hl.1 rfl (Nat.le_of_ble_eq_true rfl) dX10_breaks_24 xv_00 (fun H locs hH hP => ?_)
    cases hf
    exact q_x0 rfl (q_retl C hH trivial dX10_breaks_27)
set_option maxRecDepth 100000 in
theorem c_X10_breaks {l : Launch} {D : va_G} {B : Nat} {Y : Nat → ClassId} {v1 : Int32} {v2 : Int32} {w : Wd} {r : (Nat ⊕ Int64)} {w1 : Wd} (htr : l.stackTraces = false)   (hf : f_X10_breaks v1 v2 w = some (r, w1)) : XM l D B Y yX10_breaks cX10_breaks 4 (some .long) 7 [.ref (B + 0), .int v1, .int v2] w (zoL r) w1 True :=
  XM_of (by decide +kernel) (Nat.le_of_ble_eq_true rfl) (fun p e s m args below meth c ls C hxt hH hl => t_X10_breaks_0 C hxt htr  hH (lv_sub hl [0, 1, 2] rfl) hf)
