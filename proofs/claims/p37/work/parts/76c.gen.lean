/-! LetterTables$Levels.layFrames -/
set_option maxRecDepth 100000 in
set_option maxHeartbeats 4000000 in
theorem t_X3_layFrames_105 {D : va_G} {B : Nat} {Y : Nat → ClassId} {p : Program} {l : Launch} {e : Env} {s : State} {m : MethodId} {args : Array Value} {below : List Frame} {meth : Method} {c : Code} {z : (Unit × Wd)} {H : Heap} {locs : List Loc} {ls : Array Slot} {w : Wd} {v1 : Nat} {v3 : Int32} {v4 : Int32} {v5 : Int32} (C : CX D B Y p s m args meth c cX3_layFrames 6 RX3 none)  {rc_43 : Nat × Int32 × Int32 × Wd → Option (Unit × Wd)} (hr_43 : ∀ (v1 : Nat) (v3 : Int32) (v4 : Int32) (w : Wd), rc_43 (v1, v3, v4, w) = some z → KD v1 = 7 → ∀ (H : Heap) (locs : List Loc) (ls : Array Slot), HS D B Y w s H locs → lv_has ls 6 [(0, .ref (B + 650)), (1, .ref (B + v1)), (3, .int v3), (4, .int v4)] → W p l e (RM 4 0 0) s m args below meth c H locs 0 0 (MQ below (QG D B Y none z.2 True) args s 0 0 (AB B)) (F0 m 43 ls []))  (k_v1 : KD v1 = 7)  (hH : HS D B Y w s H locs) (hl : lv_has ls 6 [(0, .ref (B + 650)), (1, .ref (B + v1)), (3, .int v3), (4, .int v4), (5, .int v5)]) (hf : f_X3_layFrames_105 rc_43 v1 v3 v4 v5 w = some z) : W p l e (RM 4 0 0) s m args below meth c H locs 0 0 (MQ below (QG D B Y none z.2 True) args s 0 0 (AB B)) (F0 m 105 ls []) := by
  have hx := C.1
  have hb := C.2.1
  unfold f_X3_layFrames_105 at hf
  refine lv_aload_n hx hb dX3_layFrames_105 rfl (lv_at hl 0 rfl) ?_
  refine lv_aload_n hx hb dX3_layFrames_106 rfl (lv_at hl 0 rfl) ?_
  refine lv_aload_n hx hb dX3_layFrames_107 rfl (lv_at hl 1 rfl) ?_
  refine lv_iload hx hb dX3_layFrames_108 (lv_at hl 3 rfl) ?_
  refine lv_iload hx hb dX3_layFrames_110 (lv_at hl 4 rfl) ?_
  refine lv_iload_n hx hb dX3_layFrames_112 rfl (lv_at hl 2 rfl) ?_
  obtain ⟨x2, w1, hc, hf⟩ := bd_some hf
  refine q_callV1 (v := .int x2) (As := [.ref (B + v1), .int v4, .int v5, .int v3]) C hH (ci := 3) rfl (by omega) gk_X3_117 yd_X3_levelWithin (by omega) (by omega) kc_650 (c_X3_levelWithin k_v1 hc) hl.1 rfl (Nat.le_of_ble_eq_true rfl) dX3_layFrames_113 xv_00 (fun H locs hH hP => ?_)
  refine lv_iload_n hx hb dX3_layFrames_116 rfl (lv_at hl 2 rfl) ?_
  refine lv_iload hx hb dX3_layFrames_117 (lv_at hl 4 rfl) ?_
  obtain ⟨x4, w3, hc, hf⟩ := bd_some hf
  refine q_callV1 (v := .int x4) (As := [.int x2, .int v3, .int v5]) C hH (ci := 3) rfl (by omega) gk_X3_104 yd_X3_addFrame (by omega) (by omega) kc_650 (c_X3_addFrame hc) hl.1 rfl (Nat.le_of_ble_eq_true rfl) dX3_layFrames_119 xv_00 (fun H locs hH hP => ?_)
  refine lv_istore_n (lv' := [(3, .int x4), (0, .ref (B + 650)), (1, .ref (B + v1)), (4, .int v4), (5, .int v5)]) hx hb dX3_layFrames_122 rfl hl (by decide) rfl (fun ls hl => ?_)
  refine lv_goto (tgt := 156) hx hb dX3_layFrames_123 (by decide) ?_
  refine b_let hf (fun x5 he hf => ?_)
  refine lv_iinc (v := x5) (lv' := [(4, .int x5), (3, .int x4), (0, .ref (B + 650)), (1, .ref (B + v1)), (5, .int v5)]) hx hb dX3_layFrames_156 hl (k := 3) rfl (by rw [← he]; rfl) (by decide) rfl (fun ls hl => ?_)
  refine lv_goto (tgt := 43) hx hb dX3_layFrames_159 (by decide) ?_
  exact hr_43 v1 x4 x5 w3 hf k_v1 _ _ _ hH (lv_sub hl [2, 3, 1, 0] rfl)
set_option maxRecDepth 100000 in
set_option maxHeartbeats 4000000 in
theorem t_X3_layFrames_80 {D : va_G} {B : Nat} {Y : Nat → ClassId} {p : Program} {l : Launch} {e : Env} {s : State} {m : MethodId} {args : Array Value} {below : List Frame} {meth : Method} {c : Code} {z : (Unit × Wd)} {H : Heap} {locs : List Loc} {ls : Array Slot} {w : Wd} {v1 : Nat} {v3 : Int32} {v4 : Int32} {v5 : Int32} (C : CX D B Y p s m args meth c cX3_layFrames 6 RX3 none)  {rc_43 : Nat × Int32 × Int32 × Wd → Option (Unit × Wd)} (hr_43 : ∀ (v1 : Nat) (v3 : Int32) (v4 : Int32) (w : Wd), rc_43 (v1, v3, v4, w) = some z → KD v1 = 7 → ∀ (H : Heap) (locs : List Loc) (ls : Array Slot), HS D B Y w s H locs → lv_has ls 6 [(0, .ref (B + 650)), (1, .ref (B + v1)), (3, .int v3), (4, .int v4)] → W p l e (RM 4 0 0) s m args below meth c H locs 0 0 (MQ below (QG D B Y none z.2 True) args s 0 0 (AB B)) (F0 m 43 ls []))  (k_v1 : KD v1 = 7)  (hH : HS D B Y w s H locs) (hl : lv_has ls 6 [(0, .ref (B + 650)), (1, .ref (B + v1)), (3, .int v3), (4, .int v4), (5, .int v5)]) (hf : f_X3_layFrames_80 rc_43 v1 v3 v4 v5 w = some z) : W p l e (RM 4 0 0) s m args below meth c H locs 0 0 (MQ below (QG D B Y none z.2 True) args s 0 0 (AB B)) (F0 m 80 ls []) := by
  have hx := C.1
  have hb := C.2.1
  unfold f_X3_layFrames_80 at hf
  refine lv_aload_n hx hb dX3_layFrames_80 rfl (lv_at hl 0 rfl) ?_
  refine fg_X3_20 C hH dX3_layFrames_81 ?_
  refine lv_iload_n hx hb dX3_layFrames_84 rfl (lv_at hl 2 rfl) ?_
  obtain ⟨x2, w1, hc, hf⟩ := bd_some hf
  refine q_callV1 (v := .int x2) (As := [.int v3]) C hH (ci := 7) rfl (by omega) gk_X3_111 yd_X7_add (by omega) (by omega) kc_651 (c_X7_add kc_651 hc) hl.1 rfl (Nat.le_of_ble_eq_true rfl) dX3_layFrames_85 xv_00 (fun H locs hH z_x2 => ?_)
  refine lv_pop hx hb dX3_layFrames_88 rfl ?_
  refine lv_iload hx hb dX3_layFrames_89 (lv_at hl 4 rfl) ?_
  obtain ⟨x4, w3, hc, hf⟩ := bd_some hf
  refine q_callS1 (v := .int x4) (As := [.int v5]) C hH gk_X3_114 yd_X3_isEmbed (by omega) (by omega) (c_X3_isEmbed hc) hl.1 rfl (Nat.le_of_ble_eq_true rfl) dX3_layFrames_91 xv_00 (fun H locs hH z_x4 => ?_)
  refine b_if_ne (tgt := 105) hx hb hf dX3_layFrames_94 (by decide) (fun hf => ?_) (fun hf => ?_)
  · exact t_X3_layFrames_105 C hr_43 k_v1 hH (lv_sub hl [0, 1, 2, 3, 4] rfl) hf
  · refine lv_iload hx hb dX3_layFrames_97 (lv_at hl 4 rfl) ?_
    obtain ⟨x6, w5, hc, hf⟩ := bd_some hf
    refine q_callS1 (v := .int x6) (As := [.int v5]) C hH gk_X3_67 yd_X3_isIsolate (by omega) (by omega) (c_X3_isIsolate hc) hl.1 rfl (Nat.le_of_ble_eq_true rfl) dX3_layFrames_99 xv_00 (fun H locs hH z_x6 => ?_)
    refine b_if_eq (tgt := 126) hx hb hf dX3_layFrames_102 (by decide) (fun hf => ?_) (fun hf => ?_)
    · refine lv_iload hx hb dX3_layFrames_126 (lv_at hl 4 rfl) ?_
      refine lv_bipush (v := (6 : Int32)) hx hb dX3_layFrames_128 (by decide) ?_
      refine b_icmp_ne (tgt := 156) hx hb hf dX3_layFrames_130 (by decide) (fun hf => ?_) (fun hf => ?_)
      · refine b_let hf (fun x7 he hf => ?_)
        refine lv_iinc (v := x7) (lv' := [(4, .int x7), (0, .ref (B + 650)), (1, .ref (B + v1)), (3, .int v3), (5, .int v5)]) hx hb dX3_layFrames_156 hl (k := 3) rfl (by rw [← he]; rfl) (by decide) rfl (fun ls hl => ?_)
        refine lv_goto (tgt := 43) hx hb dX3_layFrames_159 (by decide) ?_
        exact hr_43 v1 v3 x7 w5 hf k_v1 _ _ _ hH (lv_sub hl [1, 2, 3, 0] rfl)
      · refine lv_aload_n hx hb dX3_layFrames_133 rfl (lv_at hl 0 rfl) ?_
        refine fg_X3_30 C hH dX3_layFrames_134 ?_
        refine lv_iload_n hx hb dX3_layFrames_137 rfl (lv_at hl 2 rfl) ?_
        obtain ⟨x9, w8, hc, hf⟩ := bd_some hf
        refine q_callV1 (v := .int x9) (As := [.int v3]) C hH (ci := 7) rfl (by omega) gk_X3_58 yd_X7_get (by omega) (by omega) kc_657 (c_X7_get kc_657 hc) hl.1 rfl (Nat.le_of_ble_eq_true rfl) dX3_layFrames_138 xv_00 (fun H locs hH hP => ?_)
        obtain ⟨x11, w10, hc, hf⟩ := bd_some hf
        refine q_callS1 (v := .int x11) (As := [.int x9]) C hH gk_X3_114 yd_X3_isEmbed (by omega) (by omega) (c_X3_isEmbed hc) hl.1 rfl (Nat.le_of_ble_eq_true rfl) dX3_layFrames_141 xv_00 (fun H locs hH z_x11 => ?_)
        refine b_if_eq (tgt := 156) hx hb hf dX3_layFrames_144 (by decide) (fun hf => ?_) (fun hf => ?_)
        · refine b_let hf (fun x12 he hf => ?_)
          refine lv_iinc (v := x12) (lv' := [(4, .int x12), (0, .ref (B + 650)), (1, .ref (B + v1)), (3, .int v3), (5, .int v5)]) hx hb dX3_layFrames_156 hl (k := 3) rfl (by rw [← he]; rfl) (by decide) rfl (fun ls hl => ?_)
          refine lv_goto (tgt := 43) hx hb dX3_layFrames_159 (by decide) ?_
          exact hr_43 v1 v3 x12 w10 hf k_v1 _ _ _ hH (lv_sub hl [1, 2, 3, 0] rfl)
        · refine lv_aload_n hx hb dX3_layFrames_147 rfl (lv_at hl 0 rfl) ?_
          refine fg_X3_27 C hH dX3_layFrames_148 ?_
          refine lv_iload_n hx hb dX3_layFrames_151 rfl (lv_at hl 2 rfl) ?_
          obtain ⟨x14, w13, hc, hf⟩ := bd_some hf
          refine q_callV1 (v := .int x14) (As := [.int v3]) C hH (ci := 7) rfl (by omega) gk_X3_58 yd_X7_get (by omega) (by omega) kc_655 (c_X7_get kc_655 hc) hl.1 rfl (Nat.le_of_ble_eq_true rfl) dX3_layFrames_152 xv_00 (fun H locs hH hP => ?_)
          refine lv_istore_n (lv' := [(3, .int x14), (0, .ref (B + 650)), (1, .ref (B + v1)), (4, .int v4), (5, .int v5)]) hx hb dX3_layFrames_155 rfl hl (by decide) rfl (fun ls hl => ?_)
          refine b_let hf (fun x15 he hf => ?_)
          refine lv_iinc (v := x15) (lv' := [(4, .int x15), (3, .int x14), (0, .ref (B + 650)), (1, .ref (B + v1)), (5, .int v5)]) hx hb dX3_layFrames_156 hl (k := 3) rfl (by rw [← he]; rfl) (by decide) rfl (fun ls hl => ?_)
          refine lv_goto (tgt := 43) hx hb dX3_layFrames_159 (by decide) ?_
          exact hr_43 v1 x14 x15 w13 hf k_v1 _ _ _ hH (lv_sub hl [2, 3, 1, 0] rfl)
    · exact t_X3_layFrames_105 C hr_43 k_v1 hH (lv_sub hl [0, 1, 2, 3, 4] rfl) hf
set_option maxRecDepth 100000 in
set_option maxHeartbeats 4000000 in
theorem tb_X3_layFrames_43 {D : va_G} {B : Nat} {Y : Nat → ClassId} {p : Program} {l : Launch} {e : Env} {s : State} {m : MethodId} {args : Array Value} {below : List Frame} {meth : Method} {c : Code} {z : (Unit × Wd)} {H : Heap} {locs : List Loc} {ls : Array Slot} {w : Wd} {v1 : Nat} {v3 : Int32} {v4 : Int32} (C : CX D B Y p s m args meth c cX3_layFrames 6 RX3 none)  {rc_43 : Nat × Int32 × Int32 × Wd → Option (Unit × Wd)} (hr_43 : ∀ (v1 : Nat) (v3 : Int32) (v4 : Int32) (w : Wd), rc_43 (v1, v3, v4, w) = some z → KD v1 = 7 → ∀ (H : Heap) (locs : List Loc) (ls : Array Slot), HS D B Y w s H locs → lv_has ls 6 [(0, .ref (B + 650)), (1, .ref (B + v1)), (3, .int v3), (4, .int v4)] → W p l e (RM 4 0 0) s m args below meth c H locs 0 0 (MQ below (QG D B Y none z.2 True) args s 0 0 (AB B)) (F0 m 43 ls []))  (k_v1 : KD v1 = 7)  (hH : HS D B Y w s H locs) (hl : lv_has ls 6 [(0, .ref (B + 650)), (1, .ref (B + v1)), (3, .int v3), (4, .int v4)]) (hf : g_X3_layFrames_43 rc_43 v1 v3 v4 w = some z) : W p l e (RM 4 0 0) s m args below meth c H locs 0 0 (MQ below (QG D B Y none z.2 True) args s 0 0 (AB B)) (F0 m 43 ls []) := by
  have hx := C.1
  have hb := C.2.1
  unfold g_X3_layFrames_43 at hf
  refine lv_iload hx hb dX3_layFrames_43 (lv_at hl 3 rfl) ?_
  refine lv_aload_n hx hb dX3_layFrames_45 rfl (lv_at hl 1 rfl) ?_
  obtain ⟨x2, w1, hc, hf⟩ := bd_some hf
  refine q_callV1 (v := .int x2) (As := []) C hH (ci := 7) rfl (by omega) gk_X3_54 yd_X7_size (by omega) (by omega) k_v1 (c_X7_size k_v1 hc) hl.1 rfl (Nat.le_of_ble_eq_true rfl) dX3_layFrames_46 xv_00 (fun H locs hH hP => ?_)
  refine b_icmp_ge (tgt := 162) hx hb hf dX3_layFrames_49 (by decide) (fun hf => ?_) (fun hf => ?_)
  · cases hf
    exact q_retv C hH trivial dX3_layFrames_162
  · refine lv_aload_n hx hb dX3_layFrames_52 rfl (lv_at hl 0 rfl) ?_
    refine fg_X3_9 C hH dX3_layFrames_53 ?_
    refine lv_aload_n hx hb dX3_layFrames_56 rfl (lv_at hl 1 rfl) ?_
    refine lv_iload hx hb dX3_layFrames_57 (lv_at hl 3 rfl) ?_
    obtain ⟨x4, w3, hc, hf⟩ := bd_some hf
    refine q_callV1 (v := .int x4) (As := [.int v4]) C hH (ci := 7) rfl (by omega) gk_X3_58 yd_X7_get (by omega) (by omega) k_v1 (c_X7_get k_v1 hc) hl.1 rfl (Nat.le_of_ble_eq_true rfl) dX3_layFrames_59 xv_00 (fun H locs hH hP => ?_)
    obtain ⟨x6, w5, hc, hf⟩ := bd_some hf
    refine q_callV1 (v := .int x6) (As := [.int x4]) C hH (ci := 9) rfl (by omega) gk_X3_62 yd_X9_directionOf (by omega) (by omega) kc_1 (c_X9_directionOf kc_1 hc) hl.1 rfl (Nat.le_of_ble_eq_true rfl) dX3_layFrames_62 xv_00 (fun H locs hH hP => ?_)
    refine lv_istore (lv' := [(5, .int x6), (0, .ref (B + 650)), (1, .ref (B + v1)), (3, .int v3), (4, .int v4)]) hx hb dX3_layFrames_65 hl (by decide) rfl (fun ls hl => ?_)
    refine lv_iload hx hb dX3_layFrames_67 (lv_at hl 0 rfl) ?_
    refine lv_bipush (v := (10 : Int32)) hx hb dX3_layFrames_69 (by decide) ?_
    refine b_icmp_ne (tgt := 80) hx hb hf dX3_layFrames_71 (by decide) (fun hf => ?_) (fun hf => ?_)
    · exact t_X3_layFrames_80 C hr_43 k_v1 hH (lv_sub hl [1, 2, 3, 4, 0] rfl) hf
    · refine lv_aload_n hx hb dX3_layFrames_74 rfl (lv_at hl 1 rfl) ?_
      refine lv_iload_n hx hb dX3_layFrames_75 rfl (lv_at hl 3 rfl) ?_
      obtain ⟨x8, w7, hc, hf⟩ := bd_some hf
      refine q_callV1 (v := .int x8) (As := [.int v3]) C hH (ci := 3) rfl (by omega) gk_X3_108 yd_X3_aroundIsolate (by omega) (by omega) kc_650 (c_X3_aroundIsolate hc) hl.1 rfl (Nat.le_of_ble_eq_true rfl) dX3_layFrames_76 xv_00 (fun H locs hH hP => ?_)
      refine lv_istore_n (lv' := [(3, .int x8), (5, .int x6), (0, .ref (B + 650)), (1, .ref (B + v1)), (4, .int v4)]) hx hb dX3_layFrames_79 rfl hl (by decide) rfl (fun ls hl => ?_)
      exact t_X3_layFrames_80 C hr_43 k_v1 hH (lv_sub hl [2, 3, 0, 4, 1] rfl) hf
set_option maxRecDepth 100000 in
set_option maxHeartbeats 4000000 in
theorem t_X3_layFrames_43 {D : va_G} {B : Nat} {Y : Nat → ClassId} {p : Program} {l : Launch} {e : Env} {s : State} {m : MethodId} {args : Array Value} {below : List Frame} {meth : Method} {c : Code} {z : (Unit × Wd)} {H : Heap} {locs : List Loc} {ls : Array Slot} {w : Wd} {v1 : Nat} {v3 : Int32} {v4 : Int32} (C : CX D B Y p s m args meth c cX3_layFrames 6 RX3 none)   (k_v1 : KD v1 = 7)  (hH : HS D B Y w s H locs) (hl : lv_has ls 6 [(0, .ref (B + 650)), (1, .ref (B + v1)), (3, .int v3), (4, .int v4)]) (hf : f_X3_layFrames_43 v1 v3 v4 w = some z) : W p l e (RM 4 0 0) s m args below meth c H locs 0 0 (MQ below (QG D B Y none z.2 True) args s 0 0 (AB B)) (F0 m 43 ls []) := by
  exact loopN_ind (z := z) (body := fun rc σ => g_X3_layFrames_43 rc  σ.1 σ.2.1 σ.2.2.1 σ.2.2.2)
    (P := fun σ => KD σ.1 = 7 → ∀ (H : Heap) (locs : List Loc) (ls : Array Slot), HS D B Y σ.2.2.2 s H locs → lv_has ls 6 [(0, .ref (B + 650)), (1, .ref (B + σ.1)), (3, .int σ.2.1), (4, .int σ.2.2.1)] → W p l e (RM 4 0 0) s m args below meth c H locs 0 0 (MQ below (QG D B Y none z.2 True) args s 0 0 (AB B)) (F0 m 43 ls []))
    (fun rc hrec σ hf k_v1 H locs ls hH hl => tb_X3_layFrames_43 C (fun v1 v3 v4 w hr k_v1 H locs ls hH hl => hrec (v1, v3, v4, w) hr k_v1 H locs ls hH hl)  k_v1 hH hl hf) FU (v1, v3, v4, w) hf k_v1 H locs ls hH hl
set_option maxRecDepth 100000 in
set_option maxHeartbeats 4000000 in
theorem t_X3_layFrames_0 {D : va_G} {B : Nat} {Y : Nat → ClassId} {p : Program} {l : Launch} {e : Env} {s : State} {m : MethodId} {args : Array Value} {below : List Frame} {meth : Method} {c : Code} {z : (Unit × Wd)} {H : Heap} {locs : List Loc} {ls : Array Slot} {w : Wd} {v1 : Nat} {v2 : Int32} (C : CX D B Y p s m args meth c cX3_layFrames 6 RX3 none)   (k_v1 : KD v1 = 7)  (hH : HS D B Y w s H locs) (hl : lv_has ls 6 [(0, .ref (B + 650)), (1, .ref (B + v1)), (2, .int v2)]) (hf : f_X3_layFrames v1 v2 w = some z) : W p l e (RM 4 0 0) s m args below meth c H locs 0 0 (MQ below (QG D B Y none z.2 True) args s 0 0 (AB B)) (F0 m 0 ls []) := by
  have hx := C.1
  have hb := C.2.1
  unfold f_X3_layFrames at hf
  refine lv_aload_n hx hb dX3_layFrames_0 rfl (lv_at hl 0 rfl) ?_
  refine fg_X3_20 C hH dX3_layFrames_1 ?_
  refine lv_iconst (v := (0 : Int32)) hx hb dX3_layFrames_4 (by decide) ?_
  obtain ⟨u, w1, hc, hf⟩ := bd_some hf
  refine q_callV0 (As := [.int (0 : Int32)]) C hH (ci := 7) rfl (by omega) gk_X3_101 yd_X7_cutTo (by omega) (by omega) kc_651 (c_X7_cutTo kc_651 hc) hl.1 rfl (Nat.le_of_ble_eq_true rfl) dX3_layFrames_5 xv_00 (fun H locs hH hP => ?_)
  refine lv_aload_n hx hb dX3_layFrames_8 rfl (lv_at hl 0 rfl) ?_
  refine fg_X3_24 C hH dX3_layFrames_9 ?_
  refine lv_iconst (v := (0 : Int32)) hx hb dX3_layFrames_12 (by decide) ?_
  obtain ⟨u, w2, hc, hf⟩ := bd_some hf
  refine q_callV0 (As := [.int (0 : Int32)]) C hH (ci := 7) rfl (by omega) gk_X3_101 yd_X7_cutTo (by omega) (by omega) kc_653 (c_X7_cutTo kc_653 hc) hl.1 rfl (Nat.le_of_ble_eq_true rfl) dX3_layFrames_13 xv_00 (fun H locs hH hP => ?_)
  refine lv_aload_n hx hb dX3_layFrames_16 rfl (lv_at hl 0 rfl) ?_
  refine fg_X3_27 C hH dX3_layFrames_17 ?_
  refine lv_iconst (v := (0 : Int32)) hx hb dX3_layFrames_20 (by decide) ?_
  obtain ⟨u, w3, hc, hf⟩ := bd_some hf
  refine q_callV0 (As := [.int (0 : Int32)]) C hH (ci := 7) rfl (by omega) gk_X3_101 yd_X7_cutTo (by omega) (by omega) kc_655 (c_X7_cutTo kc_655 hc) hl.1 rfl (Nat.le_of_ble_eq_true rfl) dX3_layFrames_21 xv_00 (fun H locs hH hP => ?_)
  refine lv_aload_n hx hb dX3_layFrames_24 rfl (lv_at hl 0 rfl) ?_
  refine fg_X3_30 C hH dX3_layFrames_25 ?_
  refine lv_iconst (v := (0 : Int32)) hx hb dX3_layFrames_28 (by decide) ?_
  obtain ⟨u, w4, hc, hf⟩ := bd_some hf
  refine q_callV0 (As := [.int (0 : Int32)]) C hH (ci := 7) rfl (by omega) gk_X3_101 yd_X7_cutTo (by omega) (by omega) kc_657 (c_X7_cutTo kc_657 hc) hl.1 rfl (Nat.le_of_ble_eq_true rfl) dX3_layFrames_29 xv_00 (fun H locs hH hP => ?_)
  refine lv_aload_n hx hb dX3_layFrames_32 rfl (lv_at hl 0 rfl) ?_
  refine lv_iload_n hx hb dX3_layFrames_33 rfl (lv_at hl 2 rfl) ?_
  refine lv_iconst (v := (-1 : Int32)) hx hb dX3_layFrames_34 (by decide) ?_
  refine lv_iconst (v := (-1 : Int32)) hx hb dX3_layFrames_35 (by decide) ?_
  obtain ⟨x6, w5, hc, hf⟩ := bd_some hf
  refine q_callV1 (v := .int x6) (As := [.int v2, .int (-1 : Int32), .int (-1 : Int32)]) C hH (ci := 3) rfl (by omega) gk_X3_104 yd_X3_addFrame (by omega) (by omega) kc_650 (c_X3_addFrame hc) hl.1 rfl (Nat.le_of_ble_eq_true rfl) dX3_layFrames_36 xv_00 (fun H locs hH hP => ?_)
  refine lv_istore_n (lv' := [(3, .int x6), (0, .ref (B + 650)), (1, .ref (B + v1)), (2, .int v2)]) hx hb dX3_layFrames_39 rfl hl (by decide) rfl (fun ls hl => ?_)
  refine lv_iconst (v := (0 : Int32)) hx hb dX3_layFrames_40 (by decide) ?_
  refine lv_istore (lv' := [(4, .int (0 : Int32)), (3, .int x6), (0, .ref (B + 650)), (1, .ref (B + v1)), (2, .int v2)]) hx hb dX3_layFrames_41 hl (by decide) rfl (fun ls hl => ?_)
  exact t_X3_layFrames_43 C k_v1 hH (lv_sub hl [2, 3, 1, 0] rfl) hf
set_option maxRecDepth 100000 in
theorem c_X3_layFrames {l : Launch} {D : va_G} {B : Nat} {Y : Nat → ClassId} {v1 : Nat} {v2 : Int32} {w : Wd} {r : Unit} {w1 : Wd} (k_v1 : KD v1 = 7)  (hf : f_X3_layFrames v1 v2 w = some (r, w1)) : CM l D B Y yX3_layFrames cX3_layFrames 6 none 4 [.ref (B + 650), .ref (B + v1), .int v2] w none w1 True :=
  CM_of (by decide +kernel) (Nat.le_of_ble_eq_true rfl) (fun p e s m args below meth c ls C hH hl => t_X3_layFrames_0 C k_v1 hH (lv_sub hl [0, 1, 2] rfl) hf)
/-! LetterTables$Row.refill -/
set_option maxRecDepth 100000 in
set_option maxHeartbeats 4000000 in
theorem tb_X7_refill_7 {D : va_G} {B : Nat} {Y : Nat → ClassId} {p : Program} {l : Launch} {e : Env} {s : State} {m : MethodId} {args : Array Value} {below : List Frame} {meth : Method} {c : Code} {z : (Unit × Wd)} {H : Heap} {locs : List Loc} {ls : Array Slot} {w : Wd} {v0 : Nat} {v1 : Int32} {v2 : Int32} {v3 : Int32} (C : CX D B Y p s m args meth c cX7_refill 4 RX7 none)  {rc_7 : Nat × Int32 × Int32 × Int32 × Wd → Option (Unit × Wd)} (hr_7 : ∀ (v0 : Nat) (v1 : Int32) (v2 : Int32) (v3 : Int32) (w : Wd), rc_7 (v0, v1, v2, v3, w) = some z → KD v0 = 7 → ∀ (H : Heap) (locs : List Loc) (ls : Array Slot), HS D B Y w s H locs → lv_has ls 4 [(0, .ref (B + v0)), (1, .int v1), (2, .int v2), (3, .int v3)] → W p l e (RM 1 0 0) s m args below meth c H locs 0 0 (MQ below (QG D B Y none z.2 True) args s 0 0 (AB B)) (F0 m 7 ls []))  (k_v0 : KD v0 = 7)  (hH : HS D B Y w s H locs) (hl : lv_has ls 4 [(0, .ref (B + v0)), (1, .int v1), (2, .int v2), (3, .int v3)]) (hf : g_X7_refill_7 rc_7 v0 v1 v2 v3 w = some z) : W p l e (RM 1 0 0) s m args below meth c H locs 0 0 (MQ below (QG D B Y none z.2 True) args s 0 0 (AB B)) (F0 m 7 ls []) := by
  have hx := C.1
  have hb := C.2.1
  unfold g_X7_refill_7 at hf
  refine lv_iload_n hx hb dX7_refill_7 rfl (lv_at hl 3 rfl) ?_
  refine lv_iload_n hx hb dX7_refill_8 rfl (lv_at hl 2 rfl) ?_
  refine b_icmp_ge (tgt := 24) hx hb hf dX7_refill_9 (by decide) (fun hf => ?_) (fun hf => ?_)
  · cases hf
    exact q_retv C hH trivial dX7_refill_24
  · refine lv_aload_n hx hb dX7_refill_12 rfl (lv_at hl 0 rfl) ?_
    refine lv_iload_n hx hb dX7_refill_13 rfl (lv_at hl 1 rfl) ?_
    obtain ⟨x2, w1, hc, hf⟩ := bd_some hf
    refine q_callV1 (v := .int x2) (As := [.int v1]) C hH (ci := 7) rfl (by omega) gk_X7_27 yd_X7_add (by omega) (by omega) k_v0 (c_X7_add k_v0 hc) hl.1 rfl (Nat.le_of_ble_eq_true rfl) dX7_refill_14 xv_00 (fun H locs hH z_x2 => ?_)
    refine lv_pop hx hb dX7_refill_17 rfl ?_
    refine b_let hf (fun x3 he hf => ?_)
    refine lv_iinc (v := x3) (lv' := [(3, .int x3), (0, .ref (B + v0)), (1, .int v1), (2, .int v2)]) hx hb dX7_refill_18 hl (k := 3) rfl (by rw [← he]; rfl) (by decide) rfl (fun ls hl => ?_)
    refine lv_goto (tgt := 7) hx hb dX7_refill_21 (by decide) ?_
    exact hr_7 v0 v1 v2 x3 w1 hf k_v0 _ _ _ hH (lv_sub hl [1, 2, 3, 0] rfl)
set_option maxRecDepth 100000 in
set_option maxHeartbeats 4000000 in
theorem t_X7_refill_7 {D : va_G} {B : Nat} {Y : Nat → ClassId} {p : Program} {l : Launch} {e : Env} {s : State} {m : MethodId} {args : Array Value} {below : List Frame} {meth : Method} {c : Code} {z : (Unit × Wd)} {H : Heap} {locs : List Loc} {ls : Array Slot} {w : Wd} {v0 : Nat} {v1 : Int32} {v2 : Int32} {v3 : Int32} (C : CX D B Y p s m args meth c cX7_refill 4 RX7 none)   (k_v0 : KD v0 = 7)  (hH : HS D B Y w s H locs) (hl : lv_has ls 4 [(0, .ref (B + v0)), (1, .int v1), (2, .int v2), (3, .int v3)]) (hf : f_X7_refill_7 v0 v1 v2 v3 w = some z) : W p l e (RM 1 0 0) s m args below meth c H locs 0 0 (MQ below (QG D B Y none z.2 True) args s 0 0 (AB B)) (F0 m 7 ls []) := by
  exact loopN_ind (z := z) (body := fun rc σ => g_X7_refill_7 rc  σ.1 σ.2.1 σ.2.2.1 σ.2.2.2.1 σ.2.2.2.2)
    (P := fun σ => KD σ.1 = 7 → ∀ (H : Heap) (locs : List Loc) (ls : Array Slot), HS D B Y σ.2.2.2.2 s H locs → lv_has ls 4 [(0, .ref (B + σ.1)), (1, .int σ.2.1), (2, .int σ.2.2.1), (3, .int σ.2.2.2.1)] → W p l e (RM 1 0 0) s m args below meth c H locs 0 0 (MQ below (QG D B Y none z.2 True) args s 0 0 (AB B)) (F0 m 7 ls []))
    (fun rc hrec σ hf k_v0 H locs ls hH hl => tb_X7_refill_7 C (fun v0 v1 v2 v3 w hr k_v0 H locs ls hH hl => hrec (v0, v1, v2, v3, w) hr k_v0 H locs ls hH hl)  k_v0 hH hl hf) FU (v0, v1, v2, v3, w) hf k_v0 H locs ls hH hl
set_option maxRecDepth 100000 in
set_option maxHeartbeats 4000000 in
theorem t_X7_refill_0 {D : va_G} {B : Nat} {Y : Nat → ClassId} {p : Program} {l : Launch} {e : Env} {s : State} {m : MethodId} {args : Array Value} {below : List Frame} {meth : Method} {c : Code} {z : (Unit × Wd)} {H : Heap} {locs : List Loc} {ls : Array Slot} {w : Wd} {v0 : Nat} {v1 : Int32} {v2 : Int32} (C : CX D B Y p s m args meth c cX7_refill 4 RX7 none)   (k_v0 : KD v0 = 7)  (hH : HS D B Y w s H locs) (hl : lv_has ls 4 [(0, .ref (B + v0)), (1, .int v1), (2, .int v2)]) (hf : f_X7_refill v0 v1 v2 w = some z) : W p l e (RM 1 0 0) s m args below meth c H locs 0 0 (MQ below (QG D B Y none z.2 True) args s 0 0 (AB B)) (F0 m 0 ls []) := by
  have hx := C.1
  have hb := C.2.1
  unfold f_X7_refill at hf
  refine lv_aload_n hx hb dX7_refill_0 rfl (lv_at hl 0 rfl) ?_
  refine lv_iconst (v := (0 : Int32)) hx hb dX7_refill_1 (by decide) ?_
  refine fp_X7_15 C hH k_v0 dX7_refill_2 (fun H locs hH => ?_)
  refine b_w hf hH (fun w1 hf hH => ?_)
  refine lv_iconst (v := (0 : Int32)) hx hb dX7_refill_5 (by decide) ?_
  refine lv_istore_n (lv' := [(3, .int (0 : Int32)), (0, .ref (B + v0)), (1, .int v1), (2, .int v2)]) hx hb dX7_refill_6 rfl hl (by decide) rfl (fun ls hl => ?_)
  exact t_X7_refill_7 C k_v0 hH (lv_sub hl [1, 2, 3, 0] rfl) hf
set_option maxRecDepth 100000 in
theorem c_X7_refill {l : Launch} {D : va_G} {B : Nat} {Y : Nat → ClassId} {v0 : Nat} {v1 : Int32} {v2 : Int32} {w : Wd} {r : Unit} {w1 : Wd} (k_v0 : KD v0 = 7)  (hf : f_X7_refill v0 v1 v2 w = some (r, w1)) : CM l D B Y yX7_refill cX7_refill 4 none 1 [.ref (B + v0), .int v1, .int v2] w none w1 True :=
  CM_of (by decide +kernel) (Nat.le_of_ble_eq_true rfl) (fun p e s m args below meth c ls C hH hl => t_X7_refill_0 C k_v0 hH (lv_sub hl [0, 1, 2] rfl) hf)
/-! LetterTables$Levels.gather -/
set_option maxRecDepth 100000 in
set_option maxHeartbeats 4000000 in
theorem t_X3_gather_98 {D : va_G} {B : Nat} {Y : Nat → ClassId} {p : Program} {l : Launch} {e : Env} {s : State} {m : MethodId} {args : Array Value} {below : List Frame} {meth : Method} {c : Code} {z : (Unit × Wd)} {H : Heap} {locs : List Loc} {ls : Array Slot} {w : Wd} {v1 : Nat} {v2 : Int32} {v3 : Int32} {t0 : Nat} {t1 : Int32} (C : CX D B Y p s m args meth c cX3_gather 5 RX3 none)  {rc_26 : Nat × Int32 × Int32 × Wd → Option (Unit × Wd)} (hr_26 : ∀ (v1 : Nat) (v2 : Int32) (v3 : Int32) (w : Wd), rc_26 (v1, v2, v3, w) = some z → KD v1 = 7 → ∀ (H : Heap) (locs : List Loc) (ls : Array Slot), HS D B Y w s H locs → lv_has ls 5 [(0, .ref (B + 650)), (1, .ref (B + v1)), (2, .int v2), (3, .int v3)] → W p l e (RM 2 0 0) s m args below meth c H locs 0 0 (MQ below (QG D B Y none z.2 True) args s 0 0 (AB B)) (F0 m 26 ls []))  (k_v1 : KD v1 = 7) (k_t0 : KD t0 = 7)  (hH : HS D B Y w s H locs) (hl : lv_has ls 5 [(0, .ref (B + 650)), (1, .ref (B + v1)), (2, .int v2), (3, .int v3)]) (hf : f_X3_gather_98 rc_26 v1 v2 v3 t0 t1 w = some z) : W p l e (RM 2 0 0) s m args below meth c H locs 0 0 (MQ below (QG D B Y none z.2 True) args s 0 0 (AB B)) (F0 m 98 ls [.int t1, .ref (B + t0)]) := by
  have hx := C.1
  have hb := C.2.1
  unfold f_X3_gather_98 at hf
  obtain ⟨x2, w1, hc, hf⟩ := bd_some hf
  refine q_callV1 (v := .int x2) (As := [.int t1]) C hH (ci := 7) rfl (by omega) gk_X3_111 yd_X7_add (by omega) (by omega) k_t0 (c_X7_add k_t0 hc) hl.1 rfl (Nat.le_of_ble_eq_true rfl) dX3_gather_98 xv_00 (fun H locs hH z_x2 => ?_)
  refine lv_pop hx hb dX3_gather_101 rfl ?_
  refine b_let hf (fun x3 he hf => ?_)
  refine lv_iinc (v := x3) (lv' := [(3, .int x3), (0, .ref (B + 650)), (1, .ref (B + v1)), (2, .int v2)]) hx hb dX3_gather_102 hl (k := 3) rfl (by rw [← he]; rfl) (by decide) rfl (fun ls hl => ?_)
  refine lv_goto (tgt := 26) hx hb dX3_gather_105 (by decide) ?_
  exact hr_26 v1 v2 x3 w1 hf k_v1 _ _ _ hH (lv_sub hl [1, 2, 3, 0] rfl)
set_option maxRecDepth 100000 in
set_option maxHeartbeats 4000000 in
theorem tb_X3_gather_26 {D : va_G} {B : Nat} {Y : Nat → ClassId} {p : Program} {l : Launch} {e : Env} {s : State} {m : MethodId} {args : Array Value} {below : List Frame} {meth : Method} {c : Code} {z : (Unit × Wd)} {H : Heap} {locs : List Loc} {ls : Array Slot} {w : Wd} {v1 : Nat} {v2 : Int32} {v3 : Int32} (C : CX D B Y p s m args meth c cX3_gather 5 RX3 none)  {rc_26 : Nat × Int32 × Int32 × Wd → Option (Unit × Wd)} (hr_26 : ∀ (v1 : Nat) (v2 : Int32) (v3 : Int32) (w : Wd), rc_26 (v1, v2, v3, w) = some z → KD v1 = 7 → ∀ (H : Heap) (locs : List Loc) (ls : Array Slot), HS D B Y w s H locs → lv_has ls 5 [(0, .ref (B + 650)), (1, .ref (B + v1)), (2, .int v2), (3, .int v3)] → W p l e (RM 2 0 0) s m args below meth c H locs 0 0 (MQ below (QG D B Y none z.2 True) args s 0 0 (AB B)) (F0 m 26 ls []))  (k_v1 : KD v1 = 7)  (hH : HS D B Y w s H locs) (hl : lv_has ls 5 [(0, .ref (B + 650)), (1, .ref (B + v1)), (2, .int v2), (3, .int v3)]) (hf : g_X3_gather_26 rc_26 v1 v2 v3 w = some z) : W p l e (RM 2 0 0) s m args below meth c H locs 0 0 (MQ below (QG D B Y none z.2 True) args s 0 0 (AB B)) (F0 m 26 ls []) := by
  have hx := C.1
  have hb := C.2.1
  unfold g_X3_gather_26 at hf
  refine lv_iload_n hx hb dX3_gather_26 rfl (lv_at hl 3 rfl) ?_
  refine lv_aload_n hx hb dX3_gather_27 rfl (lv_at hl 1 rfl) ?_
  obtain ⟨x2, w1, hc, hf⟩ := bd_some hf
  refine q_callV1 (v := .int x2) (As := []) C hH (ci := 7) rfl (by omega) gk_X3_54 yd_X7_size (by omega) (by omega) k_v1 (c_X7_size k_v1 hc) hl.1 rfl (Nat.le_of_ble_eq_true rfl) dX3_gather_28 xv_00 (fun H locs hH hP => ?_)
  refine b_icmp_ge (tgt := 108) hx hb hf dX3_gather_31 (by decide) (fun hf => ?_) (fun hf => ?_)
  · cases hf
    exact q_retv C hH trivial dX3_gather_108
  · refine lv_aload_n hx hb dX3_gather_34 rfl (lv_at hl 0 rfl) ?_
    refine fg_X3_20 C hH dX3_gather_35 ?_
    refine lv_iload_n hx hb dX3_gather_38 rfl (lv_at hl 3 rfl) ?_
    obtain ⟨x4, w3, hc, hf⟩ := bd_some hf
    refine q_callV1 (v := .int x4) (As := [.int v3]) C hH (ci := 7) rfl (by omega) gk_X3_58 yd_X7_get (by omega) (by omega) kc_651 (c_X7_get kc_651 hc) hl.1 rfl (Nat.le_of_ble_eq_true rfl) dX3_gather_39 xv_00 (fun H locs hH hP => ?_)
    refine lv_iload_n hx hb dX3_gather_42 rfl (lv_at hl 2 rfl) ?_
    refine b_icmp_ne (tgt := 102) hx hb hf dX3_gather_43 (by decide) (fun hf => ?_) (fun hf => ?_)
    · refine b_let hf (fun x5 he hf => ?_)
      refine lv_iinc (v := x5) (lv' := [(3, .int x5), (0, .ref (B + 650)), (1, .ref (B + v1)), (2, .int v2)]) hx hb dX3_gather_102 hl (k := 3) rfl (by rw [← he]; rfl) (by decide) rfl (fun ls hl => ?_)
      refine lv_goto (tgt := 26) hx hb dX3_gather_105 (by decide) ?_
      exact hr_26 v1 v2 x5 w3 hf k_v1 _ _ _ hH (lv_sub hl [1, 2, 3, 0] rfl)
    · refine lv_aload_n hx hb dX3_gather_46 rfl (lv_at hl 0 rfl) ?_
      refine fg_X3_9 C hH dX3_gather_47 ?_
      refine lv_aload_n hx hb dX3_gather_50 rfl (lv_at hl 1 rfl) ?_
      refine lv_iload_n hx hb dX3_gather_51 rfl (lv_at hl 3 rfl) ?_
      obtain ⟨x7, w6, hc, hf⟩ := bd_some hf
      refine q_callV1 (v := .int x7) (As := [.int v3]) C hH (ci := 7) rfl (by omega) gk_X3_58 yd_X7_get (by omega) (by omega) k_v1 (c_X7_get k_v1 hc) hl.1 rfl (Nat.le_of_ble_eq_true rfl) dX3_gather_52 xv_00 (fun H locs hH hP => ?_)
      obtain ⟨x9, w8, hc, hf⟩ := bd_some hf
      refine q_callV1 (v := .int x9) (As := [.int x7]) C hH (ci := 9) rfl (by omega) gk_X3_62 yd_X9_directionOf (by omega) (by omega) kc_1 (c_X9_directionOf kc_1 hc) hl.1 rfl (Nat.le_of_ble_eq_true rfl) dX3_gather_55 xv_00 (fun H locs hH hP => ?_)
      refine lv_istore (lv' := [(4, .int x9), (0, .ref (B + 650)), (1, .ref (B + v1)), (2, .int v2), (3, .int v3)]) hx hb dX3_gather_58 hl (by decide) rfl (fun ls hl => ?_)
      refine lv_aload_n hx hb dX3_gather_60 rfl (lv_at hl 1 rfl) ?_
      refine fg_X3_33 C hH dX3_gather_61 ?_
      refine lv_iload_n hx hb dX3_gather_64 rfl (lv_at hl 4 rfl) ?_
      obtain ⟨x11, w10, hc, hf⟩ := bd_some hf
      refine q_callV1 (v := .int x11) (As := [.int v3]) C hH (ci := 7) rfl (by omega) gk_X3_111 yd_X7_add (by omega) (by omega) kc_659 (c_X7_add kc_659 hc) hl.1 rfl (Nat.le_of_ble_eq_true rfl) dX3_gather_65 xv_00 (fun H locs hH z_x11 => ?_)
      refine lv_pop hx hb dX3_gather_68 rfl ?_
      refine lv_aload_n hx hb dX3_gather_69 rfl (lv_at hl 1 rfl) ?_
      refine fg_X3_36 C hH dX3_gather_70 ?_
      refine lv_aload_n hx hb dX3_gather_73 rfl (lv_at hl 2 rfl) ?_
      refine lv_iload_n hx hb dX3_gather_74 rfl (lv_at hl 4 rfl) ?_
      obtain ⟨x13, w12, hc, hf⟩ := bd_some hf
      refine q_callV1 (v := .int x13) (As := [.int v3]) C hH (ci := 7) rfl (by omega) gk_X3_58 yd_X7_get (by omega) (by omega) k_v1 (c_X7_get k_v1 hc) hl.1 rfl (Nat.le_of_ble_eq_true rfl) dX3_gather_75 xv_00 (fun H locs hH hP => ?_)
      obtain ⟨x15, w14, hc, hf⟩ := bd_some hf
      refine q_callV1 (v := .int x15) (As := [.int x13]) C hH (ci := 7) rfl (by omega) gk_X3_111 yd_X7_add (by omega) (by omega) kc_661 (c_X7_add kc_661 hc) hl.1 rfl (Nat.le_of_ble_eq_true rfl) dX3_gather_78 xv_00 (fun H locs hH z_x15 => ?_)
      refine lv_pop hx hb dX3_gather_81 rfl ?_
      refine lv_aload_n hx hb dX3_gather_82 rfl (lv_at hl 1 rfl) ?_
      refine fg_X3_39 C hH dX3_gather_83 ?_
      refine lv_iload hx hb dX3_gather_86 (lv_at hl 0 rfl) ?_
      refine lv_iconst (v := (2 : Int32)) hx hb dX3_gather_88 (by decide) ?_
      refine b_icmp_gt (tgt := 97) hx hb hf dX3_gather_89 (by decide) (fun hf => ?_) (fun hf => ?_)
      · refine lv_iconst (v := (3 : Int32)) hx hb dX3_gather_97 (by decide) ?_
        exact t_X3_gather_98 C hr_26 k_v1 kc_663 hH (lv_sub hl [1, 2, 3, 4] rfl) hf
      · refine lv_iload hx hb dX3_gather_92 (lv_at hl 0 rfl) ?_
        refine lv_goto (tgt := 98) hx hb dX3_gather_94 (by decide) ?_
        exact t_X3_gather_98 C hr_26 k_v1 kc_663 hH (lv_sub hl [1, 2, 3, 4] rfl) hf
set_option maxRecDepth 100000 in
set_option maxHeartbeats 4000000 in
theorem t_X3_gather_26 {D : va_G} {B : Nat} {Y : Nat → ClassId} {p : Program} {l : Launch} {e : Env} {s : State} {m : MethodId} {args : Array Value} {below : List Frame} {meth : Method} {c : Code} {z : (Unit × Wd)} {H : Heap} {locs : List Loc} {ls : Array Slot} {w : Wd} {v1 : Nat} {v2 : Int32} {v3 : Int32} (C : CX D B Y p s m args meth c cX3_gather 5 RX3 none)   (k_v1 : KD v1 = 7)  (hH : HS D B Y w s H locs) (hl : lv_has ls 5 [(0, .ref (B + 650)), (1, .ref (B + v1)), (2, .int v2), (3, .int v3)]) (hf : f_X3_gather_26 v1 v2 v3 w = some z) : W p l e (RM 2 0 0) s m args below meth c H locs 0 0 (MQ below (QG D B Y none z.2 True) args s 0 0 (AB B)) (F0 m 26 ls []) := by
  exact loopN_ind (z := z) (body := fun rc σ => g_X3_gather_26 rc  σ.1 σ.2.1 σ.2.2.1 σ.2.2.2)
    (P := fun σ => KD σ.1 = 7 → ∀ (H : Heap) (locs : List Loc) (ls : Array Slot), HS D B Y σ.2.2.2 s H locs → lv_has ls 5 [(0, .ref (B + 650)), (1, .ref (B + σ.1)), (2, .int σ.2.1), (3, .int σ.2.2.1)] → W p l e (RM 2 0 0) s m args below meth c H locs 0 0 (MQ below (QG D B Y none z.2 True) args s 0 0 (AB B)) (F0 m 26 ls []))
    (fun rc hrec σ hf k_v1 H locs ls hH hl => tb_X3_gather_26 C (fun v1 v2 v3 w hr k_v1 H locs ls hH hl => hrec (v1, v2, v3, w) hr k_v1 H locs ls hH hl)  k_v1 hH hl hf) FU (v1, v2, v3, w) hf k_v1 H locs ls hH hl
set_option maxRecDepth 100000 in
set_option maxHeartbeats 4000000 in
theorem t_X3_gather_0 {D : va_G} {B : Nat} {Y : Nat → ClassId} {p : Program} {l : Launch} {e : Env} {s : State} {m : MethodId} {args : Array Value} {below : List Frame} {meth : Method} {c : Code} {z : (Unit × Wd)} {H : Heap} {locs : List Loc} {ls : Array Slot} {w : Wd} {v1 : Nat} {v2 : Int32} (C : CX D B Y p s m args meth c cX3_gather 5 RX3 none)   (k_v1 : KD v1 = 7)  (hH : HS D B Y w s H locs) (hl : lv_has ls 5 [(0, .ref (B + 650)), (1, .ref (B + v1)), (2, .int v2)]) (hf : f_X3_gather v1 v2 w = some z) : W p l e (RM 2 0 0) s m args below meth c H locs 0 0 (MQ below (QG D B Y none z.2 True) args s 0 0 (AB B)) (F0 m 0 ls []) := by
  have hx := C.1
  have hb := C.2.1
  unfold f_X3_gather at hf
  refine lv_aload_n hx hb dX3_gather_0 rfl (lv_at hl 0 rfl) ?_
  refine fg_X3_33 C hH dX3_gather_1 ?_
  refine lv_iconst (v := (0 : Int32)) hx hb dX3_gather_4 (by decide) ?_
  obtain ⟨u, w1, hc, hf⟩ := bd_some hf
  refine q_callV0 (As := [.int (0 : Int32)]) C hH (ci := 7) rfl (by omega) gk_X3_101 yd_X7_cutTo (by omega) (by omega) kc_659 (c_X7_cutTo kc_659 hc) hl.1 rfl (Nat.le_of_ble_eq_true rfl) dX3_gather_5 xv_00 (fun H locs hH hP => ?_)
  refine lv_aload_n hx hb dX3_gather_8 rfl (lv_at hl 0 rfl) ?_
  refine fg_X3_36 C hH dX3_gather_9 ?_
  refine lv_iconst (v := (0 : Int32)) hx hb dX3_gather_12 (by decide) ?_
  obtain ⟨u, w2, hc, hf⟩ := bd_some hf
  refine q_callV0 (As := [.int (0 : Int32)]) C hH (ci := 7) rfl (by omega) gk_X3_101 yd_X7_cutTo (by omega) (by omega) kc_661 (c_X7_cutTo kc_661 hc) hl.1 rfl (Nat.le_of_ble_eq_true rfl) dX3_gather_13 xv_00 (fun H locs hH hP => ?_)
  refine lv_aload_n hx hb dX3_gather_16 rfl (lv_at hl 0 rfl) ?_
  refine fg_X3_39 C hH dX3_gather_17 ?_
  refine lv_iconst (v := (0 : Int32)) hx hb dX3_gather_20 (by decide) ?_
  obtain ⟨u, w3, hc, hf⟩ := bd_some hf
  refine q_callV0 (As := [.int (0 : Int32)]) C hH (ci := 7) rfl (by omega) gk_X3_101 yd_X7_cutTo (by omega) (by omega) kc_663 (c_X7_cutTo kc_663 hc) hl.1 rfl (Nat.le_of_ble_eq_true rfl) dX3_gather_21 xv_00 (fun H locs hH hP => ?_)
  refine lv_iconst (v := (0 : Int32)) hx hb dX3_gather_24 (by decide) ?_
  refine lv_istore_n (lv' := [(3, .int (0 : Int32)), (0, .ref (B + 650)), (1, .ref (B + v1)), (2, .int v2)]) hx hb dX3_gather_25 rfl hl (by decide) rfl (fun ls hl => ?_)
  exact t_X3_gather_26 C k_v1 hH (lv_sub hl [1, 2, 3, 0] rfl) hf
set_option maxRecDepth 100000 in
theorem c_X3_gather {l : Launch} {D : va_G} {B : Nat} {Y : Nat → ClassId} {v1 : Nat} {v2 : Int32} {w : Wd} {r : Unit} {w1 : Wd} (k_v1 : KD v1 = 7)  (hf : f_X3_gather v1 v2 w = some (r, w1)) : CM l D B Y yX3_gather cX3_gather 5 none 2 [.ref (B + 650), .ref (B + v1), .int v2] w none w1 True :=
  CM_of (by decide +kernel) (Nat.le_of_ble_eq_true rfl) (fun p e s m args below meth c ls C hH hl => t_X3_gather_0 C k_v1 hH (lv_sub hl [0, 1, 2] rfl) hf)
/-! LetterTables$Levels.settleNumbers -/
set_option maxRecDepth 100000 in
set_option maxHeartbeats 4000000 in
theorem tb_X3_settleNumbers_4 {D : va_G} {B : Nat} {Y : Nat → ClassId} {p : Program} {l : Launch} {e : Env} {s : State} {m : MethodId} {args : Array Value} {below : List Frame} {meth : Method} {c : Code} {z : (Unit × Wd)} {H : Heap} {locs : List Loc} {ls : Array Slot} {w : Wd} {v2 : Int32} {v3 : Int32} (C : CX D B Y p s m args meth c cX3_settleNumbers 5 RX3 none)  {rc_4 : Int32 × Int32 × Wd → Option (Unit × Wd)} (hr_4 : ∀ (v2 : Int32) (v3 : Int32) (w : Wd), rc_4 (v2, v3, w) = some z → ∀ (H : Heap) (locs : List Loc) (ls : Array Slot), HS D B Y w s H locs → lv_has ls 5 [(0, .ref (B + 650)), (2, .int v2), (3, .int v3)] → W p l e (RM 1 0 0) s m args below meth c H locs 0 0 (MQ below (QG D B Y none z.2 True) args s 0 0 (AB B)) (F0 m 4 ls []))    (hH : HS D B Y w s H locs) (hl : lv_has ls 5 [(0, .ref (B + 650)), (2, .int v2), (3, .int v3)]) (hf : g_X3_settleNumbers_4 rc_4 v2 v3 w = some z) : W p l e (RM 1 0 0) s m args below meth c H locs 0 0 (MQ below (QG D B Y none z.2 True) args s 0 0 (AB B)) (F0 m 4 ls []) := by
  have hx := C.1
  have hb := C.2.1
  unfold g_X3_settleNumbers_4 at hf
  refine lv_iload_n hx hb dX3_settleNumbers_4 rfl (lv_at hl 2 rfl) ?_
  refine lv_aload_n hx hb dX3_settleNumbers_5 rfl (lv_at hl 0 rfl) ?_
  refine fg_X3_39 C hH dX3_settleNumbers_6 ?_
  obtain ⟨x2, w1, hc, hf⟩ := bd_some hf
  refine q_callV1 (v := .int x2) (As := []) C hH (ci := 7) rfl (by omega) gk_X3_54 yd_X7_size (by omega) (by omega) kc_663 (c_X7_size kc_663 hc) hl.1 rfl (Nat.le_of_ble_eq_true rfl) dX3_settleNumbers_9 xv_00 (fun H locs hH hP => ?_)
  refine b_icmp_ge (tgt := 67) hx hb hf dX3_settleNumbers_12 (by decide) (fun hf => ?_) (fun hf => ?_)
  · cases hf
    exact q_retv C hH trivial dX3_settleNumbers_67
  · refine lv_aload_n hx hb dX3_settleNumbers_15 rfl (lv_at hl 0 rfl) ?_
    refine fg_X3_39 C hH dX3_settleNumbers_16 ?_
    refine lv_iload_n hx hb dX3_settleNumbers_19 rfl (lv_at hl 2 rfl) ?_
    obtain ⟨x4, w3, hc, hf⟩ := bd_some hf
    refine q_callV1 (v := .int x4) (As := [.int v3]) C hH (ci := 7) rfl (by omega) gk_X3_58 yd_X7_get (by omega) (by omega) kc_663 (c_X7_get kc_663 hc) hl.1 rfl (Nat.le_of_ble_eq_true rfl) dX3_settleNumbers_20 xv_00 (fun H locs hH hP => ?_)
    refine lv_istore (lv' := [(4, .int x4), (0, .ref (B + 650)), (2, .int v2), (3, .int v3)]) hx hb dX3_settleNumbers_23 hl (by decide) rfl (fun ls hl => ?_)
    refine lv_iload hx hb dX3_settleNumbers_25 (lv_at hl 0 rfl) ?_
    refine b_if_eq (tgt := 36) hx hb hf dX3_settleNumbers_27 (by decide) (fun hf => ?_) (fun hf => ?_)
    · refine lv_iload hx hb dX3_settleNumbers_36 (lv_at hl 0 rfl) ?_
      refine lv_istore_n (lv' := [(2, .int x4), (4, .int x4), (0, .ref (B + 650)), (3, .int v3)]) hx hb dX3_settleNumbers_38 rfl hl (by decide) rfl (fun ls hl => ?_)
      refine lv_goto (tgt := 61) hx hb dX3_settleNumbers_39 (by decide) ?_
      refine b_let hf (fun x5 he hf => ?_)
      refine lv_iinc (v := x5) (lv' := [(3, .int x5), (2, .int x4), (4, .int x4), (0, .ref (B + 650))]) hx hb dX3_settleNumbers_61 hl (k := 3) rfl (by rw [← he]; rfl) (by decide) rfl (fun ls hl => ?_)
      refine lv_goto (tgt := 4) hx hb dX3_settleNumbers_64 (by decide) ?_
      exact hr_4 x4 x5 w3 hf _ _ _ hH (lv_sub hl [3, 1, 0] rfl)
    · refine lv_iload hx hb dX3_settleNumbers_30 (lv_at hl 0 rfl) ?_
      refine lv_iconst (v := (1 : Int32)) hx hb dX3_settleNumbers_32 (by decide) ?_
      refine b_icmp_ne (tgt := 42) hx hb hf dX3_settleNumbers_33 (by decide) (fun hf => ?_) (fun hf => ?_)
      · refine lv_iload hx hb dX3_settleNumbers_42 (lv_at hl 0 rfl) ?_
        refine lv_iconst (v := (2 : Int32)) hx hb dX3_settleNumbers_44 (by decide) ?_
        refine b_icmp_ne (tgt := 61) hx hb hf dX3_settleNumbers_45 (by decide) (fun hf => ?_) (fun hf => ?_)
        · refine b_let hf (fun x6 he hf => ?_)
          refine lv_iinc (v := x6) (lv' := [(3, .int x6), (4, .int x4), (0, .ref (B + 650)), (2, .int v2)]) hx hb dX3_settleNumbers_61 hl (k := 3) rfl (by rw [← he]; rfl) (by decide) rfl (fun ls hl => ?_)
          refine lv_goto (tgt := 4) hx hb dX3_settleNumbers_64 (by decide) ?_
          exact hr_4 v2 x6 w3 hf _ _ _ hH (lv_sub hl [2, 3, 0] rfl)
        · refine lv_iload_n hx hb dX3_settleNumbers_48 rfl (lv_at hl 2 rfl) ?_
          refine b_if_ne (tgt := 61) hx hb hf dX3_settleNumbers_49 (by decide) (fun hf => ?_) (fun hf => ?_)
          · refine b_let hf (fun x7 he hf => ?_)
            refine lv_iinc (v := x7) (lv' := [(3, .int x7), (4, .int x4), (0, .ref (B + 650)), (2, .int v2)]) hx hb dX3_settleNumbers_61 hl (k := 3) rfl (by rw [← he]; rfl) (by decide) rfl (fun ls hl => ?_)
            refine lv_goto (tgt := 4) hx hb dX3_settleNumbers_64 (by decide) ?_
            exact hr_4 v2 x7 w3 hf _ _ _ hH (lv_sub hl [2, 3, 0] rfl)
          · refine lv_aload_n hx hb dX3_settleNumbers_52 rfl (lv_at hl 1 rfl) ?_
            refine fg_X3_39 C hH dX3_settleNumbers_53 ?_
            refine lv_iload_n hx hb dX3_settleNumbers_56 rfl (lv_at hl 3 rfl) ?_
            refine lv_iconst (v := (0 : Int32)) hx hb dX3_settleNumbers_57 (by decide) ?_
            obtain ⟨u, w8, hc, hf⟩ := bd_some hf
            refine q_callV0 (As := [.int v3, .int (0 : Int32)]) C hH (ci := 7) rfl (by omega) gk_X3_121 yd_X7_set (by omega) (by omega) kc_663 (c_X7_set kc_663 hc) hl.1 rfl (Nat.le_of_ble_eq_true rfl) dX3_settleNumbers_58 xv_00 (fun H locs hH hP => ?_)
            refine b_let hf (fun x9 he hf => ?_)
            refine lv_iinc (v := x9) (lv' := [(3, .int x9), (4, .int x4), (0, .ref (B + 650)), (2, .int v2)]) hx hb dX3_settleNumbers_61 hl (k := 3) rfl (by rw [← he]; rfl) (by decide) rfl (fun ls hl => ?_)
            refine lv_goto (tgt := 4) hx hb dX3_settleNumbers_64 (by decide) ?_
            exact hr_4 v2 x9 w8 hf _ _ _ hH (lv_sub hl [2, 3, 0] rfl)
      · refine lv_iload hx hb dX3_settleNumbers_36 (lv_at hl 0 rfl) ?_
        refine lv_istore_n (lv' := [(2, .int x4), (4, .int x4), (0, .ref (B + 650)), (3, .int v3)]) hx hb dX3_settleNumbers_38 rfl hl (by decide) rfl (fun ls hl => ?_)
        refine lv_goto (tgt := 61) hx hb dX3_settleNumbers_39 (by decide) ?_
        refine b_let hf (fun x10 he hf => ?_)
        refine lv_iinc (v := x10) (lv' := [(3, .int x10), (2, .int x4), (4, .int x4), (0, .ref (B + 650))]) hx hb dX3_settleNumbers_61 hl (k := 3) rfl (by rw [← he]; rfl) (by decide) rfl (fun ls hl => ?_)
        refine lv_goto (tgt := 4) hx hb dX3_settleNumbers_64 (by decide) ?_
        exact hr_4 x4 x10 w3 hf _ _ _ hH (lv_sub hl [3, 1, 0] rfl)
set_option maxRecDepth 100000 in
set_option maxHeartbeats 4000000 in
theorem t_X3_settleNumbers_4 {D : va_G} {B : Nat} {Y : Nat → ClassId} {p : Program} {l : Launch} {e : Env} {s : State} {m : MethodId} {args : Array Value} {below : List Frame} {meth : Method} {c : Code} {z : (Unit × Wd)} {H : Heap} {locs : List Loc} {ls : Array Slot} {w : Wd} {v2 : Int32} {v3 : Int32} (C : CX D B Y p s m args meth c cX3_settleNumbers 5 RX3 none)     (hH : HS D B Y w s H locs) (hl : lv_has ls 5 [(0, .ref (B + 650)), (2, .int v2), (3, .int v3)]) (hf : f_X3_settleNumbers_4 v2 v3 w = some z) : W p l e (RM 1 0 0) s m args below meth c H locs 0 0 (MQ below (QG D B Y none z.2 True) args s 0 0 (AB B)) (F0 m 4 ls []) := by
  exact loopN_ind (z := z) (body := fun rc σ => g_X3_settleNumbers_4 rc  σ.1 σ.2.1 σ.2.2)
    (P := fun σ => ∀ (H : Heap) (locs : List Loc) (ls : Array Slot), HS D B Y σ.2.2 s H locs → lv_has ls 5 [(0, .ref (B + 650)), (2, .int σ.1), (3, .int σ.2.1)] → W p l e (RM 1 0 0) s m args below meth c H locs 0 0 (MQ below (QG D B Y none z.2 True) args s 0 0 (AB B)) (F0 m 4 ls []))
    (fun rc hrec σ hf  H locs ls hH hl => tb_X3_settleNumbers_4 C (fun v2 v3 w hr  H locs ls hH hl => hrec (v2, v3, w) hr  H locs ls hH hl)   hH hl hf) FU (v2, v3, w) hf  H locs ls hH hl
set_option maxRecDepth 100000 in
set_option maxHeartbeats 4000000 in
theorem t_X3_settleNumbers_0 {D : va_G} {B : Nat} {Y : Nat → ClassId} {p : Program} {l : Launch} {e : Env} {s : State} {m : MethodId} {args : Array Value} {below : List Frame} {meth : Method} {c : Code} {z : (Unit × Wd)} {H : Heap} {locs : List Loc} {ls : Array Slot} {w : Wd} {v1 : Int32} (C : CX D B Y p s m args meth c cX3_settleNumbers 5 RX3 none)     (hH : HS D B Y w s H locs) (hl : lv_has ls 5 [(0, .ref (B + 650)), (1, .int v1)]) (hf : f_X3_settleNumbers v1 w = some z) : W p l e (RM 1 0 0) s m args below meth c H locs 0 0 (MQ below (QG D B Y none z.2 True) args s 0 0 (AB B)) (F0 m 0 ls []) := by
  have hx := C.1
  have hb := C.2.1
  unfold f_X3_settleNumbers at hf
  refine lv_iload_n hx hb dX3_settleNumbers_0 rfl (lv_at hl 1 rfl) ?_
  refine lv_istore_n (lv' := [(2, .int v1), (0, .ref (B + 650)), (1, .int v1)]) hx hb dX3_settleNumbers_1 rfl hl (by decide) rfl (fun ls hl => ?_)
  refine lv_iconst (v := (0 : Int32)) hx hb dX3_settleNumbers_2 (by decide) ?_
  refine lv_istore_n (lv' := [(3, .int (0 : Int32)), (2, .int v1), (0, .ref (B + 650)), (1, .int v1)]) hx hb dX3_settleNumbers_3 rfl hl (by decide) rfl (fun ls hl => ?_)
  exact t_X3_settleNumbers_4 C hH (lv_sub hl [2, 1, 0] rfl) hf
set_option maxRecDepth 100000 in
theorem c_X3_settleNumbers {l : Launch} {D : va_G} {B : Nat} {Y : Nat → ClassId} {v1 : Int32} {w : Wd} {r : Unit} {w1 : Wd}   (hf : f_X3_settleNumbers v1 w = some (r, w1)) : CM l D B Y yX3_settleNumbers cX3_settleNumbers 5 none 1 [.ref (B + 650), .int v1] w none w1 True :=
  CM_of (by decide +kernel) (Nat.le_of_ble_eq_true rfl) (fun p e s m args below meth c ls C hH hl => t_X3_settleNumbers_0 C  hH (lv_sub hl [0, 1] rfl) hf)
/-! LetterTables$Tables.isOpening -/
set_option maxRecDepth 100000 in
set_option maxHeartbeats 4000000 in
theorem t_X9_isOpening_0 {D : va_G} {B : Nat} {Y : Nat → ClassId} {p : Program} {l : Launch} {e : Env} {s : State} {m : MethodId} {args : Array Value} {below : List Frame} {meth : Method} {c : Code} {z : (Int32 × Wd)} {H : Heap} {locs : List Loc} {ls : Array Slot} {w : Wd} {v0 : Nat} {v1 : Int32} (C : CX D B Y p s m args meth c cX9_isOpening 2 RX9 (some .boolean))   (k_v0 : KD v0 = 9)  (hH : HS D B Y w s H locs) (hl : lv_has ls 2 [(0, .ref (B + v0)), (1, .int v1)]) (hf : f_X9_isOpening v0 v1 w = some z) : W p l e (RM 2 0 0) s m args below meth c H locs 0 0 (MQ below (QG D B Y (some (.int z.1)) z.2 (isZ z.1)) args s 0 0 (AB B)) (F0 m 0 ls []) := by
  have hx := C.1
  have hb := C.2.1
  unfold f_X9_isOpening at hf
  refine lv_aload_n hx hb dX9_isOpening_0 rfl (lv_at hl 0 rfl) ?_
  refine lv_iload_n hx hb dX9_isOpening_1 rfl (lv_at hl 1 rfl) ?_
  obtain ⟨x2, w1, hc, hf⟩ := bd_some hf
  refine q_callV1 (v := .int x2) (As := [.int v1]) C hH (ci := 9) rfl (by omega) gk_X9_99 yd_X9_partnerOf (by omega) (by omega) k_v0 (c_X9_partnerOf k_v0 hc) hl.1 rfl (Nat.le_of_ble_eq_true rfl) dX9_isOpening_2 xv_00 (fun H locs hH hP => ?_)
  refine lv_iconst (v := (-1 : Int32)) hx hb dX9_isOpening_5 (by decide) ?_
  refine b_icmp_eq (tgt := 26) hx hb hf dX9_isOpening_6 (by decide) (fun hf => ?_) (fun hf => ?_)
  · refine lv_iconst (v := (0 : Int32)) hx hb dX9_isOpening_26 (by decide) ?_
    cases hf
    exact q_retz C hH isZ_0 isZ_0 dX9_isOpening_27
  · refine lv_aload_n hx hb dX9_isOpening_9 rfl (lv_at hl 0 rfl) ?_
    refine fg_X9_39 C hH k_v0 dX9_isOpening_10 ?_
    refine lv_iload_n hx hb dX9_isOpening_13 rfl (lv_at hl 1 rfl) ?_
    refine lv_iconst (v := (0 : Int32)) hx hb dX9_isOpening_14 (by decide) ?_
    obtain ⟨x4, w3, hc, hf⟩ := bd_some hf
    refine q_callN1 (v := .int x4) (As := [.ref (B + (v0 + 10)), .int v1, .int (0 : Int32)]) C hH (List.mem_of_getElem? (i := 2) rfl) wd_573 wd_50 wd_572 yd_X10_cellOf (by omega) (by omega) (c_X10_cellOf (ko_9_9 k_v0) hc) hl.1 rfl (Nat.le_of_ble_eq_true rfl) dX9_isOpening_15 xv_00 (fun H locs hH hP => ?_)
    refine lv_iconst (v := (1 : Int32)) hx hb dX9_isOpening_18 (by decide) ?_
    refine b_icmp_ne (tgt := 26) hx hb hf dX9_isOpening_19 (by decide) (fun hf => ?_) (fun hf => ?_)
    · refine lv_iconst (v := (0 : Int32)) hx hb dX9_isOpening_26 (by decide) ?_
      cases hf
      exact q_retz C hH isZ_0 isZ_0 dX9_isOpening_27
    · refine lv_iconst (v := (1 : Int32)) hx hb dX9_isOpening_22 (by decide) ?_
      refine lv_goto (tgt := 27) hx hb dX9_isOpening_23 (by decide) ?_
      cases hf
      exact q_retz C hH isZ_1 isZ_1 dX9_isOpening_27
set_option maxRecDepth 100000 in
theorem c_X9_isOpening {l : Launch} {D : va_G} {B : Nat} {Y : Nat → ClassId} {v0 : Nat} {v1 : Int32} {w : Wd} {r : Int32} {w1 : Wd} (k_v0 : KD v0 = 9)  (hf : f_X9_isOpening v0 v1 w = some (r, w1)) : CM l D B Y yX9_isOpening cX9_isOpening 2 (some .boolean) 2 [.ref (B + v0), .int v1] w (some (.int r)) w1 (isZ r) :=
  CM_of (by decide +kernel) (Nat.le_of_ble_eq_true rfl) (fun p e s m args below meth c ls C hH hl => t_X9_isOpening_0 C k_v0 hH (lv_sub hl [0, 1] rfl) hf)
/-! LetterTables$Tables.isClosing -/
set_option maxRecDepth 100000 in
set_option maxHeartbeats 4000000 in
theorem t_X9_isClosing_0 {D : va_G} {B : Nat} {Y : Nat → ClassId} {p : Program} {l : Launch} {e : Env} {s : State} {m : MethodId} {args : Array Value} {below : List Frame} {meth : Method} {c : Code} {z : (Int32 × Wd)} {H : Heap} {locs : List Loc} {ls : Array Slot} {w : Wd} {v0 : Nat} {v1 : Int32} (C : CX D B Y p s m args meth c cX9_isClosing 2 RX9 (some .boolean))   (k_v0 : KD v0 = 9)  (hH : HS D B Y w s H locs) (hl : lv_has ls 2 [(0, .ref (B + v0)), (1, .int v1)]) (hf : f_X9_isClosing v0 v1 w = some z) : W p l e (RM 2 0 0) s m args below meth c H locs 0 0 (MQ below (QG D B Y (some (.int z.1)) z.2 (isZ z.1)) args s 0 0 (AB B)) (F0 m 0 ls []) := by
  have hx := C.1
  have hb := C.2.1
  unfold f_X9_isClosing at hf
  refine lv_aload_n hx hb dX9_isClosing_0 rfl (lv_at hl 0 rfl) ?_
  refine lv_iload_n hx hb dX9_isClosing_1 rfl (lv_at hl 1 rfl) ?_
  obtain ⟨x2, w1, hc, hf⟩ := bd_some hf
  refine q_callV1 (v := .int x2) (As := [.int v1]) C hH (ci := 9) rfl (by omega) gk_X9_99 yd_X9_partnerOf (by omega) (by omega) k_v0 (c_X9_partnerOf k_v0 hc) hl.1 rfl (Nat.le_of_ble_eq_true rfl) dX9_isClosing_2 xv_00 (fun H locs hH hP => ?_)
  refine lv_iconst (v := (-1 : Int32)) hx hb dX9_isClosing_5 (by decide) ?_
  refine b_icmp_eq (tgt := 25) hx hb hf dX9_isClosing_6 (by decide) (fun hf => ?_) (fun hf => ?_)
  · refine lv_iconst (v := (0 : Int32)) hx hb dX9_isClosing_25 (by decide) ?_
    cases hf
    exact q_retz C hH isZ_0 isZ_0 dX9_isClosing_26
  · refine lv_aload_n hx hb dX9_isClosing_9 rfl (lv_at hl 0 rfl) ?_
    refine fg_X9_39 C hH k_v0 dX9_isClosing_10 ?_
    refine lv_iload_n hx hb dX9_isClosing_13 rfl (lv_at hl 1 rfl) ?_
    refine lv_iconst (v := (0 : Int32)) hx hb dX9_isClosing_14 (by decide) ?_
    obtain ⟨x4, w3, hc, hf⟩ := bd_some hf
    refine q_callN1 (v := .int x4) (As := [.ref (B + (v0 + 10)), .int v1, .int (0 : Int32)]) C hH (List.mem_of_getElem? (i := 2) rfl) wd_573 wd_50 wd_572 yd_X10_cellOf (by omega) (by omega) (c_X10_cellOf (ko_9_9 k_v0) hc) hl.1 rfl (Nat.le_of_ble_eq_true rfl) dX9_isClosing_15 xv_00 (fun H locs hH hP => ?_)
    refine b_if_ne (tgt := 25) hx hb hf dX9_isClosing_18 (by decide) (fun hf => ?_) (fun hf => ?_)
    · refine lv_iconst (v := (0 : Int32)) hx hb dX9_isClosing_25 (by decide) ?_
      cases hf
      exact q_retz C hH isZ_0 isZ_0 dX9_isClosing_26
    · refine lv_iconst (v := (1 : Int32)) hx hb dX9_isClosing_21 (by decide) ?_
      refine lv_goto (tgt := 26) hx hb dX9_isClosing_22 (by decide) ?_
      cases hf
      exact q_retz C hH isZ_1 isZ_1 dX9_isClosing_26
set_option maxRecDepth 100000 in
theorem c_X9_isClosing {l : Launch} {D : va_G} {B : Nat} {Y : Nat → ClassId} {v0 : Nat} {v1 : Int32} {w : Wd} {r : Int32} {w1 : Wd} (k_v0 : KD v0 = 9)  (hf : f_X9_isClosing v0 v1 w = some (r, w1)) : CM l D B Y yX9_isClosing cX9_isClosing 2 (some .boolean) 2 [.ref (B + v0), .int v1] w (some (.int r)) w1 (isZ r) :=
  CM_of (by decide +kernel) (Nat.le_of_ble_eq_true rfl) (fun p e s m args below meth c ls C hH hl => t_X9_isClosing_0 C k_v0 hH (lv_sub hl [0, 1] rfl) hf)
/-! LetterTables$Levels.closeLast -/
set_option maxRecDepth 100000 in
set_option maxHeartbeats 4000000 in
theorem tb_X3_closeLast_10 {D : va_G} {B : Nat} {Y : Nat → ClassId} {p : Program} {l : Launch} {e : Env} {s : State} {m : MethodId} {args : Array Value} {below : List Frame} {meth : Method} {c : Code} {z : (Unit × Wd)} {H : Heap} {locs : List Loc} {ls : Array Slot} {w : Wd} {v1 : Int32} {v2 : Int32} {v3 : Int32} (C : CX D B Y p s m args meth c cX3_closeLast 4 RX3 none)  {rc_10 : Int32 × Int32 × Int32 × Wd → Option (Unit × Wd)} (hr_10 : ∀ (v1 : Int32) (v2 : Int32) (v3 : Int32) (w : Wd), rc_10 (v1, v2, v3, w) = some z → ∀ (H : Heap) (locs : List Loc) (ls : Array Slot), HS D B Y w s H locs → lv_has ls 4 [(0, .ref (B + 650)), (1, .int v1), (2, .int v2), (3, .int v3)] → W p l e (RM 1 0 0) s m args below meth c H locs 0 0 (MQ below (QG D B Y none z.2 True) args s 0 0 (AB B)) (F0 m 10 ls []))    (hH : HS D B Y w s H locs) (hl : lv_has ls 4 [(0, .ref (B + 650)), (1, .int v1), (2, .int v2), (3, .int v3)]) (hf : g_X3_closeLast_10 rc_10 v1 v2 v3 w = some z) : W p l e (RM 1 0 0) s m args below meth c H locs 0 0 (MQ below (QG D B Y none z.2 True) args s 0 0 (AB B)) (F0 m 10 ls []) := by
  have hx := C.1
  have hb := C.2.1
  unfold g_X3_closeLast_10 at hf
  refine lv_iload_n hx hb dX3_closeLast_10 rfl (lv_at hl 3 rfl) ?_
  refine b_if_lt (tgt := 64) hx hb hf dX3_closeLast_11 (by decide) (fun hf => ?_) (fun hf => ?_)
  · cases hf
    exact q_retv C hH trivial dX3_closeLast_64
  · refine lv_aload_n hx hb dX3_closeLast_14 rfl (lv_at hl 0 rfl) ?_
    refine fg_X3_36 C hH dX3_closeLast_15 ?_
    refine lv_aload_n hx hb dX3_closeLast_18 rfl (lv_at hl 0 rfl) ?_
    refine fg_X3_42 C hH dX3_closeLast_19 ?_
    refine lv_iload_n hx hb dX3_closeLast_22 rfl (lv_at hl 3 rfl) ?_
    obtain ⟨x2, w1, hc, hf⟩ := bd_some hf
    refine q_callV1 (v := .int x2) (As := [.int v3]) C hH (ci := 7) rfl (by omega) gk_X3_58 yd_X7_get (by omega) (by omega) kc_665 (c_X7_get kc_665 hc) hl.1 rfl (Nat.le_of_ble_eq_true rfl) dX3_closeLast_23 xv_00 (fun H locs hH hP => ?_)
    obtain ⟨x4, w3, hc, hf⟩ := bd_some hf
    refine q_callV1 (v := .int x4) (As := [.int x2]) C hH (ci := 7) rfl (by omega) gk_X3_58 yd_X7_get (by omega) (by omega) kc_661 (c_X7_get kc_661 hc) hl.1 rfl (Nat.le_of_ble_eq_true rfl) dX3_closeLast_26 xv_00 (fun H locs hH hP => ?_)
    refine lv_iload_n hx hb dX3_closeLast_29 rfl (lv_at hl 2 rfl) ?_
    refine b_icmp_ne (tgt := 58) hx hb hf dX3_closeLast_30 (by decide) (fun hf => ?_) (fun hf => ?_)
    · refine b_let hf (fun x5 he hf => ?_)
      refine lv_iinc (v := x5) (lv' := [(3, .int x5), (0, .ref (B + 650)), (1, .int v1), (2, .int v2)]) hx hb dX3_closeLast_58 hl (k := 3) rfl (by rw [← he]; rfl) (by decide) rfl (fun ls hl => ?_)
      refine lv_goto (tgt := 10) hx hb dX3_closeLast_61 (by decide) ?_
      exact hr_10 v1 v2 x5 w3 hf _ _ _ hH (lv_sub hl [1, 2, 3, 0] rfl)
    · refine lv_aload_n hx hb dX3_closeLast_33 rfl (lv_at hl 0 rfl) ?_
      refine fg_X3_45 C hH dX3_closeLast_34 ?_
      refine lv_aload_n hx hb dX3_closeLast_37 rfl (lv_at hl 0 rfl) ?_
      refine fg_X3_42 C hH dX3_closeLast_38 ?_
      refine lv_iload_n hx hb dX3_closeLast_41 rfl (lv_at hl 3 rfl) ?_
      obtain ⟨x7, w6, hc, hf⟩ := bd_some hf
      refine q_callV1 (v := .int x7) (As := [.int v3]) C hH (ci := 7) rfl (by omega) gk_X3_58 yd_X7_get (by omega) (by omega) kc_665 (c_X7_get kc_665 hc) hl.1 rfl (Nat.le_of_ble_eq_true rfl) dX3_closeLast_42 xv_00 (fun H locs hH hP => ?_)
      refine lv_iload_n hx hb dX3_closeLast_45 rfl (lv_at hl 1 rfl) ?_
      obtain ⟨u, w8, hc, hf⟩ := bd_some hf
      refine q_callV0 (As := [.int x7, .int v1]) C hH (ci := 7) rfl (by omega) gk_X3_121 yd_X7_set (by omega) (by omega) kc_667 (c_X7_set kc_667 hc) hl.1 rfl (Nat.le_of_ble_eq_true rfl) dX3_closeLast_46 xv_00 (fun H locs hH hP => ?_)
      refine lv_aload_n hx hb dX3_closeLast_49 rfl (lv_at hl 0 rfl) ?_
      refine fg_X3_42 C hH dX3_closeLast_50 ?_
      refine lv_iload_n hx hb dX3_closeLast_53 rfl (lv_at hl 3 rfl) ?_
      obtain ⟨u, w9, hc, hf⟩ := bd_some hf
      refine q_callV0 (As := [.int v3]) C hH (ci := 7) rfl (by omega) gk_X3_101 yd_X7_cutTo (by omega) (by omega) kc_665 (c_X7_cutTo kc_665 hc) hl.1 rfl (Nat.le_of_ble_eq_true rfl) dX3_closeLast_54 xv_00 (fun H locs hH hP => ?_)
      cases hf
      exact q_retv C hH trivial dX3_closeLast_57
set_option maxRecDepth 100000 in
set_option maxHeartbeats 4000000 in
theorem t_X3_closeLast_10 {D : va_G} {B : Nat} {Y : Nat → ClassId} {p : Program} {l : Launch} {e : Env} {s : State} {m : MethodId} {args : Array Value} {below : List Frame} {meth : Method} {c : Code} {z : (Unit × Wd)} {H : Heap} {locs : List Loc} {ls : Array Slot} {w : Wd} {v1 : Int32} {v2 : Int32} {v3 : Int32} (C : CX D B Y p s m args meth c cX3_closeLast 4 RX3 none)     (hH : HS D B Y w s H locs) (hl : lv_has ls 4 [(0, .ref (B + 650)), (1, .int v1), (2, .int v2), (3, .int v3)]) (hf : f_X3_closeLast_10 v1 v2 v3 w = some z) : W p l e (RM 1 0 0) s m args below meth c H locs 0 0 (MQ below (QG D B Y none z.2 True) args s 0 0 (AB B)) (F0 m 10 ls []) := by
  exact loopN_ind (z := z) (body := fun rc σ => g_X3_closeLast_10 rc  σ.1 σ.2.1 σ.2.2.1 σ.2.2.2)
    (P := fun σ => ∀ (H : Heap) (locs : List Loc) (ls : Array Slot), HS D B Y σ.2.2.2 s H locs → lv_has ls 4 [(0, .ref (B + 650)), (1, .int σ.1), (2, .int σ.2.1), (3, .int σ.2.2.1)] → W p l e (RM 1 0 0) s m args below meth c H locs 0 0 (MQ below (QG D B Y none z.2 True) args s 0 0 (AB B)) (F0 m 10 ls []))
    (fun rc hrec σ hf  H locs ls hH hl => tb_X3_closeLast_10 C (fun v1 v2 v3 w hr  H locs ls hH hl => hrec (v1, v2, v3, w) hr  H locs ls hH hl)   hH hl hf) FU (v1, v2, v3, w) hf  H locs ls hH hl
set_option maxRecDepth 100000 in
set_option maxHeartbeats 4000000 in
theorem t_X3_closeLast_0 {D : va_G} {B : Nat} {Y : Nat → ClassId} {p : Program} {l : Launch} {e : Env} {s : State} {m : MethodId} {args : Array Value} {below : List Frame} {meth : Method} {c : Code} {z : (Unit × Wd)} {H : Heap} {locs : List Loc} {ls : Array Slot} {w : Wd} {v1 : Int32} {v2 : Int32} (C : CX D B Y p s m args meth c cX3_closeLast 4 RX3 none)     (hH : HS D B Y w s H locs) (hl : lv_has ls 4 [(0, .ref (B + 650)), (1, .int v1), (2, .int v2)]) (hf : f_X3_closeLast v1 v2 w = some z) : W p l e (RM 1 0 0) s m args below meth c H locs 0 0 (MQ below (QG D B Y none z.2 True) args s 0 0 (AB B)) (F0 m 0 ls []) := by
  have hx := C.1
  have hb := C.2.1
  unfold f_X3_closeLast at hf
  refine lv_aload_n hx hb dX3_closeLast_0 rfl (lv_at hl 0 rfl) ?_
  refine fg_X3_42 C hH dX3_closeLast_1 ?_
  obtain ⟨x2, w1, hc, hf⟩ := bd_some hf
  refine q_callV1 (v := .int x2) (As := []) C hH (ci := 7) rfl (by omega) gk_X3_54 yd_X7_size (by omega) (by omega) kc_665 (c_X7_size kc_665 hc) hl.1 rfl (Nat.le_of_ble_eq_true rfl) dX3_closeLast_4 xv_00 (fun H locs hH hP => ?_)
  refine lv_iconst (v := (1 : Int32)) hx hb dX3_closeLast_7 (by decide) ?_
  refine lv_isub hx hb dX3_closeLast_8 ?_
  refine b_leti hf (fun x3 hf => ?_)
  refine lv_istore_n (lv' := [(3, .int x3), (0, .ref (B + 650)), (1, .int v1), (2, .int v2)]) hx hb dX3_closeLast_9 rfl hl (by decide) rfl (fun ls hl => ?_)
  exact t_X3_closeLast_10 C hH (lv_sub hl [1, 2, 3, 0] rfl) hf
set_option maxRecDepth 100000 in
theorem c_X3_closeLast {l : Launch} {D : va_G} {B : Nat} {Y : Nat → ClassId} {v1 : Int32} {v2 : Int32} {w : Wd} {r : Unit} {w1 : Wd}   (hf : f_X3_closeLast v1 v2 w = some (r, w1)) : CM l D B Y yX3_closeLast cX3_closeLast 4 none 1 [.ref (B + 650), .int v1, .int v2] w none w1 True :=
  CM_of (by decide +kernel) (Nat.le_of_ble_eq_true rfl) (fun p e s m args below meth c ls C hH hl => t_X3_closeLast_0 C  hH (lv_sub hl [0, 1, 2] rfl) hf)
/-! LetterTables$Levels.matchPartners -/
set_option maxRecDepth 100000 in
set_option maxHeartbeats 4000000 in
theorem tb_X3_matchPartners_25 {D : va_G} {B : Nat} {Y : Nat → ClassId} {p : Program} {l : Launch} {e : Env} {s : State} {m : MethodId} {args : Array Value} {below : List Frame} {meth : Method} {c : Code} {z : (Unit × Wd)} {H : Heap} {locs : List Loc} {ls : Array Slot} {w : Wd} {v1 : Int32} (C : CX D B Y p s m args meth c cX3_matchPartners 3 RX3 none)  {rc_25 : Int32 × Wd → Option (Unit × Wd)} (hr_25 : ∀ (v1 : Int32) (w : Wd), rc_25 (v1, w) = some z → ∀ (H : Heap) (locs : List Loc) (ls : Array Slot), HS D B Y w s H locs → lv_has ls 3 [(0, .ref (B + 650)), (1, .int v1)] → W p l e (RM 3 0 0) s m args below meth c H locs 0 0 (MQ below (QG D B Y none z.2 True) args s 0 0 (AB B)) (F0 m 25 ls []))    (hH : HS D B Y w s H locs) (hl : lv_has ls 3 [(0, .ref (B + 650)), (1, .int v1)]) (hf : g_X3_matchPartners_25 rc_25 v1 w = some z) : W p l e (RM 3 0 0) s m args below meth c H locs 0 0 (MQ below (QG D B Y none z.2 True) args s 0 0 (AB B)) (F0 m 25 ls []) := by
  have hx := C.1
  have hb := C.2.1
  unfold g_X3_matchPartners_25 at hf
  refine lv_iload_n hx hb dX3_matchPartners_25 rfl (lv_at hl 1 rfl) ?_
  refine lv_aload_n hx hb dX3_matchPartners_26 rfl (lv_at hl 0 rfl) ?_
  refine fg_X3_36 C hH dX3_matchPartners_27 ?_
  obtain ⟨x2, w1, hc, hf⟩ := bd_some hf
  refine q_callV1 (v := .int x2) (As := []) C hH (ci := 7) rfl (by omega) gk_X3_54 yd_X7_size (by omega) (by omega) kc_661 (c_X7_size kc_661 hc) hl.1 rfl (Nat.le_of_ble_eq_true rfl) dX3_matchPartners_30 xv_00 (fun H locs hH hP => ?_)
  refine b_icmp_ge (tgt := 113) hx hb hf dX3_matchPartners_33 (by decide) (fun hf => ?_) (fun hf => ?_)
  · cases hf
    exact q_retv C hH trivial dX3_matchPartners_113
  · refine lv_aload_n hx hb dX3_matchPartners_36 rfl (lv_at hl 0 rfl) ?_
    refine fg_X3_36 C hH dX3_matchPartners_37 ?_
    refine lv_iload_n hx hb dX3_matchPartners_40 rfl (lv_at hl 1 rfl) ?_
    obtain ⟨x4, w3, hc, hf⟩ := bd_some hf
    refine q_callV1 (v := .int x4) (As := [.int v1]) C hH (ci := 7) rfl (by omega) gk_X3_58 yd_X7_get (by omega) (by omega) kc_661 (c_X7_get kc_661 hc) hl.1 rfl (Nat.le_of_ble_eq_true rfl) dX3_matchPartners_41 xv_00 (fun H locs hH hP => ?_)
    refine lv_istore_n (lv' := [(2, .int x4), (0, .ref (B + 650)), (1, .int v1)]) hx hb dX3_matchPartners_44 rfl hl (by decide) rfl (fun ls hl => ?_)
    refine lv_aload_n hx hb dX3_matchPartners_45 rfl (lv_at hl 1 rfl) ?_
    refine fg_X3_9 C hH dX3_matchPartners_46 ?_
    refine lv_iload_n hx hb dX3_matchPartners_49 rfl (lv_at hl 0 rfl) ?_
    obtain ⟨x6, w5, hc, hf⟩ := bd_some hf
    refine q_callV1 (v := .int x6) (As := [.int x4]) C hH (ci := 9) rfl (by omega) gk_X3_62 yd_X9_directionOf (by omega) (by omega) kc_1 (c_X9_directionOf kc_1 hc) hl.1 rfl (Nat.le_of_ble_eq_true rfl) dX3_matchPartners_50 xv_00 (fun H locs hH hP => ?_)
    refine lv_iconst (v := (3 : Int32)) hx hb dX3_matchPartners_53 (by decide) ?_
    refine b_icmp_eq (tgt := 60) hx hb hf dX3_matchPartners_54 (by decide) (fun hf => ?_) (fun hf => ?_)
    · refine lv_aload_n hx hb dX3_matchPartners_60 rfl (lv_at hl 1 rfl) ?_
      refine fg_X3_9 C hH dX3_matchPartners_61 ?_
      refine lv_iload_n hx hb dX3_matchPartners_64 rfl (lv_at hl 0 rfl) ?_
      obtain ⟨x8, w7, hc, hf⟩ := bd_some hf
      refine q_callV1 (v := .int x8) (As := [.int x4]) C hH (ci := 9) rfl (by omega) gk_X3_130 yd_X9_isOpening (by omega) (by omega) kc_1 (c_X9_isOpening kc_1 hc) hl.1 rfl (Nat.le_of_ble_eq_true rfl) dX3_matchPartners_65 xv_00 (fun H locs hH z_x8 => ?_)
      refine b_if_eq (tgt := 83) hx hb hf dX3_matchPartners_68 (by decide) (fun hf => ?_) (fun hf => ?_)
      · refine lv_aload_n hx hb dX3_matchPartners_83 rfl (lv_at hl 1 rfl) ?_
        refine fg_X3_9 C hH dX3_matchPartners_84 ?_
        refine lv_iload_n hx hb dX3_matchPartners_87 rfl (lv_at hl 0 rfl) ?_
        obtain ⟨x10, w9, hc, hf⟩ := bd_some hf
        refine q_callV1 (v := .int x10) (As := [.int x4]) C hH (ci := 9) rfl (by omega) gk_X3_133 yd_X9_isClosing (by omega) (by omega) kc_1 (c_X9_isClosing kc_1 hc) hl.1 rfl (Nat.le_of_ble_eq_true rfl) dX3_matchPartners_88 xv_00 (fun H locs hH z_x10 => ?_)
        refine b_if_eq (tgt := 107) hx hb hf dX3_matchPartners_91 (by decide) (fun hf => ?_) (fun hf => ?_)
        · refine b_let hf (fun x11 he hf => ?_)
          refine lv_iinc (v := x11) (lv' := [(1, .int x11), (2, .int x4), (0, .ref (B + 650))]) hx hb dX3_matchPartners_107 hl (k := 2) rfl (by rw [← he]; rfl) (by decide) rfl (fun ls hl => ?_)
          refine lv_goto (tgt := 25) hx hb dX3_matchPartners_110 (by decide) ?_
          exact hr_25 x11 w9 hf _ _ _ hH (lv_sub hl [2, 0] rfl)
        · refine lv_aload_n hx hb dX3_matchPartners_94 rfl (lv_at hl 1 rfl) ?_
          refine lv_iload_n hx hb dX3_matchPartners_95 rfl (lv_at hl 2 rfl) ?_
          refine lv_aload_n hx hb dX3_matchPartners_96 rfl (lv_at hl 1 rfl) ?_
          refine fg_X3_9 C hH dX3_matchPartners_97 ?_
          refine lv_iload_n hx hb dX3_matchPartners_100 rfl (lv_at hl 0 rfl) ?_
          obtain ⟨x13, w12, hc, hf⟩ := bd_some hf
          refine q_callV1 (v := .int x13) (As := [.int x4]) C hH (ci := 9) rfl (by omega) gk_X3_136 yd_X9_partnerOf (by omega) (by omega) kc_1 (c_X9_partnerOf kc_1 hc) hl.1 rfl (Nat.le_of_ble_eq_true rfl) dX3_matchPartners_101 xv_00 (fun H locs hH hP => ?_)
          obtain ⟨u, w14, hc, hf⟩ := bd_some hf
          refine q_callV0 (As := [.int v1, .int x13]) C hH (ci := 3) rfl (by omega) gk_X3_139 yd_X3_closeLast (by omega) (by omega) kc_650 (c_X3_closeLast hc) hl.1 rfl (Nat.le_of_ble_eq_true rfl) dX3_matchPartners_104 xv_00 (fun H locs hH hP => ?_)
          refine b_let hf (fun x15 he hf => ?_)
          refine lv_iinc (v := x15) (lv' := [(1, .int x15), (2, .int x4), (0, .ref (B + 650))]) hx hb dX3_matchPartners_107 hl (k := 2) rfl (by rw [← he]; rfl) (by decide) rfl (fun ls hl => ?_)
          refine lv_goto (tgt := 25) hx hb dX3_matchPartners_110 (by decide) ?_
          exact hr_25 x15 w14 hf _ _ _ hH (lv_sub hl [2, 0] rfl)
      · refine lv_aload_n hx hb dX3_matchPartners_71 rfl (lv_at hl 1 rfl) ?_
        refine fg_X3_42 C hH dX3_matchPartners_72 ?_
        refine lv_iload_n hx hb dX3_matchPartners_75 rfl (lv_at hl 2 rfl) ?_
        obtain ⟨x17, w16, hc, hf⟩ := bd_some hf
        refine q_callV1 (v := .int x17) (As := [.int v1]) C hH (ci := 7) rfl (by omega) gk_X3_111 yd_X7_add (by omega) (by omega) kc_665 (c_X7_add kc_665 hc) hl.1 rfl (Nat.le_of_ble_eq_true rfl) dX3_matchPartners_76 xv_00 (fun H locs hH z_x17 => ?_)
        refine lv_pop hx hb dX3_matchPartners_79 rfl ?_
        refine lv_goto (tgt := 107) hx hb dX3_matchPartners_80 (by decide) ?_
        refine b_let hf (fun x18 he hf => ?_)
        refine lv_iinc (v := x18) (lv' := [(1, .int x18), (2, .int x4), (0, .ref (B + 650))]) hx hb dX3_matchPartners_107 hl (k := 2) rfl (by rw [← he]; rfl) (by decide) rfl (fun ls hl => ?_)
        refine lv_goto (tgt := 25) hx hb dX3_matchPartners_110 (by decide) ?_
        exact hr_25 x18 w16 hf _ _ _ hH (lv_sub hl [2, 0] rfl)
    · refine lv_goto (tgt := 107) hx hb dX3_matchPartners_57 (by decide) ?_
      refine b_let hf (fun x19 he hf => ?_)
      refine lv_iinc (v := x19) (lv' := [(1, .int x19), (2, .int x4), (0, .ref (B + 650))]) hx hb dX3_matchPartners_107 hl (k := 2) rfl (by rw [← he]; rfl) (by decide) rfl (fun ls hl => ?_)
      refine lv_goto (tgt := 25) hx hb dX3_matchPartners_110 (by decide) ?_
      exact hr_25 x19 w5 hf _ _ _ hH (lv_sub hl [2, 0] rfl)
set_option maxRecDepth 100000 in
set_option maxHeartbeats 4000000 in
theorem t_X3_matchPartners_25 {D : va_G} {B : Nat} {Y : Nat → ClassId} {p : Program} {l : Launch} {e : Env} {s : State} {m : MethodId} {args : Array Value} {below : List Frame} {meth : Method} {c : Code} {z : (Unit × Wd)} {H : Heap} {locs : List Loc} {ls : Array Slot} {w : Wd} {v1 : Int32} (C : CX D B Y p s m args meth c cX3_matchPartners 3 RX3 none)     (hH : HS D B Y w s H locs) (hl : lv_has ls 3 [(0, .ref (B + 650)), (1, .int v1)]) (hf : f_X3_matchPartners_25 v1 w = some z) : W p l e (RM 3 0 0) s m args below meth c H locs 0 0 (MQ below (QG D B Y none z.2 True) args s 0 0 (AB B)) (F0 m 25 ls []) := by
  exact loopN_ind (z := z) (body := fun rc σ => g_X3_matchPartners_25 rc  σ.1 σ.2)
    (P := fun σ => ∀ (H : Heap) (locs : List Loc) (ls : Array Slot), HS D B Y σ.2 s H locs → lv_has ls 3 [(0, .ref (B + 650)), (1, .int σ.1)] → W p l e (RM 3 0 0) s m args below meth c H locs 0 0 (MQ below (QG D B Y none z.2 True) args s 0 0 (AB B)) (F0 m 25 ls []))
    (fun rc hrec σ hf  H locs ls hH hl => tb_X3_matchPartners_25 C (fun v1 w hr  H locs ls hH hl => hrec (v1, w) hr  H locs ls hH hl)   hH hl hf) FU (v1, w) hf  H locs ls hH hl
set_option maxRecDepth 100000 in
set_option maxHeartbeats 4000000 in
theorem t_X3_matchPartners_0 {D : va_G} {B : Nat} {Y : Nat → ClassId} {p : Program} {l : Launch} {e : Env} {s : State} {m : MethodId} {args : Array Value} {below : List Frame} {meth : Method} {c : Code} {z : (Unit × Wd)} {H : Heap} {locs : List Loc} {ls : Array Slot} {w : Wd}  (C : CX D B Y p s m args meth c cX3_matchPartners 3 RX3 none)     (hH : HS D B Y w s H locs) (hl : lv_has ls 3 [(0, .ref (B + 650))]) (hf : f_X3_matchPartners w = some z) : W p l e (RM 3 0 0) s m args below meth c H locs 0 0 (MQ below (QG D B Y none z.2 True) args s 0 0 (AB B)) (F0 m 0 ls []) := by
  have hx := C.1
  have hb := C.2.1
  unfold f_X3_matchPartners at hf
  refine lv_aload_n hx hb dX3_matchPartners_0 rfl (lv_at hl 0 rfl) ?_
  refine fg_X3_45 C hH dX3_matchPartners_1 ?_
  refine lv_iconst (v := (-1 : Int32)) hx hb dX3_matchPartners_4 (by decide) ?_
  refine lv_aload_n hx hb dX3_matchPartners_5 rfl (lv_at hl 0 rfl) ?_
  refine fg_X3_36 C hH dX3_matchPartners_6 ?_
  obtain ⟨x2, w1, hc, hf⟩ := bd_some hf
  refine q_callV1 (v := .int x2) (As := []) C hH (ci := 7) rfl (by omega) gk_X3_54 yd_X7_size (by omega) (by omega) kc_661 (c_X7_size kc_661 hc) hl.1 rfl (Nat.le_of_ble_eq_true rfl) dX3_matchPartners_9 xv_00 (fun H locs hH hP => ?_)
  obtain ⟨u, w3, hc, hf⟩ := bd_some hf
  refine q_callV0 (As := [.int (-1 : Int32), .int x2]) C hH (ci := 7) rfl (by omega) gk_X3_79 yd_X7_refill (by omega) (by omega) kc_667 (c_X7_refill kc_667 hc) hl.1 rfl (Nat.le_of_ble_eq_true rfl) dX3_matchPartners_12 xv_00 (fun H locs hH hP => ?_)
  refine lv_aload_n hx hb dX3_matchPartners_15 rfl (lv_at hl 0 rfl) ?_
  refine fg_X3_42 C hH dX3_matchPartners_16 ?_
  refine lv_iconst (v := (0 : Int32)) hx hb dX3_matchPartners_19 (by decide) ?_
  obtain ⟨u, w4, hc, hf⟩ := bd_some hf
  refine q_callV0 (As := [.int (0 : Int32)]) C hH (ci := 7) rfl (by omega) gk_X3_101 yd_X7_cutTo (by omega) (by omega) kc_665 (c_X7_cutTo kc_665 hc) hl.1 rfl (Nat.le_of_ble_eq_true rfl) dX3_matchPartners_20 xv_00 (fun H locs hH hP => ?_)
  refine lv_iconst (v := (0 : Int32)) hx hb dX3_matchPartners_23 (by decide) ?_
  refine lv_istore_n (lv' := [(1, .int (0 : Int32)), (0, .ref (B + 650))]) hx hb dX3_matchPartners_24 rfl hl (by decide) rfl (fun ls hl => ?_)
  exact t_X3_matchPartners_25 C hH (lv_sub hl [1, 0] rfl) hf
set_option maxRecDepth 100000 in
theorem c_X3_matchPartners {l : Launch} {D : va_G} {B : Nat} {Y : Nat → ClassId}  {w : Wd} {r : Unit} {w1 : Wd}   (hf : f_X3_matchPartners w = some (r, w1)) : CM l D B Y yX3_matchPartners cX3_matchPartners 3 none 3 [.ref (B + 650)] w none w1 True :=
  CM_of (by decide +kernel) (Nat.le_of_ble_eq_true rfl) (fun p e s m args below meth c ls C hH hl => t_X3_matchPartners_0 C  hH (lv_sub hl [0] rfl) hf)
/-! LetterTables$Levels.plainWay -/
set_option maxRecDepth 100000 in
set_option maxHeartbeats 4000000 in
theorem t_X3_plainWay_0 {D : va_G} {B : Nat} {Y : Nat → ClassId} {p : Program} {l : Launch} {e : Env} {s : State} {m : MethodId} {args : Array Value} {below : List Frame} {meth : Method} {c : Code} {z : (Int32 × Wd)} {H : Heap} {locs : List Loc} {ls : Array Slot} {w : Wd} {v1 : Int32} (C : CX D B Y p s m args meth c cX3_plainWay 3 RX3 (some .int))     (hH : HS D B Y w s H locs) (hl : lv_has ls 3 [(0, .ref (B + 650)), (1, .int v1)]) (hf : f_X3_plainWay v1 w = some z) : W p l e (RM 1 0 0) s m args below meth c H locs 0 0 (MQ below (QG D B Y (some (.int z.1)) z.2 True) args s 0 0 (AB B)) (F0 m 0 ls []) := by
  have hx := C.1
  have hb := C.2.1
  unfold f_X3_plainWay at hf
  refine lv_aload_n hx hb dX3_plainWay_0 rfl (lv_at hl 0 rfl) ?_
  refine fg_X3_39 C hH dX3_plainWay_1 ?_
  refine lv_iload_n hx hb dX3_plainWay_4 rfl (lv_at hl 1 rfl) ?_
  obtain ⟨x2, w1, hc, hf⟩ := bd_some hf
  refine q_callV1 (v := .int x2) (As := [.int v1]) C hH (ci := 7) rfl (by omega) gk_X3_58 yd_X7_get (by omega) (by omega) kc_663 (c_X7_get kc_663 hc) hl.1 rfl (Nat.le_of_ble_eq_true rfl) dX3_plainWay_5 xv_00 (fun H locs hH hP => ?_)
  refine lv_istore_n (lv' := [(2, .int x2), (0, .ref (B + 650)), (1, .int v1)]) hx hb dX3_plainWay_8 rfl hl (by decide) rfl (fun ls hl => ?_)
  refine lv_iload_n hx hb dX3_plainWay_9 rfl (lv_at hl 0 rfl) ?_
  refine lv_iconst (v := (2 : Int32)) hx hb dX3_plainWay_10 (by decide) ?_
  refine b_icmp_ne (tgt := 18) hx hb hf dX3_plainWay_11 (by decide) (fun hf => ?_) (fun hf => ?_)
  · refine lv_iload_n hx hb dX3_plainWay_18 rfl (lv_at hl 0 rfl) ?_
    cases hf
    exact q_reti C hH trivial dX3_plainWay_19
  · refine lv_iconst (v := (1 : Int32)) hx hb dX3_plainWay_14 (by decide) ?_
    refine lv_goto (tgt := 19) hx hb dX3_plainWay_15 (by decide) ?_
    cases hf
    exact q_reti C hH trivial dX3_plainWay_19
set_option maxRecDepth 100000 in
theorem c_X3_plainWay {l : Launch} {D : va_G} {B : Nat} {Y : Nat → ClassId} {v1 : Int32} {w : Wd} {r : Int32} {w1 : Wd}   (hf : f_X3_plainWay v1 w = some (r, w1)) : CM l D B Y yX3_plainWay cX3_plainWay 3 (some .int) 1 [.ref (B + 650), .int v1] w (some (.int r)) w1 True :=
  CM_of (by decide +kernel) (Nat.le_of_ble_eq_true rfl) (fun p e s m args below meth c ls C hH hl => t_X3_plainWay_0 C  hH (lv_sub hl [0, 1] rfl) hf)
/-! LetterTables$Levels.wayAhead -/
set_option maxRecDepth 100000 in
set_option maxHeartbeats 4000000 in
theorem tb_X3_wayAhead_4 {D : va_G} {B : Nat} {Y : Nat → ClassId} {p : Program} {l : Launch} {e : Env} {s : State} {m : MethodId} {args : Array Value} {below : List Frame} {meth : Method} {c : Code} {z : (Int32 × Wd)} {H : Heap} {locs : List Loc} {ls : Array Slot} {w : Wd} {v2 : Int32} {v3 : Int32} (C : CX D B Y p s m args meth c cX3_wayAhead 4 RX3 (some .int))  {rc_4 : Int32 × Int32 × Wd → Option (Int32 × Wd)} (hr_4 : ∀ (v2 : Int32) (v3 : Int32) (w : Wd), rc_4 (v2, v3, w) = some z → ∀ (H : Heap) (locs : List Loc) (ls : Array Slot), HS D B Y w s H locs → lv_has ls 4 [(0, .ref (B + 650)), (2, .int v2), (3, .int v3)] → W p l e (RM 2 0 0) s m args below meth c H locs 0 0 (MQ below (QG D B Y (some (.int z.1)) z.2 True) args s 0 0 (AB B)) (F0 m 4 ls []))    (hH : HS D B Y w s H locs) (hl : lv_has ls 4 [(0, .ref (B + 650)), (2, .int v2), (3, .int v3)]) (hf : g_X3_wayAhead_4 rc_4 v2 v3 w = some z) : W p l e (RM 2 0 0) s m args below meth c H locs 0 0 (MQ below (QG D B Y (some (.int z.1)) z.2 True) args s 0 0 (AB B)) (F0 m 4 ls []) := by
  have hx := C.1
  have hb := C.2.1
  unfold g_X3_wayAhead_4 at hf
  refine lv_iload_n hx hb dX3_wayAhead_4 rfl (lv_at hl 2 rfl) ?_
  refine b_if_lt (tgt := 29) hx hb hf dX3_wayAhead_5 (by decide) (fun hf => ?_) (fun hf => ?_)
  · refine lv_iload_n hx hb dX3_wayAhead_29 rfl (lv_at hl 1 rfl) ?_
    cases hf
    exact q_reti C hH trivial dX3_wayAhead_30
  · refine lv_aload_n hx hb dX3_wayAhead_8 rfl (lv_at hl 0 rfl) ?_
    refine lv_iload_n hx hb dX3_wayAhead_9 rfl (lv_at hl 2 rfl) ?_
    obtain ⟨x2, w1, hc, hf⟩ := bd_some hf
    refine q_callV1 (v := .int x2) (As := [.int v3]) C hH (ci := 3) rfl (by omega) gk_X3_142 yd_X3_plainWay (by omega) (by omega) kc_650 (c_X3_plainWay hc) hl.1 rfl (Nat.le_of_ble_eq_true rfl) dX3_wayAhead_10 xv_00 (fun H locs hH hP => ?_)
    refine lv_iconst (v := (3 : Int32)) hx hb dX3_wayAhead_13 (by decide) ?_
    refine b_icmp_eq (tgt := 23) hx hb hf dX3_wayAhead_14 (by decide) (fun hf => ?_) (fun hf => ?_)
    · refine b_let hf (fun x3 he hf => ?_)
      refine lv_iinc (v := x3) (lv' := [(3, .int x3), (0, .ref (B + 650)), (2, .int v2)]) hx hb dX3_wayAhead_23 hl (k := 2) rfl (by rw [← he]; rfl) (by decide) rfl (fun ls hl => ?_)
      refine lv_goto (tgt := 4) hx hb dX3_wayAhead_26 (by decide) ?_
      exact hr_4 v2 x3 w1 hf _ _ _ hH (lv_sub hl [1, 2, 0] rfl)
    · refine lv_aload_n hx hb dX3_wayAhead_17 rfl (lv_at hl 0 rfl) ?_
      refine lv_iload_n hx hb dX3_wayAhead_18 rfl (lv_at hl 2 rfl) ?_
      obtain ⟨x5, w4, hc, hf⟩ := bd_some hf
      refine q_callV1 (v := .int x5) (As := [.int v3]) C hH (ci := 3) rfl (by omega) gk_X3_142 yd_X3_plainWay (by omega) (by omega) kc_650 (c_X3_plainWay hc) hl.1 rfl (Nat.le_of_ble_eq_true rfl) dX3_wayAhead_19 xv_00 (fun H locs hH hP => ?_)
      cases hf
      exact q_reti C hH trivial dX3_wayAhead_22
set_option maxRecDepth 100000 in
set_option maxHeartbeats 4000000 in
theorem t_X3_wayAhead_4 {D : va_G} {B : Nat} {Y : Nat → ClassId} {p : Program} {l : Launch} {e : Env} {s : State} {m : MethodId} {args : Array Value} {below : List Frame} {meth : Method} {c : Code} {z : (Int32 × Wd)} {H : Heap} {locs : List Loc} {ls : Array Slot} {w : Wd} {v2 : Int32} {v3 : Int32} (C : CX D B Y p s m args meth c cX3_wayAhead 4 RX3 (some .int))     (hH : HS D B Y w s H locs) (hl : lv_has ls 4 [(0, .ref (B + 650)), (2, .int v2), (3, .int v3)]) (hf : f_X3_wayAhead_4 v2 v3 w = some z) : W p l e (RM 2 0 0) s m args below meth c H locs 0 0 (MQ below (QG D B Y (some (.int z.1)) z.2 True) args s 0 0 (AB B)) (F0 m 4 ls []) := by
  exact loopN_ind (z := z) (body := fun rc σ => g_X3_wayAhead_4 rc  σ.1 σ.2.1 σ.2.2)
    (P := fun σ => ∀ (H : Heap) (locs : List Loc) (ls : Array Slot), HS D B Y σ.2.2 s H locs → lv_has ls 4 [(0, .ref (B + 650)), (2, .int σ.1), (3, .int σ.2.1)] → W p l e (RM 2 0 0) s m args below meth c H locs 0 0 (MQ below (QG D B Y (some (.int z.1)) z.2 True) args s 0 0 (AB B)) (F0 m 4 ls []))
    (fun rc hrec σ hf  H locs ls hH hl => tb_X3_wayAhead_4 C (fun v2 v3 w hr  H locs ls hH hl => hrec (v2, v3, w) hr  H locs ls hH hl)   hH hl hf) FU (v2, v3, w) hf  H locs ls hH hl
set_option maxRecDepth 100000 in
set_option maxHeartbeats 4000000 in
theorem t_X3_wayAhead_0 {D : va_G} {B : Nat} {Y : Nat → ClassId} {p : Program} {l : Launch} {e : Env} {s : State} {m : MethodId} {args : Array Value} {below : List Frame} {meth : Method} {c : Code} {z : (Int32 × Wd)} {H : Heap} {locs : List Loc} {ls : Array Slot} {w : Wd} {v1 : Int32} {v2 : Int32} (C : CX D B Y p s m args meth c cX3_wayAhead 4 RX3 (some .int))     (hH : HS D B Y w s H locs) (hl : lv_has ls 4 [(0, .ref (B + 650)), (1, .int v1), (2, .int v2)]) (hf : f_X3_wayAhead v1 v2 w = some z) : W p l e (RM 2 0 0) s m args below meth c H locs 0 0 (MQ below (QG D B Y (some (.int z.1)) z.2 True) args s 0 0 (AB B)) (F0 m 0 ls []) := by
  have hx := C.1
  have hb := C.2.1
  unfold f_X3_wayAhead at hf
  refine lv_iload_n hx hb dX3_wayAhead_0 rfl (lv_at hl 1 rfl) ?_
  refine lv_iconst (v := (1 : Int32)) hx hb dX3_wayAhead_1 (by decide) ?_
  refine lv_isub hx hb dX3_wayAhead_2 ?_
  refine b_leti hf (fun x1 hf => ?_)
  refine lv_istore_n (lv' := [(3, .int x1), (0, .ref (B + 650)), (1, .int v1), (2, .int v2)]) hx hb dX3_wayAhead_3 rfl hl (by decide) rfl (fun ls hl => ?_)
  exact t_X3_wayAhead_4 C hH (lv_sub hl [1, 3, 0] rfl) hf
set_option maxRecDepth 100000 in
theorem c_X3_wayAhead {l : Launch} {D : va_G} {B : Nat} {Y : Nat → ClassId} {v1 : Int32} {v2 : Int32} {w : Wd} {r : Int32} {w1 : Wd}   (hf : f_X3_wayAhead v1 v2 w = some (r, w1)) : CM l D B Y yX3_wayAhead cX3_wayAhead 4 (some .int) 2 [.ref (B + 650), .int v1, .int v2] w (some (.int r)) w1 True :=
  CM_of (by decide +kernel) (Nat.le_of_ble_eq_true rfl) (fun p e s m args below meth c ls C hH hl => t_X3_wayAhead_0 C  hH (lv_sub hl [0, 1, 2] rfl) hf)
/-! LetterTables$Levels.pairWay -/
set_option maxRecDepth 100000 in
set_option maxHeartbeats 4000000 in
theorem tb_X3_pairWay_19 {D : va_G} {B : Nat} {Y : Nat → ClassId} {p : Program} {l : Launch} {e : Env} {s : State} {m : MethodId} {args : Array Value} {below : List Frame} {meth : Method} {c : Code} {z : (Int32 × Wd)} {H : Heap} {locs : List Loc} {ls : Array Slot} {w : Wd} {v1 : Int32} {v2 : Int32} {v3 : Int32} {v4 : Int32} {v5 : Int32} {v6 : Int32} (C : CX D B Y p s m args meth c cX3_pairWay 8 RX3 (some .int))  {rc_19 : Int32 × Int32 × Int32 × Int32 × Int32 × Int32 × Wd → Option (Int32 × Wd)} (hr_19 : ∀ (v1 : Int32) (v2 : Int32) (v3 : Int32) (v4 : Int32) (v5 : Int32) (v6 : Int32) (w : Wd), rc_19 (v1, v2, v3, v4, v5, v6, w) = some z → isZ v4 → isZ v5 → ∀ (H : Heap) (locs : List Loc) (ls : Array Slot), HS D B Y w s H locs → lv_has ls 8 [(0, .ref (B + 650)), (1, .int v1), (2, .int v2), (3, .int v3), (4, .int v4), (5, .int v5), (6, .int v6)] → W p l e (RM 3 0 0) s m args below meth c H locs 0 0 (MQ below (QG D B Y (some (.int z.1)) z.2 True) args s 0 0 (AB B)) (F0 m 19 ls []))   (z_v4 : isZ v4) (z_v5 : isZ v5) (hH : HS D B Y w s H locs) (hl : lv_has ls 8 [(0, .ref (B + 650)), (1, .int v1), (2, .int v2), (3, .int v3), (4, .int v4), (5, .int v5), (6, .int v6)]) (hf : g_X3_pairWay_19 rc_19 v1 v2 v3 v4 v5 v6 w = some z) : W p l e (RM 3 0 0) s m args below meth c H locs 0 0 (MQ below (QG D B Y (some (.int z.1)) z.2 True) args s 0 0 (AB B)) (F0 m 19 ls []) := by
  have hx := C.1
  have hb := C.2.1
  unfold g_X3_pairWay_19 at hf
  refine lv_iload hx hb dX3_pairWay_19 (lv_at hl 6 rfl) ?_
  refine lv_iload_n hx hb dX3_pairWay_21 rfl (lv_at hl 2 rfl) ?_
  refine b_icmp_ge (tgt := 66) hx hb hf dX3_pairWay_22 (by decide) (fun hf => ?_) (fun hf => ?_)
  · refine lv_iload hx hb dX3_pairWay_66 (lv_at hl 5 rfl) ?_
    refine b_if_ne (tgt := 73) hx hb hf dX3_pairWay_68 (by decide) (fun hf => ?_) (fun hf => ?_)
    · refine lv_aload_n hx hb dX3_pairWay_73 rfl (lv_at hl 0 rfl) ?_
      refine lv_iload_n hx hb dX3_pairWay_74 rfl (lv_at hl 1 rfl) ?_
      refine lv_iload_n hx hb dX3_pairWay_75 rfl (lv_at hl 3 rfl) ?_
      obtain ⟨x2, w1, hc, hf⟩ := bd_some hf
      refine q_callV1 (v := .int x2) (As := [.int v1, .int v3]) C hH (ci := 3) rfl (by omega) gk_X3_145 yd_X3_wayAhead (by omega) (by omega) kc_650 (c_X3_wayAhead hc) hl.1 rfl (Nat.le_of_ble_eq_true rfl) dX3_pairWay_76 xv_00 (fun H locs hH hP => ?_)
      refine lv_iload hx hb dX3_pairWay_79 (lv_at hl 4 rfl) ?_
      refine b_icmp_ne (tgt := 89) hx hb hf dX3_pairWay_81 (by decide) (fun hf => ?_) (fun hf => ?_)
      · refine lv_iload_n hx hb dX3_pairWay_89 rfl (lv_at hl 3 rfl) ?_
        cases hf
        exact q_reti C hH trivial dX3_pairWay_90
      · refine lv_iload hx hb dX3_pairWay_84 (lv_at hl 4 rfl) ?_
        refine lv_goto (tgt := 90) hx hb dX3_pairWay_86 (by decide) ?_
        cases hf
        exact q_reti C hH trivial dX3_pairWay_90
    · refine lv_iconst (v := (3 : Int32)) hx hb dX3_pairWay_71 (by decide) ?_
      cases hf
      exact q_reti C hH trivial dX3_pairWay_72
  · refine lv_aload_n hx hb dX3_pairWay_25 rfl (lv_at hl 0 rfl) ?_
    refine lv_iload hx hb dX3_pairWay_26 (lv_at hl 6 rfl) ?_
    obtain ⟨x4, w3, hc, hf⟩ := bd_some hf
    refine q_callV1 (v := .int x4) (As := [.int v6]) C hH (ci := 3) rfl (by omega) gk_X3_142 yd_X3_plainWay (by omega) (by omega) kc_650 (c_X3_plainWay hc) hl.1 rfl (Nat.le_of_ble_eq_true rfl) dX3_pairWay_28 xv_00 (fun H locs hH hP => ?_)
    refine lv_istore (lv' := [(7, .int x4), (0, .ref (B + 650)), (1, .int v1), (2, .int v2), (3, .int v3), (4, .int v4), (5, .int v5), (6, .int v6)]) hx hb dX3_pairWay_31 hl (by decide) rfl (fun ls hl => ?_)
    refine lv_iload hx hb dX3_pairWay_33 (lv_at hl 0 rfl) ?_
    refine lv_iload_n hx hb dX3_pairWay_35 rfl (lv_at hl 4 rfl) ?_
    refine b_icmp_ne (tgt := 41) hx hb hf dX3_pairWay_36 (by decide) (fun hf => ?_) (fun hf => ?_)
    · refine lv_iload hx hb dX3_pairWay_41 (lv_at hl 6 rfl) ?_
      refine b_if_ne (tgt := 53) hx hb hf dX3_pairWay_43 (by decide) (fun hf => ?_) (fun hf => ?_)
      · refine lv_iconst (v := (1 : Int32)) hx hb dX3_pairWay_53 (by decide) ?_
        refine lv_goto (tgt := 58) hx hb dX3_pairWay_54 (by decide) ?_
        refine lv_istore (lv' := [(5, .int (1 : Int32)), (7, .int x4), (0, .ref (B + 650)), (1, .int v1), (2, .int v2), (3, .int v3), (4, .int v4), (6, .int v6)]) hx hb dX3_pairWay_58 hl (by decide) rfl (fun ls hl => ?_)
        refine b_let hf (fun x5 he hf => ?_)
        refine lv_iinc (v := x5) (lv' := [(6, .int x5), (5, .int (1 : Int32)), (7, .int x4), (0, .ref (B + 650)), (1, .int v1), (2, .int v2), (3, .int v3), (4, .int v4)]) hx hb dX3_pairWay_60 hl (k := 7) rfl (by rw [← he]; rfl) (by decide) rfl (fun ls hl => ?_)
        refine lv_goto (tgt := 19) hx hb dX3_pairWay_63 (by decide) ?_
        exact hr_19 v1 v2 v3 v4 (1 : Int32) x5 w3 hf z_v4 isZ_1 _ _ _ hH (lv_sub hl [3, 4, 5, 6, 7, 1, 0] rfl)
      · refine lv_iload hx hb dX3_pairWay_46 (lv_at hl 0 rfl) ?_
        refine lv_iload hx hb dX3_pairWay_48 (lv_at hl 5 rfl) ?_
        refine b_icmp_ne (tgt := 57) hx hb hf dX3_pairWay_50 (by decide) (fun hf => ?_) (fun hf => ?_)
        · refine lv_iconst (v := (0 : Int32)) hx hb dX3_pairWay_57 (by decide) ?_
          refine lv_istore (lv' := [(5, .int (0 : Int32)), (7, .int x4), (0, .ref (B + 650)), (1, .int v1), (2, .int v2), (3, .int v3), (4, .int v4), (6, .int v6)]) hx hb dX3_pairWay_58 hl (by decide) rfl (fun ls hl => ?_)
          refine b_let hf (fun x6 he hf => ?_)
          refine lv_iinc (v := x6) (lv' := [(6, .int x6), (5, .int (0 : Int32)), (7, .int x4), (0, .ref (B + 650)), (1, .int v1), (2, .int v2), (3, .int v3), (4, .int v4)]) hx hb dX3_pairWay_60 hl (k := 7) rfl (by rw [← he]; rfl) (by decide) rfl (fun ls hl => ?_)
          refine lv_goto (tgt := 19) hx hb dX3_pairWay_63 (by decide) ?_
          exact hr_19 v1 v2 v3 v4 (0 : Int32) x6 w3 hf z_v4 isZ_0 _ _ _ hH (lv_sub hl [3, 4, 5, 6, 7, 1, 0] rfl)
        · refine lv_iconst (v := (1 : Int32)) hx hb dX3_pairWay_53 (by decide) ?_
          refine lv_goto (tgt := 58) hx hb dX3_pairWay_54 (by decide) ?_
          refine lv_istore (lv' := [(5, .int (1 : Int32)), (7, .int x4), (0, .ref (B + 650)), (1, .int v1), (2, .int v2), (3, .int v3), (4, .int v4), (6, .int v6)]) hx hb dX3_pairWay_58 hl (by decide) rfl (fun ls hl => ?_)
          refine b_let hf (fun x7 he hf => ?_)
          refine lv_iinc (v := x7) (lv' := [(6, .int x7), (5, .int (1 : Int32)), (7, .int x4), (0, .ref (B + 650)), (1, .int v1), (2, .int v2), (3, .int v3), (4, .int v4)]) hx hb dX3_pairWay_60 hl (k := 7) rfl (by rw [← he]; rfl) (by decide) rfl (fun ls hl => ?_)
          refine lv_goto (tgt := 19) hx hb dX3_pairWay_63 (by decide) ?_
          exact hr_19 v1 v2 v3 v4 (1 : Int32) x7 w3 hf z_v4 isZ_1 _ _ _ hH (lv_sub hl [3, 4, 5, 6, 7, 1, 0] rfl)
    · refine lv_iload_n hx hb dX3_pairWay_39 rfl (lv_at hl 4 rfl) ?_
      cases hf
      exact q_reti C hH trivial dX3_pairWay_40
set_option maxRecDepth 100000 in
set_option maxHeartbeats 4000000 in
theorem t_X3_pairWay_19 {D : va_G} {B : Nat} {Y : Nat → ClassId} {p : Program} {l : Launch} {e : Env} {s : State} {m : MethodId} {args : Array Value} {below : List Frame} {meth : Method} {c : Code} {z : (Int32 × Wd)} {H : Heap} {locs : List Loc} {ls : Array Slot} {w : Wd} {v1 : Int32} {v2 : Int32} {v3 : Int32} {v4 : Int32} {v5 : Int32} {v6 : Int32} (C : CX D B Y p s m args meth c cX3_pairWay 8 RX3 (some .int))    (z_v4 : isZ v4) (z_v5 : isZ v5) (hH : HS D B Y w s H locs) (hl : lv_has ls 8 [(0, .ref (B + 650)), (1, .int v1), (2, .int v2), (3, .int v3), (4, .int v4), (5, .int v5), (6, .int v6)]) (hf : f_X3_pairWay_19 v1 v2 v3 v4 v5 v6 w = some z) : W p l e (RM 3 0 0) s m args below meth c H locs 0 0 (MQ below (QG D B Y (some (.int z.1)) z.2 True) args s 0 0 (AB B)) (F0 m 19 ls []) := by
  exact loopN_ind (z := z) (body := fun rc σ => g_X3_pairWay_19 rc  σ.1 σ.2.1 σ.2.2.1 σ.2.2.2.1 σ.2.2.2.2.1 σ.2.2.2.2.2.1 σ.2.2.2.2.2.2)
    (P := fun σ => isZ σ.2.2.2.1 → isZ σ.2.2.2.2.1 → ∀ (H : Heap) (locs : List Loc) (ls : Array Slot), HS D B Y σ.2.2.2.2.2.2 s H locs → lv_has ls 8 [(0, .ref (B + 650)), (1, .int σ.1), (2, .int σ.2.1), (3, .int σ.2.2.1), (4, .int σ.2.2.2.1), (5, .int σ.2.2.2.2.1), (6, .int σ.2.2.2.2.2.1)] → W p l e (RM 3 0 0) s m args below meth c H locs 0 0 (MQ below (QG D B Y (some (.int z.1)) z.2 True) args s 0 0 (AB B)) (F0 m 19 ls []))
    (fun rc hrec σ hf z_v4 z_v5 H locs ls hH hl => tb_X3_pairWay_19 C (fun v1 v2 v3 v4 v5 v6 w hr z_v4 z_v5 H locs ls hH hl => hrec (v1, v2, v3, v4, v5, v6, w) hr z_v4 z_v5 H locs ls hH hl)  z_v4 z_v5 hH hl hf) FU (v1, v2, v3, v4, v5, v6, w) hf z_v4 z_v5 H locs ls hH hl
set_option maxRecDepth 100000 in
set_option maxHeartbeats 4000000 in
theorem t_X3_pairWay_9 {D : va_G} {B : Nat} {Y : Nat → ClassId} {p : Program} {l : Launch} {e : Env} {s : State} {m : MethodId} {args : Array Value} {below : List Frame} {meth : Method} {c : Code} {z : (Int32 × Wd)} {H : Heap} {locs : List Loc} {ls : Array Slot} {w : Wd} {v1 : Int32} {v2 : Int32} {v3 : Int32} {t0 : Int32} (C : CX D B Y p s m args meth c cX3_pairWay 8 RX3 (some .int))    (z_t0 : isZ t0) (hH : HS D B Y w s H locs) (hl : lv_has ls 8 [(0, .ref (B + 650)), (1, .int v1), (2, .int v2), (3, .int v3)]) (hf : f_X3_pairWay_9 v1 v2 v3 t0 w = some z) : W p l e (RM 3 0 0) s m args below meth c H locs 0 0 (MQ below (QG D B Y (some (.int z.1)) z.2 True) args s 0 0 (AB B)) (F0 m 9 ls [.int t0]) := by
  have hx := C.1
  have hb := C.2.1
  unfold f_X3_pairWay_9 at hf
  refine lv_istore (lv' := [(4, .int t0), (0, .ref (B + 650)), (1, .int v1), (2, .int v2), (3, .int v3)]) hx hb dX3_pairWay_9 hl (by decide) rfl (fun ls hl => ?_)
  refine lv_iconst (v := (0 : Int32)) hx hb dX3_pairWay_11 (by decide) ?_
  refine lv_istore (lv' := [(5, .int (0 : Int32)), (4, .int t0), (0, .ref (B + 650)), (1, .int v1), (2, .int v2), (3, .int v3)]) hx hb dX3_pairWay_12 hl (by decide) rfl (fun ls hl => ?_)
  refine lv_iload_n hx hb dX3_pairWay_14 rfl (lv_at hl 3 rfl) ?_
  refine lv_iconst (v := (1 : Int32)) hx hb dX3_pairWay_15 (by decide) ?_
  refine lv_iadd hx hb dX3_pairWay_16 ?_
  refine b_leti hf (fun x1 hf => ?_)
  refine lv_istore (lv' := [(6, .int x1), (5, .int (0 : Int32)), (4, .int t0), (0, .ref (B + 650)), (1, .int v1), (2, .int v2), (3, .int v3)]) hx hb dX3_pairWay_17 hl (by decide) rfl (fun ls hl => ?_)
  exact t_X3_pairWay_19 C z_t0 isZ_0 hH (lv_sub hl [3, 4, 5, 6, 2, 1, 0] rfl) hf
set_option maxRecDepth 100000 in
set_option maxHeartbeats 4000000 in
theorem t_X3_pairWay_0 {D : va_G} {B : Nat} {Y : Nat → ClassId} {p : Program} {l : Launch} {e : Env} {s : State} {m : MethodId} {args : Array Value} {below : List Frame} {meth : Method} {c : Code} {z : (Int32 × Wd)} {H : Heap} {locs : List Loc} {ls : Array Slot} {w : Wd} {v1 : Int32} {v2 : Int32} {v3 : Int32} (C : CX D B Y p s m args meth c cX3_pairWay 8 RX3 (some .int))     (hH : HS D B Y w s H locs) (hl : lv_has ls 8 [(0, .ref (B + 650)), (1, .int v1), (2, .int v2), (3, .int v3)]) (hf : f_X3_pairWay v1 v2 v3 w = some z) : W p l e (RM 3 0 0) s m args below meth c H locs 0 0 (MQ below (QG D B Y (some (.int z.1)) z.2 True) args s 0 0 (AB B)) (F0 m 0 ls []) := by
  have hx := C.1
  have hb := C.2.1
  unfold f_X3_pairWay at hf
  refine lv_iload_n hx hb dX3_pairWay_0 rfl (lv_at hl 3 rfl) ?_
  refine b_if_ne (tgt := 8) hx hb hf dX3_pairWay_1 (by decide) (fun hf => ?_) (fun hf => ?_)
  · refine lv_iconst (v := (0 : Int32)) hx hb dX3_pairWay_8 (by decide) ?_
    exact t_X3_pairWay_9 C isZ_0 hH (lv_sub hl [0, 1, 2, 3] rfl) hf
  · refine lv_iconst (v := (1 : Int32)) hx hb dX3_pairWay_4 (by decide) ?_
    refine lv_goto (tgt := 9) hx hb dX3_pairWay_5 (by decide) ?_
    exact t_X3_pairWay_9 C isZ_1 hH (lv_sub hl [0, 1, 2, 3] rfl) hf
set_option maxRecDepth 100000 in
theorem c_X3_pairWay {l : Launch} {D : va_G} {B : Nat} {Y : Nat → ClassId} {v1 : Int32} {v2 : Int32} {v3 : Int32} {w : Wd} {r : Int32} {w1 : Wd}   (hf : f_X3_pairWay v1 v2 v3 w = some (r, w1)) : CM l D B Y yX3_pairWay cX3_pairWay 8 (some .int) 3 [.ref (B + 650), .int v1, .int v2, .int v3] w (some (.int r)) w1 True :=
  CM_of (by decide +kernel) (Nat.le_of_ble_eq_true rfl) (fun p e s m args below meth c ls C hH hl => t_X3_pairWay_0 C  hH (lv_sub hl [0, 1, 2, 3] rfl) hf)
/-! LetterTables$Levels.settlePartners -/
set_option maxRecDepth 100000 in
set_option maxHeartbeats 4000000 in
theorem t_X3_settlePartners_42 {D : va_G} {B : Nat} {Y : Nat → ClassId} {p : Program} {l : Launch} {e : Env} {s : State} {m : MethodId} {args : Array Value} {below : List Frame} {meth : Method} {c : Code} {z : (Unit × Wd)} {H : Heap} {locs : List Loc} {ls : Array Slot} {w : Wd} {v1 : Int32} {v2 : Int32} {v3 : Int32} {t0 : Int32} (C : CX D B Y p s m args meth c cX3_settlePartners 5 RX3 none)  {rc_6 : Int32 × Int32 × Wd → Option (Unit × Wd)} (hr_6 : ∀ (v1 : Int32) (v2 : Int32) (w : Wd), rc_6 (v1, v2, w) = some z → ∀ (H : Heap) (locs : List Loc) (ls : Array Slot), HS D B Y w s H locs → lv_has ls 5 [(0, .ref (B + 650)), (1, .int v1), (2, .int v2)] → W p l e (RM 4 0 0) s m args below meth c H locs 0 0 (MQ below (QG D B Y none z.2 True) args s 0 0 (AB B)) (F0 m 6 ls []))    (hH : HS D B Y w s H locs) (hl : lv_has ls 5 [(0, .ref (B + 650)), (1, .int v1), (2, .int v2), (3, .int v3)]) (hf : f_X3_settlePartners_42 rc_6 v1 v2 v3 t0 w = some z) : W p l e (RM 4 0 0) s m args below meth c H locs 0 0 (MQ below (QG D B Y none z.2 True) args s 0 0 (AB B)) (F0 m 42 ls [.int t0]) := by
  have hx := C.1
  have hb := C.2.1
  unfold f_X3_settlePartners_42 at hf
  refine lv_istore (lv' := [(4, .int t0), (0, .ref (B + 650)), (1, .int v1), (2, .int v2), (3, .int v3)]) hx hb dX3_settlePartners_42 hl (by decide) rfl (fun ls hl => ?_)
  refine lv_iload hx hb dX3_settlePartners_44 (lv_at hl 0 rfl) ?_
  refine lv_iconst (v := (3 : Int32)) hx hb dX3_settlePartners_46 (by decide) ?_
  refine b_icmp_eq (tgt := 70) hx hb hf dX3_settlePartners_47 (by decide) (fun hf => ?_) (fun hf => ?_)
  · refine b_let hf (fun x1 he hf => ?_)
    refine lv_iinc (v := x1) (lv' := [(2, .int x1), (4, .int t0), (0, .ref (B + 650)), (1, .int v1), (3, .int v3)]) hx hb dX3_settlePartners_70 hl (k := 3) rfl (by rw [← he]; rfl) (by decide) rfl (fun ls hl => ?_)
    refine lv_goto (tgt := 6) hx hb dX3_settlePartners_73 (by decide) ?_
    exact hr_6 v1 x1 w hf _ _ _ hH (lv_sub hl [2, 3, 0] rfl)
  · refine lv_aload_n hx hb dX3_settlePartners_50 rfl (lv_at hl 1 rfl) ?_
    refine fg_X3_39 C hH dX3_settlePartners_51 ?_
    refine lv_iload_n hx hb dX3_settlePartners_54 rfl (lv_at hl 3 rfl) ?_
    refine lv_iload hx hb dX3_settlePartners_55 (lv_at hl 0 rfl) ?_
    obtain ⟨u, w2, hc, hf⟩ := bd_some hf
    refine q_callV0 (As := [.int v2, .int t0]) C hH (ci := 7) rfl (by omega) gk_X3_121 yd_X7_set (by omega) (by omega) kc_663 (c_X7_set kc_663 hc) hl.1 rfl (Nat.le_of_ble_eq_true rfl) dX3_settlePartners_57 xv_00 (fun H locs hH hP => ?_)
    refine lv_aload_n hx hb dX3_settlePartners_60 rfl (lv_at hl 1 rfl) ?_
    refine fg_X3_39 C hH dX3_settlePartners_61 ?_
    refine lv_iload_n hx hb dX3_settlePartners_64 rfl (lv_at hl 4 rfl) ?_
    refine lv_iload hx hb dX3_settlePartners_65 (lv_at hl 0 rfl) ?_
    obtain ⟨u, w3, hc, hf⟩ := bd_some hf
    refine q_callV0 (As := [.int v3, .int t0]) C hH (ci := 7) rfl (by omega) gk_X3_121 yd_X7_set (by omega) (by omega) kc_663 (c_X7_set kc_663 hc) hl.1 rfl (Nat.le_of_ble_eq_true rfl) dX3_settlePartners_67 xv_00 (fun H locs hH hP => ?_)
    refine b_let hf (fun x4 he hf => ?_)
    refine lv_iinc (v := x4) (lv' := [(2, .int x4), (4, .int t0), (0, .ref (B + 650)), (1, .int v1), (3, .int v3)]) hx hb dX3_settlePartners_70 hl (k := 3) rfl (by rw [← he]; rfl) (by decide) rfl (fun ls hl => ?_)
    refine lv_goto (tgt := 6) hx hb dX3_settlePartners_73 (by decide) ?_
    exact hr_6 v1 x4 w3 hf _ _ _ hH (lv_sub hl [2, 3, 0] rfl)
set_option maxRecDepth 100000 in
set_option maxHeartbeats 4000000 in
theorem tb_X3_settlePartners_6 {D : va_G} {B : Nat} {Y : Nat → ClassId} {p : Program} {l : Launch} {e : Env} {s : State} {m : MethodId} {args : Array Value} {below : List Frame} {meth : Method} {c : Code} {z : (Unit × Wd)} {H : Heap} {locs : List Loc} {ls : Array Slot} {w : Wd} {v1 : Int32} {v2 : Int32} (C : CX D B Y p s m args meth c cX3_settlePartners 5 RX3 none)  {rc_6 : Int32 × Int32 × Wd → Option (Unit × Wd)} (hr_6 : ∀ (v1 : Int32) (v2 : Int32) (w : Wd), rc_6 (v1, v2, w) = some z → ∀ (H : Heap) (locs : List Loc) (ls : Array Slot), HS D B Y w s H locs → lv_has ls 5 [(0, .ref (B + 650)), (1, .int v1), (2, .int v2)] → W p l e (RM 4 0 0) s m args below meth c H locs 0 0 (MQ below (QG D B Y none z.2 True) args s 0 0 (AB B)) (F0 m 6 ls []))    (hH : HS D B Y w s H locs) (hl : lv_has ls 5 [(0, .ref (B + 650)), (1, .int v1), (2, .int v2)]) (hf : g_X3_settlePartners_6 rc_6 v1 v2 w = some z) : W p l e (RM 4 0 0) s m args below meth c H locs 0 0 (MQ below (QG D B Y none z.2 True) args s 0 0 (AB B)) (F0 m 6 ls []) := by
  have hx := C.1
  have hb := C.2.1
  unfold g_X3_settlePartners_6 at hf
  refine lv_iload_n hx hb dX3_settlePartners_6 rfl (lv_at hl 2 rfl) ?_
  refine lv_aload_n hx hb dX3_settlePartners_7 rfl (lv_at hl 0 rfl) ?_
  refine fg_X3_36 C hH dX3_settlePartners_8 ?_
  obtain ⟨x2, w1, hc, hf⟩ := bd_some hf
  refine q_callV1 (v := .int x2) (As := []) C hH (ci := 7) rfl (by omega) gk_X3_54 yd_X7_size (by omega) (by omega) kc_661 (c_X7_size kc_661 hc) hl.1 rfl (Nat.le_of_ble_eq_true rfl) dX3_settlePartners_11 xv_00 (fun H locs hH hP => ?_)
  refine b_icmp_ge (tgt := 76) hx hb hf dX3_settlePartners_14 (by decide) (fun hf => ?_) (fun hf => ?_)
  · cases hf
    exact q_retv C hH trivial dX3_settlePartners_76
  · refine lv_aload_n hx hb dX3_settlePartners_17 rfl (lv_at hl 0 rfl) ?_
    refine fg_X3_45 C hH dX3_settlePartners_18 ?_
    refine lv_iload_n hx hb dX3_settlePartners_21 rfl (lv_at hl 2 rfl) ?_
    obtain ⟨x4, w3, hc, hf⟩ := bd_some hf
    refine q_callV1 (v := .int x4) (As := [.int v2]) C hH (ci := 7) rfl (by omega) gk_X3_58 yd_X7_get (by omega) (by omega) kc_667 (c_X7_get kc_667 hc) hl.1 rfl (Nat.le_of_ble_eq_true rfl) dX3_settlePartners_22 xv_00 (fun H locs hH hP => ?_)
    refine lv_istore_n (lv' := [(3, .int x4), (0, .ref (B + 650)), (1, .int v1), (2, .int v2)]) hx hb dX3_settlePartners_25 rfl hl (by decide) rfl (fun ls hl => ?_)
    refine lv_iload_n hx hb dX3_settlePartners_26 rfl (lv_at hl 0 rfl) ?_
    refine lv_iconst (v := (-1 : Int32)) hx hb dX3_settlePartners_27 (by decide) ?_
    refine b_icmp_ne (tgt := 35) hx hb hf dX3_settlePartners_28 (by decide) (fun hf => ?_) (fun hf => ?_)
    · refine lv_aload_n hx hb dX3_settlePartners_35 rfl (lv_at hl 1 rfl) ?_
      refine lv_iload_n hx hb dX3_settlePartners_36 rfl (lv_at hl 3 rfl) ?_
      refine lv_iload_n hx hb dX3_settlePartners_37 rfl (lv_at hl 0 rfl) ?_
      refine lv_iload_n hx hb dX3_settlePartners_38 rfl (lv_at hl 2 rfl) ?_
      obtain ⟨x6, w5, hc, hf⟩ := bd_some hf
      refine q_callV1 (v := .int x6) (As := [.int v2, .int x4, .int v1]) C hH (ci := 3) rfl (by omega) gk_X3_127 yd_X3_pairWay (by omega) (by omega) kc_650 (c_X3_pairWay hc) hl.1 rfl (Nat.le_of_ble_eq_true rfl) dX3_settlePartners_39 xv_00 (fun H locs hH hP => ?_)
      exact t_X3_settlePartners_42 C hr_6 hH (lv_sub hl [1, 2, 3, 0] rfl) hf
    · refine lv_iconst (v := (3 : Int32)) hx hb dX3_settlePartners_31 (by decide) ?_
      refine lv_goto (tgt := 42) hx hb dX3_settlePartners_32 (by decide) ?_
      exact t_X3_settlePartners_42 C hr_6 hH (lv_sub hl [1, 2, 3, 0] rfl) hf
set_option maxRecDepth 100000 in
set_option maxHeartbeats 4000000 in
theorem t_X3_settlePartners_6 {D : va_G} {B : Nat} {Y : Nat → ClassId} {p : Program} {l : Launch} {e : Env} {s : State} {m : MethodId} {args : Array Value} {below : List Frame} {meth : Method} {c : Code} {z : (Unit × Wd)} {H : Heap} {locs : List Loc} {ls : Array Slot} {w : Wd} {v1 : Int32} {v2 : Int32} (C : CX D B Y p s m args meth c cX3_settlePartners 5 RX3 none)     (hH : HS D B Y w s H locs) (hl : lv_has ls 5 [(0, .ref (B + 650)), (1, .int v1), (2, .int v2)]) (hf : f_X3_settlePartners_6 v1 v2 w = some z) : W p l e (RM 4 0 0) s m args below meth c H locs 0 0 (MQ below (QG D B Y none z.2 True) args s 0 0 (AB B)) (F0 m 6 ls []) := by
  exact loopN_ind (z := z) (body := fun rc σ => g_X3_settlePartners_6 rc  σ.1 σ.2.1 σ.2.2)
    (P := fun σ => ∀ (H : Heap) (locs : List Loc) (ls : Array Slot), HS D B Y σ.2.2 s H locs → lv_has ls 5 [(0, .ref (B + 650)), (1, .int σ.1), (2, .int σ.2.1)] → W p l e (RM 4 0 0) s m args below meth c H locs 0 0 (MQ below (QG D B Y none z.2 True) args s 0 0 (AB B)) (F0 m 6 ls []))
    (fun rc hrec σ hf  H locs ls hH hl => tb_X3_settlePartners_6 C (fun v1 v2 w hr  H locs ls hH hl => hrec (v1, v2, w) hr  H locs ls hH hl)   hH hl hf) FU (v1, v2, w) hf  H locs ls hH hl
set_option maxRecDepth 100000 in
set_option maxHeartbeats 4000000 in
theorem t_X3_settlePartners_0 {D : va_G} {B : Nat} {Y : Nat → ClassId} {p : Program} {l : Launch} {e : Env} {s : State} {m : MethodId} {args : Array Value} {below : List Frame} {meth : Method} {c : Code} {z : (Unit × Wd)} {H : Heap} {locs : List Loc} {ls : Array Slot} {w : Wd} {v1 : Int32} (C : CX D B Y p s m args meth c cX3_settlePartners 5 RX3 none)     (hH : HS D B Y w s H locs) (hl : lv_has ls 5 [(0, .ref (B + 650)), (1, .int v1)]) (hf : f_X3_settlePartners v1 w = some z) : W p l e (RM 4 0 0) s m args below meth c H locs 0 0 (MQ below (QG D B Y none z.2 True) args s 0 0 (AB B)) (F0 m 0 ls []) := by
  have hx := C.1
  have hb := C.2.1
  unfold f_X3_settlePartners at hf
  refine lv_aload_n hx hb dX3_settlePartners_0 rfl (lv_at hl 0 rfl) ?_
  obtain ⟨u, w1, hc, hf⟩ := bd_some hf
  refine q_callV0 (As := []) C hH (ci := 3) rfl (by omega) gk_X3_124 yd_X3_matchPartners (by omega) (by omega) kc_650 (c_X3_matchPartners hc) hl.1 rfl (Nat.le_of_ble_eq_true rfl) dX3_settlePartners_1 xv_00 (fun H locs hH hP => ?_)
  refine lv_iconst (v := (0 : Int32)) hx hb dX3_settlePartners_4 (by decide) ?_
  refine lv_istore_n (lv' := [(2, .int (0 : Int32)), (0, .ref (B + 650)), (1, .int v1)]) hx hb dX3_settlePartners_5 rfl hl (by decide) rfl (fun ls hl => ?_)
  exact t_X3_settlePartners_6 C hH (lv_sub hl [1, 2, 0] rfl) hf
set_option maxRecDepth 100000 in
theorem c_X3_settlePartners {l : Launch} {D : va_G} {B : Nat} {Y : Nat → ClassId} {v1 : Int32} {w : Wd} {r : Unit} {w1 : Wd}   (hf : f_X3_settlePartners v1 w = some (r, w1)) : CM l D B Y yX3_settlePartners cX3_settlePartners 5 none 4 [.ref (B + 650), .int v1] w none w1 True :=
  CM_of (by decide +kernel) (Nat.le_of_ble_eq_true rfl) (fun p e s m args below meth c ls C hH hl => t_X3_settlePartners_0 C  hH (lv_sub hl [0, 1] rfl) hf)
/-! LetterTables$Levels.wayBehind -/
set_option maxRecDepth 100000 in
set_option maxHeartbeats 4000000 in
theorem tb_X3_wayBehind_4 {D : va_G} {B : Nat} {Y : Nat → ClassId} {p : Program} {l : Launch} {e : Env} {s : State} {m : MethodId} {args : Array Value} {below : List Frame} {meth : Method} {c : Code} {z : (Int32 × Wd)} {H : Heap} {locs : List Loc} {ls : Array Slot} {w : Wd} {v2 : Int32} {v3 : Int32} (C : CX D B Y p s m args meth c cX3_wayBehind 4 RX3 (some .int))  {rc_4 : Int32 × Int32 × Wd → Option (Int32 × Wd)} (hr_4 : ∀ (v2 : Int32) (v3 : Int32) (w : Wd), rc_4 (v2, v3, w) = some z → ∀ (H : Heap) (locs : List Loc) (ls : Array Slot), HS D B Y w s H locs → lv_has ls 4 [(0, .ref (B + 650)), (2, .int v2), (3, .int v3)] → W p l e (RM 2 0 0) s m args below meth c H locs 0 0 (MQ below (QG D B Y (some (.int z.1)) z.2 True) args s 0 0 (AB B)) (F0 m 4 ls []))    (hH : HS D B Y w s H locs) (hl : lv_has ls 4 [(0, .ref (B + 650)), (2, .int v2), (3, .int v3)]) (hf : g_X3_wayBehind_4 rc_4 v2 v3 w = some z) : W p l e (RM 2 0 0) s m args below meth c H locs 0 0 (MQ below (QG D B Y (some (.int z.1)) z.2 True) args s 0 0 (AB B)) (F0 m 4 ls []) := by
  have hx := C.1
  have hb := C.2.1
  unfold g_X3_wayBehind_4 at hf
  refine lv_iload_n hx hb dX3_wayBehind_4 rfl (lv_at hl 2 rfl) ?_
  refine lv_aload_n hx hb dX3_wayBehind_5 rfl (lv_at hl 0 rfl) ?_
  refine fg_X3_39 C hH dX3_wayBehind_6 ?_
  obtain ⟨x2, w1, hc, hf⟩ := bd_some hf
  refine q_callV1 (v := .int x2) (As := []) C hH (ci := 7) rfl (by omega) gk_X3_54 yd_X7_size (by omega) (by omega) kc_663 (c_X7_size kc_663 hc) hl.1 rfl (Nat.le_of_ble_eq_true rfl) dX3_wayBehind_9 xv_00 (fun H locs hH hP => ?_)
  refine b_icmp_ge (tgt := 36) hx hb hf dX3_wayBehind_12 (by decide) (fun hf => ?_) (fun hf => ?_)
  · refine lv_iload_n hx hb dX3_wayBehind_36 rfl (lv_at hl 1 rfl) ?_
    cases hf
    exact q_reti C hH trivial dX3_wayBehind_37
  · refine lv_aload_n hx hb dX3_wayBehind_15 rfl (lv_at hl 0 rfl) ?_
    refine lv_iload_n hx hb dX3_wayBehind_16 rfl (lv_at hl 2 rfl) ?_
    obtain ⟨x4, w3, hc, hf⟩ := bd_some hf
    refine q_callV1 (v := .int x4) (As := [.int v3]) C hH (ci := 3) rfl (by omega) gk_X3_142 yd_X3_plainWay (by omega) (by omega) kc_650 (c_X3_plainWay hc) hl.1 rfl (Nat.le_of_ble_eq_true rfl) dX3_wayBehind_17 xv_00 (fun H locs hH hP => ?_)
    refine lv_iconst (v := (3 : Int32)) hx hb dX3_wayBehind_20 (by decide) ?_
    refine b_icmp_eq (tgt := 30) hx hb hf dX3_wayBehind_21 (by decide) (fun hf => ?_) (fun hf => ?_)
    · refine b_let hf (fun x5 he hf => ?_)
      refine lv_iinc (v := x5) (lv' := [(3, .int x5), (0, .ref (B + 650)), (2, .int v2)]) hx hb dX3_wayBehind_30 hl (k := 2) rfl (by rw [← he]; rfl) (by decide) rfl (fun ls hl => ?_)
      refine lv_goto (tgt := 4) hx hb dX3_wayBehind_33 (by decide) ?_
      exact hr_4 v2 x5 w3 hf _ _ _ hH (lv_sub hl [1, 2, 0] rfl)
    · refine lv_aload_n hx hb dX3_wayBehind_24 rfl (lv_at hl 0 rfl) ?_
      refine lv_iload_n hx hb dX3_wayBehind_25 rfl (lv_at hl 2 rfl) ?_
      obtain ⟨x7, w6, hc, hf⟩ := bd_some hf
      refine q_callV1 (v := .int x7) (As := [.int v3]) C hH (ci := 3) rfl (by omega) gk_X3_142 yd_X3_plainWay (by omega) (by omega) kc_650 (c_X3_plainWay hc) hl.1 rfl (Nat.le_of_ble_eq_true rfl) dX3_wayBehind_26 xv_00 (fun H locs hH hP => ?_)
      cases hf
      exact q_reti C hH trivial dX3_wayBehind_29
set_option maxRecDepth 100000 in
set_option maxHeartbeats 4000000 in
theorem t_X3_wayBehind_4 {D : va_G} {B : Nat} {Y : Nat → ClassId} {p : Program} {l : Launch} {e : Env} {s : State} {m : MethodId} {args : Array Value} {below : List Frame} {meth : Method} {c : Code} {z : (Int32 × Wd)} {H : Heap} {locs : List Loc} {ls : Array Slot} {w : Wd} {v2 : Int32} {v3 : Int32} (C : CX D B Y p s m args meth c cX3_wayBehind 4 RX3 (some .int))     (hH : HS D B Y w s H locs) (hl : lv_has ls 4 [(0, .ref (B + 650)), (2, .int v2), (3, .int v3)]) (hf : f_X3_wayBehind_4 v2 v3 w = some z) : W p l e (RM 2 0 0) s m args below meth c H locs 0 0 (MQ below (QG D B Y (some (.int z.1)) z.2 True) args s 0 0 (AB B)) (F0 m 4 ls []) := by
  exact loopN_ind (z := z) (body := fun rc σ => g_X3_wayBehind_4 rc  σ.1 σ.2.1 σ.2.2)
    (P := fun σ => ∀ (H : Heap) (locs : List Loc) (ls : Array Slot), HS D B Y σ.2.2 s H locs → lv_has ls 4 [(0, .ref (B + 650)), (2, .int σ.1), (3, .int σ.2.1)] → W p l e (RM 2 0 0) s m args below meth c H locs 0 0 (MQ below (QG D B Y (some (.int z.1)) z.2 True) args s 0 0 (AB B)) (F0 m 4 ls []))
    (fun rc hrec σ hf  H locs ls hH hl => tb_X3_wayBehind_4 C (fun v2 v3 w hr  H locs ls hH hl => hrec (v2, v3, w) hr  H locs ls hH hl)   hH hl hf) FU (v2, v3, w) hf  H locs ls hH hl
set_option maxRecDepth 100000 in
set_option maxHeartbeats 4000000 in
theorem t_X3_wayBehind_0 {D : va_G} {B : Nat} {Y : Nat → ClassId} {p : Program} {l : Launch} {e : Env} {s : State} {m : MethodId} {args : Array Value} {below : List Frame} {meth : Method} {c : Code} {z : (Int32 × Wd)} {H : Heap} {locs : List Loc} {ls : Array Slot} {w : Wd} {v1 : Int32} {v2 : Int32} (C : CX D B Y p s m args meth c cX3_wayBehind 4 RX3 (some .int))     (hH : HS D B Y w s H locs) (hl : lv_has ls 4 [(0, .ref (B + 650)), (1, .int v1), (2, .int v2)]) (hf : f_X3_wayBehind v1 v2 w = some z) : W p l e (RM 2 0 0) s m args below meth c H locs 0 0 (MQ below (QG D B Y (some (.int z.1)) z.2 True) args s 0 0 (AB B)) (F0 m 0 ls []) := by
  have hx := C.1
  have hb := C.2.1
  unfold f_X3_wayBehind at hf
  refine lv_iload_n hx hb dX3_wayBehind_0 rfl (lv_at hl 1 rfl) ?_
  refine lv_iconst (v := (1 : Int32)) hx hb dX3_wayBehind_1 (by decide) ?_
  refine lv_iadd hx hb dX3_wayBehind_2 ?_
  refine b_leti hf (fun x1 hf => ?_)
  refine lv_istore_n (lv' := [(3, .int x1), (0, .ref (B + 650)), (1, .int v1), (2, .int v2)]) hx hb dX3_wayBehind_3 rfl hl (by decide) rfl (fun ls hl => ?_)
  exact t_X3_wayBehind_4 C hH (lv_sub hl [1, 3, 0] rfl) hf
set_option maxRecDepth 100000 in
theorem c_X3_wayBehind {l : Launch} {D : va_G} {B : Nat} {Y : Nat → ClassId} {v1 : Int32} {v2 : Int32} {w : Wd} {r : Int32} {w1 : Wd}   (hf : f_X3_wayBehind v1 v2 w = some (r, w1)) : CM l D B Y yX3_wayBehind cX3_wayBehind 4 (some .int) 2 [.ref (B + 650), .int v1, .int v2] w (some (.int r)) w1 True :=
  CM_of (by decide +kernel) (Nat.le_of_ble_eq_true rfl) (fun p e s m args below meth c ls C hH hl => t_X3_wayBehind_0 C  hH (lv_sub hl [0, 1, 2] rfl) hf)
/-! LetterTables$Levels.settleRest -/
set_option maxRecDepth 100000 in
set_option maxHeartbeats 4000000 in
theorem t_X3_settleRest_52 {D : va_G} {B : Nat} {Y : Nat → ClassId} {p : Program} {l : Launch} {e : Env} {s : State} {m : MethodId} {args : Array Value} {below : List Frame} {meth : Method} {c : Code} {z : (Unit × Wd)} {H : Heap} {locs : List Loc} {ls : Array Slot} {w : Wd} {v1 : Int32} {v2 : Int32} {t0 : Nat} {t1 : Int32} {t2 : Int32} (C : CX D B Y p s m args meth c cX3_settleRest 4 RX3 none)  {rc_2 : Int32 × Int32 × Wd → Option (Unit × Wd)} (hr_2 : ∀ (v1 : Int32) (v2 : Int32) (w : Wd), rc_2 (v1, v2, w) = some z → ∀ (H : Heap) (locs : List Loc) (ls : Array Slot), HS D B Y w s H locs → lv_has ls 4 [(0, .ref (B + 650)), (1, .int v1), (2, .int v2)] → W p l e (RM 3 0 0) s m args below meth c H locs 0 0 (MQ below (QG D B Y none z.2 True) args s 0 0 (AB B)) (F0 m 2 ls []))  (k_t0 : KD t0 = 7)  (hH : HS D B Y w s H locs) (hl : lv_has ls 4 [(0, .ref (B + 650)), (1, .int v1), (2, .int v2)]) (hf : f_X3_settleRest_52 rc_2 v1 v2 t0 t1 t2 w = some z) : W p l e (RM 3 0 0) s m args below meth c H locs 0 0 (MQ below (QG D B Y none z.2 True) args s 0 0 (AB B)) (F0 m 52 ls [.int t2, .int t1, .ref (B + t0)]) := by
  have hx := C.1
  have hb := C.2.1
  unfold f_X3_settleRest_52 at hf
  obtain ⟨u, w1, hc, hf⟩ := bd_some hf
  refine q_callV0 (As := [.int t1, .int t2]) C hH (ci := 7) rfl (by omega) gk_X3_121 yd_X7_set (by omega) (by omega) k_t0 (c_X7_set k_t0 hc) hl.1 rfl (Nat.le_of_ble_eq_true rfl) dX3_settleRest_52 xv_00 (fun H locs hH hP => ?_)
  refine b_let hf (fun x2 he hf => ?_)
  refine lv_iinc (v := x2) (lv' := [(2, .int x2), (0, .ref (B + 650)), (1, .int v1)]) hx hb dX3_settleRest_55 hl (k := 2) rfl (by rw [← he]; rfl) (by decide) rfl (fun ls hl => ?_)
  refine lv_goto (tgt := 2) hx hb dX3_settleRest_58 (by decide) ?_
  exact hr_2 v1 x2 w1 hf _ _ _ hH (lv_sub hl [1, 2, 0] rfl)
set_option maxRecDepth 100000 in
set_option maxHeartbeats 4000000 in
theorem tb_X3_settleRest_2 {D : va_G} {B : Nat} {Y : Nat → ClassId} {p : Program} {l : Launch} {e : Env} {s : State} {m : MethodId} {args : Array Value} {below : List Frame} {meth : Method} {c : Code} {z : (Unit × Wd)} {H : Heap} {locs : List Loc} {ls : Array Slot} {w : Wd} {v1 : Int32} {v2 : Int32} (C : CX D B Y p s m args meth c cX3_settleRest 4 RX3 none)  {rc_2 : Int32 × Int32 × Wd → Option (Unit × Wd)} (hr_2 : ∀ (v1 : Int32) (v2 : Int32) (w : Wd), rc_2 (v1, v2, w) = some z → ∀ (H : Heap) (locs : List Loc) (ls : Array Slot), HS D B Y w s H locs → lv_has ls 4 [(0, .ref (B + 650)), (1, .int v1), (2, .int v2)] → W p l e (RM 3 0 0) s m args below meth c H locs 0 0 (MQ below (QG D B Y none z.2 True) args s 0 0 (AB B)) (F0 m 2 ls []))    (hH : HS D B Y w s H locs) (hl : lv_has ls 4 [(0, .ref (B + 650)), (1, .int v1), (2, .int v2)]) (hf : g_X3_settleRest_2 rc_2 v1 v2 w = some z) : W p l e (RM 3 0 0) s m args below meth c H locs 0 0 (MQ below (QG D B Y none z.2 True) args s 0 0 (AB B)) (F0 m 2 ls []) := by
  have hx := C.1
  have hb := C.2.1
  unfold g_X3_settleRest_2 at hf
  refine lv_iload_n hx hb dX3_settleRest_2 rfl (lv_at hl 2 rfl) ?_
  refine lv_aload_n hx hb dX3_settleRest_3 rfl (lv_at hl 0 rfl) ?_
  refine fg_X3_39 C hH dX3_settleRest_4 ?_
  obtain ⟨x2, w1, hc, hf⟩ := bd_some hf
  refine q_callV1 (v := .int x2) (As := []) C hH (ci := 7) rfl (by omega) gk_X3_54 yd_X7_size (by omega) (by omega) kc_663 (c_X7_size kc_663 hc) hl.1 rfl (Nat.le_of_ble_eq_true rfl) dX3_settleRest_7 xv_00 (fun H locs hH hP => ?_)
  refine b_icmp_ge (tgt := 61) hx hb hf dX3_settleRest_10 (by decide) (fun hf => ?_) (fun hf => ?_)
  · cases hf
    exact q_retv C hH trivial dX3_settleRest_61
  · refine lv_aload_n hx hb dX3_settleRest_13 rfl (lv_at hl 0 rfl) ?_
    refine fg_X3_39 C hH dX3_settleRest_14 ?_
    refine lv_iload_n hx hb dX3_settleRest_17 rfl (lv_at hl 2 rfl) ?_
    obtain ⟨x4, w3, hc, hf⟩ := bd_some hf
    refine q_callV1 (v := .int x4) (As := [.int v2]) C hH (ci := 7) rfl (by omega) gk_X3_58 yd_X7_get (by omega) (by omega) kc_663 (c_X7_get kc_663 hc) hl.1 rfl (Nat.le_of_ble_eq_true rfl) dX3_settleRest_18 xv_00 (fun H locs hH hP => ?_)
    refine lv_iconst (v := (3 : Int32)) hx hb dX3_settleRest_21 (by decide) ?_
    refine b_icmp_ne (tgt := 55) hx hb hf dX3_settleRest_22 (by decide) (fun hf => ?_) (fun hf => ?_)
    · refine b_let hf (fun x5 he hf => ?_)
      refine lv_iinc (v := x5) (lv' := [(2, .int x5), (0, .ref (B + 650)), (1, .int v1)]) hx hb dX3_settleRest_55 hl (k := 2) rfl (by rw [← he]; rfl) (by decide) rfl (fun ls hl => ?_)
      refine lv_goto (tgt := 2) hx hb dX3_settleRest_58 (by decide) ?_
      exact hr_2 v1 x5 w3 hf _ _ _ hH (lv_sub hl [1, 2, 0] rfl)
    · refine lv_aload_n hx hb dX3_settleRest_25 rfl (lv_at hl 0 rfl) ?_
      refine lv_iload_n hx hb dX3_settleRest_26 rfl (lv_at hl 2 rfl) ?_
      refine lv_iload_n hx hb dX3_settleRest_27 rfl (lv_at hl 1 rfl) ?_
      obtain ⟨x7, w6, hc, hf⟩ := bd_some hf
      refine q_callV1 (v := .int x7) (As := [.int v2, .int v1]) C hH (ci := 3) rfl (by omega) gk_X3_145 yd_X3_wayAhead (by omega) (by omega) kc_650 (c_X3_wayAhead hc) hl.1 rfl (Nat.le_of_ble_eq_true rfl) dX3_settleRest_28 xv_00 (fun H locs hH hP => ?_)
      refine lv_istore_n (lv' := [(3, .int x7), (0, .ref (B + 650)), (1, .int v1), (2, .int v2)]) hx hb dX3_settleRest_31 rfl hl (by decide) rfl (fun ls hl => ?_)
      refine lv_aload_n hx hb dX3_settleRest_32 rfl (lv_at hl 1 rfl) ?_
      refine fg_X3_39 C hH dX3_settleRest_33 ?_
      refine lv_iload_n hx hb dX3_settleRest_36 rfl (lv_at hl 3 rfl) ?_
      refine lv_iload_n hx hb dX3_settleRest_37 rfl (lv_at hl 0 rfl) ?_
      refine lv_aload_n hx hb dX3_settleRest_38 rfl (lv_at hl 1 rfl) ?_
      refine lv_iload_n hx hb dX3_settleRest_39 rfl (lv_at hl 3 rfl) ?_
      refine lv_iload_n hx hb dX3_settleRest_40 rfl (lv_at hl 2 rfl) ?_
      obtain ⟨x9, w8, hc, hf⟩ := bd_some hf
      refine q_callV1 (v := .int x9) (As := [.int v2, .int v1]) C hH (ci := 3) rfl (by omega) gk_X3_149 yd_X3_wayBehind (by omega) (by omega) kc_650 (c_X3_wayBehind hc) hl.1 rfl (Nat.le_of_ble_eq_true rfl) dX3_settleRest_41 xv_00 (fun H locs hH hP => ?_)
      refine b_icmp_ne (tgt := 51) hx hb hf dX3_settleRest_44 (by decide) (fun hf => ?_) (fun hf => ?_)
      · refine lv_iload_n hx hb dX3_settleRest_51 rfl (lv_at hl 2 rfl) ?_
        exact t_X3_settleRest_52 C hr_2 kc_663 hH (lv_sub hl [1, 2, 3] rfl) hf
      · refine lv_iload_n hx hb dX3_settleRest_47 rfl (lv_at hl 0 rfl) ?_
        refine lv_goto (tgt := 52) hx hb dX3_settleRest_48 (by decide) ?_
        exact t_X3_settleRest_52 C hr_2 kc_663 hH (lv_sub hl [1, 2, 3] rfl) hf
set_option maxRecDepth 100000 in
set_option maxHeartbeats 4000000 in
theorem t_X3_settleRest_2 {D : va_G} {B : Nat} {Y : Nat → ClassId} {p : Program} {l : Launch} {e : Env} {s : State} {m : MethodId} {args : Array Value} {below : List Frame} {meth : Method} {c : Code} {z : (Unit × Wd)} {H : Heap} {locs : List Loc} {ls : Array Slot} {w : Wd} {v1 : Int32} {v2 : Int32} (C : CX D B Y p s m args meth c cX3_settleRest 4 RX3 none)     (hH : HS D B Y w s H locs) (hl : lv_has ls 4 [(0, .ref (B + 650)), (1, .int v1), (2, .int v2)]) (hf : f_X3_settleRest_2 v1 v2 w = some z) : W p l e (RM 3 0 0) s m args below meth c H locs 0 0 (MQ below (QG D B Y none z.2 True) args s 0 0 (AB B)) (F0 m 2 ls []) := by
  exact loopN_ind (z := z) (body := fun rc σ => g_X3_settleRest_2 rc  σ.1 σ.2.1 σ.2.2)
    (P := fun σ => ∀ (H : Heap) (locs : List Loc) (ls : Array Slot), HS D B Y σ.2.2 s H locs → lv_has ls 4 [(0, .ref (B + 650)), (1, .int σ.1), (2, .int σ.2.1)] → W p l e (RM 3 0 0) s m args below meth c H locs 0 0 (MQ below (QG D B Y none z.2 True) args s 0 0 (AB B)) (F0 m 2 ls []))
    (fun rc hrec σ hf  H locs ls hH hl => tb_X3_settleRest_2 C (fun v1 v2 w hr  H locs ls hH hl => hrec (v1, v2, w) hr  H locs ls hH hl)   hH hl hf) FU (v1, v2, w) hf  H locs ls hH hl
set_option maxRecDepth 100000 in
set_option maxHeartbeats 4000000 in
theorem t_X3_settleRest_0 {D : va_G} {B : Nat} {Y : Nat → ClassId} {p : Program} {l : Launch} {e : Env} {s : State} {m : MethodId} {args : Array Value} {below : List Frame} {meth : Method} {c : Code} {z : (Unit × Wd)} {H : Heap} {locs : List Loc} {ls : Array Slot} {w : Wd} {v1 : Int32} (C : CX D B Y p s m args meth c cX3_settleRest 4 RX3 none)     (hH : HS D B Y w s H locs) (hl : lv_has ls 4 [(0, .ref (B + 650)), (1, .int v1)]) (hf : f_X3_settleRest v1 w = some z) : W p l e (RM 3 0 0) s m args below meth c H locs 0 0 (MQ below (QG D B Y none z.2 True) args s 0 0 (AB B)) (F0 m 0 ls []) := by
  have hx := C.1
  have hb := C.2.1
  unfold f_X3_settleRest at hf
  refine lv_iconst (v := (0 : Int32)) hx hb dX3_settleRest_0 (by decide) ?_
  refine lv_istore_n (lv' := [(2, .int (0 : Int32)), (0, .ref (B + 650)), (1, .int v1)]) hx hb dX3_settleRest_1 rfl hl (by decide) rfl (fun ls hl => ?_)
  exact t_X3_settleRest_2 C hH (lv_sub hl [1, 2, 0] rfl) hf
set_option maxRecDepth 100000 in
theorem c_X3_settleRest {l : Launch} {D : va_G} {B : Nat} {Y : Nat → ClassId} {v1 : Int32} {w : Wd} {r : Unit} {w1 : Wd}   (hf : f_X3_settleRest v1 w = some (r, w1)) : CM l D B Y yX3_settleRest cX3_settleRest 4 none 3 [.ref (B + 650), .int v1] w none w1 True :=
  CM_of (by decide +kernel) (Nat.le_of_ble_eq_true rfl) (fun p e s m args below meth c ls C hH hl => t_X3_settleRest_0 C  hH (lv_sub hl [0, 1] rfl) hf)
/-! LetterTables$Levels.tellLevels -/
set_option maxRecDepth 100000 in
set_option maxHeartbeats 4000000 in
theorem t_X3_tellLevels_68 {D : va_G} {B : Nat} {Y : Nat → ClassId} {p : Program} {l : Launch} {e : Env} {s : State} {m : MethodId} {args : Array Value} {below : List Frame} {meth : Method} {c : Code} {z : (Unit × Wd)} {H : Heap} {locs : List Loc} {ls : Array Slot} {w : Wd} {v1 : Int32} {v2 : Int32} {v3 : Int32} {t0 : Int32} (C : CX D B Y p s m args meth c cX3_tellLevels 6 RX3 none)  {rc_15 : Int32 × Int32 × Int32 × Wd → Option (Unit × Wd)} (hr_15 : ∀ (v1 : Int32) (v2 : Int32) (v3 : Int32) (w : Wd), rc_15 (v1, v2, v3, w) = some z → isZ v2 → ∀ (H : Heap) (locs : List Loc) (ls : Array Slot), HS D B Y w s H locs → lv_has ls 6 [(0, .ref (B + 650)), (1, .int v1), (2, .int v2), (3, .int v3)] → W p l e (RM 1 0 0) s m args below meth c H locs 0 0 (MQ below (QG D B Y none z.2 True) args s 0 0 (AB B)) (F0 m 15 ls []))   (z_v2 : isZ v2) (hH : HS D B Y w s H locs) (hl : lv_has ls 6 [(0, .ref (B + 650)), (1, .int v1), (2, .int v2), (3, .int v3)]) (hf : f_X3_tellLevels_68 rc_15 v1 v2 v3 t0 w = some z) : W p l e (RM 1 0 0) s m args below meth c H locs 0 0 (MQ below (QG D B Y none z.2 True) args s 0 0 (AB B)) (F0 m 68 ls [.int t0]) := by
  have hx := C.1
  have hb := C.2.1
  unfold f_X3_tellLevels_68 at hf
  refine lv_istore (lv' := [(5, .int t0), (0, .ref (B + 650)), (1, .int v1), (2, .int v2), (3, .int v3)]) hx hb dX3_tellLevels_68 hl (by decide) rfl (fun ls hl => ?_)
  refine lv_aload_n hx hb dX3_tellLevels_70 rfl (lv_at hl 1 rfl) ?_
  refine fg_X3_48 C hH dX3_tellLevels_71 ?_
  refine lv_aload_n hx hb dX3_tellLevels_74 rfl (lv_at hl 1 rfl) ?_
  refine fg_X3_33 C hH dX3_tellLevels_75 ?_
  refine lv_iload_n hx hb dX3_tellLevels_78 rfl (lv_at hl 4 rfl) ?_
  obtain ⟨x2, w1, hc, hf⟩ := bd_some hf
  refine q_callV1 (v := .int x2) (As := [.int v3]) C hH (ci := 7) rfl (by omega) gk_X3_58 yd_X7_get (by omega) (by omega) kc_659 (c_X7_get kc_659 hc) hl.1 rfl (Nat.le_of_ble_eq_true rfl) dX3_tellLevels_79 xv_00 (fun H locs hH hP => ?_)
  refine lv_iload_n hx hb dX3_tellLevels_82 rfl (lv_at hl 2 rfl) ?_
  refine lv_iload hx hb dX3_tellLevels_83 (lv_at hl 0 rfl) ?_
  refine lv_iadd hx hb dX3_tellLevels_85 ?_
  obtain ⟨u, w3, hc, hf⟩ := bd_some hf
  refine q_callV0 (As := [.int x2, .int (v1 + t0)]) C hH (ci := 7) rfl (by omega) gk_X3_121 yd_X7_set (by omega) (by omega) kc_669 (c_X7_set kc_669 hc) hl.1 rfl (Nat.le_of_ble_eq_true rfl) dX3_tellLevels_86 xv_00 (fun H locs hH hP => ?_)
  refine b_let hf (fun x4 he hf => ?_)
  refine lv_iinc (v := x4) (lv' := [(3, .int x4), (5, .int t0), (0, .ref (B + 650)), (1, .int v1), (2, .int v2)]) hx hb dX3_tellLevels_89 hl (k := 4) rfl (by rw [← he]; rfl) (by decide) rfl (fun ls hl => ?_)
  refine lv_goto (tgt := 15) hx hb dX3_tellLevels_92 (by decide) ?_
  exact hr_15 v1 v2 x4 w3 hf z_v2 _ _ _ hH (lv_sub hl [2, 3, 4, 0] rfl)
set_option maxRecDepth 100000 in
set_option maxHeartbeats 4000000 in
theorem tb_X3_tellLevels_15 {D : va_G} {B : Nat} {Y : Nat → ClassId} {p : Program} {l : Launch} {e : Env} {s : State} {m : MethodId} {args : Array Value} {below : List Frame} {meth : Method} {c : Code} {z : (Unit × Wd)} {H : Heap} {locs : List Loc} {ls : Array Slot} {w : Wd} {v1 : Int32} {v2 : Int32} {v3 : Int32} (C : CX D B Y p s m args meth c cX3_tellLevels 6 RX3 none)  {rc_15 : Int32 × Int32 × Int32 × Wd → Option (Unit × Wd)} (hr_15 : ∀ (v1 : Int32) (v2 : Int32) (v3 : Int32) (w : Wd), rc_15 (v1, v2, v3, w) = some z → isZ v2 → ∀ (H : Heap) (locs : List Loc) (ls : Array Slot), HS D B Y w s H locs → lv_has ls 6 [(0, .ref (B + 650)), (1, .int v1), (2, .int v2), (3, .int v3)] → W p l e (RM 1 0 0) s m args below meth c H locs 0 0 (MQ below (QG D B Y none z.2 True) args s 0 0 (AB B)) (F0 m 15 ls []))   (z_v2 : isZ v2) (hH : HS D B Y w s H locs) (hl : lv_has ls 6 [(0, .ref (B + 650)), (1, .int v1), (2, .int v2), (3, .int v3)]) (hf : g_X3_tellLevels_15 rc_15 v1 v2 v3 w = some z) : W p l e (RM 1 0 0) s m args below meth c H locs 0 0 (MQ below (QG D B Y none z.2 True) args s 0 0 (AB B)) (F0 m 15 ls []) := by
  have hx := C.1
  have hb := C.2.1
  unfold g_X3_tellLevels_15 at hf
  refine lv_iload_n hx hb dX3_tellLevels_15 rfl (lv_at hl 3 rfl) ?_
  refine lv_aload_n hx hb dX3_tellLevels_16 rfl (lv_at hl 0 rfl) ?_
  refine fg_X3_39 C hH dX3_tellLevels_17 ?_
  obtain ⟨x2, w1, hc, hf⟩ := bd_some hf
  refine q_callV1 (v := .int x2) (As := []) C hH (ci := 7) rfl (by omega) gk_X3_54 yd_X7_size (by omega) (by omega) kc_663 (c_X7_size kc_663 hc) hl.1 rfl (Nat.le_of_ble_eq_true rfl) dX3_tellLevels_20 xv_00 (fun H locs hH hP => ?_)
  refine b_icmp_ge (tgt := 95) hx hb hf dX3_tellLevels_23 (by decide) (fun hf => ?_) (fun hf => ?_)
  · cases hf
    exact q_retv C hH trivial dX3_tellLevels_95
  · refine lv_aload_n hx hb dX3_tellLevels_26 rfl (lv_at hl 0 rfl) ?_
    refine fg_X3_39 C hH dX3_tellLevels_27 ?_
    refine lv_iload_n hx hb dX3_tellLevels_30 rfl (lv_at hl 3 rfl) ?_
    obtain ⟨x4, w3, hc, hf⟩ := bd_some hf
    refine q_callV1 (v := .int x4) (As := [.int v3]) C hH (ci := 7) rfl (by omega) gk_X3_58 yd_X7_get (by omega) (by omega) kc_663 (c_X7_get kc_663 hc) hl.1 rfl (Nat.le_of_ble_eq_true rfl) dX3_tellLevels_31 xv_00 (fun H locs hH hP => ?_)
    refine lv_istore (lv' := [(4, .int x4), (0, .ref (B + 650)), (1, .int v1), (2, .int v2), (3, .int v3)]) hx hb dX3_tellLevels_34 hl (by decide) rfl (fun ls hl => ?_)
    refine lv_iload hx hb dX3_tellLevels_36 (lv_at hl 0 rfl) ?_
    refine lv_iconst (v := (2 : Int32)) hx hb dX3_tellLevels_38 (by decide) ?_
    refine b_icmp_ne (tgt := 54) hx hb hf dX3_tellLevels_39 (by decide) (fun hf => ?_) (fun hf => ?_)
    · refine lv_iload hx hb dX3_tellLevels_54 (lv_at hl 0 rfl) ?_
      refine lv_iload_n hx hb dX3_tellLevels_56 rfl (lv_at hl 2 rfl) ?_
      obtain ⟨x6, w5, hc, hf⟩ := bd_some hf
      refine q_callS1 (v := .int x6) (As := [.int v1]) C hH gk_X3_86 yd_X3_wayOf (by omega) (by omega) (c_X3_wayOf hc) hl.1 rfl (Nat.le_of_ble_eq_true rfl) dX3_tellLevels_57 xv_00 (fun H locs hH hP => ?_)
      refine b_icmp_ne (tgt := 67) hx hb hf dX3_tellLevels_60 (by decide) (fun hf => ?_) (fun hf => ?_)
      · refine lv_iconst (v := (1 : Int32)) hx hb dX3_tellLevels_67 (by decide) ?_
        exact t_X3_tellLevels_68 C hr_15 z_v2 hH (lv_sub hl [1, 2, 3, 4] rfl) hf
      · refine lv_iconst (v := (0 : Int32)) hx hb dX3_tellLevels_63 (by decide) ?_
        refine lv_goto (tgt := 68) hx hb dX3_tellLevels_64 (by decide) ?_
        exact t_X3_tellLevels_68 C hr_15 z_v2 hH (lv_sub hl [1, 2, 3, 4] rfl) hf
    · refine lv_iload_n hx hb dX3_tellLevels_42 rfl (lv_at hl 3 rfl) ?_
      refine b_if_eq (tgt := 50) hx hb hf dX3_tellLevels_43 (by decide) (fun hf => ?_) (fun hf => ?_)
      · refine lv_iconst (v := (1 : Int32)) hx hb dX3_tellLevels_50 (by decide) ?_
        refine lv_goto (tgt := 68) hx hb dX3_tellLevels_51 (by decide) ?_
        exact t_X3_tellLevels_68 C hr_15 z_v2 hH (lv_sub hl [1, 2, 3, 4] rfl) hf
      · refine lv_iconst (v := (2 : Int32)) hx hb dX3_tellLevels_46 (by decide) ?_
        refine lv_goto (tgt := 68) hx hb dX3_tellLevels_47 (by decide) ?_
        exact t_X3_tellLevels_68 C hr_15 z_v2 hH (lv_sub hl [1, 2, 3, 4] rfl) hf
set_option maxRecDepth 100000 in
set_option maxHeartbeats 4000000 in
theorem t_X3_tellLevels_15 {D : va_G} {B : Nat} {Y : Nat → ClassId} {p : Program} {l : Launch} {e : Env} {s : State} {m : MethodId} {args : Array Value} {below : List Frame} {meth : Method} {c : Code} {z : (Unit × Wd)} {H : Heap} {locs : List Loc} {ls : Array Slot} {w : Wd} {v1 : Int32} {v2 : Int32} {v3 : Int32} (C : CX D B Y p s m args meth c cX3_tellLevels 6 RX3 none)    (z_v2 : isZ v2) (hH : HS D B Y w s H locs) (hl : lv_has ls 6 [(0, .ref (B + 650)), (1, .int v1), (2, .int v2), (3, .int v3)]) (hf : f_X3_tellLevels_15 v1 v2 v3 w = some z) : W p l e (RM 1 0 0) s m args below meth c H locs 0 0 (MQ below (QG D B Y none z.2 True) args s 0 0 (AB B)) (F0 m 15 ls []) := by
  exact loopN_ind (z := z) (body := fun rc σ => g_X3_tellLevels_15 rc  σ.1 σ.2.1 σ.2.2.1 σ.2.2.2)
    (P := fun σ => isZ σ.2.1 → ∀ (H : Heap) (locs : List Loc) (ls : Array Slot), HS D B Y σ.2.2.2 s H locs → lv_has ls 6 [(0, .ref (B + 650)), (1, .int σ.1), (2, .int σ.2.1), (3, .int σ.2.2.1)] → W p l e (RM 1 0 0) s m args below meth c H locs 0 0 (MQ below (QG D B Y none z.2 True) args s 0 0 (AB B)) (F0 m 15 ls []))
    (fun rc hrec σ hf z_v2 H locs ls hH hl => tb_X3_tellLevels_15 C (fun v1 v2 v3 w hr z_v2 H locs ls hH hl => hrec (v1, v2, v3, w) hr z_v2 H locs ls hH hl)  z_v2 hH hl hf) FU (v1, v2, v3, w) hf z_v2 H locs ls hH hl
set_option maxRecDepth 100000 in
set_option maxHeartbeats 4000000 in
theorem t_X3_tellLevels_12 {D : va_G} {B : Nat} {Y : Nat → ClassId} {p : Program} {l : Launch} {e : Env} {s : State} {m : MethodId} {args : Array Value} {below : List Frame} {meth : Method} {c : Code} {z : (Unit × Wd)} {H : Heap} {locs : List Loc} {ls : Array Slot} {w : Wd} {v1 : Int32} {t0 : Int32} (C : CX D B Y p s m args meth c cX3_tellLevels 6 RX3 none)    (z_t0 : isZ t0) (hH : HS D B Y w s H locs) (hl : lv_has ls 6 [(0, .ref (B + 650)), (1, .int v1)]) (hf : f_X3_tellLevels_12 v1 t0 w = some z) : W p l e (RM 1 0 0) s m args below meth c H locs 0 0 (MQ below (QG D B Y none z.2 True) args s 0 0 (AB B)) (F0 m 12 ls [.int t0]) := by
  have hx := C.1
  have hb := C.2.1
  unfold f_X3_tellLevels_12 at hf
  refine lv_istore_n (lv' := [(2, .int t0), (0, .ref (B + 650)), (1, .int v1)]) hx hb dX3_tellLevels_12 rfl hl (by decide) rfl (fun ls hl => ?_)
  refine lv_iconst (v := (0 : Int32)) hx hb dX3_tellLevels_13 (by decide) ?_
  refine lv_istore_n (lv' := [(3, .int (0 : Int32)), (2, .int t0), (0, .ref (B + 650)), (1, .int v1)]) hx hb dX3_tellLevels_14 rfl hl (by decide) rfl (fun ls hl => ?_)
  exact t_X3_tellLevels_15 C z_t0 hH (lv_sub hl [2, 3, 1, 0] rfl) hf
set_option maxRecDepth 100000 in
set_option maxHeartbeats 4000000 in
theorem t_X3_tellLevels_0 {D : va_G} {B : Nat} {Y : Nat → ClassId} {p : Program} {l : Launch} {e : Env} {s : State} {m : MethodId} {args : Array Value} {below : List Frame} {meth : Method} {c : Code} {z : (Unit × Wd)} {H : Heap} {locs : List Loc} {ls : Array Slot} {w : Wd} {v1 : Int32} (C : CX D B Y p s m args meth c cX3_tellLevels 6 RX3 none)     (hH : HS D B Y w s H locs) (hl : lv_has ls 6 [(0, .ref (B + 650)), (1, .int v1)]) (hf : f_X3_tellLevels v1 w = some z) : W p l e (RM 1 0 0) s m args below meth c H locs 0 0 (MQ below (QG D B Y none z.2 True) args s 0 0 (AB B)) (F0 m 0 ls []) := by
  have hx := C.1
  have hb := C.2.1
  unfold f_X3_tellLevels at hf
  refine lv_iload_n hx hb dX3_tellLevels_0 rfl (lv_at hl 1 rfl) ?_
  obtain ⟨x2, w1, hc, hf⟩ := bd_some hf
  refine q_callS1 (v := .int x2) (As := [.int v1]) C hH gk_X3_86 yd_X3_wayOf (by omega) (by omega) (c_X3_wayOf hc) hl.1 rfl (Nat.le_of_ble_eq_true rfl) dX3_tellLevels_1 xv_00 (fun H locs hH hP => ?_)
  refine b_if_ne (tgt := 11) hx hb hf dX3_tellLevels_4 (by decide) (fun hf => ?_) (fun hf => ?_)
  · refine lv_iconst (v := (0 : Int32)) hx hb dX3_tellLevels_11 (by decide) ?_
    exact t_X3_tellLevels_12 C isZ_0 hH (lv_sub hl [0, 1] rfl) hf
  · refine lv_iconst (v := (1 : Int32)) hx hb dX3_tellLevels_7 (by decide) ?_
    refine lv_goto (tgt := 12) hx hb dX3_tellLevels_8 (by decide) ?_
    exact t_X3_tellLevels_12 C isZ_1 hH (lv_sub hl [0, 1] rfl) hf
set_option maxRecDepth 100000 in
theorem c_X3_tellLevels {l : Launch} {D : va_G} {B : Nat} {Y : Nat → ClassId} {v1 : Int32} {w : Wd} {r : Unit} {w1 : Wd}   (hf : f_X3_tellLevels v1 w = some (r, w1)) : CM l D B Y yX3_tellLevels cX3_tellLevels 6 none 1 [.ref (B + 650), .int v1] w none w1 True :=
  CM_of (by decide +kernel) (Nat.le_of_ble_eq_true rfl) (fun p e s m args below meth c ls C hH hl => t_X3_tellLevels_0 C  hH (lv_sub hl [0, 1] rfl) hf)
/-! LetterTables$Levels.lookAt -/
set_option maxRecDepth 100000 in
set_option maxHeartbeats 4000000 in
theorem tb_X3_lookAt_35 {D : va_G} {B : Nat} {Y : Nat → ClassId} {p : Program} {l : Launch} {e : Env} {s : State} {m : MethodId} {args : Array Value} {below : List Frame} {meth : Method} {c : Code} {z : (Unit × Wd)} {H : Heap} {locs : List Loc} {ls : Array Slot} {w : Wd} {v1 : Nat} {v3 : Int32} (C : CX D B Y p s m args meth c cX3_lookAt 5 RX3 none)  {rc_35 : Nat × Int32 × Wd → Option (Unit × Wd)} (hr_35 : ∀ (v1 : Nat) (v3 : Int32) (w : Wd), rc_35 (v1, v3, w) = some z → KD v1 = 7 → ∀ (H : Heap) (locs : List Loc) (ls : Array Slot), HS D B Y w s H locs → lv_has ls 5 [(0, .ref (B + 650)), (1, .ref (B + v1)), (3, .int v3)] → W p l e (RM 5 0 0) s m args below meth c H locs 0 0 (MQ below (QG D B Y none z.2 True) args s 0 0 (AB B)) (F0 m 35 ls []))  (k_v1 : KD v1 = 7)  (hH : HS D B Y w s H locs) (hl : lv_has ls 5 [(0, .ref (B + 650)), (1, .ref (B + v1)), (3, .int v3)]) (hf : g_X3_lookAt_35 rc_35 v1 v3 w = some z) : W p l e (RM 5 0 0) s m args below meth c H locs 0 0 (MQ below (QG D B Y none z.2 True) args s 0 0 (AB B)) (F0 m 35 ls []) := by
  have hx := C.1
  have hb := C.2.1
  unfold g_X3_lookAt_35 at hf
  refine lv_iload_n hx hb dX3_lookAt_35 rfl (lv_at hl 2 rfl) ?_
  refine lv_aload_n hx hb dX3_lookAt_36 rfl (lv_at hl 0 rfl) ?_
  refine fg_X3_24 C hH dX3_lookAt_37 ?_
  obtain ⟨x2, w1, hc, hf⟩ := bd_some hf
  refine q_callV1 (v := .int x2) (As := []) C hH (ci := 7) rfl (by omega) gk_X3_54 yd_X7_size (by omega) (by omega) kc_653 (c_X7_size kc_653 hc) hl.1 rfl (Nat.le_of_ble_eq_true rfl) dX3_lookAt_40 xv_00 (fun H locs hH hP => ?_)
  refine b_icmp_ge (tgt := 101) hx hb hf dX3_lookAt_43 (by decide) (fun hf => ?_) (fun hf => ?_)
  · cases hf
    exact q_retv C hH trivial dX3_lookAt_101
  · refine lv_aload_n hx hb dX3_lookAt_46 rfl (lv_at hl 0 rfl) ?_
    refine fg_X3_24 C hH dX3_lookAt_47 ?_
    refine lv_iload_n hx hb dX3_lookAt_50 rfl (lv_at hl 2 rfl) ?_
    obtain ⟨x4, w3, hc, hf⟩ := bd_some hf
    refine q_callV1 (v := .int x4) (As := [.int v3]) C hH (ci := 7) rfl (by omega) gk_X3_58 yd_X7_get (by omega) (by omega) kc_653 (c_X7_get kc_653 hc) hl.1 rfl (Nat.le_of_ble_eq_true rfl) dX3_lookAt_51 xv_00 (fun H locs hH hP => ?_)
    refine lv_istore (lv' := [(4, .int x4), (0, .ref (B + 650)), (1, .ref (B + v1)), (3, .int v3)]) hx hb dX3_lookAt_54 hl (by decide) rfl (fun ls hl => ?_)
    refine lv_aload_n hx hb dX3_lookAt_56 rfl (lv_at hl 1 rfl) ?_
    refine lv_aload_n hx hb dX3_lookAt_57 rfl (lv_at hl 2 rfl) ?_
    refine lv_iload_n hx hb dX3_lookAt_58 rfl (lv_at hl 3 rfl) ?_
    obtain ⟨u, w5, hc, hf⟩ := bd_some hf
    refine q_callV0 (As := [.ref (B + v1), .int v3]) C hH (ci := 3) rfl (by omega) gk_X3_83 yd_X3_gather (by omega) (by omega) kc_650 (c_X3_gather k_v1 hc) hl.1 rfl (Nat.le_of_ble_eq_true rfl) dX3_lookAt_59 xv_00 (fun H locs hH hP => ?_)
    refine lv_aload_n hx hb dX3_lookAt_62 rfl (lv_at hl 1 rfl) ?_
    refine lv_iload hx hb dX3_lookAt_63 (lv_at hl 0 rfl) ?_
    obtain ⟨x7, w6, hc, hf⟩ := bd_some hf
    refine q_callS1 (v := .int x7) (As := [.int x4]) C hH gk_X3_86 yd_X3_wayOf (by omega) (by omega) (c_X3_wayOf hc) hl.1 rfl (Nat.le_of_ble_eq_true rfl) dX3_lookAt_65 xv_00 (fun H locs hH hP => ?_)
    obtain ⟨u, w8, hc, hf⟩ := bd_some hf
    refine q_callV0 (As := [.int x7]) C hH (ci := 3) rfl (by omega) gk_X3_89 yd_X3_settleNumbers (by omega) (by omega) kc_650 (c_X3_settleNumbers hc) hl.1 rfl (Nat.le_of_ble_eq_true rfl) dX3_lookAt_68 xv_00 (fun H locs hH hP => ?_)
    refine lv_aload_n hx hb dX3_lookAt_71 rfl (lv_at hl 1 rfl) ?_
    refine lv_iload hx hb dX3_lookAt_72 (lv_at hl 0 rfl) ?_
    obtain ⟨x10, w9, hc, hf⟩ := bd_some hf
    refine q_callS1 (v := .int x10) (As := [.int x4]) C hH gk_X3_86 yd_X3_wayOf (by omega) (by omega) (c_X3_wayOf hc) hl.1 rfl (Nat.le_of_ble_eq_true rfl) dX3_lookAt_74 xv_00 (fun H locs hH hP => ?_)
    obtain ⟨u, w11, hc, hf⟩ := bd_some hf
    refine q_callV0 (As := [.int x10]) C hH (ci := 3) rfl (by omega) gk_X3_92 yd_X3_settlePartners (by omega) (by omega) kc_650 (c_X3_settlePartners hc) hl.1 rfl (Nat.le_of_ble_eq_true rfl) dX3_lookAt_77 xv_00 (fun H locs hH hP => ?_)
    refine lv_aload_n hx hb dX3_lookAt_80 rfl (lv_at hl 1 rfl) ?_
    refine lv_iload hx hb dX3_lookAt_81 (lv_at hl 0 rfl) ?_
    obtain ⟨x13, w12, hc, hf⟩ := bd_some hf
    refine q_callS1 (v := .int x13) (As := [.int x4]) C hH gk_X3_86 yd_X3_wayOf (by omega) (by omega) (c_X3_wayOf hc) hl.1 rfl (Nat.le_of_ble_eq_true rfl) dX3_lookAt_83 xv_00 (fun H locs hH hP => ?_)
    obtain ⟨u, w14, hc, hf⟩ := bd_some hf
    refine q_callV0 (As := [.int x13]) C hH (ci := 3) rfl (by omega) gk_X3_95 yd_X3_settleRest (by omega) (by omega) kc_650 (c_X3_settleRest hc) hl.1 rfl (Nat.le_of_ble_eq_true rfl) dX3_lookAt_86 xv_00 (fun H locs hH hP => ?_)
    refine lv_aload_n hx hb dX3_lookAt_89 rfl (lv_at hl 1 rfl) ?_
    refine lv_iload hx hb dX3_lookAt_90 (lv_at hl 0 rfl) ?_
    obtain ⟨u, w15, hc, hf⟩ := bd_some hf
    refine q_callV0 (As := [.int x4]) C hH (ci := 3) rfl (by omega) gk_X3_98 yd_X3_tellLevels (by omega) (by omega) kc_650 (c_X3_tellLevels hc) hl.1 rfl (Nat.le_of_ble_eq_true rfl) dX3_lookAt_92 xv_00 (fun H locs hH hP => ?_)
    refine b_let hf (fun x16 he hf => ?_)
    refine lv_iinc (v := x16) (lv' := [(3, .int x16), (4, .int x4), (0, .ref (B + 650)), (1, .ref (B + v1))]) hx hb dX3_lookAt_95 hl (k := 3) rfl (by rw [← he]; rfl) (by decide) rfl (fun ls hl => ?_)
    refine lv_goto (tgt := 35) hx hb dX3_lookAt_98 (by decide) ?_
    exact hr_35 v1 x16 w15 hf k_v1 _ _ _ hH (lv_sub hl [2, 3, 0] rfl)
set_option maxRecDepth 100000 in
set_option maxHeartbeats 4000000 in
theorem t_X3_lookAt_35 {D : va_G} {B : Nat} {Y : Nat → ClassId} {p : Program} {l : Launch} {e : Env} {s : State} {m : MethodId} {args : Array Value} {below : List Frame} {meth : Method} {c : Code} {z : (Unit × Wd)} {H : Heap} {locs : List Loc} {ls : Array Slot} {w : Wd} {v1 : Nat} {v3 : Int32} (C : CX D B Y p s m args meth c cX3_lookAt 5 RX3 none)   (k_v1 : KD v1 = 7)  (hH : HS D B Y w s H locs) (hl : lv_has ls 5 [(0, .ref (B + 650)), (1, .ref (B + v1)), (3, .int v3)]) (hf : f_X3_lookAt_35 v1 v3 w = some z) : W p l e (RM 5 0 0) s m args below meth c H locs 0 0 (MQ below (QG D B Y none z.2 True) args s 0 0 (AB B)) (F0 m 35 ls []) := by
  exact loopN_ind (z := z) (body := fun rc σ => g_X3_lookAt_35 rc  σ.1 σ.2.1 σ.2.2)
    (P := fun σ => KD σ.1 = 7 → ∀ (H : Heap) (locs : List Loc) (ls : Array Slot), HS D B Y σ.2.2 s H locs → lv_has ls 5 [(0, .ref (B + 650)), (1, .ref (B + σ.1)), (3, .int σ.2.1)] → W p l e (RM 5 0 0) s m args below meth c H locs 0 0 (MQ below (QG D B Y none z.2 True) args s 0 0 (AB B)) (F0 m 35 ls []))
    (fun rc hrec σ hf k_v1 H locs ls hH hl => tb_X3_lookAt_35 C (fun v1 v3 w hr k_v1 H locs ls hH hl => hrec (v1, v3, w) hr k_v1 H locs ls hH hl)  k_v1 hH hl hf) FU (v1, v3, w) hf k_v1 H locs ls hH hl
set_option maxRecDepth 100000 in
set_option maxHeartbeats 4000000 in
theorem t_X3_lookAt_18 {D : va_G} {B : Nat} {Y : Nat → ClassId} {p : Program} {l : Launch} {e : Env} {s : State} {m : MethodId} {args : Array Value} {below : List Frame} {meth : Method} {c : Code} {z : (Unit × Wd)} {H : Heap} {locs : List Loc} {ls : Array Slot} {w : Wd} {v1 : Nat} {t1 : Nat} {t2 : Int32} (C : CX D B Y p s m args meth c cX3_lookAt 5 RX3 none)   (k_v1 : KD v1 = 7) (k_t1 : KD t1 = 7)  (hH : HS D B Y w s H locs) (hl : lv_has ls 5 [(0, .ref (B + 650)), (1, .ref (B + v1))]) (hf : f_X3_lookAt_18 v1 t1 t2 w = some z) : W p l e (RM 5 0 0) s m args below meth c H locs 0 0 (MQ below (QG D B Y none z.2 True) args s 0 0 (AB B)) (F0 m 18 ls [.int t2, .ref (B + t1), .ref (B + 650)]) := by
  have hx := C.1
  have hb := C.2.1
  unfold f_X3_lookAt_18 at hf
  obtain ⟨u, w1, hc, hf⟩ := bd_some hf
  refine q_callV0 (As := [.ref (B + t1), .int t2]) C hH (ci := 3) rfl (by omega) gk_X3_75 yd_X3_layFrames (by omega) (by omega) kc_650 (c_X3_layFrames k_t1 hc) hl.1 rfl (Nat.le_of_ble_eq_true rfl) dX3_lookAt_18 xv_00 (fun H locs hH hP => ?_)
  refine lv_aload_n hx hb dX3_lookAt_21 rfl (lv_at hl 0 rfl) ?_
  refine fg_X3_48 C hH dX3_lookAt_22 ?_
  refine lv_iconst (v := (0 : Int32)) hx hb dX3_lookAt_25 (by decide) ?_
  refine lv_aload_n hx hb dX3_lookAt_26 rfl (lv_at hl 1 rfl) ?_
  obtain ⟨x3, w2, hc, hf⟩ := bd_some hf
  refine q_callV1 (v := .int x3) (As := []) C hH (ci := 7) rfl (by omega) gk_X3_54 yd_X7_size (by omega) (by omega) k_v1 (c_X7_size k_v1 hc) hl.1 rfl (Nat.le_of_ble_eq_true rfl) dX3_lookAt_27 xv_00 (fun H locs hH hP => ?_)
  obtain ⟨u, w4, hc, hf⟩ := bd_some hf
  refine q_callV0 (As := [.int (0 : Int32), .int x3]) C hH (ci := 7) rfl (by omega) gk_X3_79 yd_X7_refill (by omega) (by omega) kc_669 (c_X7_refill kc_669 hc) hl.1 rfl (Nat.le_of_ble_eq_true rfl) dX3_lookAt_30 xv_00 (fun H locs hH hP => ?_)
  refine lv_iconst (v := (0 : Int32)) hx hb dX3_lookAt_33 (by decide) ?_
  refine lv_istore_n (lv' := [(3, .int (0 : Int32)), (0, .ref (B + 650)), (1, .ref (B + v1))]) hx hb dX3_lookAt_34 rfl hl (by decide) rfl (fun ls hl => ?_)
  exact t_X3_lookAt_35 C k_v1 hH (lv_sub hl [1, 2, 0] rfl) hf
set_option maxRecDepth 100000 in
set_option maxHeartbeats 4000000 in
theorem t_X3_lookAt_0 {D : va_G} {B : Nat} {Y : Nat → ClassId} {p : Program} {l : Launch} {e : Env} {s : State} {m : MethodId} {args : Array Value} {below : List Frame} {meth : Method} {c : Code} {z : (Unit × Wd)} {H : Heap} {locs : List Loc} {ls : Array Slot} {w : Wd} {v1 : Nat} {v2 : Int32} (C : CX D B Y p s m args meth c cX3_lookAt 5 RX3 none)   (k_v1 : KD v1 = 7)  (hH : HS D B Y w s H locs) (hl : lv_has ls 5 [(0, .ref (B + 650)), (1, .ref (B + v1)), (2, .int v2)]) (hf : f_X3_lookAt v1 v2 w = some z) : W p l e (RM 5 0 0) s m args below meth c H locs 0 0 (MQ below (QG D B Y none z.2 True) args s 0 0 (AB B)) (F0 m 0 ls []) := by
  have hx := C.1
  have hb := C.2.1
  unfold f_X3_lookAt at hf
  refine lv_aload_n hx hb dX3_lookAt_0 rfl (lv_at hl 0 rfl) ?_
  refine lv_aload_n hx hb dX3_lookAt_1 rfl (lv_at hl 1 rfl) ?_
  refine lv_iload_n hx hb dX3_lookAt_2 rfl (lv_at hl 2 rfl) ?_
  refine lv_iconst (v := (-1 : Int32)) hx hb dX3_lookAt_3 (by decide) ?_
  refine b_icmp_ne (tgt := 17) hx hb hf dX3_lookAt_4 (by decide) (fun hf => ?_) (fun hf => ?_)
  · refine lv_iload_n hx hb dX3_lookAt_17 rfl (lv_at hl 2 rfl) ?_
    exact t_X3_lookAt_18 C k_v1 k_v1 hH (lv_sub hl [0, 1] rfl) hf
  · refine lv_aload_n hx hb dX3_lookAt_7 rfl (lv_at hl 0 rfl) ?_
    refine lv_aload_n hx hb dX3_lookAt_8 rfl (lv_at hl 1 rfl) ?_
    refine lv_iconst (v := (0 : Int32)) hx hb dX3_lookAt_9 (by decide) ?_
    refine lv_iconst (v := (0 : Int32)) hx hb dX3_lookAt_10 (by decide) ?_
    obtain ⟨x2, w1, hc, hf⟩ := bd_some hf
    refine q_callV1 (v := .int x2) (As := [.ref (B + v1), .int (0 : Int32), .int (0 : Int32)]) C hH (ci := 3) rfl (by omega) gk_X3_71 yd_X3_baseFrom (by omega) (by omega) kc_650 (c_X3_baseFrom k_v1 isZ_0 hc) hl.1 rfl (Nat.le_of_ble_eq_true rfl) dX3_lookAt_11 xv_00 (fun H locs hH hP => ?_)
    refine lv_goto (tgt := 18) hx hb dX3_lookAt_14 (by decide) ?_
    exact t_X3_lookAt_18 C k_v1 k_v1 hH (lv_sub hl [0, 1] rfl) hf
set_option maxRecDepth 100000 in
theorem c_X3_lookAt {l : Launch} {D : va_G} {B : Nat} {Y : Nat → ClassId} {v1 : Nat} {v2 : Int32} {w : Wd} {r : Unit} {w1 : Wd} (k_v1 : KD v1 = 7)  (hf : f_X3_lookAt v1 v2 w = some (r, w1)) : CM l D B Y yX3_lookAt cX3_lookAt 5 none 5 [.ref (B + 650), .ref (B + v1), .int v2] w none w1 True :=
  CM_of (by decide +kernel) (Nat.le_of_ble_eq_true rfl) (fun p e s m args below meth c ls C hH hl => t_X3_lookAt_0 C k_v1 hH (lv_sub hl [0, 1, 2] rfl) hf)
/-! LetterTables$Levels.levelAt -/
set_option maxRecDepth 100000 in
set_option maxHeartbeats 4000000 in
theorem t_X3_levelAt_0 {D : va_G} {B : Nat} {Y : Nat → ClassId} {p : Program} {l : Launch} {e : Env} {s : State} {m : MethodId} {args : Array Value} {below : List Frame} {meth : Method} {c : Code} {z : (Int32 × Wd)} {H : Heap} {locs : List Loc} {ls : Array Slot} {w : Wd} {v1 : Int32} (C : CX D B Y p s m args meth c cX3_levelAt 2 RX3 (some .int))     (hH : HS D B Y w s H locs) (hl : lv_has ls 2 [(0, .ref (B + 650)), (1, .int v1)]) (hf : f_X3_levelAt v1 w = some z) : W p l e (RM 1 0 0) s m args below meth c H locs 0 0 (MQ below (QG D B Y (some (.int z.1)) z.2 True) args s 0 0 (AB B)) (F0 m 0 ls []) := by
  have hx := C.1
  have hb := C.2.1
  unfold f_X3_levelAt at hf
  refine lv_aload_n hx hb dX3_levelAt_0 rfl (lv_at hl 0 rfl) ?_
  refine fg_X3_48 C hH dX3_levelAt_1 ?_
  refine lv_iload_n hx hb dX3_levelAt_4 rfl (lv_at hl 1 rfl) ?_
  obtain ⟨x2, w1, hc, hf⟩ := bd_some hf
  refine q_callV1 (v := .int x2) (As := [.int v1]) C hH (ci := 7) rfl (by omega) gk_X3_58 yd_X7_get (by omega) (by omega) kc_669 (c_X7_get kc_669 hc) hl.1 rfl (Nat.le_of_ble_eq_true rfl) dX3_levelAt_5 xv_00 (fun H locs hH hP => ?_)
  cases hf
  exact q_reti C hH trivial dX3_levelAt_8
set_option maxRecDepth 100000 in
theorem c_X3_levelAt {l : Launch} {D : va_G} {B : Nat} {Y : Nat → ClassId} {v1 : Int32} {w : Wd} {r : Int32} {w1 : Wd}   (hf : f_X3_levelAt v1 w = some (r, w1)) : CM l D B Y yX3_levelAt cX3_levelAt 2 (some .int) 1 [.ref (B + 650), .int v1] w (some (.int r)) w1 True :=
  CM_of (by decide +kernel) (Nat.le_of_ble_eq_true rfl) (fun p e s m args below meth c ls C hH hl => t_X3_levelAt_0 C  hH (lv_sub hl [0, 1] rfl) hf)
/-! LetterTables.level -/
set_option maxRecDepth 100000 in
set_option maxHeartbeats 4000000 in
theorem t_X10_level_0 {D : va_G} {B : Nat} {Y : Nat → ClassId} {p : Program} {l : Launch} {e : Env} {s : State} {m : MethodId} {args : Array Value} {below : List Frame} {meth : Method} {c : Code} {z : ((Nat ⊕ Int32) × Wd)} {H : Heap} {locs : List Loc} {ls : Array Slot} {w : Wd} {v1 : Int32} {v2 : Int32} {v3 : Int32} (C : CX D B Y p s m args meth c cX10_level 5 RX10 (some .int)) (hxt : ∀ x ∈ c.exceptionTable.toList, False) (htr : l.stackTraces = false)     (hH : HS D B Y w s H locs) (hl : lv_has ls 5 [(0, .ref (B + 0)), (1, .int v1), (2, .int v2), (3, .int v3)]) (hf : f_X10_level v1 v2 v3 w = some z) : W p l e (RM 6 (xv (zoI z.1)) (6 * xv (zoI z.1))) s m args below meth c H locs 0 0 (vx_MQ below (QX D B Y (zoI z.1) z.2 True) (XX D B Y (zoI z.1) z.2) args s (xv (zoI z.1)) (6 * xv (zoI z.1)) (AB B)) (F0 m 0 ls []) := by
  have hx := C.1
  have hb := C.2.1
  unfold f_X10_level at hf
  refine lv_aload_n hx hb dX10_level_0 rfl (lv_at hl 0 rfl) ?_
  refine lv_iload_n hx hb dX10_level_1 rfl (lv_at hl 1 rfl) ?_
  rcases bdx_some hf with ⟨k, w1, hc, rfl⟩ | ⟨r2, w1, hc, hf⟩
  · exact q_xrunX (k0 := k) (q_xV (As := [.int v1]) C hH (ci := 10) rfl (by omega) gk_X10_194 yd_X10_textOf (by omega) (by omega) kc_0 (c_X10_textOf (r := .inl k) htr hc) hl.1 rfl (Nat.le_of_ble_eq_true rfl) dX10_level_2 (xv_le rfl)) hH (fun H locs ce q hH h1 h2 h3 => q_out C hH hxt h1 h2 h3 (xv_1 rfl) (xv_6 rfl))
  refine q_xrun (ov := some (.ref (B + r2))) (q_xV (As := [.int v1]) C hH (ci := 10) rfl (by omega) gk_X10_194 yd_X10_textOf (by omega) (by omega) kc_0 (c_X10_textOf (r := .inr r2) htr hc) hl.1 rfl (Nat.le_of_ble_eq_true rfl) dX10_level_2 (xv_0 rfl xv_00)) hH (fun H locs hH k_r2 => ?_)
  refine lv_astore (lv' := [(4, .ref (B + r2)), (0, .ref (B + 0)), (1, .int v1), (2, .int v2), (3, .int v3)]) hx hb dX10_level_5 hl (by decide) rfl (fun ls hl => ?_)
  refine lv_iload_n hx hb dX10_level_7 rfl (lv_at hl 3 rfl) ?_
  refine lv_aload hx hb dX10_level_8 (lv_at hl 0 rfl) ?_
  obtain ⟨x4, w3, hc, hf⟩ := bd_some hf
  refine q_callV1 (v := .int x4) (As := []) C hH (ci := 7) rfl (by omega) gk_X10_107 yd_X7_size (by omega) (by omega) k_r2 (c_X7_size k_r2 hc) hl.1 rfl (Nat.le_of_ble_eq_true rfl) dX10_level_10 xv_00 (fun H locs hH hP => ?_)
  rcases bdx_some hf with ⟨k, w5, hc, rfl⟩ | ⟨u, w5, hc, hf⟩
  · exact q_xrunX (k0 := k) (q_xS (As := [.int v2, .int x4]) C hH gk_X10_240 yd_X10_checkPlace (by omega) (by omega) (c_X10_checkPlace (r := .inl k) htr hc) hl.1 rfl (Nat.le_of_ble_eq_true rfl) dX10_level_13 (xv_le rfl)) hH (fun H locs ce q hH h1 h2 h3 => q_out C hH hxt h1 h2 h3 (xv_1 rfl) (xv_6 rfl))
  refine q_xrun (ov := none) (q_xS (As := [.int v2, .int x4]) C hH gk_X10_240 yd_X10_checkPlace (by omega) (by omega) (c_X10_checkPlace (r := .inr u) htr hc) hl.1 rfl (Nat.le_of_ble_eq_true rfl) dX10_level_13 (xv_0 rfl xv_00)) hH (fun H locs hH hP => ?_)
  refine lv_iload_n hx hb dX10_level_16 rfl (lv_at hl 4 rfl) ?_
  refine lv_iconst (v := (-1 : Int32)) hx hb dX10_level_17 (by decide) ?_
  refine lv_iconst (v := (1 : Int32)) hx hb dX10_level_18 (by decide) ?_
  obtain ⟨x7, w6, hc, hf⟩ := bd_some hf
  refine q_callS1 (v := .int x7) (As := [.int v3, .int (-1 : Int32), .int (1 : Int32)]) C hH gk_X10_99 yd_X10_isWithin (by omega) (by omega) (c_X10_isWithin hc) hl.1 rfl (Nat.le_of_ble_eq_true rfl) dX10_level_19 xv_00 (fun H locs hH z_x7 => ?_)
  rcases bdx_some hf with ⟨k, w8, hc, rfl⟩ | ⟨u, w8, hc, hf⟩
  · exact q_xrunX (k0 := k) (q_xS (As := [.int x7]) C hH gk_X10_103 yd_X10_checkArgument (by omega) (by omega) (c_X10_checkArgument (r := .inl k) htr z_x7 hc) hl.1 rfl (Nat.le_of_ble_eq_true rfl) dX10_level_22 (xv_le rfl)) hH (fun H locs ce q hH h1 h2 h3 => q_out C hH hxt h1 h2 h3 (xv_1 rfl) (xv_6 rfl))
  refine q_xrun (ov := none) (q_xS (As := [.int x7]) C hH gk_X10_103 yd_X10_checkArgument (by omega) (by omega) (c_X10_checkArgument (r := .inr u) htr z_x7 hc) hl.1 rfl (Nat.le_of_ble_eq_true rfl) dX10_level_22 (xv_0 rfl xv_00)) hH (fun H locs hH hP => ?_)
  refine lv_aload_n hx hb dX10_level_25 rfl (lv_at hl 1 rfl) ?_
  refine fg_X10_48 C hH dX10_level_26 ?_
  refine lv_aload hx hb dX10_level_29 (lv_at hl 0 rfl) ?_
  refine lv_iload_n hx hb dX10_level_31 rfl (lv_at hl 4 rfl) ?_
  obtain ⟨u, w9, hc, hf⟩ := bd_some hf
  refine q_callV0 (As := [.ref (B + r2), .int v3]) C hH (ci := 3) rfl (by omega) gk_X10_267 yd_X3_lookAt (by omega) (by omega) kc_650 (c_X3_lookAt k_r2 hc) hl.1 rfl (Nat.le_of_ble_eq_true rfl) dX10_level_32 xv_00 (fun H locs hH hP => ?_)
  refine lv_aload_n hx hb dX10_level_35 rfl (lv_at hl 1 rfl) ?_
  refine fg_X10_48 C hH dX10_level_36 ?_
  refine lv_iload_n hx hb dX10_level_39 rfl (lv_at hl 3 rfl) ?_
  obtain ⟨x11, w10, hc, hf⟩ := bd_some hf
  refine q_callV1 (v := .int x11) (As := [.int v2]) C hH (ci := 3) rfl (by omega) gk_X10_271 yd_X3_levelAt (by omega) (by omega) kc_650 (c_X3_levelAt hc) hl.1 rfl (Nat.le_of_ble_eq_true rfl) dX10_level_40 xv_00 (fun H locs hH hP => ?_)
  cases hf
  exact q_x0 rfl (q_reti C hH trivial dX10_level_43)
set_option maxRecDepth 100000 in
theorem c_X10_level {l : Launch} {D : va_G} {B : Nat} {Y : Nat → ClassId} {v1 : Int32} {v2 : Int32} {v3 : Int32} {w : Wd} {r : (Nat ⊕ Int32)} {w1 : Wd} (htr : l.stackTraces = false)   (hf : f_X10_level v1 v2 v3 w = some (r, w1)) : XM l D B Y yX10_level cX10_level 5 (some .int) 6 [.ref (B + 0), .int v1, .int v2, .int v3] w (zoI r) w1 True :=
  XM_of (by decide +kernel) (Nat.le_of_ble_eq_true rfl) (fun p e s m args below meth c ls C hxt hH hl => t_X10_level_0 C hxt htr  hH (lv_sub hl [0, 1, 2, 3] rfl) hf)
/-! LetterTables$Row.turn -/
set_option maxRecDepth 100000 in
set_option maxHeartbeats 4000000 in
theorem tb_X7_turn_5 {D : va_G} {B : Nat} {Y : Nat → ClassId} {p : Program} {l : Launch} {e : Env} {s : State} {m : MethodId} {args : Array Value} {below : List Frame} {meth : Method} {c : Code} {z : (Unit × Wd)} {H : Heap} {locs : List Loc} {ls : Array Slot} {w : Wd} {v0 : Nat} {v3 : Int32} {v4 : Int32} (C : CX D B Y p s m args meth c cX7_turn 6 RX7 none)  {rc_5 : Nat × Int32 × Int32 × Wd → Option (Unit × Wd)} (hr_5 : ∀ (v0 : Nat) (v3 : Int32) (v4 : Int32) (w : Wd), rc_5 (v0, v3, v4, w) = some z → KD v0 = 7 → ∀ (H : Heap) (locs : List Loc) (ls : Array Slot), HS D B Y w s H locs → lv_has ls 6 [(0, .ref (B + v0)), (3, .int v3), (4, .int v4)] → W p l e (RM 1 0 0) s m args below meth c H locs 0 0 (MQ below (QG D B Y none z.2 True) args s 0 0 (AB B)) (F0 m 5 ls []))  (k_v0 : KD v0 = 7)  (hH : HS D B Y w s H locs) (hl : lv_has ls 6 [(0, .ref (B + v0)), (3, .int v3), (4, .int v4)]) (hf : g_X7_turn_5 rc_5 v0 v3 v4 w = some z) : W p l e (RM 1 0 0) s m args below meth c H locs 0 0 (MQ below (QG D B Y none z.2 True) args s 0 0 (AB B)) (F0 m 5 ls []) := by
  have hx := C.1
  have hb := C.2.1
  unfold g_X7_turn_5 at hf
  refine lv_iload_n hx hb dX7_turn_5 rfl (lv_at hl 1 rfl) ?_
  refine lv_iload hx hb dX7_turn_6 (lv_at hl 2 rfl) ?_
  refine b_icmp_ge (tgt := 46) hx hb hf dX7_turn_8 (by decide) (fun hf => ?_) (fun hf => ?_)
  · cases hf
    exact q_retv C hH trivial dX7_turn_46
  · refine lv_aload_n hx hb dX7_turn_11 rfl (lv_at hl 0 rfl) ?_
    refine lv_iload_n hx hb dX7_turn_12 rfl (lv_at hl 1 rfl) ?_
    obtain ⟨x2, w1, hc, hf⟩ := bd_some hf
    refine q_callV1 (v := .int x2) (As := [.int v3]) C hH (ci := 7) rfl (by omega) gk_X7_19 yd_X7_get (by omega) (by omega) k_v0 (c_X7_get k_v0 hc) hl.1 rfl (Nat.le_of_ble_eq_true rfl) dX7_turn_13 xv_00 (fun H locs hH hP => ?_)
    refine lv_istore (lv' := [(5, .int x2), (0, .ref (B + v0)), (3, .int v3), (4, .int v4)]) hx hb dX7_turn_16 hl (by decide) rfl (fun ls hl => ?_)
    refine lv_aload_n hx hb dX7_turn_18 rfl (lv_at hl 1 rfl) ?_
    refine lv_iload_n hx hb dX7_turn_19 rfl (lv_at hl 2 rfl) ?_
    refine lv_aload_n hx hb dX7_turn_20 rfl (lv_at hl 1 rfl) ?_
    refine lv_iload hx hb dX7_turn_21 (lv_at hl 3 rfl) ?_
    obtain ⟨x4, w3, hc, hf⟩ := bd_some hf
    refine q_callV1 (v := .int x4) (As := [.int v4]) C hH (ci := 7) rfl (by omega) gk_X7_19 yd_X7_get (by omega) (by omega) k_v0 (c_X7_get k_v0 hc) hl.1 rfl (Nat.le_of_ble_eq_true rfl) dX7_turn_23 xv_00 (fun H locs hH hP => ?_)
    obtain ⟨u, w5, hc, hf⟩ := bd_some hf
    refine q_callV0 (As := [.int v3, .int x4]) C hH (ci := 7) rfl (by omega) gk_X7_35 yd_X7_set (by omega) (by omega) k_v0 (c_X7_set k_v0 hc) hl.1 rfl (Nat.le_of_ble_eq_true rfl) dX7_turn_26 xv_00 (fun H locs hH hP => ?_)
    refine lv_aload_n hx hb dX7_turn_29 rfl (lv_at hl 1 rfl) ?_
    refine lv_iload hx hb dX7_turn_30 (lv_at hl 3 rfl) ?_
    refine lv_iload hx hb dX7_turn_32 (lv_at hl 0 rfl) ?_
    obtain ⟨u, w6, hc, hf⟩ := bd_some hf
    refine q_callV0 (As := [.int v4, .int x2]) C hH (ci := 7) rfl (by omega) gk_X7_35 yd_X7_set (by omega) (by omega) k_v0 (c_X7_set k_v0 hc) hl.1 rfl (Nat.le_of_ble_eq_true rfl) dX7_turn_34 xv_00 (fun H locs hH hP => ?_)
    refine b_let hf (fun x7 he hf => ?_)
    refine lv_iinc (v := x7) (lv' := [(3, .int x7), (5, .int x2), (0, .ref (B + v0)), (4, .int v4)]) hx hb dX7_turn_37 hl (k := 2) rfl (by rw [← he]; rfl) (by decide) rfl (fun ls hl => ?_)
    refine b_let hf (fun x8 he hf => ?_)
    refine lv_iinc (v := x8) (lv' := [(4, .int x8), (3, .int x7), (5, .int x2), (0, .ref (B + v0))]) hx hb dX7_turn_40 hl (k := 3) rfl (by rw [← he]; rfl) (by decide) rfl (fun ls hl => ?_)
    refine lv_goto (tgt := 5) hx hb dX7_turn_43 (by decide) ?_
    exact hr_5 v0 x7 x8 w6 hf k_v0 _ _ _ hH (lv_sub hl [3, 1, 0] rfl)
set_option maxRecDepth 100000 in
set_option maxHeartbeats 4000000 in
theorem t_X7_turn_5 {D : va_G} {B : Nat} {Y : Nat → ClassId} {p : Program} {l : Launch} {e : Env} {s : State} {m : MethodId} {args : Array Value} {below : List Frame} {meth : Method} {c : Code} {z : (Unit × Wd)} {H : Heap} {locs : List Loc} {ls : Array Slot} {w : Wd} {v0 : Nat} {v3 : Int32} {v4 : Int32} (C : CX D B Y p s m args meth c cX7_turn 6 RX7 none)   (k_v0 : KD v0 = 7)  (hH : HS D B Y w s H locs) (hl : lv_has ls 6 [(0, .ref (B + v0)), (3, .int v3), (4, .int v4)]) (hf : f_X7_turn_5 v0 v3 v4 w = some z) : W p l e (RM 1 0 0) s m args below meth c H locs 0 0 (MQ below (QG D B Y none z.2 True) args s 0 0 (AB B)) (F0 m 5 ls []) := by
  exact loopN_ind (z := z) (body := fun rc σ => g_X7_turn_5 rc  σ.1 σ.2.1 σ.2.2.1 σ.2.2.2)
    (P := fun σ => KD σ.1 = 7 → ∀ (H : Heap) (locs : List Loc) (ls : Array Slot), HS D B Y σ.2.2.2 s H locs → lv_has ls 6 [(0, .ref (B + σ.1)), (3, .int σ.2.1), (4, .int σ.2.2.1)] → W p l e (RM 1 0 0) s m args below meth c H locs 0 0 (MQ below (QG D B Y none z.2 True) args s 0 0 (AB B)) (F0 m 5 ls []))
    (fun rc hrec σ hf k_v0 H locs ls hH hl => tb_X7_turn_5 C (fun v0 v3 v4 w hr k_v0 H locs ls hH hl => hrec (v0, v3, v4, w) hr k_v0 H locs ls hH hl)  k_v0 hH hl hf) FU (v0, v3, v4, w) hf k_v0 H locs ls hH hl
set_option maxRecDepth 100000 in
set_option maxHeartbeats 4000000 in
theorem t_X7_turn_0 {D : va_G} {B : Nat} {Y : Nat → ClassId} {p : Program} {l : Launch} {e : Env} {s : State} {m : MethodId} {args : Array Value} {below : List Frame} {meth : Method} {c : Code} {z : (Unit × Wd)} {H : Heap} {locs : List Loc} {ls : Array Slot} {w : Wd} {v0 : Nat} {v1 : Int32} {v2 : Int32} (C : CX D B Y p s m args meth c cX7_turn 6 RX7 none)   (k_v0 : KD v0 = 7)  (hH : HS D B Y w s H locs) (hl : lv_has ls 6 [(0, .ref (B + v0)), (1, .int v1), (2, .int v2)]) (hf : f_X7_turn v0 v1 v2 w = some z) : W p l e (RM 1 0 0) s m args below meth c H locs 0 0 (MQ below (QG D B Y none z.2 True) args s 0 0 (AB B)) (F0 m 0 ls []) := by
  have hx := C.1
  have hb := C.2.1
  unfold f_X7_turn at hf
  refine lv_iload_n hx hb dX7_turn_0 rfl (lv_at hl 1 rfl) ?_
  refine lv_istore_n (lv' := [(3, .int v1), (0, .ref (B + v0)), (1, .int v1), (2, .int v2)]) hx hb dX7_turn_1 rfl hl (by decide) rfl (fun ls hl => ?_)
  refine lv_iload_n hx hb dX7_turn_2 rfl (lv_at hl 3 rfl) ?_
  refine lv_istore (lv' := [(4, .int v2), (3, .int v1), (0, .ref (B + v0)), (1, .int v1), (2, .int v2)]) hx hb dX7_turn_3 hl (by decide) rfl (fun ls hl => ?_)
  exact t_X7_turn_5 C k_v0 hH (lv_sub hl [2, 1, 0] rfl) hf
set_option maxRecDepth 100000 in
theorem c_X7_turn {l : Launch} {D : va_G} {B : Nat} {Y : Nat → ClassId} {v0 : Nat} {v1 : Int32} {v2 : Int32} {w : Wd} {r : Unit} {w1 : Wd} (k_v0 : KD v0 = 7)  (hf : f_X7_turn v0 v1 v2 w = some (r, w1)) : CM l D B Y yX7_turn cX7_turn 6 none 1 [.ref (B + v0), .int v1, .int v2] w none w1 True :=
  CM_of (by decide +kernel) (Nat.le_of_ble_eq_true rfl) (fun p e s m args below meth c ls C hH hl => t_X7_turn_0 C k_v0 hH (lv_sub hl [0, 1, 2] rfl) hf)
