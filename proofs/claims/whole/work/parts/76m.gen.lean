/-! LetterTablesModel.key -/
set_option maxRecDepth 100000 in
set_option maxHeartbeats 4000000 in
theorem t_X11_key_80 {D : va_G} {B : Nat} {Y : Nat → ClassId} {p : Program} {l : Launch} {e : Env} {s : State} {m : MethodId} {args : Array Value} {below : List Frame} {meth : Method} {c : Code} {z : (Int32 × Wd)} {H : Heap} {locs : List Loc} {ls : Array Slot} {w : Wd} {v3 : Int32} {t1 : Int32} (C : CX D B Y p s m args meth c cX11_key 6 RX11 (some .int))     (hH : HS D B Y w s H locs) (hl : lv_has ls 6 [(0, .ref (B + 713)), (3, .int v3)]) (hf : f_X11_key_80 v3 t1 w = some z) : W p l e (RM 6 0 0) s m args below meth c H locs 0 0 (MQ below (QG D B Y (some (.int z.1)) z.2 True) args s 0 0 (AB B)) (F0 m 80 ls [.int t1, .ref (B + 713)]) := by
  have hx := C.1
  have hb := C.2.1
  unfold f_X11_key_80 at hf
  obtain ⟨x2, w1, hc, hf⟩ := bd_some hf
  refine q_callV1 (v := .int x2) (As := [.int t1]) C hH (ci := 11) rfl (by omega) gk_X11_118 yd_X11_holds (by omega) (by omega) kc_713 (c_X11_holds hc) hl.1 rfl (Nat.le_of_ble_eq_true rfl) dX11_key_80 ⟨by decide, by decide⟩ (fun H locs hH z_x2 => ?_)
  refine b_if_ne (tgt := 88) hx hb hf dX11_key_83 (by decide) (fun hf => ?_) (fun hf => ?_)
  · refine lv_iload_n hx hb dX11_key_88 rfl (lv_at hl 1 rfl) ?_
    refine lv_iconst (v := (-1 : Int32)) hx hb dX11_key_89 (by decide) ?_
    refine b_icmp_ne (tgt := 100) hx hb hf dX11_key_90 (by decide) (fun hf => ?_) (fun hf => ?_)
    · refine lv_aload_n hx hb dX11_key_100 rfl (lv_at hl 0 rfl) ?_
      refine fg_X11_71 C hH dX11_key_101 ?_
      refine lv_iload_n hx hb dX11_key_104 rfl (lv_at hl 1 rfl) ?_
      refine g_iald C hH kc_734 hf dX11_key_105 (fun x3 hf => ?_)
      cases hf
      exact q_reti C hH trivial dX11_key_106
    · refine lv_aload_n hx hb dX11_key_93 rfl (lv_at hl 0 rfl) ?_
      refine fg_X11_273 C hH dX11_key_94 ?_
      refine lv_goto (tgt := 106) hx hb dX11_key_97 (by decide) ?_
      cases hf
      exact q_reti C hH trivial dX11_key_106
  · refine lv_iconst (v := (0 : Int32)) hx hb dX11_key_86 (by decide) ?_
    cases hf
    exact q_reti C hH trivial dX11_key_87
set_option maxRecDepth 100000 in
set_option maxHeartbeats 4000000 in
theorem t_X11_key_40 {D : va_G} {B : Nat} {Y : Nat → ClassId} {p : Program} {l : Launch} {e : Env} {s : State} {m : MethodId} {args : Array Value} {below : List Frame} {meth : Method} {c : Code} {z : (Int32 × Wd)} {H : Heap} {locs : List Loc} {ls : Array Slot} {w : Wd} {v3 : Int32} {v4 : Int32} {t0 : Int32} (C : CX D B Y p s m args meth c cX11_key 6 RX11 (some .int))    (z_v4 : isZ v4) (z_t0 : isZ t0) (hH : HS D B Y w s H locs) (hl : lv_has ls 6 [(0, .ref (B + 713)), (3, .int v3), (4, .int v4)]) (hf : f_X11_key_40 v3 v4 t0 w = some z) : W p l e (RM 6 0 0) s m args below meth c H locs 0 0 (MQ below (QG D B Y (some (.int z.1)) z.2 True) args s 0 0 (AB B)) (F0 m 40 ls [.int t0]) := by
  have hx := C.1
  have hb := C.2.1
  unfold f_X11_key_40 at hf
  refine lv_istore (lv' := [(5, .int t0), (0, .ref (B + 713)), (3, .int v3), (4, .int v4)]) hx hb dX11_key_40 hl (by decide) rfl (fun ls hl => ?_)
  refine lv_aload_n hx hb dX11_key_42 rfl (lv_at hl 1 rfl) ?_
  refine lv_iload hx hb dX11_key_43 (lv_at hl 3 rfl) ?_
  refine b_if_ne (tgt := 52) hx hb hf dX11_key_45 (by decide) (fun hf => ?_) (fun hf => ?_)
  · refine lv_iload hx hb dX11_key_52 (lv_at hl 0 rfl) ?_
    refine b_if_ne (tgt := 61) hx hb hf dX11_key_54 (by decide) (fun hf => ?_) (fun hf => ?_)
    · refine lv_iload_n hx hb dX11_key_61 rfl (lv_at hl 2 rfl) ?_
      refine lv_iconst (v := (-1 : Int32)) hx hb dX11_key_62 (by decide) ?_
      refine lv_aload_n hx hb dX11_key_63 rfl (lv_at hl 1 rfl) ?_
      refine fg_X11_273 C hH dX11_key_64 ?_
      refine lv_iconst (v := (1 : Int32)) hx hb dX11_key_67 (by decide) ?_
      refine lv_isub hx hb dX11_key_68 ?_
      obtain ⟨x2, w1, hc, hf⟩ := bd_some hf
      refine q_callS1 (v := .int x2) (As := [.int v3, .int (-1 : Int32), .int ((w.1 713 29) - (1 : Int32))]) C hH gk_X11_111 yd_X11_in (by omega) (by omega) (c_X11_in hc) hl.1 rfl (Nat.le_of_ble_eq_true rfl) dX11_key_69 ⟨by decide, by decide⟩ (fun H locs hH z_x2 => ?_)
      refine b_if_eq (tgt := 79) hx hb hf dX11_key_72 (by decide) (fun hf => ?_) (fun hf => ?_)
      · refine lv_iconst (v := (1 : Int32)) hx hb dX11_key_79 (by decide) ?_
        exact t_X11_key_80 C hH (lv_sub hl [1, 2] rfl) hf
      · refine lv_iconst (v := (0 : Int32)) hx hb dX11_key_75 (by decide) ?_
        refine lv_goto (tgt := 80) hx hb dX11_key_76 (by decide) ?_
        exact t_X11_key_80 C hH (lv_sub hl [1, 2] rfl) hf
    · refine lv_iconst (v := (2 : Int32)) hx hb dX11_key_57 (by decide) ?_
      refine lv_goto (tgt := 80) hx hb dX11_key_58 (by decide) ?_
      exact t_X11_key_80 C hH (lv_sub hl [1, 2] rfl) hf
  · refine lv_iconst (v := (1 : Int32)) hx hb dX11_key_48 (by decide) ?_
    refine lv_goto (tgt := 80) hx hb dX11_key_49 (by decide) ?_
    exact t_X11_key_80 C hH (lv_sub hl [1, 2] rfl) hf
set_option maxRecDepth 100000 in
set_option maxHeartbeats 4000000 in
theorem t_X11_key_39 {D : va_G} {B : Nat} {Y : Nat → ClassId} {p : Program} {l : Launch} {e : Env} {s : State} {m : MethodId} {args : Array Value} {below : List Frame} {meth : Method} {c : Code} {z : (Int32 × Wd)} {H : Heap} {locs : List Loc} {ls : Array Slot} {w : Wd} {v3 : Int32} {v4 : Int32} (C : CX D B Y p s m args meth c cX11_key 6 RX11 (some .int))    (z_v4 : isZ v4) (hH : HS D B Y w s H locs) (hl : lv_has ls 6 [(0, .ref (B + 713)), (3, .int v3), (4, .int v4)]) (hf : f_X11_key_39 v3 v4 w = some z) : W p l e (RM 6 0 0) s m args below meth c H locs 0 0 (MQ below (QG D B Y (some (.int z.1)) z.2 True) args s 0 0 (AB B)) (F0 m 39 ls []) := by
  have hx := C.1
  have hb := C.2.1
  unfold f_X11_key_39 at hf
  refine lv_iconst (v := (0 : Int32)) hx hb dX11_key_39 (by decide) ?_
  exact t_X11_key_40 C z_v4 isZ_0 hH (lv_sub hl [0, 1, 2] rfl) hf
set_option maxRecDepth 100000 in
set_option maxHeartbeats 4000000 in
theorem t_X11_key_19 {D : va_G} {B : Nat} {Y : Nat → ClassId} {p : Program} {l : Launch} {e : Env} {s : State} {m : MethodId} {args : Array Value} {below : List Frame} {meth : Method} {c : Code} {z : (Int32 × Wd)} {H : Heap} {locs : List Loc} {ls : Array Slot} {w : Wd} {v1 : Int32} {v2 : Int32} {v3 : Int32} {t0 : Int32} (C : CX D B Y p s m args meth c cX11_key 6 RX11 (some .int))    (z_t0 : isZ t0) (hH : HS D B Y w s H locs) (hl : lv_has ls 6 [(0, .ref (B + 713)), (1, .int v1), (2, .int v2), (3, .int v3)]) (hf : f_X11_key_19 v1 v2 v3 t0 w = some z) : W p l e (RM 6 0 0) s m args below meth c H locs 0 0 (MQ below (QG D B Y (some (.int z.1)) z.2 True) args s 0 0 (AB B)) (F0 m 19 ls [.int t0]) := by
  have hx := C.1
  have hb := C.2.1
  unfold f_X11_key_19 at hf
  refine lv_istore (lv' := [(4, .int t0), (0, .ref (B + 713)), (1, .int v1), (2, .int v2), (3, .int v3)]) hx hb dX11_key_19 hl (by decide) rfl (fun ls hl => ?_)
  refine lv_iload hx hb dX11_key_21 (lv_at hl 0 rfl) ?_
  refine b_if_eq (tgt := 39) hx hb hf dX11_key_23 (by decide) (fun hf => ?_) (fun hf => ?_)
  · exact t_X11_key_39 C z_t0 hH (lv_sub hl [1, 4, 0] rfl) hf
  · refine lv_aload_n hx hb dX11_key_26 rfl (lv_at hl 1 rfl) ?_
    refine lv_iload_n hx hb dX11_key_27 rfl (lv_at hl 2 rfl) ?_
    refine lv_iload_n hx hb dX11_key_28 rfl (lv_at hl 3 rfl) ?_
    obtain ⟨x2, w1, hc, hf⟩ := bd_some hf
    refine q_callV1 (v := .int x2) (As := [.int v1, .int v2]) C hH (ci := 11) rfl (by omega) gk_X11_276 yd_X11_keyed (by omega) (by omega) kc_713 (c_X11_keyed hc) hl.1 rfl (Nat.le_of_ble_eq_true rfl) dX11_key_29 ⟨by decide, by decide⟩ (fun H locs hH z_x2 => ?_)
    refine b_if_eq (tgt := 39) hx hb hf dX11_key_32 (by decide) (fun hf => ?_) (fun hf => ?_)
    · exact t_X11_key_39 C z_t0 hH (lv_sub hl [1, 4, 0] rfl) hf
    · refine lv_iconst (v := (1 : Int32)) hx hb dX11_key_35 (by decide) ?_
      refine lv_goto (tgt := 40) hx hb dX11_key_36 (by decide) ?_
      exact t_X11_key_40 C z_t0 isZ_1 hH (lv_sub hl [1, 4, 0] rfl) hf
set_option maxRecDepth 100000 in
set_option maxHeartbeats 4000000 in
theorem t_X11_key_18 {D : va_G} {B : Nat} {Y : Nat → ClassId} {p : Program} {l : Launch} {e : Env} {s : State} {m : MethodId} {args : Array Value} {below : List Frame} {meth : Method} {c : Code} {z : (Int32 × Wd)} {H : Heap} {locs : List Loc} {ls : Array Slot} {w : Wd} {v1 : Int32} {v2 : Int32} {v3 : Int32} (C : CX D B Y p s m args meth c cX11_key 6 RX11 (some .int))     (hH : HS D B Y w s H locs) (hl : lv_has ls 6 [(0, .ref (B + 713)), (1, .int v1), (2, .int v2), (3, .int v3)]) (hf : f_X11_key_18 v1 v2 v3 w = some z) : W p l e (RM 6 0 0) s m args below meth c H locs 0 0 (MQ below (QG D B Y (some (.int z.1)) z.2 True) args s 0 0 (AB B)) (F0 m 18 ls []) := by
  have hx := C.1
  have hb := C.2.1
  unfold f_X11_key_18 at hf
  refine lv_iconst (v := (0 : Int32)) hx hb dX11_key_18 (by decide) ?_
  exact t_X11_key_19 C isZ_0 hH (lv_sub hl [0, 1, 2, 3] rfl) hf
set_option maxRecDepth 100000 in
set_option maxHeartbeats 4000000 in
theorem t_X11_key_0 {D : va_G} {B : Nat} {Y : Nat → ClassId} {p : Program} {l : Launch} {e : Env} {s : State} {m : MethodId} {args : Array Value} {below : List Frame} {meth : Method} {c : Code} {z : (Int32 × Wd)} {H : Heap} {locs : List Loc} {ls : Array Slot} {w : Wd} {v1 : Int32} {v2 : Int32} {v3 : Int32} (C : CX D B Y p s m args meth c cX11_key 6 RX11 (some .int))     (hH : HS D B Y w s H locs) (hl : lv_has ls 6 [(0, .ref (B + 713)), (1, .int v1), (2, .int v2), (3, .int v3)]) (hf : f_X11_key v1 v2 v3 w = some z) : W p l e (RM 6 0 0) s m args below meth c H locs 0 0 (MQ below (QG D B Y (some (.int z.1)) z.2 True) args s 0 0 (AB B)) (F0 m 0 ls []) := by
  have hx := C.1
  have hb := C.2.1
  unfold f_X11_key at hf
  refine lv_iload_n hx hb dX11_key_0 rfl (lv_at hl 1 rfl) ?_
  obtain ⟨x2, w1, hc, hf⟩ := bd_some hf
  refine q_callS1 (v := .int x2) (As := [.int v1]) C hH gk_X11_131 yd_X11_isLanguage (by omega) (by omega) (c_X11_isLanguage hc) hl.1 rfl (Nat.le_of_ble_eq_true rfl) dX11_key_1 ⟨by decide, by decide⟩ (fun H locs hH z_x2 => ?_)
  refine b_if_eq (tgt := 18) hx hb hf dX11_key_4 (by decide) (fun hf => ?_) (fun hf => ?_)
  · exact t_X11_key_18 C hH (lv_sub hl [0, 1, 2, 3] rfl) hf
  · refine lv_iload_n hx hb dX11_key_7 rfl (lv_at hl 2 rfl) ?_
    obtain ⟨x4, w3, hc, hf⟩ := bd_some hf
    refine q_callS1 (v := .int x4) (As := [.int v2]) C hH gk_X11_145 yd_X11_isSlot (by omega) (by omega) (c_X11_isSlot hc) hl.1 rfl (Nat.le_of_ble_eq_true rfl) dX11_key_8 ⟨by decide, by decide⟩ (fun H locs hH z_x4 => ?_)
    refine b_if_eq (tgt := 18) hx hb hf dX11_key_11 (by decide) (fun hf => ?_) (fun hf => ?_)
    · exact t_X11_key_18 C hH (lv_sub hl [0, 1, 2, 3] rfl) hf
    · refine lv_iconst (v := (1 : Int32)) hx hb dX11_key_14 (by decide) ?_
      refine lv_goto (tgt := 19) hx hb dX11_key_15 (by decide) ?_
      exact t_X11_key_19 C isZ_1 hH (lv_sub hl [0, 1, 2, 3] rfl) hf
set_option maxRecDepth 100000 in
theorem c_X11_key {l : Launch} {D : va_G} {B : Nat} {Y : Nat → ClassId} {v1 : Int32} {v2 : Int32} {v3 : Int32} {w : Wd} {r : Int32} {w1 : Wd}   (hf : f_X11_key v1 v2 v3 w = some (r, w1)) : CM l D B Y yX11_key cX11_key 6 (some .int) 6 [.ref (B + 713), .int v1, .int v2, .int v3] w (some (.int r)) w1 True :=
  CM_of (by decide +kernel) (Nat.le_of_ble_eq_true rfl) (fun p e s m args below meth c ls C hH hl => t_X11_key_0 C  hH (lv_sub hl [0, 1, 2, 3] rfl) hf)
/-! LetterTablesModel.finds -/
set_option maxRecDepth 100000 in
set_option maxHeartbeats 4000000 in
theorem tb_X11_finds_17 {D : va_G} {B : Nat} {Y : Nat → ClassId} {p : Program} {l : Launch} {e : Env} {s : State} {m : MethodId} {args : Array Value} {below : List Frame} {meth : Method} {c : Code} {z : (Int32 × Wd)} {H : Heap} {locs : List Loc} {ls : Array Slot} {w : Wd} {v1 : Int32} {v3 : Int32} {v4 : Int32} (C : CX D B Y p s m args meth c cX11_finds 5 RX11 (some .int))  {rc_17 : Int32 × Int32 × Int32 × Wd → Option (Int32 × Wd)} (hr_17 : ∀ (v1 : Int32) (v3 : Int32) (v4 : Int32) (w : Wd), rc_17 (v1, v3, v4, w) = some z → ∀ (H : Heap) (locs : List Loc) (ls : Array Slot), HS D B Y w s H locs → lv_has ls 5 [(0, .ref (B + 713)), (1, .int v1), (3, .int v3), (4, .int v4)] → W p l e (RM 4 0 0) s m args below meth c H locs 0 0 (MQ below (QG D B Y (some (.int z.1)) z.2 True) args s 0 0 (AB B)) (F0 m 17 ls [])) {rc_2 : Int32 × Int32 × Wd → Option (Int32 × Wd)} (hr_2 : ∀ (v1 : Int32) (v3 : Int32) (w : Wd), rc_2 (v1, v3, w) = some z → ∀ (H : Heap) (locs : List Loc) (ls : Array Slot), HS D B Y w s H locs → lv_has ls 5 [(0, .ref (B + 713)), (1, .int v1), (3, .int v3)] → W p l e (RM 4 0 0) s m args below meth c H locs 0 0 (MQ below (QG D B Y (some (.int z.1)) z.2 True) args s 0 0 (AB B)) (F0 m 2 ls []))    (hH : HS D B Y w s H locs) (hl : lv_has ls 5 [(0, .ref (B + 713)), (1, .int v1), (3, .int v3), (4, .int v4)]) (hf : g_X11_finds_17 rc_17 rc_2 v1 v3 v4 w = some z) : W p l e (RM 4 0 0) s m args below meth c H locs 0 0 (MQ below (QG D B Y (some (.int z.1)) z.2 True) args s 0 0 (AB B)) (F0 m 17 ls []) := by
  have hx := C.1
  have hb := C.2.1
  unfold g_X11_finds_17 at hf
  refine lv_iload hx hb dX11_finds_17 (lv_at hl 3 rfl) ?_
  refine lv_aload_n hx hb dX11_finds_19 rfl (lv_at hl 0 rfl) ?_
  refine fg_X11_19 C hH dX11_finds_20 ?_
  refine lv_iload_n hx hb dX11_finds_23 rfl (lv_at hl 1 rfl) ?_
  refine g_iald C hH kc_717 hf dX11_finds_24 (fun x1 hf => ?_)
  refine b_icmp_gt (tgt := 80) hx hb hf dX11_finds_25 (by decide) (fun hf => ?_) (fun hf => ?_)
  · refine b_let hf (fun x2 he hf => ?_)
    refine lv_iinc (v := x2) (lv' := [(3, .int x2), (0, .ref (B + 713)), (1, .int v1), (4, .int v4)]) hx hb dX11_finds_80 hl (k := 2) rfl (by rw [← he]; rfl) (by decide) rfl (fun ls hl => ?_)
    refine lv_goto (tgt := 2) hx hb dX11_finds_83 (by decide) ?_
    exact hr_2 v1 x2 w hf _ _ _ hH (lv_sub hl [1, 2, 0] rfl)
  · refine lv_aload_n hx hb dX11_finds_28 rfl (lv_at hl 0 rfl) ?_
    refine lv_iload_n hx hb dX11_finds_29 rfl (lv_at hl 1 rfl) ?_
    refine lv_iload_n hx hb dX11_finds_30 rfl (lv_at hl 2 rfl) ?_
    obtain ⟨x4, w3, hc, hf⟩ := bd_some hf
    refine q_callV1 (v := .int x4) (As := [.int v1, .int v3]) C hH (ci := 11) rfl (by omega) gk_X11_249 yd_X11_isCluster (by omega) (by omega) kc_713 (c_X11_isCluster hc) hl.1 rfl (Nat.le_of_ble_eq_true rfl) dX11_finds_31 ⟨by decide, by decide⟩ (fun H locs hH z_x4 => ?_)
    refine b_if_eq (tgt := 80) hx hb hf dX11_finds_34 (by decide) (fun hf => ?_) (fun hf => ?_)
    · refine b_let hf (fun x5 he hf => ?_)
      refine lv_iinc (v := x5) (lv' := [(3, .int x5), (0, .ref (B + 713)), (1, .int v1), (4, .int v4)]) hx hb dX11_finds_80 hl (k := 2) rfl (by rw [← he]; rfl) (by decide) rfl (fun ls hl => ?_)
      refine lv_goto (tgt := 2) hx hb dX11_finds_83 (by decide) ?_
      exact hr_2 v1 x5 w3 hf _ _ _ hH (lv_sub hl [1, 2, 0] rfl)
    · refine lv_aload_n hx hb dX11_finds_37 rfl (lv_at hl 0 rfl) ?_
      refine lv_iload_n hx hb dX11_finds_38 rfl (lv_at hl 1 rfl) ?_
      refine lv_iload hx hb dX11_finds_39 (lv_at hl 3 rfl) ?_
      obtain ⟨x7, w6, hc, hf⟩ := bd_some hf
      refine q_callV1 (v := .int x7) (As := [.int v1, .int v4]) C hH (ci := 11) rfl (by omega) gk_X11_258 yd_X11_isEdge (by omega) (by omega) kc_713 (c_X11_isEdge hc) hl.1 rfl (Nat.le_of_ble_eq_true rfl) dX11_finds_41 ⟨by decide, by decide⟩ (fun H locs hH z_x7 => ?_)
      refine b_if_eq (tgt := 74) hx hb hf dX11_finds_44 (by decide) (fun hf => ?_) (fun hf => ?_)
      · refine b_let hf (fun x8 he hf => ?_)
        refine lv_iinc (v := x8) (lv' := [(4, .int x8), (0, .ref (B + 713)), (1, .int v1), (3, .int v3)]) hx hb dX11_finds_74 hl (k := 3) rfl (by rw [← he]; rfl) (by decide) rfl (fun ls hl => ?_)
        refine lv_goto (tgt := 17) hx hb dX11_finds_77 (by decide) ?_
        exact hr_17 v1 v3 x8 w6 hf _ _ _ hH (lv_sub hl [1, 2, 3, 0] rfl)
      · refine lv_aload_n hx hb dX11_finds_47 rfl (lv_at hl 0 rfl) ?_
        refine lv_iload_n hx hb dX11_finds_48 rfl (lv_at hl 1 rfl) ?_
        refine lv_iload_n hx hb dX11_finds_49 rfl (lv_at hl 2 rfl) ?_
        refine lv_iload hx hb dX11_finds_50 (lv_at hl 3 rfl) ?_
        obtain ⟨u, w9, hc, hf⟩ := bd_some hf
        refine q_callV0 (As := [.int v1, .int v3, .int v4]) C hH (ci := 11) rfl (by omega) gk_X11_184 yd_X11_loads (by omega) (by omega) kc_713 (c_X11_loads hc) hl.1 rfl (Nat.le_of_ble_eq_true rfl) dX11_finds_52 ⟨by decide, by decide⟩ (fun H locs hH hP => ?_)
        refine lv_aload_n hx hb dX11_finds_55 rfl (lv_at hl 0 rfl) ?_
        obtain ⟨u, w10, hc, hf⟩ := bd_some hf
        refine q_callV0 (As := []) C hH (ci := 11) rfl (by omega) gk_X11_178 yd_X11_folds (by omega) (by omega) kc_713 (c_X11_folds hc) hl.1 rfl (Nat.le_of_ble_eq_true rfl) dX11_finds_56 ⟨by decide, by decide⟩ (fun H locs hH hP => ?_)
        refine lv_aload_n hx hb dX11_finds_59 rfl (lv_at hl 0 rfl) ?_
        obtain ⟨x12, w11, hc, hf⟩ := bd_some hf
        refine q_callV1 (v := .int x12) (As := []) C hH (ci := 11) rfl (by omega) gk_X11_200 yd_X11_isAside (by omega) (by omega) kc_713 (c_X11_isAside hc) hl.1 rfl (Nat.le_of_ble_eq_true rfl) dX11_finds_60 ⟨by decide, by decide⟩ (fun H locs hH z_x12 => ?_)
        refine b_if_eq (tgt := 74) hx hb hf dX11_finds_63 (by decide) (fun hf => ?_) (fun hf => ?_)
        · refine b_let hf (fun x13 he hf => ?_)
          refine lv_iinc (v := x13) (lv' := [(4, .int x13), (0, .ref (B + 713)), (1, .int v1), (3, .int v3)]) hx hb dX11_finds_74 hl (k := 3) rfl (by rw [← he]; rfl) (by decide) rfl (fun ls hl => ?_)
          refine lv_goto (tgt := 17) hx hb dX11_finds_77 (by decide) ?_
          exact hr_17 v1 v3 x13 w11 hf _ _ _ hH (lv_sub hl [1, 2, 3, 0] rfl)
        · refine lv_bipush (v := (100 : Int32)) hx hb dX11_finds_66 (by decide) ?_
          refine lv_iload_n hx hb dX11_finds_68 rfl (lv_at hl 2 rfl) ?_
          refine lv_imul hx hb dX11_finds_69 ?_
          refine lv_iload hx hb dX11_finds_70 (lv_at hl 3 rfl) ?_
          refine lv_iadd hx hb dX11_finds_72 ?_
          cases hf
          exact q_reti C hH trivial dX11_finds_73
set_option maxRecDepth 100000 in
set_option maxHeartbeats 4000000 in
theorem t_X11_finds_17 {D : va_G} {B : Nat} {Y : Nat → ClassId} {p : Program} {l : Launch} {e : Env} {s : State} {m : MethodId} {args : Array Value} {below : List Frame} {meth : Method} {c : Code} {z : (Int32 × Wd)} {H : Heap} {locs : List Loc} {ls : Array Slot} {w : Wd} {v1 : Int32} {v3 : Int32} {v4 : Int32} (C : CX D B Y p s m args meth c cX11_finds 5 RX11 (some .int))  {rc_2 : Int32 × Int32 × Wd → Option (Int32 × Wd)} (hr_2 : ∀ (v1 : Int32) (v3 : Int32) (w : Wd), rc_2 (v1, v3, w) = some z → ∀ (H : Heap) (locs : List Loc) (ls : Array Slot), HS D B Y w s H locs → lv_has ls 5 [(0, .ref (B + 713)), (1, .int v1), (3, .int v3)] → W p l e (RM 4 0 0) s m args below meth c H locs 0 0 (MQ below (QG D B Y (some (.int z.1)) z.2 True) args s 0 0 (AB B)) (F0 m 2 ls []))    (hH : HS D B Y w s H locs) (hl : lv_has ls 5 [(0, .ref (B + 713)), (1, .int v1), (3, .int v3), (4, .int v4)]) (hf : f_X11_finds_17 rc_2 v1 v3 v4 w = some z) : W p l e (RM 4 0 0) s m args below meth c H locs 0 0 (MQ below (QG D B Y (some (.int z.1)) z.2 True) args s 0 0 (AB B)) (F0 m 17 ls []) := by
  exact loopN_ind (z := z) (body := fun rc σ => g_X11_finds_17 rc rc_2 σ.1 σ.2.1 σ.2.2.1 σ.2.2.2)
    (P := fun σ => ∀ (H : Heap) (locs : List Loc) (ls : Array Slot), HS D B Y σ.2.2.2 s H locs → lv_has ls 5 [(0, .ref (B + 713)), (1, .int σ.1), (3, .int σ.2.1), (4, .int σ.2.2.1)] → W p l e (RM 4 0 0) s m args below meth c H locs 0 0 (MQ below (QG D B Y (some (.int z.1)) z.2 True) args s 0 0 (AB B)) (F0 m 17 ls []))
    (fun rc hrec σ hf  H locs ls hH hl => tb_X11_finds_17 C (fun v1 v3 v4 w hr  H locs ls hH hl => hrec (v1, v3, v4, w) hr  H locs ls hH hl) hr_2  hH hl hf) FU (v1, v3, v4, w) hf  H locs ls hH hl
set_option maxRecDepth 100000 in
set_option maxHeartbeats 4000000 in
theorem tb_X11_finds_2 {D : va_G} {B : Nat} {Y : Nat → ClassId} {p : Program} {l : Launch} {e : Env} {s : State} {m : MethodId} {args : Array Value} {below : List Frame} {meth : Method} {c : Code} {z : (Int32 × Wd)} {H : Heap} {locs : List Loc} {ls : Array Slot} {w : Wd} {v1 : Int32} {v3 : Int32} (C : CX D B Y p s m args meth c cX11_finds 5 RX11 (some .int))  {rc_2 : Int32 × Int32 × Wd → Option (Int32 × Wd)} (hr_2 : ∀ (v1 : Int32) (v3 : Int32) (w : Wd), rc_2 (v1, v3, w) = some z → ∀ (H : Heap) (locs : List Loc) (ls : Array Slot), HS D B Y w s H locs → lv_has ls 5 [(0, .ref (B + 713)), (1, .int v1), (3, .int v3)] → W p l e (RM 4 0 0) s m args below meth c H locs 0 0 (MQ below (QG D B Y (some (.int z.1)) z.2 True) args s 0 0 (AB B)) (F0 m 2 ls []))    (hH : HS D B Y w s H locs) (hl : lv_has ls 5 [(0, .ref (B + 713)), (1, .int v1), (3, .int v3)]) (hf : g_X11_finds_2 rc_2 v1 v3 w = some z) : W p l e (RM 4 0 0) s m args below meth c H locs 0 0 (MQ below (QG D B Y (some (.int z.1)) z.2 True) args s 0 0 (AB B)) (F0 m 2 ls []) := by
  have hx := C.1
  have hb := C.2.1
  unfold g_X11_finds_2 at hf
  refine lv_iload_n hx hb dX11_finds_2 rfl (lv_at hl 2 rfl) ?_
  refine lv_aload_n hx hb dX11_finds_3 rfl (lv_at hl 0 rfl) ?_
  refine fg_X11_19 C hH dX11_finds_4 ?_
  refine lv_iload_n hx hb dX11_finds_7 rfl (lv_at hl 1 rfl) ?_
  refine g_iald C hH kc_717 hf dX11_finds_8 (fun x1 hf => ?_)
  refine b_icmp_ge (tgt := 86) hx hb hf dX11_finds_9 (by decide) (fun hf => ?_) (fun hf => ?_)
  · refine lv_iconst (v := (-1 : Int32)) hx hb dX11_finds_86 (by decide) ?_
    cases hf
    exact q_reti C hH trivial dX11_finds_87
  · refine lv_iload_n hx hb dX11_finds_12 rfl (lv_at hl 2 rfl) ?_
    refine lv_iconst (v := (1 : Int32)) hx hb dX11_finds_13 (by decide) ?_
    refine lv_iadd hx hb dX11_finds_14 ?_
    refine b_leti hf (fun x2 hf => ?_)
    refine lv_istore (lv' := [(4, .int x2), (0, .ref (B + 713)), (1, .int v1), (3, .int v3)]) hx hb dX11_finds_15 hl (by decide) rfl (fun ls hl => ?_)
    exact t_X11_finds_17 C hr_2 hH (lv_sub hl [1, 2, 3, 0] rfl) hf
set_option maxRecDepth 100000 in
set_option maxHeartbeats 4000000 in
theorem t_X11_finds_2 {D : va_G} {B : Nat} {Y : Nat → ClassId} {p : Program} {l : Launch} {e : Env} {s : State} {m : MethodId} {args : Array Value} {below : List Frame} {meth : Method} {c : Code} {z : (Int32 × Wd)} {H : Heap} {locs : List Loc} {ls : Array Slot} {w : Wd} {v1 : Int32} {v3 : Int32} (C : CX D B Y p s m args meth c cX11_finds 5 RX11 (some .int))     (hH : HS D B Y w s H locs) (hl : lv_has ls 5 [(0, .ref (B + 713)), (1, .int v1), (3, .int v3)]) (hf : f_X11_finds_2 v1 v3 w = some z) : W p l e (RM 4 0 0) s m args below meth c H locs 0 0 (MQ below (QG D B Y (some (.int z.1)) z.2 True) args s 0 0 (AB B)) (F0 m 2 ls []) := by
  exact loopN_ind (z := z) (body := fun rc σ => g_X11_finds_2 rc  σ.1 σ.2.1 σ.2.2)
    (P := fun σ => ∀ (H : Heap) (locs : List Loc) (ls : Array Slot), HS D B Y σ.2.2 s H locs → lv_has ls 5 [(0, .ref (B + 713)), (1, .int σ.1), (3, .int σ.2.1)] → W p l e (RM 4 0 0) s m args below meth c H locs 0 0 (MQ below (QG D B Y (some (.int z.1)) z.2 True) args s 0 0 (AB B)) (F0 m 2 ls []))
    (fun rc hrec σ hf  H locs ls hH hl => tb_X11_finds_2 C (fun v1 v3 w hr  H locs ls hH hl => hrec (v1, v3, w) hr  H locs ls hH hl)   hH hl hf) FU (v1, v3, w) hf  H locs ls hH hl
set_option maxRecDepth 100000 in
set_option maxHeartbeats 4000000 in
theorem t_X11_finds_0 {D : va_G} {B : Nat} {Y : Nat → ClassId} {p : Program} {l : Launch} {e : Env} {s : State} {m : MethodId} {args : Array Value} {below : List Frame} {meth : Method} {c : Code} {z : (Int32 × Wd)} {H : Heap} {locs : List Loc} {ls : Array Slot} {w : Wd} {v1 : Int32} {v2 : Int32} (C : CX D B Y p s m args meth c cX11_finds 5 RX11 (some .int))     (hH : HS D B Y w s H locs) (hl : lv_has ls 5 [(0, .ref (B + 713)), (1, .int v1), (2, .int v2)]) (hf : f_X11_finds v1 v2 w = some z) : W p l e (RM 4 0 0) s m args below meth c H locs 0 0 (MQ below (QG D B Y (some (.int z.1)) z.2 True) args s 0 0 (AB B)) (F0 m 0 ls []) := by
  have hx := C.1
  have hb := C.2.1
  unfold f_X11_finds at hf
  refine lv_iload_n hx hb dX11_finds_0 rfl (lv_at hl 2 rfl) ?_
  refine lv_istore_n (lv' := [(3, .int v2), (0, .ref (B + 713)), (1, .int v1), (2, .int v2)]) hx hb dX11_finds_1 rfl hl (by decide) rfl (fun ls hl => ?_)
  exact t_X11_finds_2 C hH (lv_sub hl [1, 2, 0] rfl) hf
set_option maxRecDepth 100000 in
theorem c_X11_finds {l : Launch} {D : va_G} {B : Nat} {Y : Nat → ClassId} {v1 : Int32} {v2 : Int32} {w : Wd} {r : Int32} {w1 : Wd}   (hf : f_X11_finds v1 v2 w = some (r, w1)) : CM l D B Y yX11_finds cX11_finds 5 (some .int) 4 [.ref (B + 713), .int v1, .int v2] w (some (.int r)) w1 True :=
  CM_of (by decide +kernel) (Nat.le_of_ble_eq_true rfl) (fun p e s m args below meth c ls C hH hl => t_X11_finds_0 C  hH (lv_sub hl [0, 1, 2] rfl) hf)
/-! LetterTablesModel.find -/
set_option maxRecDepth 100000 in
set_option maxHeartbeats 4000000 in
theorem t_X11_find_102 {D : va_G} {B : Nat} {Y : Nat → ClassId} {p : Program} {l : Launch} {e : Env} {s : State} {m : MethodId} {args : Array Value} {below : List Frame} {meth : Method} {c : Code} {z : (Int32 × Wd)} {H : Heap} {locs : List Loc} {ls : Array Slot} {w : Wd} {v1 : Int32} {v3 : Int32} {t1 : Int32} (C : CX D B Y p s m args meth c cX11_find 7 RX11 (some .int))     (hH : HS D B Y w s H locs) (hl : lv_has ls 7 [(0, .ref (B + 713)), (1, .int v1), (3, .int v3)]) (hf : f_X11_find_102 v1 v3 t1 w = some z) : W p l e (RM 5 0 0) s m args below meth c H locs 0 0 (MQ below (QG D B Y (some (.int z.1)) z.2 True) args s 0 0 (AB B)) (F0 m 102 ls [.int t1, .ref (B + 713)]) := by
  have hx := C.1
  have hb := C.2.1
  unfold f_X11_find_102 at hf
  obtain ⟨x2, w1, hc, hf⟩ := bd_some hf
  refine q_callV1 (v := .int x2) (As := [.int t1]) C hH (ci := 11) rfl (by omega) gk_X11_118 yd_X11_holds (by omega) (by omega) kc_713 (c_X11_holds hc) hl.1 rfl (Nat.le_of_ble_eq_true rfl) dX11_find_102 ⟨by decide, by decide⟩ (fun H locs hH z_x2 => ?_)
  refine b_if_ne (tgt := 110) hx hb hf dX11_find_105 (by decide) (fun hf => ?_) (fun hf => ?_)
  · refine lv_aload_n hx hb dX11_find_110 rfl (lv_at hl 0 rfl) ?_
    obtain ⟨u, w3, hc, hf⟩ := bd_some hf
    refine q_callV0 (As := []) C hH (ci := 11) rfl (by omega) gk_X11_197 yd_X11_putsAside (by omega) (by omega) kc_713 (c_X11_putsAside hc) hl.1 rfl (Nat.le_of_ble_eq_true rfl) dX11_find_111 ⟨by decide, by decide⟩ (fun H locs hH hP => ?_)
    refine lv_aload_n hx hb dX11_find_114 rfl (lv_at hl 0 rfl) ?_
    refine fg_X11_194 C hH dX11_find_115 ?_
    refine b_if_ne (tgt := 125) hx hb hf dX11_find_118 (by decide) (fun hf => ?_) (fun hf => ?_)
    · refine lv_aload_n hx hb dX11_find_125 rfl (lv_at hl 0 rfl) ?_
      refine lv_iload_n hx hb dX11_find_126 rfl (lv_at hl 1 rfl) ?_
      refine lv_iload_n hx hb dX11_find_127 rfl (lv_at hl 2 rfl) ?_
      obtain ⟨x5, w4, hc, hf⟩ := bd_some hf
      refine q_callV1 (v := .int x5) (As := [.int v1, .int v3]) C hH (ci := 11) rfl (by omega) gk_X11_282 yd_X11_finds (by omega) (by omega) kc_713 (c_X11_finds hc) hl.1 rfl (Nat.le_of_ble_eq_true rfl) dX11_find_128 ⟨by decide, by decide⟩ (fun H locs hH hP => ?_)
      cases hf
      exact q_reti C hH trivial dX11_find_131
    · refine lv_iconst (v := (-1 : Int32)) hx hb dX11_find_121 (by decide) ?_
      refine lv_goto (tgt := 131) hx hb dX11_find_122 (by decide) ?_
      cases hf
      exact q_reti C hH trivial dX11_find_131
  · refine lv_iconst (v := (0 : Int32)) hx hb dX11_find_108 (by decide) ?_
    cases hf
    exact q_reti C hH trivial dX11_find_109
set_option maxRecDepth 100000 in
set_option maxHeartbeats 4000000 in
theorem t_X11_find_71 {D : va_G} {B : Nat} {Y : Nat → ClassId} {p : Program} {l : Launch} {e : Env} {s : State} {m : MethodId} {args : Array Value} {below : List Frame} {meth : Method} {c : Code} {z : (Int32 × Wd)} {H : Heap} {locs : List Loc} {ls : Array Slot} {w : Wd} {v1 : Int32} {v3 : Int32} {v4 : Int32} {v5 : Int32} {t0 : Int32} (C : CX D B Y p s m args meth c cX11_find 7 RX11 (some .int))    (z_v4 : isZ v4) (z_v5 : isZ v5) (z_t0 : isZ t0) (hH : HS D B Y w s H locs) (hl : lv_has ls 7 [(0, .ref (B + 713)), (1, .int v1), (3, .int v3), (4, .int v4), (5, .int v5)]) (hf : f_X11_find_71 v1 v3 v4 v5 t0 w = some z) : W p l e (RM 5 0 0) s m args below meth c H locs 0 0 (MQ below (QG D B Y (some (.int z.1)) z.2 True) args s 0 0 (AB B)) (F0 m 71 ls [.int t0]) := by
  have hx := C.1
  have hb := C.2.1
  unfold f_X11_find_71 at hf
  refine lv_istore (lv' := [(6, .int t0), (0, .ref (B + 713)), (1, .int v1), (3, .int v3), (4, .int v4), (5, .int v5)]) hx hb dX11_find_71 hl (by decide) rfl (fun ls hl => ?_)
  refine lv_aload_n hx hb dX11_find_73 rfl (lv_at hl 1 rfl) ?_
  refine lv_iload hx hb dX11_find_74 (lv_at hl 4 rfl) ?_
  refine b_if_ne (tgt := 83) hx hb hf dX11_find_76 (by decide) (fun hf => ?_) (fun hf => ?_)
  · refine lv_iload hx hb dX11_find_83 (lv_at hl 5 rfl) ?_
    refine b_if_ne (tgt := 92) hx hb hf dX11_find_85 (by decide) (fun hf => ?_) (fun hf => ?_)
    · refine lv_iload hx hb dX11_find_92 (lv_at hl 0 rfl) ?_
      refine b_if_eq (tgt := 101) hx hb hf dX11_find_94 (by decide) (fun hf => ?_) (fun hf => ?_)
      · refine lv_iconst (v := (3 : Int32)) hx hb dX11_find_101 (by decide) ?_
        exact t_X11_find_102 C hH (lv_sub hl [1, 2, 3] rfl) hf
      · refine lv_iconst (v := (0 : Int32)) hx hb dX11_find_97 (by decide) ?_
        refine lv_goto (tgt := 102) hx hb dX11_find_98 (by decide) ?_
        exact t_X11_find_102 C hH (lv_sub hl [1, 2, 3] rfl) hf
    · refine lv_iconst (v := (2 : Int32)) hx hb dX11_find_88 (by decide) ?_
      refine lv_goto (tgt := 102) hx hb dX11_find_89 (by decide) ?_
      exact t_X11_find_102 C hH (lv_sub hl [1, 2, 3] rfl) hf
  · refine lv_iconst (v := (1 : Int32)) hx hb dX11_find_79 (by decide) ?_
    refine lv_goto (tgt := 102) hx hb dX11_find_80 (by decide) ?_
    exact t_X11_find_102 C hH (lv_sub hl [1, 2, 3] rfl) hf
set_option maxRecDepth 100000 in
set_option maxHeartbeats 4000000 in
theorem t_X11_find_70 {D : va_G} {B : Nat} {Y : Nat → ClassId} {p : Program} {l : Launch} {e : Env} {s : State} {m : MethodId} {args : Array Value} {below : List Frame} {meth : Method} {c : Code} {z : (Int32 × Wd)} {H : Heap} {locs : List Loc} {ls : Array Slot} {w : Wd} {v1 : Int32} {v3 : Int32} {v4 : Int32} {v5 : Int32} (C : CX D B Y p s m args meth c cX11_find 7 RX11 (some .int))    (z_v4 : isZ v4) (z_v5 : isZ v5) (hH : HS D B Y w s H locs) (hl : lv_has ls 7 [(0, .ref (B + 713)), (1, .int v1), (3, .int v3), (4, .int v4), (5, .int v5)]) (hf : f_X11_find_70 v1 v3 v4 v5 w = some z) : W p l e (RM 5 0 0) s m args below meth c H locs 0 0 (MQ below (QG D B Y (some (.int z.1)) z.2 True) args s 0 0 (AB B)) (F0 m 70 ls []) := by
  have hx := C.1
  have hb := C.2.1
  unfold f_X11_find_70 at hf
  refine lv_iconst (v := (0 : Int32)) hx hb dX11_find_70 (by decide) ?_
  exact t_X11_find_71 C z_v4 z_v5 isZ_0 hH (lv_sub hl [0, 1, 2, 3, 4] rfl) hf
set_option maxRecDepth 100000 in
set_option maxHeartbeats 4000000 in
theorem t_X11_find_41 {D : va_G} {B : Nat} {Y : Nat → ClassId} {p : Program} {l : Launch} {e : Env} {s : State} {m : MethodId} {args : Array Value} {below : List Frame} {meth : Method} {c : Code} {z : (Int32 × Wd)} {H : Heap} {locs : List Loc} {ls : Array Slot} {w : Wd} {v1 : Int32} {v2 : Int32} {v3 : Int32} {v4 : Int32} {t0 : Int32} (C : CX D B Y p s m args meth c cX11_find 7 RX11 (some .int))    (z_v4 : isZ v4) (z_t0 : isZ t0) (hH : HS D B Y w s H locs) (hl : lv_has ls 7 [(0, .ref (B + 713)), (1, .int v1), (2, .int v2), (3, .int v3), (4, .int v4)]) (hf : f_X11_find_41 v1 v2 v3 v4 t0 w = some z) : W p l e (RM 5 0 0) s m args below meth c H locs 0 0 (MQ below (QG D B Y (some (.int z.1)) z.2 True) args s 0 0 (AB B)) (F0 m 41 ls [.int t0]) := by
  have hx := C.1
  have hb := C.2.1
  unfold f_X11_find_41 at hf
  refine lv_istore (lv' := [(5, .int t0), (0, .ref (B + 713)), (1, .int v1), (2, .int v2), (3, .int v3), (4, .int v4)]) hx hb dX11_find_41 hl (by decide) rfl (fun ls hl => ?_)
  refine lv_iload hx hb dX11_find_43 (lv_at hl 0 rfl) ?_
  refine b_if_eq (tgt := 70) hx hb hf dX11_find_45 (by decide) (fun hf => ?_) (fun hf => ?_)
  · exact t_X11_find_70 C z_v4 z_t0 hH (lv_sub hl [1, 2, 4, 5, 0] rfl) hf
  · refine lv_aload_n hx hb dX11_find_48 rfl (lv_at hl 1 rfl) ?_
    refine lv_iload_n hx hb dX11_find_49 rfl (lv_at hl 2 rfl) ?_
    refine lv_iconst (v := (2 : Int32)) hx hb dX11_find_50 (by decide) ?_
    obtain ⟨x2, w1, hc, hf⟩ := bd_some hf
    refine q_callV1 (v := .int x2) (As := [.int v1, .int (2 : Int32)]) C hH (ci := 11) rfl (by omega) gk_X11_190 yd_X11_formed (by omega) (by omega) kc_713 (c_X11_formed hc) hl.1 rfl (Nat.le_of_ble_eq_true rfl) dX11_find_51 ⟨by decide, by decide⟩ (fun H locs hH z_x2 => ?_)
    refine b_if_eq (tgt := 70) hx hb hf dX11_find_54 (by decide) (fun hf => ?_) (fun hf => ?_)
    · exact t_X11_find_70 C z_v4 z_t0 hH (lv_sub hl [1, 2, 4, 5, 0] rfl) hf
    · refine lv_aload_n hx hb dX11_find_57 rfl (lv_at hl 1 rfl) ?_
      refine lv_iload_n hx hb dX11_find_58 rfl (lv_at hl 3 rfl) ?_
      refine lv_iconst (v := (2 : Int32)) hx hb dX11_find_59 (by decide) ?_
      obtain ⟨x4, w3, hc, hf⟩ := bd_some hf
      refine q_callV1 (v := .int x4) (As := [.int v2, .int (2 : Int32)]) C hH (ci := 11) rfl (by omega) gk_X11_190 yd_X11_formed (by omega) (by omega) kc_713 (c_X11_formed hc) hl.1 rfl (Nat.le_of_ble_eq_true rfl) dX11_find_60 ⟨by decide, by decide⟩ (fun H locs hH z_x4 => ?_)
      refine b_if_eq (tgt := 70) hx hb hf dX11_find_63 (by decide) (fun hf => ?_) (fun hf => ?_)
      · exact t_X11_find_70 C z_v4 z_t0 hH (lv_sub hl [1, 2, 4, 5, 0] rfl) hf
      · refine lv_iconst (v := (1 : Int32)) hx hb dX11_find_66 (by decide) ?_
        refine lv_goto (tgt := 71) hx hb dX11_find_67 (by decide) ?_
        exact t_X11_find_71 C z_v4 z_t0 isZ_1 hH (lv_sub hl [1, 2, 4, 5, 0] rfl) hf
set_option maxRecDepth 100000 in
set_option maxHeartbeats 4000000 in
theorem t_X11_find_40 {D : va_G} {B : Nat} {Y : Nat → ClassId} {p : Program} {l : Launch} {e : Env} {s : State} {m : MethodId} {args : Array Value} {below : List Frame} {meth : Method} {c : Code} {z : (Int32 × Wd)} {H : Heap} {locs : List Loc} {ls : Array Slot} {w : Wd} {v1 : Int32} {v2 : Int32} {v3 : Int32} {v4 : Int32} (C : CX D B Y p s m args meth c cX11_find 7 RX11 (some .int))    (z_v4 : isZ v4) (hH : HS D B Y w s H locs) (hl : lv_has ls 7 [(0, .ref (B + 713)), (1, .int v1), (2, .int v2), (3, .int v3), (4, .int v4)]) (hf : f_X11_find_40 v1 v2 v3 v4 w = some z) : W p l e (RM 5 0 0) s m args below meth c H locs 0 0 (MQ below (QG D B Y (some (.int z.1)) z.2 True) args s 0 0 (AB B)) (F0 m 40 ls []) := by
  have hx := C.1
  have hb := C.2.1
  unfold f_X11_find_40 at hf
  refine lv_iconst (v := (0 : Int32)) hx hb dX11_find_40 (by decide) ?_
  exact t_X11_find_41 C z_v4 isZ_0 hH (lv_sub hl [0, 1, 2, 3, 4] rfl) hf
set_option maxRecDepth 100000 in
set_option maxHeartbeats 4000000 in
theorem t_X11_find_19 {D : va_G} {B : Nat} {Y : Nat → ClassId} {p : Program} {l : Launch} {e : Env} {s : State} {m : MethodId} {args : Array Value} {below : List Frame} {meth : Method} {c : Code} {z : (Int32 × Wd)} {H : Heap} {locs : List Loc} {ls : Array Slot} {w : Wd} {v1 : Int32} {v2 : Int32} {v3 : Int32} {t0 : Int32} (C : CX D B Y p s m args meth c cX11_find 7 RX11 (some .int))    (z_t0 : isZ t0) (hH : HS D B Y w s H locs) (hl : lv_has ls 7 [(0, .ref (B + 713)), (1, .int v1), (2, .int v2), (3, .int v3)]) (hf : f_X11_find_19 v1 v2 v3 t0 w = some z) : W p l e (RM 5 0 0) s m args below meth c H locs 0 0 (MQ below (QG D B Y (some (.int z.1)) z.2 True) args s 0 0 (AB B)) (F0 m 19 ls [.int t0]) := by
  have hx := C.1
  have hb := C.2.1
  unfold f_X11_find_19 at hf
  refine lv_istore (lv' := [(4, .int t0), (0, .ref (B + 713)), (1, .int v1), (2, .int v2), (3, .int v3)]) hx hb dX11_find_19 hl (by decide) rfl (fun ls hl => ?_)
  refine lv_iload hx hb dX11_find_21 (lv_at hl 0 rfl) ?_
  refine b_if_eq (tgt := 40) hx hb hf dX11_find_23 (by decide) (fun hf => ?_) (fun hf => ?_)
  · exact t_X11_find_40 C z_t0 hH (lv_sub hl [1, 2, 3, 4, 0] rfl) hf
  · refine lv_iload_n hx hb dX11_find_26 rfl (lv_at hl 4 rfl) ?_
    refine lv_iconst (v := (0 : Int32)) hx hb dX11_find_27 (by decide) ?_
    refine lv_bipush (v := (40 : Int32)) hx hb dX11_find_28 (by decide) ?_
    obtain ⟨x2, w1, hc, hf⟩ := bd_some hf
    refine q_callS1 (v := .int x2) (As := [.int v3, .int (0 : Int32), .int (40 : Int32)]) C hH gk_X11_111 yd_X11_in (by omega) (by omega) (c_X11_in hc) hl.1 rfl (Nat.le_of_ble_eq_true rfl) dX11_find_30 ⟨by decide, by decide⟩ (fun H locs hH z_x2 => ?_)
    refine b_if_eq (tgt := 40) hx hb hf dX11_find_33 (by decide) (fun hf => ?_) (fun hf => ?_)
    · exact t_X11_find_40 C z_t0 hH (lv_sub hl [1, 2, 3, 4, 0] rfl) hf
    · refine lv_iconst (v := (1 : Int32)) hx hb dX11_find_36 (by decide) ?_
      refine lv_goto (tgt := 41) hx hb dX11_find_37 (by decide) ?_
      exact t_X11_find_41 C z_t0 isZ_1 hH (lv_sub hl [1, 2, 3, 4, 0] rfl) hf
set_option maxRecDepth 100000 in
set_option maxHeartbeats 4000000 in
theorem t_X11_find_18 {D : va_G} {B : Nat} {Y : Nat → ClassId} {p : Program} {l : Launch} {e : Env} {s : State} {m : MethodId} {args : Array Value} {below : List Frame} {meth : Method} {c : Code} {z : (Int32 × Wd)} {H : Heap} {locs : List Loc} {ls : Array Slot} {w : Wd} {v1 : Int32} {v2 : Int32} {v3 : Int32} (C : CX D B Y p s m args meth c cX11_find 7 RX11 (some .int))     (hH : HS D B Y w s H locs) (hl : lv_has ls 7 [(0, .ref (B + 713)), (1, .int v1), (2, .int v2), (3, .int v3)]) (hf : f_X11_find_18 v1 v2 v3 w = some z) : W p l e (RM 5 0 0) s m args below meth c H locs 0 0 (MQ below (QG D B Y (some (.int z.1)) z.2 True) args s 0 0 (AB B)) (F0 m 18 ls []) := by
  have hx := C.1
  have hb := C.2.1
  unfold f_X11_find_18 at hf
  refine lv_iconst (v := (0 : Int32)) hx hb dX11_find_18 (by decide) ?_
  exact t_X11_find_19 C isZ_0 hH (lv_sub hl [0, 1, 2, 3] rfl) hf
set_option maxRecDepth 100000 in
set_option maxHeartbeats 4000000 in
theorem t_X11_find_0 {D : va_G} {B : Nat} {Y : Nat → ClassId} {p : Program} {l : Launch} {e : Env} {s : State} {m : MethodId} {args : Array Value} {below : List Frame} {meth : Method} {c : Code} {z : (Int32 × Wd)} {H : Heap} {locs : List Loc} {ls : Array Slot} {w : Wd} {v1 : Int32} {v2 : Int32} {v3 : Int32} (C : CX D B Y p s m args meth c cX11_find 7 RX11 (some .int))     (hH : HS D B Y w s H locs) (hl : lv_has ls 7 [(0, .ref (B + 713)), (1, .int v1), (2, .int v2), (3, .int v3)]) (hf : f_X11_find v1 v2 v3 w = some z) : W p l e (RM 5 0 0) s m args below meth c H locs 0 0 (MQ below (QG D B Y (some (.int z.1)) z.2 True) args s 0 0 (AB B)) (F0 m 0 ls []) := by
  have hx := C.1
  have hb := C.2.1
  unfold f_X11_find at hf
  refine lv_iload_n hx hb dX11_find_0 rfl (lv_at hl 1 rfl) ?_
  obtain ⟨x2, w1, hc, hf⟩ := bd_some hf
  refine q_callS1 (v := .int x2) (As := [.int v1]) C hH gk_X11_145 yd_X11_isSlot (by omega) (by omega) (c_X11_isSlot hc) hl.1 rfl (Nat.le_of_ble_eq_true rfl) dX11_find_1 ⟨by decide, by decide⟩ (fun H locs hH z_x2 => ?_)
  refine b_if_eq (tgt := 18) hx hb hf dX11_find_4 (by decide) (fun hf => ?_) (fun hf => ?_)
  · exact t_X11_find_18 C hH (lv_sub hl [0, 1, 2, 3] rfl) hf
  · refine lv_iload_n hx hb dX11_find_7 rfl (lv_at hl 2 rfl) ?_
    obtain ⟨x4, w3, hc, hf⟩ := bd_some hf
    refine q_callS1 (v := .int x4) (As := [.int v2]) C hH gk_X11_145 yd_X11_isSlot (by omega) (by omega) (c_X11_isSlot hc) hl.1 rfl (Nat.le_of_ble_eq_true rfl) dX11_find_8 ⟨by decide, by decide⟩ (fun H locs hH z_x4 => ?_)
    refine b_if_eq (tgt := 18) hx hb hf dX11_find_11 (by decide) (fun hf => ?_) (fun hf => ?_)
    · exact t_X11_find_18 C hH (lv_sub hl [0, 1, 2, 3] rfl) hf
    · refine lv_iconst (v := (1 : Int32)) hx hb dX11_find_14 (by decide) ?_
      refine lv_goto (tgt := 19) hx hb dX11_find_15 (by decide) ?_
      exact t_X11_find_19 C isZ_1 hH (lv_sub hl [0, 1, 2, 3] rfl) hf
set_option maxRecDepth 100000 in
theorem c_X11_find {l : Launch} {D : va_G} {B : Nat} {Y : Nat → ClassId} {v1 : Int32} {v2 : Int32} {v3 : Int32} {w : Wd} {r : Int32} {w1 : Wd}   (hf : f_X11_find v1 v2 v3 w = some (r, w1)) : CM l D B Y yX11_find cX11_find 7 (some .int) 5 [.ref (B + 713), .int v1, .int v2, .int v3] w (some (.int r)) w1 True :=
  CM_of (by decide +kernel) (Nat.le_of_ble_eq_true rfl) (fun p e s m args below meth c ls C hH hl => t_X11_find_0 C  hH (lv_sub hl [0, 1, 2, 3] rfl) hf)
/-! LetterTablesModel.taping -/
set_option maxRecDepth 100000 in
set_option maxHeartbeats 4000000 in
theorem t_X11_taping_0 {D : va_G} {B : Nat} {Y : Nat → ClassId} {p : Program} {l : Launch} {e : Env} {s : State} {m : MethodId} {args : Array Value} {below : List Frame} {meth : Method} {c : Code} {z : (Int32 × Wd)} {H : Heap} {locs : List Loc} {ls : Array Slot} {w : Wd}  (C : CX D B Y p s m args meth c cX11_taping 1 RX11 (some .int))     (hH : HS D B Y w s H locs) (hl : lv_has ls 1 [(0, .ref (B + 713))]) (hf : f_X11_taping w = some z) : W p l e (RM 0 0 0) s m args below meth c H locs 0 0 (MQ below (QG D B Y (some (.int z.1)) z.2 True) args s 0 0 (AB B)) (F0 m 0 ls []) := by
  have hx := C.1
  have hb := C.2.1
  unfold f_X11_taping at hf
  refine lv_aload_n hx hb dX11_taping_0 rfl (lv_at hl 0 rfl) ?_
  refine fg_X11_285 C hH dX11_taping_1 ?_
  refine lv_aload_n hx hb dX11_taping_4 rfl (lv_at hl 0 rfl) ?_
  refine fg_X11_115 C hH dX11_taping_5 ?_
  refine b_icmp_ge (tgt := 23) hx hb hf dX11_taping_8 (by decide) (fun hf => ?_) (fun hf => ?_)
  · refine lv_iconst (v := (-1 : Int32)) hx hb dX11_taping_23 (by decide) ?_
    cases hf
    exact q_reti C hH trivial dX11_taping_24
  · refine lv_aload_n hx hb dX11_taping_11 rfl (lv_at hl 0 rfl) ?_
    refine fg_X11_22 C hH dX11_taping_12 ?_
    refine lv_aload_n hx hb dX11_taping_15 rfl (lv_at hl 0 rfl) ?_
    refine fg_X11_285 C hH dX11_taping_16 ?_
    refine g_iald C hH kc_718 hf dX11_taping_19 (fun x1 hf => ?_)
    refine lv_goto (tgt := 24) hx hb dX11_taping_20 (by decide) ?_
    cases hf
    exact q_reti C hH trivial dX11_taping_24
set_option maxRecDepth 100000 in
theorem c_X11_taping {l : Launch} {D : va_G} {B : Nat} {Y : Nat → ClassId}  {w : Wd} {r : Int32} {w1 : Wd}   (hf : f_X11_taping w = some (r, w1)) : CM l D B Y yX11_taping cX11_taping 1 (some .int) 0 [.ref (B + 713)] w (some (.int r)) w1 True :=
  CM_of (by decide +kernel) (Nat.le_of_ble_eq_true rfl) (fun p e s m args below meth c ls C hH hl => t_X11_taping_0 C  hH (lv_sub hl [0] rfl) hf)
/-! LetterTablesModel.readsSet -/
set_option maxRecDepth 100000 in
set_option maxHeartbeats 4000000 in
theorem t_X11_readsSet_221 {D : va_G} {B : Nat} {Y : Nat → ClassId} {p : Program} {l : Launch} {e : Env} {s : State} {m : MethodId} {args : Array Value} {below : List Frame} {meth : Method} {c : Code} {z : (Int32 × Wd)} {H : Heap} {locs : List Loc} {ls : Array Slot} {w : Wd} {v1 : Int32} {v3 : Int32} (C : CX D B Y p s m args meth c cX11_readsSet 7 RX11 (some .int))    (z_v1 : isZ v1) (hH : HS D B Y w s H locs) (hl : lv_has ls 7 [(1, .int v1), (3, .int v3)]) (hf : f_X11_readsSet_221 v1 v3 w = some z) : W p l e (RM 2 0 0) s m args below meth c H locs 0 0 (MQ below (QG D B Y (some (.int z.1)) z.2 True) args s 0 0 (AB B)) (F0 m 221 ls []) := by
  have hx := C.1
  have hb := C.2.1
  unfold f_X11_readsSet_221 at hf
  refine lv_iload_n hx hb dX11_readsSet_221 rfl (lv_at hl 1 rfl) ?_
  refine lv_sipush (v := (-1000 : Int32)) hx hb dX11_readsSet_222 (by decide) ?_
  refine b_icmp_ne (tgt := 232) hx hb hf dX11_readsSet_225 (by decide) (fun hf => ?_) (fun hf => ?_)
  · refine lv_iload_n hx hb dX11_readsSet_232 rfl (lv_at hl 0 rfl) ?_
    refine b_if_eq (tgt := 242) hx hb hf dX11_readsSet_233 (by decide) (fun hf => ?_) (fun hf => ?_)
    · refine lv_iload_n hx hb dX11_readsSet_242 rfl (lv_at hl 1 rfl) ?_
      cases hf
      exact q_reti C hH trivial dX11_readsSet_243
    · refine lv_iconst (v := (-1 : Int32)) hx hb dX11_readsSet_236 (by decide) ?_
      refine lv_iload_n hx hb dX11_readsSet_237 rfl (lv_at hl 1 rfl) ?_
      refine lv_isub hx hb dX11_readsSet_238 ?_
      refine lv_goto (tgt := 243) hx hb dX11_readsSet_239 (by decide) ?_
      obtain rfl := Option.some.inj hf
      exact q_reti C hH trivial dX11_readsSet_243
  · refine lv_iload_n hx hb dX11_readsSet_228 rfl (lv_at hl 1 rfl) ?_
    refine lv_goto (tgt := 243) hx hb dX11_readsSet_229 (by decide) ?_
    cases hf
    exact q_reti C hH trivial dX11_readsSet_243
set_option maxRecDepth 100000 in
set_option maxHeartbeats 4000000 in
theorem t_X11_readsSet_220 {D : va_G} {B : Nat} {Y : Nat → ClassId} {p : Program} {l : Launch} {e : Env} {s : State} {m : MethodId} {args : Array Value} {below : List Frame} {meth : Method} {c : Code} {z : (Int32 × Wd)} {H : Heap} {locs : List Loc} {ls : Array Slot} {w : Wd} {v1 : Int32} {t0 : Int32} (C : CX D B Y p s m args meth c cX11_readsSet 7 RX11 (some .int))    (z_v1 : isZ v1) (hH : HS D B Y w s H locs) (hl : lv_has ls 7 [(1, .int v1)]) (hf : f_X11_readsSet_220 v1 t0 w = some z) : W p l e (RM 2 0 0) s m args below meth c H locs 0 0 (MQ below (QG D B Y (some (.int z.1)) z.2 True) args s 0 0 (AB B)) (F0 m 220 ls [.int t0]) := by
  have hx := C.1
  have hb := C.2.1
  unfold f_X11_readsSet_220 at hf
  refine lv_istore_n (lv' := [(3, .int t0), (1, .int v1)]) hx hb dX11_readsSet_220 rfl hl (by decide) rfl (fun ls hl => ?_)
  exact t_X11_readsSet_221 C z_v1 hH (lv_sub hl [1, 0] rfl) hf
set_option maxRecDepth 100000 in
set_option maxHeartbeats 4000000 in
theorem t_X11_readsSet_217 {D : va_G} {B : Nat} {Y : Nat → ClassId} {p : Program} {l : Launch} {e : Env} {s : State} {m : MethodId} {args : Array Value} {below : List Frame} {meth : Method} {c : Code} {z : (Int32 × Wd)} {H : Heap} {locs : List Loc} {ls : Array Slot} {w : Wd} {v1 : Int32} (C : CX D B Y p s m args meth c cX11_readsSet 7 RX11 (some .int))    (z_v1 : isZ v1) (hH : HS D B Y w s H locs) (hl : lv_has ls 7 [(1, .int v1)]) (hf : f_X11_readsSet_217 v1 w = some z) : W p l e (RM 2 0 0) s m args below meth c H locs 0 0 (MQ below (QG D B Y (some (.int z.1)) z.2 True) args s 0 0 (AB B)) (F0 m 217 ls []) := by
  have hx := C.1
  have hb := C.2.1
  unfold f_X11_readsSet_217 at hf
  refine lv_sipush (v := (-1000 : Int32)) hx hb dX11_readsSet_217 (by decide) ?_
  exact t_X11_readsSet_220 C z_v1 hH (lv_sub hl [0] rfl) hf
set_option maxRecDepth 100000 in
set_option maxHeartbeats 4000000 in
theorem t_X11_readsSet_122 {D : va_G} {B : Nat} {Y : Nat → ClassId} {p : Program} {l : Launch} {e : Env} {s : State} {m : MethodId} {args : Array Value} {below : List Frame} {meth : Method} {c : Code} {z : (Int32 × Wd)} {H : Heap} {locs : List Loc} {ls : Array Slot} {w : Wd} {v1 : Int32} {v2 : Int32} {t0 : Int32} (C : CX D B Y p s m args meth c cX11_readsSet 7 RX11 (some .int))    (z_v1 : isZ v1) (hH : HS D B Y w s H locs) (hl : lv_has ls 7 [(0, .ref (B + 713)), (1, .int v1), (2, .int v2)]) (hf : f_X11_readsSet_122 v1 v2 t0 w = some z) : W p l e (RM 2 0 0) s m args below meth c H locs 0 0 (MQ below (QG D B Y (some (.int z.1)) z.2 True) args s 0 0 (AB B)) (F0 m 122 ls [.int t0]) := by
  have hx := C.1
  have hb := C.2.1
  unfold f_X11_readsSet_122 at hf
  refine lv_istore_n (lv' := [(3, .int t0), (0, .ref (B + 713)), (1, .int v1), (2, .int v2)]) hx hb dX11_readsSet_122 rfl hl (by decide) rfl (fun ls hl => ?_)
  refine lv_iload_n hx hb dX11_readsSet_123 rfl (lv_at hl 3 rfl) ?_
  refine lv_bipush (v := (35 : Int32)) hx hb dX11_readsSet_124 (by decide) ?_
  refine b_icmp_ne (tgt := 221) hx hb hf dX11_readsSet_126 (by decide) (fun hf => ?_) (fun hf => ?_)
  · exact t_X11_readsSet_221 C z_v1 hH (lv_sub hl [2, 0] rfl) hf
  · refine lv_aload_n hx hb dX11_readsSet_129 rfl (lv_at hl 1 rfl) ?_
    obtain ⟨x2, w1, hc, hf⟩ := bd_some hf
    refine q_callV1 (v := .int x2) (As := []) C hH (ci := 11) rfl (by omega) gk_X11_288 yd_X11_taping (by omega) (by omega) kc_713 (c_X11_taping hc) hl.1 rfl (Nat.le_of_ble_eq_true rfl) dX11_readsSet_130 ⟨by decide, by decide⟩ (fun H locs hH hP => ?_)
    refine lv_istore (lv' := [(4, .int x2), (3, .int t0), (0, .ref (B + 713)), (1, .int v1), (2, .int v2)]) hx hb dX11_readsSet_133 hl (by decide) rfl (fun ls hl => ?_)
    refine lv_aload_n hx hb dX11_readsSet_135 rfl (lv_at hl 2 rfl) ?_
    refine lv_dup hx hb dX11_readsSet_136 rfl ?_
    refine fg_X11_285 C hH dX11_readsSet_137 ?_
    refine lv_iconst (v := (1 : Int32)) hx hb dX11_readsSet_140 (by decide) ?_
    refine lv_iadd hx hb dX11_readsSet_141 ?_
    refine fp_X11_285 C hH dX11_readsSet_142 (fun H locs hH => ?_)
    refine b_w hf hH (fun w3 hf hH => ?_)
    refine lv_aload_n hx hb dX11_readsSet_145 rfl (lv_at hl 2 rfl) ?_
    obtain ⟨x5, w4, hc, hf⟩ := bd_some hf
    refine q_callV1 (v := .int x5) (As := []) C hH (ci := 11) rfl (by omega) gk_X11_288 yd_X11_taping (by omega) (by omega) kc_713 (c_X11_taping hc) hl.1 rfl (Nat.le_of_ble_eq_true rfl) dX11_readsSet_146 ⟨by decide, by decide⟩ (fun H locs hH hP => ?_)
    refine lv_istore (lv' := [(5, .int x5), (4, .int x2), (3, .int t0), (0, .ref (B + 713)), (1, .int v1), (2, .int v2)]) hx hb dX11_readsSet_149 hl (by decide) rfl (fun ls hl => ?_)
    refine lv_aload_n hx hb dX11_readsSet_151 rfl (lv_at hl 3 rfl) ?_
    refine lv_dup hx hb dX11_readsSet_152 rfl ?_
    refine fg_X11_285 C hH dX11_readsSet_153 ?_
    refine lv_iconst (v := (1 : Int32)) hx hb dX11_readsSet_156 (by decide) ?_
    refine lv_iadd hx hb dX11_readsSet_157 ?_
    refine fp_X11_285 C hH dX11_readsSet_158 (fun H locs hH => ?_)
    refine b_w hf hH (fun w6 hf hH => ?_)
    refine lv_bipush (v := (10 : Int32)) hx hb dX11_readsSet_161 (by decide) ?_
    refine lv_iload hx hb dX11_readsSet_163 (lv_at hl 1 rfl) ?_
    refine lv_bipush (v := (48 : Int32)) hx hb dX11_readsSet_165 (by decide) ?_
    refine lv_isub hx hb dX11_readsSet_167 ?_
    refine lv_imul hx hb dX11_readsSet_168 ?_
    refine lv_iload hx hb dX11_readsSet_169 (lv_at hl 0 rfl) ?_
    refine lv_iadd hx hb dX11_readsSet_171 ?_
    refine lv_bipush (v := (48 : Int32)) hx hb dX11_readsSet_172 (by decide) ?_
    refine lv_isub hx hb dX11_readsSet_174 ?_
    refine b_leti hf (fun x7 hf => ?_)
    refine lv_istore (lv' := [(6, .int x7), (5, .int x5), (4, .int x2), (3, .int t0), (0, .ref (B + 713)), (1, .int v1), (2, .int v2)]) hx hb dX11_readsSet_175 hl (by decide) rfl (fun ls hl => ?_)
    refine lv_iload hx hb dX11_readsSet_177 (lv_at hl 2 rfl) ?_
    refine lv_bipush (v := (48 : Int32)) hx hb dX11_readsSet_179 (by decide) ?_
    refine lv_bipush (v := (57 : Int32)) hx hb dX11_readsSet_181 (by decide) ?_
    obtain ⟨x9, w8, hc, hf⟩ := bd_some hf
    refine q_callS1 (v := .int x9) (As := [.int x2, .int (48 : Int32), .int (57 : Int32)]) C hH gk_X11_111 yd_X11_in (by omega) (by omega) (c_X11_in hc) hl.1 rfl (Nat.le_of_ble_eq_true rfl) dX11_readsSet_183 ⟨by decide, by decide⟩ (fun H locs hH z_x9 => ?_)
    refine b_if_eq (tgt := 217) hx hb hf dX11_readsSet_186 (by decide) (fun hf => ?_) (fun hf => ?_)
    · exact t_X11_readsSet_217 C z_v1 hH (lv_sub hl [5] rfl) hf
    · refine lv_iload hx hb dX11_readsSet_189 (lv_at hl 1 rfl) ?_
      refine lv_bipush (v := (48 : Int32)) hx hb dX11_readsSet_191 (by decide) ?_
      refine lv_bipush (v := (57 : Int32)) hx hb dX11_readsSet_193 (by decide) ?_
      obtain ⟨x11, w10, hc, hf⟩ := bd_some hf
      refine q_callS1 (v := .int x11) (As := [.int x5, .int (48 : Int32), .int (57 : Int32)]) C hH gk_X11_111 yd_X11_in (by omega) (by omega) (c_X11_in hc) hl.1 rfl (Nat.le_of_ble_eq_true rfl) dX11_readsSet_195 ⟨by decide, by decide⟩ (fun H locs hH z_x11 => ?_)
      refine b_if_eq (tgt := 217) hx hb hf dX11_readsSet_198 (by decide) (fun hf => ?_) (fun hf => ?_)
      · exact t_X11_readsSet_217 C z_v1 hH (lv_sub hl [5] rfl) hf
      · refine lv_iload hx hb dX11_readsSet_201 (lv_at hl 0 rfl) ?_
        obtain ⟨x13, w12, hc, hf⟩ := bd_some hf
        refine q_callS1 (v := .int x13) (As := [.int x7]) C hH gk_X11_124 yd_X11_isLetter (by omega) (by omega) (c_X11_isLetter hc) hl.1 rfl (Nat.le_of_ble_eq_true rfl) dX11_readsSet_203 ⟨by decide, by decide⟩ (fun H locs hH z_x13 => ?_)
        refine b_if_eq (tgt := 217) hx hb hf dX11_readsSet_206 (by decide) (fun hf => ?_) (fun hf => ?_)
        · exact t_X11_readsSet_217 C z_v1 hH (lv_sub hl [5] rfl) hf
        · refine lv_bipush (v := (100 : Int32)) hx hb dX11_readsSet_209 (by decide) ?_
          refine lv_iload hx hb dX11_readsSet_211 (lv_at hl 0 rfl) ?_
          refine lv_iadd hx hb dX11_readsSet_213 ?_
          refine lv_goto (tgt := 220) hx hb dX11_readsSet_214 (by decide) ?_
          exact t_X11_readsSet_220 C z_v1 hH (lv_sub hl [5] rfl) hf
set_option maxRecDepth 100000 in
set_option maxHeartbeats 4000000 in
theorem t_X11_readsSet_29 {D : va_G} {B : Nat} {Y : Nat → ClassId} {p : Program} {l : Launch} {e : Env} {s : State} {m : MethodId} {args : Array Value} {below : List Frame} {meth : Method} {c : Code} {z : (Int32 × Wd)} {H : Heap} {locs : List Loc} {ls : Array Slot} {w : Wd} {v1 : Int32} {t1 : Int32} {t2 : Int32} (C : CX D B Y p s m args meth c cX11_readsSet 7 RX11 (some .int))    (z_v1 : isZ v1) (z_t2 : isZ t2) (hH : HS D B Y w s H locs) (hl : lv_has ls 7 [(0, .ref (B + 713)), (1, .int v1)]) (hf : f_X11_readsSet_29 v1 t1 t2 w = some z) : W p l e (RM 2 0 0) s m args below meth c H locs 0 0 (MQ below (QG D B Y (some (.int z.1)) z.2 True) args s 0 0 (AB B)) (F0 m 29 ls [.int t2, .int t1, .ref (B + 713)]) := by
  have hx := C.1
  have hb := C.2.1
  unfold f_X11_readsSet_29 at hf
  refine lv_iadd hx hb dX11_readsSet_29 ?_
  refine fp_X11_285 C hH dX11_readsSet_30 (fun H locs hH => ?_)
  refine b_w hf hH (fun w1 hf hH => ?_)
  refine lv_aload_n hx hb dX11_readsSet_33 rfl (lv_at hl 0 rfl) ?_
  obtain ⟨x3, w2, hc, hf⟩ := bd_some hf
  refine q_callV1 (v := .int x3) (As := []) C hH (ci := 11) rfl (by omega) gk_X11_288 yd_X11_taping (by omega) (by omega) kc_713 (c_X11_taping hc) hl.1 rfl (Nat.le_of_ble_eq_true rfl) dX11_readsSet_34 ⟨by decide, by decide⟩ (fun H locs hH hP => ?_)
  refine lv_istore_n (lv' := [(2, .int x3), (0, .ref (B + 713)), (1, .int v1)]) hx hb dX11_readsSet_37 rfl hl (by decide) rfl (fun ls hl => ?_)
  refine lv_aload_n hx hb dX11_readsSet_38 rfl (lv_at hl 1 rfl) ?_
  refine lv_dup hx hb dX11_readsSet_39 rfl ?_
  refine fg_X11_285 C hH dX11_readsSet_40 ?_
  refine lv_iconst (v := (1 : Int32)) hx hb dX11_readsSet_43 (by decide) ?_
  refine lv_iadd hx hb dX11_readsSet_44 ?_
  refine fp_X11_285 C hH dX11_readsSet_45 (fun H locs hH => ?_)
  refine b_w hf hH (fun w4 hf hH => ?_)
  refine lv_iload_n hx hb dX11_readsSet_48 rfl (lv_at hl 0 rfl) ?_
  refine lv_bipush (v := (46 : Int32)) hx hb dX11_readsSet_49 (by decide) ?_
  refine b_icmp_ne (tgt := 58) hx hb hf dX11_readsSet_51 (by decide) (fun hf => ?_) (fun hf => ?_)
  · refine lv_iload_n hx hb dX11_readsSet_58 rfl (lv_at hl 0 rfl) ?_
    refine lv_bipush (v := (76 : Int32)) hx hb dX11_readsSet_59 (by decide) ?_
    refine b_icmp_ne (tgt := 68) hx hb hf dX11_readsSet_61 (by decide) (fun hf => ?_) (fun hf => ?_)
    · refine lv_iload_n hx hb dX11_readsSet_68 rfl (lv_at hl 0 rfl) ?_
      refine lv_bipush (v := (77 : Int32)) hx hb dX11_readsSet_69 (by decide) ?_
      refine b_icmp_ne (tgt := 78) hx hb hf dX11_readsSet_71 (by decide) (fun hf => ?_) (fun hf => ?_)
      · refine lv_iload_n hx hb dX11_readsSet_78 rfl (lv_at hl 0 rfl) ?_
        refine lv_bipush (v := (66 : Int32)) hx hb dX11_readsSet_79 (by decide) ?_
        refine b_icmp_ne (tgt := 88) hx hb hf dX11_readsSet_81 (by decide) (fun hf => ?_) (fun hf => ?_)
        · refine lv_iload_n hx hb dX11_readsSet_88 rfl (lv_at hl 0 rfl) ?_
          refine lv_bipush (v := (68 : Int32)) hx hb dX11_readsSet_89 (by decide) ?_
          refine b_icmp_ne (tgt := 98) hx hb hf dX11_readsSet_91 (by decide) (fun hf => ?_) (fun hf => ?_)
          · refine lv_iload_n hx hb dX11_readsSet_98 rfl (lv_at hl 0 rfl) ?_
            refine lv_bipush (v := (83 : Int32)) hx hb dX11_readsSet_99 (by decide) ?_
            refine b_icmp_ne (tgt := 108) hx hb hf dX11_readsSet_101 (by decide) (fun hf => ?_) (fun hf => ?_)
            · refine lv_iload_n hx hb dX11_readsSet_108 rfl (lv_at hl 0 rfl) ?_
              refine lv_bipush (v := (67 : Int32)) hx hb dX11_readsSet_109 (by decide) ?_
              refine b_icmp_ne (tgt := 119) hx hb hf dX11_readsSet_111 (by decide) (fun hf => ?_) (fun hf => ?_)
              · refine lv_sipush (v := (-1000 : Int32)) hx hb dX11_readsSet_119 (by decide) ?_
                exact t_X11_readsSet_122 C z_v1 hH (lv_sub hl [1, 2, 0] rfl) hf
              · refine lv_bipush (v := (6 : Int32)) hx hb dX11_readsSet_114 (by decide) ?_
                refine lv_goto (tgt := 122) hx hb dX11_readsSet_116 (by decide) ?_
                exact t_X11_readsSet_122 C z_v1 hH (lv_sub hl [1, 2, 0] rfl) hf
            · refine lv_iconst (v := (5 : Int32)) hx hb dX11_readsSet_104 (by decide) ?_
              refine lv_goto (tgt := 122) hx hb dX11_readsSet_105 (by decide) ?_
              exact t_X11_readsSet_122 C z_v1 hH (lv_sub hl [1, 2, 0] rfl) hf
          · refine lv_iconst (v := (4 : Int32)) hx hb dX11_readsSet_94 (by decide) ?_
            refine lv_goto (tgt := 122) hx hb dX11_readsSet_95 (by decide) ?_
            exact t_X11_readsSet_122 C z_v1 hH (lv_sub hl [1, 2, 0] rfl) hf
        · refine lv_iconst (v := (3 : Int32)) hx hb dX11_readsSet_84 (by decide) ?_
          refine lv_goto (tgt := 122) hx hb dX11_readsSet_85 (by decide) ?_
          exact t_X11_readsSet_122 C z_v1 hH (lv_sub hl [1, 2, 0] rfl) hf
      · refine lv_iconst (v := (2 : Int32)) hx hb dX11_readsSet_74 (by decide) ?_
        refine lv_goto (tgt := 122) hx hb dX11_readsSet_75 (by decide) ?_
        exact t_X11_readsSet_122 C z_v1 hH (lv_sub hl [1, 2, 0] rfl) hf
    · refine lv_iconst (v := (1 : Int32)) hx hb dX11_readsSet_64 (by decide) ?_
      refine lv_goto (tgt := 122) hx hb dX11_readsSet_65 (by decide) ?_
      exact t_X11_readsSet_122 C z_v1 hH (lv_sub hl [1, 2, 0] rfl) hf
  · refine lv_iconst (v := (0 : Int32)) hx hb dX11_readsSet_54 (by decide) ?_
    refine lv_goto (tgt := 122) hx hb dX11_readsSet_55 (by decide) ?_
    exact t_X11_readsSet_122 C z_v1 hH (lv_sub hl [1, 2, 0] rfl) hf
set_option maxRecDepth 100000 in
set_option maxHeartbeats 4000000 in
theorem t_X11_readsSet_14 {D : va_G} {B : Nat} {Y : Nat → ClassId} {p : Program} {l : Launch} {e : Env} {s : State} {m : MethodId} {args : Array Value} {below : List Frame} {meth : Method} {c : Code} {z : (Int32 × Wd)} {H : Heap} {locs : List Loc} {ls : Array Slot} {w : Wd} {t0 : Int32} (C : CX D B Y p s m args meth c cX11_readsSet 7 RX11 (some .int))    (z_t0 : isZ t0) (hH : HS D B Y w s H locs) (hl : lv_has ls 7 [(0, .ref (B + 713))]) (hf : f_X11_readsSet_14 t0 w = some z) : W p l e (RM 2 0 0) s m args below meth c H locs 0 0 (MQ below (QG D B Y (some (.int z.1)) z.2 True) args s 0 0 (AB B)) (F0 m 14 ls [.int t0]) := by
  have hx := C.1
  have hb := C.2.1
  unfold f_X11_readsSet_14 at hf
  refine lv_istore_n (lv' := [(1, .int t0), (0, .ref (B + 713))]) hx hb dX11_readsSet_14 rfl hl (by decide) rfl (fun ls hl => ?_)
  refine lv_aload_n hx hb dX11_readsSet_15 rfl (lv_at hl 1 rfl) ?_
  refine lv_dup hx hb dX11_readsSet_16 rfl ?_
  refine fg_X11_285 C hH dX11_readsSet_17 ?_
  refine lv_iload_n hx hb dX11_readsSet_20 rfl (lv_at hl 0 rfl) ?_
  refine b_if_eq (tgt := 28) hx hb hf dX11_readsSet_21 (by decide) (fun hf => ?_) (fun hf => ?_)
  · refine lv_iconst (v := (0 : Int32)) hx hb dX11_readsSet_28 (by decide) ?_
    exact t_X11_readsSet_29 C z_t0 isZ_0 hH (lv_sub hl [1, 0] rfl) hf
  · refine lv_iconst (v := (1 : Int32)) hx hb dX11_readsSet_24 (by decide) ?_
    refine lv_goto (tgt := 29) hx hb dX11_readsSet_25 (by decide) ?_
    exact t_X11_readsSet_29 C z_t0 isZ_1 hH (lv_sub hl [1, 0] rfl) hf
set_option maxRecDepth 100000 in
set_option maxHeartbeats 4000000 in
theorem t_X11_readsSet_0 {D : va_G} {B : Nat} {Y : Nat → ClassId} {p : Program} {l : Launch} {e : Env} {s : State} {m : MethodId} {args : Array Value} {below : List Frame} {meth : Method} {c : Code} {z : (Int32 × Wd)} {H : Heap} {locs : List Loc} {ls : Array Slot} {w : Wd}  (C : CX D B Y p s m args meth c cX11_readsSet 7 RX11 (some .int))     (hH : HS D B Y w s H locs) (hl : lv_has ls 7 [(0, .ref (B + 713))]) (hf : f_X11_readsSet w = some z) : W p l e (RM 2 0 0) s m args below meth c H locs 0 0 (MQ below (QG D B Y (some (.int z.1)) z.2 True) args s 0 0 (AB B)) (F0 m 0 ls []) := by
  have hx := C.1
  have hb := C.2.1
  unfold f_X11_readsSet at hf
  refine lv_aload_n hx hb dX11_readsSet_0 rfl (lv_at hl 0 rfl) ?_
  obtain ⟨x2, w1, hc, hf⟩ := bd_some hf
  refine q_callV1 (v := .int x2) (As := []) C hH (ci := 11) rfl (by omega) gk_X11_288 yd_X11_taping (by omega) (by omega) kc_713 (c_X11_taping hc) hl.1 rfl (Nat.le_of_ble_eq_true rfl) dX11_readsSet_1 ⟨by decide, by decide⟩ (fun H locs hH hP => ?_)
  refine lv_bipush (v := (33 : Int32)) hx hb dX11_readsSet_4 (by decide) ?_
  refine b_icmp_ne (tgt := 13) hx hb hf dX11_readsSet_6 (by decide) (fun hf => ?_) (fun hf => ?_)
  · refine lv_iconst (v := (0 : Int32)) hx hb dX11_readsSet_13 (by decide) ?_
    exact t_X11_readsSet_14 C isZ_0 hH (lv_sub hl [0] rfl) hf
  · refine lv_iconst (v := (1 : Int32)) hx hb dX11_readsSet_9 (by decide) ?_
    refine lv_goto (tgt := 14) hx hb dX11_readsSet_10 (by decide) ?_
    exact t_X11_readsSet_14 C isZ_1 hH (lv_sub hl [0] rfl) hf
set_option maxRecDepth 100000 in
theorem c_X11_readsSet {l : Launch} {D : va_G} {B : Nat} {Y : Nat → ClassId}  {w : Wd} {r : Int32} {w1 : Wd}   (hf : f_X11_readsSet w = some (r, w1)) : CM l D B Y yX11_readsSet cX11_readsSet 7 (some .int) 2 [.ref (B + 713)] w (some (.int r)) w1 True :=
  CM_of (by decide +kernel) (Nat.le_of_ble_eq_true rfl) (fun p e s m args below meth c ls C hH hl => t_X11_readsSet_0 C  hH (lv_sub hl [0] rfl) hf)
/-! LetterTablesModel.readsPattern -/
set_option maxRecDepth 100000 in
set_option maxHeartbeats 4000000 in
theorem t_X11_readsPattern_117 {D : va_G} {B : Nat} {Y : Nat → ClassId} {p : Program} {l : Launch} {e : Env} {s : State} {m : MethodId} {args : Array Value} {below : List Frame} {meth : Method} {c : Code} {z : (Int32 × Wd)} {H : Heap} {locs : List Loc} {ls : Array Slot} {w : Wd} {v1 : Int32} {v2 : Int32} {v4 : Int32} {v5 : Int32} {v6 : Int32} {t1 : Int32} {t2 : Int32} (C : CX D B Y p s m args meth c cX11_readsPattern 7 RX11 (some .int))  {rc_7 : Int32 × Int32 × Wd → Option (Int32 × Wd)} (hr_7 : ∀ (v1 : Int32) (v2 : Int32) (w : Wd), rc_7 (v1, v2, w) = some z → isZ v1 → ∀ (H : Heap) (locs : List Loc) (ls : Array Slot), HS D B Y w s H locs → lv_has ls 7 [(0, .ref (B + 713)), (1, .int v1), (2, .int v2)] → W p l e (RM 3 0 0) s m args below meth c H locs 0 0 (MQ below (QG D B Y (some (.int z.1)) z.2 True) args s 0 0 (AB B)) (F0 m 7 ls []))   (z_v1 : isZ v1) (z_t2 : isZ t2) (hH : HS D B Y w s H locs) (hl : lv_has ls 7 [(0, .ref (B + 713)), (1, .int v1), (2, .int v2), (4, .int v4), (5, .int v5), (6, .int v6)]) (hf : f_X11_readsPattern_117 rc_7 v1 v2 v4 v5 v6 t1 t2 w = some z) : W p l e (RM 3 0 0) s m args below meth c H locs 0 0 (MQ below (QG D B Y (some (.int z.1)) z.2 True) args s 0 0 (AB B)) (F0 m 117 ls [.int t2, .int t1, .ref (B + 713)]) := by
  have hx := C.1
  have hb := C.2.1
  unfold f_X11_readsPattern_117 at hf
  refine lv_iadd hx hb dX11_readsPattern_117 ?_
  refine fp_X11_285 C hH dX11_readsPattern_118 (fun H locs hH => ?_)
  refine b_w hf hH (fun w1 hf hH => ?_)
  refine lv_iload hx hb dX11_readsPattern_121 (lv_at hl 3 rfl) ?_
  refine lv_sipush (v := (-1000 : Int32)) hx hb dX11_readsPattern_123 (by decide) ?_
  refine b_icmp_eq (tgt := 143) hx hb hf dX11_readsPattern_126 (by decide) (fun hf => ?_) (fun hf => ?_)
  · refine lv_iconst (v := (-1 : Int32)) hx hb dX11_readsPattern_143 (by decide) ?_
    cases hf
    exact q_reti C hH trivial dX11_readsPattern_144
  · refine lv_iload hx hb dX11_readsPattern_129 (lv_at hl 4 rfl) ?_
    refine lv_sipush (v := (-1000 : Int32)) hx hb dX11_readsPattern_131 (by decide) ?_
    refine b_icmp_eq (tgt := 143) hx hb hf dX11_readsPattern_134 (by decide) (fun hf => ?_) (fun hf => ?_)
    · refine lv_iconst (v := (-1 : Int32)) hx hb dX11_readsPattern_143 (by decide) ?_
      cases hf
      exact q_reti C hH trivial dX11_readsPattern_144
    · refine lv_iload_n hx hb dX11_readsPattern_137 rfl (lv_at hl 2 rfl) ?_
      refine lv_bipush (v := (8 : Int32)) hx hb dX11_readsPattern_138 (by decide) ?_
      refine b_icmp_ne (tgt := 145) hx hb hf dX11_readsPattern_140 (by decide) (fun hf => ?_) (fun hf => ?_)
      · refine lv_iload_n hx hb dX11_readsPattern_145 rfl (lv_at hl 1 rfl) ?_
        refine b_if_eq (tgt := 173) hx hb hf dX11_readsPattern_146 (by decide) (fun hf => ?_) (fun hf => ?_)
        · refine b_let hf (fun x2 he hf => ?_)
          refine lv_iinc (v := x2) (lv' := [(2, .int x2), (0, .ref (B + 713)), (1, .int v1), (4, .int v4), (5, .int v5), (6, .int v6)]) hx hb dX11_readsPattern_173 hl (k := 2) rfl (by rw [← he]; rfl) (by decide) rfl (fun ls hl => ?_)
          refine lv_goto (tgt := 7) hx hb dX11_readsPattern_176 (by decide) ?_
          exact hr_7 v1 x2 w1 hf z_v1 _ _ _ hH (lv_sub hl [1, 2, 0] rfl)
        · refine lv_aload_n hx hb dX11_readsPattern_149 rfl (lv_at hl 0 rfl) ?_
          refine fg_X11_80 C hH dX11_readsPattern_150 ?_
          refine lv_iload_n hx hb dX11_readsPattern_153 rfl (lv_at hl 2 rfl) ?_
          refine lv_iload hx hb dX11_readsPattern_154 (lv_at hl 3 rfl) ?_
          refine g_iast C hH kc_737 hf dX11_readsPattern_156 (fun w3 H locs hf hH => ?_)
          refine lv_aload_n hx hb dX11_readsPattern_157 rfl (lv_at hl 0 rfl) ?_
          refine fg_X11_77 C hH dX11_readsPattern_158 ?_
          refine lv_iload_n hx hb dX11_readsPattern_161 rfl (lv_at hl 2 rfl) ?_
          refine lv_iload hx hb dX11_readsPattern_162 (lv_at hl 4 rfl) ?_
          refine g_iast C hH kc_736 hf dX11_readsPattern_164 (fun w4 H locs hf hH => ?_)
          refine lv_aload_n hx hb dX11_readsPattern_165 rfl (lv_at hl 0 rfl) ?_
          refine fg_X11_83 C hH dX11_readsPattern_166 ?_
          refine lv_iload_n hx hb dX11_readsPattern_169 rfl (lv_at hl 2 rfl) ?_
          refine lv_iload hx hb dX11_readsPattern_170 (lv_at hl 5 rfl) ?_
          refine g_iast C hH kc_738 hf dX11_readsPattern_172 (fun w5 H locs hf hH => ?_)
          refine b_let hf (fun x6 he hf => ?_)
          refine lv_iinc (v := x6) (lv' := [(2, .int x6), (0, .ref (B + 713)), (1, .int v1), (4, .int v4), (5, .int v5), (6, .int v6)]) hx hb dX11_readsPattern_173 hl (k := 2) rfl (by rw [← he]; rfl) (by decide) rfl (fun ls hl => ?_)
          refine lv_goto (tgt := 7) hx hb dX11_readsPattern_176 (by decide) ?_
          exact hr_7 v1 x6 w5 hf z_v1 _ _ _ hH (lv_sub hl [1, 2, 0] rfl)
      · refine lv_iconst (v := (-1 : Int32)) hx hb dX11_readsPattern_143 (by decide) ?_
        cases hf
        exact q_reti C hH trivial dX11_readsPattern_144
set_option maxRecDepth 100000 in
set_option maxHeartbeats 4000000 in
theorem t_X11_readsPattern_100 {D : va_G} {B : Nat} {Y : Nat → ClassId} {p : Program} {l : Launch} {e : Env} {s : State} {m : MethodId} {args : Array Value} {below : List Frame} {meth : Method} {c : Code} {z : (Int32 × Wd)} {H : Heap} {locs : List Loc} {ls : Array Slot} {w : Wd} {v1 : Int32} {v2 : Int32} {v4 : Int32} {v5 : Int32} {t0 : Int32} (C : CX D B Y p s m args meth c cX11_readsPattern 7 RX11 (some .int))  {rc_7 : Int32 × Int32 × Wd → Option (Int32 × Wd)} (hr_7 : ∀ (v1 : Int32) (v2 : Int32) (w : Wd), rc_7 (v1, v2, w) = some z → isZ v1 → ∀ (H : Heap) (locs : List Loc) (ls : Array Slot), HS D B Y w s H locs → lv_has ls 7 [(0, .ref (B + 713)), (1, .int v1), (2, .int v2)] → W p l e (RM 3 0 0) s m args below meth c H locs 0 0 (MQ below (QG D B Y (some (.int z.1)) z.2 True) args s 0 0 (AB B)) (F0 m 7 ls []))   (z_v1 : isZ v1) (hH : HS D B Y w s H locs) (hl : lv_has ls 7 [(0, .ref (B + 713)), (1, .int v1), (2, .int v2), (4, .int v4), (5, .int v5)]) (hf : f_X11_readsPattern_100 rc_7 v1 v2 v4 v5 t0 w = some z) : W p l e (RM 3 0 0) s m args below meth c H locs 0 0 (MQ below (QG D B Y (some (.int z.1)) z.2 True) args s 0 0 (AB B)) (F0 m 100 ls [.int t0]) := by
  have hx := C.1
  have hb := C.2.1
  unfold f_X11_readsPattern_100 at hf
  refine lv_istore (lv' := [(6, .int t0), (0, .ref (B + 713)), (1, .int v1), (2, .int v2), (4, .int v4), (5, .int v5)]) hx hb dX11_readsPattern_100 hl (by decide) rfl (fun ls hl => ?_)
  refine lv_aload_n hx hb dX11_readsPattern_102 rfl (lv_at hl 1 rfl) ?_
  refine lv_dup hx hb dX11_readsPattern_103 rfl ?_
  refine fg_X11_285 C hH dX11_readsPattern_104 ?_
  refine lv_iload hx hb dX11_readsPattern_107 (lv_at hl 0 rfl) ?_
  refine b_if_le (tgt := 116) hx hb hf dX11_readsPattern_109 (by decide) (fun hf => ?_) (fun hf => ?_)
  · refine lv_iconst (v := (0 : Int32)) hx hb dX11_readsPattern_116 (by decide) ?_
    exact t_X11_readsPattern_117 C hr_7 z_v1 isZ_0 hH (lv_sub hl [1, 2, 3, 4, 5, 0] rfl) hf
  · refine lv_iconst (v := (1 : Int32)) hx hb dX11_readsPattern_112 (by decide) ?_
    refine lv_goto (tgt := 117) hx hb dX11_readsPattern_113 (by decide) ?_
    exact t_X11_readsPattern_117 C hr_7 z_v1 isZ_1 hH (lv_sub hl [1, 2, 3, 4, 5, 0] rfl) hf
set_option maxRecDepth 100000 in
set_option maxHeartbeats 4000000 in
theorem t_X11_readsPattern_65 {D : va_G} {B : Nat} {Y : Nat → ClassId} {p : Program} {l : Launch} {e : Env} {s : State} {m : MethodId} {args : Array Value} {below : List Frame} {meth : Method} {c : Code} {z : (Int32 × Wd)} {H : Heap} {locs : List Loc} {ls : Array Slot} {w : Wd} {v1 : Int32} {v2 : Int32} {t0 : Int32} (C : CX D B Y p s m args meth c cX11_readsPattern 7 RX11 (some .int))  {rc_7 : Int32 × Int32 × Wd → Option (Int32 × Wd)} (hr_7 : ∀ (v1 : Int32) (v2 : Int32) (w : Wd), rc_7 (v1, v2, w) = some z → isZ v1 → ∀ (H : Heap) (locs : List Loc) (ls : Array Slot), HS D B Y w s H locs → lv_has ls 7 [(0, .ref (B + 713)), (1, .int v1), (2, .int v2)] → W p l e (RM 3 0 0) s m args below meth c H locs 0 0 (MQ below (QG D B Y (some (.int z.1)) z.2 True) args s 0 0 (AB B)) (F0 m 7 ls []))   (z_v1 : isZ v1) (hH : HS D B Y w s H locs) (hl : lv_has ls 7 [(0, .ref (B + 713)), (1, .int v1), (2, .int v2)]) (hf : f_X11_readsPattern_65 rc_7 v1 v2 t0 w = some z) : W p l e (RM 3 0 0) s m args below meth c H locs 0 0 (MQ below (QG D B Y (some (.int z.1)) z.2 True) args s 0 0 (AB B)) (F0 m 65 ls [.int t0]) := by
  have hx := C.1
  have hb := C.2.1
  unfold f_X11_readsPattern_65 at hf
  refine lv_istore (lv' := [(4, .int t0), (0, .ref (B + 713)), (1, .int v1), (2, .int v2)]) hx hb dX11_readsPattern_65 hl (by decide) rfl (fun ls hl => ?_)
  refine lv_aload_n hx hb dX11_readsPattern_67 rfl (lv_at hl 1 rfl) ?_
  obtain ⟨x2, w1, hc, hf⟩ := bd_some hf
  refine q_callV1 (v := .int x2) (As := []) C hH (ci := 11) rfl (by omega) gk_X11_292 yd_X11_readsSet (by omega) (by omega) kc_713 (c_X11_readsSet hc) hl.1 rfl (Nat.le_of_ble_eq_true rfl) dX11_readsPattern_68 ⟨by decide, by decide⟩ (fun H locs hH hP => ?_)
  refine lv_istore (lv' := [(5, .int x2), (4, .int t0), (0, .ref (B + 713)), (1, .int v1), (2, .int v2)]) hx hb dX11_readsPattern_71 hl (by decide) rfl (fun ls hl => ?_)
  refine lv_aload_n hx hb dX11_readsPattern_73 rfl (lv_at hl 2 rfl) ?_
  obtain ⟨x4, w3, hc, hf⟩ := bd_some hf
  refine q_callV1 (v := .int x4) (As := []) C hH (ci := 11) rfl (by omega) gk_X11_288 yd_X11_taping (by omega) (by omega) kc_713 (c_X11_taping hc) hl.1 rfl (Nat.le_of_ble_eq_true rfl) dX11_readsPattern_74 ⟨by decide, by decide⟩ (fun H locs hH hP => ?_)
  refine lv_bipush (v := (42 : Int32)) hx hb dX11_readsPattern_77 (by decide) ?_
  refine b_icmp_ne (tgt := 86) hx hb hf dX11_readsPattern_79 (by decide) (fun hf => ?_) (fun hf => ?_)
  · refine lv_aload_n hx hb dX11_readsPattern_86 rfl (lv_at hl 2 rfl) ?_
    obtain ⟨x6, w5, hc, hf⟩ := bd_some hf
    refine q_callV1 (v := .int x6) (As := []) C hH (ci := 11) rfl (by omega) gk_X11_288 yd_X11_taping (by omega) (by omega) kc_713 (c_X11_taping hc) hl.1 rfl (Nat.le_of_ble_eq_true rfl) dX11_readsPattern_87 ⟨by decide, by decide⟩ (fun H locs hH hP => ?_)
    refine lv_bipush (v := (63 : Int32)) hx hb dX11_readsPattern_90 (by decide) ?_
    refine b_icmp_ne (tgt := 99) hx hb hf dX11_readsPattern_92 (by decide) (fun hf => ?_) (fun hf => ?_)
    · refine lv_iconst (v := (0 : Int32)) hx hb dX11_readsPattern_99 (by decide) ?_
      exact t_X11_readsPattern_100 C hr_7 z_v1 hH (lv_sub hl [2, 3, 4, 1, 0] rfl) hf
    · refine lv_iconst (v := (1 : Int32)) hx hb dX11_readsPattern_95 (by decide) ?_
      refine lv_goto (tgt := 100) hx hb dX11_readsPattern_96 (by decide) ?_
      exact t_X11_readsPattern_100 C hr_7 z_v1 hH (lv_sub hl [2, 3, 4, 1, 0] rfl) hf
  · refine lv_iconst (v := (2 : Int32)) hx hb dX11_readsPattern_82 (by decide) ?_
    refine lv_goto (tgt := 100) hx hb dX11_readsPattern_83 (by decide) ?_
    exact t_X11_readsPattern_100 C hr_7 z_v1 hH (lv_sub hl [2, 3, 4, 1, 0] rfl) hf
set_option maxRecDepth 100000 in
set_option maxHeartbeats 4000000 in
theorem t_X11_readsPattern_47 {D : va_G} {B : Nat} {Y : Nat → ClassId} {p : Program} {l : Launch} {e : Env} {s : State} {m : MethodId} {args : Array Value} {below : List Frame} {meth : Method} {c : Code} {z : (Int32 × Wd)} {H : Heap} {locs : List Loc} {ls : Array Slot} {w : Wd} {v1 : Int32} {v2 : Int32} {v3 : Int32} {t1 : Int32} {t2 : Int32} (C : CX D B Y p s m args meth c cX11_readsPattern 7 RX11 (some .int))  {rc_7 : Int32 × Int32 × Wd → Option (Int32 × Wd)} (hr_7 : ∀ (v1 : Int32) (v2 : Int32) (w : Wd), rc_7 (v1, v2, w) = some z → isZ v1 → ∀ (H : Heap) (locs : List Loc) (ls : Array Slot), HS D B Y w s H locs → lv_has ls 7 [(0, .ref (B + 713)), (1, .int v1), (2, .int v2)] → W p l e (RM 3 0 0) s m args below meth c H locs 0 0 (MQ below (QG D B Y (some (.int z.1)) z.2 True) args s 0 0 (AB B)) (F0 m 7 ls []))   (z_v1 : isZ v1) (z_v3 : isZ v3) (z_t2 : isZ t2) (hH : HS D B Y w s H locs) (hl : lv_has ls 7 [(0, .ref (B + 713)), (1, .int v1), (2, .int v2), (3, .int v3)]) (hf : f_X11_readsPattern_47 rc_7 v1 v2 v3 t1 t2 w = some z) : W p l e (RM 3 0 0) s m args below meth c H locs 0 0 (MQ below (QG D B Y (some (.int z.1)) z.2 True) args s 0 0 (AB B)) (F0 m 47 ls [.int t2, .int t1, .ref (B + 713)]) := by
  have hx := C.1
  have hb := C.2.1
  unfold f_X11_readsPattern_47 at hf
  refine lv_iadd hx hb dX11_readsPattern_47 ?_
  refine fp_X11_285 C hH dX11_readsPattern_48 (fun H locs hH => ?_)
  refine b_w hf hH (fun w1 hf hH => ?_)
  refine lv_iload_n hx hb dX11_readsPattern_51 rfl (lv_at hl 3 rfl) ?_
  refine b_if_eq (tgt := 62) hx hb hf dX11_readsPattern_52 (by decide) (fun hf => ?_) (fun hf => ?_)
  · refine lv_sipush (v := (999 : Int32)) hx hb dX11_readsPattern_62 (by decide) ?_
    exact t_X11_readsPattern_65 C hr_7 z_v1 hH (lv_sub hl [0, 1, 2] rfl) hf
  · refine lv_aload_n hx hb dX11_readsPattern_55 rfl (lv_at hl 0 rfl) ?_
    obtain ⟨x3, w2, hc, hf⟩ := bd_some hf
    refine q_callV1 (v := .int x3) (As := []) C hH (ci := 11) rfl (by omega) gk_X11_292 yd_X11_readsSet (by omega) (by omega) kc_713 (c_X11_readsSet hc) hl.1 rfl (Nat.le_of_ble_eq_true rfl) dX11_readsPattern_56 ⟨by decide, by decide⟩ (fun H locs hH hP => ?_)
    refine lv_goto (tgt := 65) hx hb dX11_readsPattern_59 (by decide) ?_
    exact t_X11_readsPattern_65 C hr_7 z_v1 hH (lv_sub hl [0, 1, 2] rfl) hf
set_option maxRecDepth 100000 in
set_option maxHeartbeats 4000000 in
theorem t_X11_readsPattern_32 {D : va_G} {B : Nat} {Y : Nat → ClassId} {p : Program} {l : Launch} {e : Env} {s : State} {m : MethodId} {args : Array Value} {below : List Frame} {meth : Method} {c : Code} {z : (Int32 × Wd)} {H : Heap} {locs : List Loc} {ls : Array Slot} {w : Wd} {v1 : Int32} {v2 : Int32} {t0 : Int32} (C : CX D B Y p s m args meth c cX11_readsPattern 7 RX11 (some .int))  {rc_7 : Int32 × Int32 × Wd → Option (Int32 × Wd)} (hr_7 : ∀ (v1 : Int32) (v2 : Int32) (w : Wd), rc_7 (v1, v2, w) = some z → isZ v1 → ∀ (H : Heap) (locs : List Loc) (ls : Array Slot), HS D B Y w s H locs → lv_has ls 7 [(0, .ref (B + 713)), (1, .int v1), (2, .int v2)] → W p l e (RM 3 0 0) s m args below meth c H locs 0 0 (MQ below (QG D B Y (some (.int z.1)) z.2 True) args s 0 0 (AB B)) (F0 m 7 ls []))   (z_v1 : isZ v1) (z_t0 : isZ t0) (hH : HS D B Y w s H locs) (hl : lv_has ls 7 [(0, .ref (B + 713)), (1, .int v1), (2, .int v2)]) (hf : f_X11_readsPattern_32 rc_7 v1 v2 t0 w = some z) : W p l e (RM 3 0 0) s m args below meth c H locs 0 0 (MQ below (QG D B Y (some (.int z.1)) z.2 True) args s 0 0 (AB B)) (F0 m 32 ls [.int t0]) := by
  have hx := C.1
  have hb := C.2.1
  unfold f_X11_readsPattern_32 at hf
  refine lv_istore_n (lv' := [(3, .int t0), (0, .ref (B + 713)), (1, .int v1), (2, .int v2)]) hx hb dX11_readsPattern_32 rfl hl (by decide) rfl (fun ls hl => ?_)
  refine lv_aload_n hx hb dX11_readsPattern_33 rfl (lv_at hl 1 rfl) ?_
  refine lv_dup hx hb dX11_readsPattern_34 rfl ?_
  refine fg_X11_285 C hH dX11_readsPattern_35 ?_
  refine lv_iload_n hx hb dX11_readsPattern_38 rfl (lv_at hl 0 rfl) ?_
  refine b_if_eq (tgt := 46) hx hb hf dX11_readsPattern_39 (by decide) (fun hf => ?_) (fun hf => ?_)
  · refine lv_iconst (v := (0 : Int32)) hx hb dX11_readsPattern_46 (by decide) ?_
    exact t_X11_readsPattern_47 C hr_7 z_v1 z_t0 isZ_0 hH (lv_sub hl [1, 2, 3, 0] rfl) hf
  · refine lv_iconst (v := (1 : Int32)) hx hb dX11_readsPattern_42 (by decide) ?_
    refine lv_goto (tgt := 47) hx hb dX11_readsPattern_43 (by decide) ?_
    exact t_X11_readsPattern_47 C hr_7 z_v1 z_t0 isZ_1 hH (lv_sub hl [1, 2, 3, 0] rfl) hf
set_option maxRecDepth 100000 in
set_option maxHeartbeats 4000000 in
theorem tb_X11_readsPattern_7 {D : va_G} {B : Nat} {Y : Nat → ClassId} {p : Program} {l : Launch} {e : Env} {s : State} {m : MethodId} {args : Array Value} {below : List Frame} {meth : Method} {c : Code} {z : (Int32 × Wd)} {H : Heap} {locs : List Loc} {ls : Array Slot} {w : Wd} {v1 : Int32} {v2 : Int32} (C : CX D B Y p s m args meth c cX11_readsPattern 7 RX11 (some .int))  {rc_7 : Int32 × Int32 × Wd → Option (Int32 × Wd)} (hr_7 : ∀ (v1 : Int32) (v2 : Int32) (w : Wd), rc_7 (v1, v2, w) = some z → isZ v1 → ∀ (H : Heap) (locs : List Loc) (ls : Array Slot), HS D B Y w s H locs → lv_has ls 7 [(0, .ref (B + 713)), (1, .int v1), (2, .int v2)] → W p l e (RM 3 0 0) s m args below meth c H locs 0 0 (MQ below (QG D B Y (some (.int z.1)) z.2 True) args s 0 0 (AB B)) (F0 m 7 ls []))   (z_v1 : isZ v1) (hH : HS D B Y w s H locs) (hl : lv_has ls 7 [(0, .ref (B + 713)), (1, .int v1), (2, .int v2)]) (hf : g_X11_readsPattern_7 rc_7 v1 v2 w = some z) : W p l e (RM 3 0 0) s m args below meth c H locs 0 0 (MQ below (QG D B Y (some (.int z.1)) z.2 True) args s 0 0 (AB B)) (F0 m 7 ls []) := by
  have hx := C.1
  have hb := C.2.1
  unfold g_X11_readsPattern_7 at hf
  refine lv_aload_n hx hb dX11_readsPattern_7 rfl (lv_at hl 0 rfl) ?_
  refine fg_X11_285 C hH dX11_readsPattern_8 ?_
  refine lv_aload_n hx hb dX11_readsPattern_11 rfl (lv_at hl 0 rfl) ?_
  refine fg_X11_115 C hH dX11_readsPattern_12 ?_
  refine b_icmp_ge (tgt := 179) hx hb hf dX11_readsPattern_15 (by decide) (fun hf => ?_) (fun hf => ?_)
  · refine lv_iload_n hx hb dX11_readsPattern_179 rfl (lv_at hl 2 rfl) ?_
    cases hf
    exact q_reti C hH trivial dX11_readsPattern_180
  · refine lv_aload_n hx hb dX11_readsPattern_18 rfl (lv_at hl 0 rfl) ?_
    obtain ⟨x2, w1, hc, hf⟩ := bd_some hf
    refine q_callV1 (v := .int x2) (As := []) C hH (ci := 11) rfl (by omega) gk_X11_288 yd_X11_taping (by omega) (by omega) kc_713 (c_X11_taping hc) hl.1 rfl (Nat.le_of_ble_eq_true rfl) dX11_readsPattern_19 ⟨by decide, by decide⟩ (fun H locs hH hP => ?_)
    refine lv_bipush (v := (60 : Int32)) hx hb dX11_readsPattern_22 (by decide) ?_
    refine b_icmp_ne (tgt := 31) hx hb hf dX11_readsPattern_24 (by decide) (fun hf => ?_) (fun hf => ?_)
    · refine lv_iconst (v := (0 : Int32)) hx hb dX11_readsPattern_31 (by decide) ?_
      exact t_X11_readsPattern_32 C hr_7 z_v1 isZ_0 hH (lv_sub hl [0, 1, 2] rfl) hf
    · refine lv_iconst (v := (1 : Int32)) hx hb dX11_readsPattern_27 (by decide) ?_
      refine lv_goto (tgt := 32) hx hb dX11_readsPattern_28 (by decide) ?_
      exact t_X11_readsPattern_32 C hr_7 z_v1 isZ_1 hH (lv_sub hl [0, 1, 2] rfl) hf
set_option maxRecDepth 100000 in
set_option maxHeartbeats 4000000 in
theorem t_X11_readsPattern_7 {D : va_G} {B : Nat} {Y : Nat → ClassId} {p : Program} {l : Launch} {e : Env} {s : State} {m : MethodId} {args : Array Value} {below : List Frame} {meth : Method} {c : Code} {z : (Int32 × Wd)} {H : Heap} {locs : List Loc} {ls : Array Slot} {w : Wd} {v1 : Int32} {v2 : Int32} (C : CX D B Y p s m args meth c cX11_readsPattern 7 RX11 (some .int))    (z_v1 : isZ v1) (hH : HS D B Y w s H locs) (hl : lv_has ls 7 [(0, .ref (B + 713)), (1, .int v1), (2, .int v2)]) (hf : f_X11_readsPattern_7 v1 v2 w = some z) : W p l e (RM 3 0 0) s m args below meth c H locs 0 0 (MQ below (QG D B Y (some (.int z.1)) z.2 True) args s 0 0 (AB B)) (F0 m 7 ls []) := by
  exact loopN_ind (z := z) (body := fun rc σ => g_X11_readsPattern_7 rc  σ.1 σ.2.1 σ.2.2)
    (P := fun σ => isZ σ.1 → ∀ (H : Heap) (locs : List Loc) (ls : Array Slot), HS D B Y σ.2.2 s H locs → lv_has ls 7 [(0, .ref (B + 713)), (1, .int σ.1), (2, .int σ.2.1)] → W p l e (RM 3 0 0) s m args below meth c H locs 0 0 (MQ below (QG D B Y (some (.int z.1)) z.2 True) args s 0 0 (AB B)) (F0 m 7 ls []))
    (fun rc hrec σ hf z_v1 H locs ls hH hl => tb_X11_readsPattern_7 C (fun v1 v2 w hr z_v1 H locs ls hH hl => hrec (v1, v2, w) hr z_v1 H locs ls hH hl)  z_v1 hH hl hf) FU (v1, v2, w) hf z_v1 H locs ls hH hl
set_option maxRecDepth 100000 in
set_option maxHeartbeats 4000000 in
theorem t_X11_readsPattern_0 {D : va_G} {B : Nat} {Y : Nat → ClassId} {p : Program} {l : Launch} {e : Env} {s : State} {m : MethodId} {args : Array Value} {below : List Frame} {meth : Method} {c : Code} {z : (Int32 × Wd)} {H : Heap} {locs : List Loc} {ls : Array Slot} {w : Wd} {v1 : Int32} (C : CX D B Y p s m args meth c cX11_readsPattern 7 RX11 (some .int))    (z_v1 : isZ v1) (hH : HS D B Y w s H locs) (hl : lv_has ls 7 [(0, .ref (B + 713)), (1, .int v1)]) (hf : f_X11_readsPattern v1 w = some z) : W p l e (RM 3 0 0) s m args below meth c H locs 0 0 (MQ below (QG D B Y (some (.int z.1)) z.2 True) args s 0 0 (AB B)) (F0 m 0 ls []) := by
  have hx := C.1
  have hb := C.2.1
  unfold f_X11_readsPattern at hf
  refine lv_iconst (v := (0 : Int32)) hx hb dX11_readsPattern_0 (by decide) ?_
  refine lv_istore_n (lv' := [(2, .int (0 : Int32)), (0, .ref (B + 713)), (1, .int v1)]) hx hb dX11_readsPattern_1 rfl hl (by decide) rfl (fun ls hl => ?_)
  refine lv_aload_n hx hb dX11_readsPattern_2 rfl (lv_at hl 1 rfl) ?_
  refine lv_iconst (v := (0 : Int32)) hx hb dX11_readsPattern_3 (by decide) ?_
  refine fp_X11_285 C hH dX11_readsPattern_4 (fun H locs hH => ?_)
  refine b_w hf hH (fun w1 hf hH => ?_)
  exact t_X11_readsPattern_7 C z_v1 hH (lv_sub hl [1, 2, 0] rfl) hf
set_option maxRecDepth 100000 in
theorem c_X11_readsPattern {l : Launch} {D : va_G} {B : Nat} {Y : Nat → ClassId} {v1 : Int32} {w : Wd} {r : Int32} {w1 : Wd}  (z_v1 : isZ v1) (hf : f_X11_readsPattern v1 w = some (r, w1)) : CM l D B Y yX11_readsPattern cX11_readsPattern 7 (some .int) 3 [.ref (B + 713), .int v1] w (some (.int r)) w1 True :=
  CM_of (by decide +kernel) (Nat.le_of_ble_eq_true rfl) (fun p e s m args below meth c ls C hH hl => t_X11_readsPattern_0 C z_v1 hH (lv_sub hl [0, 1] rfl) hf)
/-! LetterTablesModel.pattern -/
set_option maxRecDepth 100000 in
set_option maxHeartbeats 4000000 in
theorem t_X11_pattern_37 {D : va_G} {B : Nat} {Y : Nat → ClassId} {p : Program} {l : Launch} {e : Env} {s : State} {m : MethodId} {args : Array Value} {below : List Frame} {meth : Method} {c : Code} {z : (Int32 × Wd)} {H : Heap} {locs : List Loc} {ls : Array Slot} {w : Wd} {v1 : Int32} (C : CX D B Y p s m args meth c cX11_pattern 2 RX11 (some .int))     (hH : HS D B Y w s H locs) (hl : lv_has ls 2 [(0, .ref (B + 713)), (1, .int v1)]) (hf : f_X11_pattern_37 v1 w = some z) : W p l e (RM 4 0 0) s m args below meth c H locs 0 0 (MQ below (QG D B Y (some (.int z.1)) z.2 True) args s 0 0 (AB B)) (F0 m 37 ls []) := by
  have hx := C.1
  have hb := C.2.1
  unfold f_X11_pattern_37 at hf
  refine lv_aload_n hx hb dX11_pattern_37 rfl (lv_at hl 0 rfl) ?_
  refine lv_iconst (v := (0 : Int32)) hx hb dX11_pattern_38 (by decide) ?_
  refine fp_X11_115 C hH dX11_pattern_39 (fun H locs hH => ?_)
  refine b_w hf hH (fun w1 hf hH => ?_)
  refine lv_iload_n hx hb dX11_pattern_42 rfl (lv_at hl 1 rfl) ?_
  refine lv_iconst (v := (-1 : Int32)) hx hb dX11_pattern_43 (by decide) ?_
  refine b_icmp_ne (tgt := 51) hx hb hf dX11_pattern_44 (by decide) (fun hf => ?_) (fun hf => ?_)
  · refine lv_iload_n hx hb dX11_pattern_51 rfl (lv_at hl 1 rfl) ?_
    cases hf
    exact q_reti C hH trivial dX11_pattern_52
  · refine lv_iconst (v := (0 : Int32)) hx hb dX11_pattern_47 (by decide) ?_
    refine lv_goto (tgt := 52) hx hb dX11_pattern_48 (by decide) ?_
    cases hf
    exact q_reti C hH trivial dX11_pattern_52
set_option maxRecDepth 100000 in
set_option maxHeartbeats 4000000 in
theorem t_X11_pattern_17 {D : va_G} {B : Nat} {Y : Nat → ClassId} {p : Program} {l : Launch} {e : Env} {s : State} {m : MethodId} {args : Array Value} {below : List Frame} {meth : Method} {c : Code} {z : (Int32 × Wd)} {H : Heap} {locs : List Loc} {ls : Array Slot} {w : Wd} {v1 : Int32} {t1 : Int32} (C : CX D B Y p s m args meth c cX11_pattern 2 RX11 (some .int))    (z_t1 : isZ t1) (hH : HS D B Y w s H locs) (hl : lv_has ls 2 [(0, .ref (B + 713)), (1, .int v1)]) (hf : f_X11_pattern_17 v1 t1 w = some z) : W p l e (RM 4 0 0) s m args below meth c H locs 0 0 (MQ below (QG D B Y (some (.int z.1)) z.2 True) args s 0 0 (AB B)) (F0 m 17 ls [.int t1, .ref (B + 713)]) := by
  have hx := C.1
  have hb := C.2.1
  unfold f_X11_pattern_17 at hf
  obtain ⟨x2, w1, hc, hf⟩ := bd_some hf
  refine q_callV1 (v := .int x2) (As := [.int t1]) C hH (ci := 11) rfl (by omega) gk_X11_118 yd_X11_holds (by omega) (by omega) kc_713 (c_X11_holds hc) hl.1 rfl (Nat.le_of_ble_eq_true rfl) dX11_pattern_17 ⟨by decide, by decide⟩ (fun H locs hH z_x2 => ?_)
  refine b_if_eq (tgt := 37) hx hb hf dX11_pattern_20 (by decide) (fun hf => ?_) (fun hf => ?_)
  · exact t_X11_pattern_37 C hH (lv_sub hl [0, 1] rfl) hf
  · refine lv_aload_n hx hb dX11_pattern_23 rfl (lv_at hl 0 rfl) ?_
    refine lv_iconst (v := (1 : Int32)) hx hb dX11_pattern_24 (by decide) ?_
    refine fp_X11_299 C hH isZ_1 dX11_pattern_25 (fun H locs hH => ?_)
    refine b_w hf hH (fun w3 hf hH => ?_)
    refine lv_aload_n hx hb dX11_pattern_28 rfl (lv_at hl 0 rfl) ?_
    refine lv_aload_n hx hb dX11_pattern_29 rfl (lv_at hl 0 rfl) ?_
    refine lv_iconst (v := (1 : Int32)) hx hb dX11_pattern_30 (by decide) ?_
    obtain ⟨x5, w4, hc, hf⟩ := bd_some hf
    refine q_callV1 (v := .int x5) (As := [.int (1 : Int32)]) C hH (ci := 11) rfl (by omega) gk_X11_295 yd_X11_readsPattern (by omega) (by omega) kc_713 (c_X11_readsPattern isZ_1 hc) hl.1 rfl (Nat.le_of_ble_eq_true rfl) dX11_pattern_31 ⟨by decide, by decide⟩ (fun H locs hH hP => ?_)
    refine fp_X11_302 C hH dX11_pattern_34 (fun H locs hH => ?_)
    refine b_w hf hH (fun w6 hf hH => ?_)
    exact t_X11_pattern_37 C hH (lv_sub hl [0, 1] rfl) hf
set_option maxRecDepth 100000 in
set_option maxHeartbeats 4000000 in
theorem t_X11_pattern_0 {D : va_G} {B : Nat} {Y : Nat → ClassId} {p : Program} {l : Launch} {e : Env} {s : State} {m : MethodId} {args : Array Value} {below : List Frame} {meth : Method} {c : Code} {z : (Int32 × Wd)} {H : Heap} {locs : List Loc} {ls : Array Slot} {w : Wd}  (C : CX D B Y p s m args meth c cX11_pattern 2 RX11 (some .int))     (hH : HS D B Y w s H locs) (hl : lv_has ls 2 [(0, .ref (B + 713))]) (hf : f_X11_pattern w = some z) : W p l e (RM 4 0 0) s m args below meth c H locs 0 0 (MQ below (QG D B Y (some (.int z.1)) z.2 True) args s 0 0 (AB B)) (F0 m 0 ls []) := by
  have hx := C.1
  have hb := C.2.1
  unfold f_X11_pattern at hf
  refine lv_aload_n hx hb dX11_pattern_0 rfl (lv_at hl 0 rfl) ?_
  refine lv_iconst (v := (0 : Int32)) hx hb dX11_pattern_1 (by decide) ?_
  obtain ⟨x2, w1, hc, hf⟩ := bd_some hf
  refine q_callV1 (v := .int x2) (As := [.int (0 : Int32)]) C hH (ci := 11) rfl (by omega) gk_X11_295 yd_X11_readsPattern (by omega) (by omega) kc_713 (c_X11_readsPattern isZ_0 hc) hl.1 rfl (Nat.le_of_ble_eq_true rfl) dX11_pattern_2 ⟨by decide, by decide⟩ (fun H locs hH hP => ?_)
  refine lv_istore_n (lv' := [(1, .int x2), (0, .ref (B + 713))]) hx hb dX11_pattern_5 rfl hl (by decide) rfl (fun ls hl => ?_)
  refine lv_aload_n hx hb dX11_pattern_6 rfl (lv_at hl 1 rfl) ?_
  refine lv_iload_n hx hb dX11_pattern_7 rfl (lv_at hl 0 rfl) ?_
  refine lv_iconst (v := (-1 : Int32)) hx hb dX11_pattern_8 (by decide) ?_
  refine b_icmp_ne (tgt := 16) hx hb hf dX11_pattern_9 (by decide) (fun hf => ?_) (fun hf => ?_)
  · refine lv_iconst (v := (0 : Int32)) hx hb dX11_pattern_16 (by decide) ?_
    exact t_X11_pattern_17 C isZ_0 hH (lv_sub hl [1, 0] rfl) hf
  · refine lv_iconst (v := (1 : Int32)) hx hb dX11_pattern_12 (by decide) ?_
    refine lv_goto (tgt := 17) hx hb dX11_pattern_13 (by decide) ?_
    exact t_X11_pattern_17 C isZ_1 hH (lv_sub hl [1, 0] rfl) hf
set_option maxRecDepth 100000 in
theorem c_X11_pattern {l : Launch} {D : va_G} {B : Nat} {Y : Nat → ClassId}  {w : Wd} {r : Int32} {w1 : Wd}   (hf : f_X11_pattern w = some (r, w1)) : CM l D B Y yX11_pattern cX11_pattern 2 (some .int) 4 [.ref (B + 713)] w (some (.int r)) w1 True :=
  CM_of (by decide +kernel) (Nat.le_of_ble_eq_true rfl) (fun p e s m args below meth c ls C hH hl => t_X11_pattern_0 C  hH (lv_sub hl [0] rfl) hf)
/-! LetterTablesModel.isCapital -/
set_option maxRecDepth 100000 in
set_option maxHeartbeats 4000000 in
theorem t_X11_isCapital_49 {D : va_G} {B : Nat} {Y : Nat → ClassId} {p : Program} {l : Launch} {e : Env} {s : State} {m : MethodId} {args : Array Value} {below : List Frame} {meth : Method} {c : Code} {z : (Int32 × Wd)} {H : Heap} {locs : List Loc} {ls : Array Slot} {w : Wd} {v1 : Int32} {v3 : Int32} (C : CX D B Y p s m args meth c cX11_isCapital 4 RX11 (some .boolean))  {rc_4 : Int32 × Int32 × Int32 × Wd → Option (Int32 × Wd)} (hr_4 : ∀ (v1 : Int32) (v2 : Int32) (v3 : Int32) (w : Wd), rc_4 (v1, v2, v3, w) = some z → isZ v2 → ∀ (H : Heap) (locs : List Loc) (ls : Array Slot), HS D B Y w s H locs → lv_has ls 4 [(0, .ref (B + 713)), (1, .int v1), (2, .int v2), (3, .int v3)] → W p l e (RM 1 0 0) s m args below meth c H locs 0 0 (MQ below (QG D B Y (some (.int z.1)) z.2 (isZ z.1)) args s 0 0 (AB B)) (F0 m 4 ls []))    (hH : HS D B Y w s H locs) (hl : lv_has ls 4 [(0, .ref (B + 713)), (1, .int v1), (3, .int v3)]) (hf : f_X11_isCapital_49 rc_4 v1 v3 w = some z) : W p l e (RM 1 0 0) s m args below meth c H locs 0 0 (MQ below (QG D B Y (some (.int z.1)) z.2 (isZ z.1)) args s 0 0 (AB B)) (F0 m 49 ls []) := by
  have hx := C.1
  have hb := C.2.1
  unfold f_X11_isCapital_49 at hf
  refine lv_iconst (v := (0 : Int32)) hx hb dX11_isCapital_49 (by decide) ?_
  refine lv_istore_n (lv' := [(2, .int (0 : Int32)), (0, .ref (B + 713)), (1, .int v1), (3, .int v3)]) hx hb dX11_isCapital_50 rfl hl (by decide) rfl (fun ls hl => ?_)
  refine b_let hf (fun x1 he hf => ?_)
  refine lv_iinc (v := x1) (lv' := [(3, .int x1), (2, .int (0 : Int32)), (0, .ref (B + 713)), (1, .int v1)]) hx hb dX11_isCapital_51 hl (k := 3) rfl (by rw [← he]; rfl) (by decide) rfl (fun ls hl => ?_)
  refine lv_goto (tgt := 4) hx hb dX11_isCapital_54 (by decide) ?_
  exact hr_4 v1 (0 : Int32) x1 w hf isZ_0 _ _ _ hH (lv_sub hl [2, 3, 1, 0] rfl)
set_option maxRecDepth 100000 in
set_option maxHeartbeats 4000000 in
theorem tb_X11_isCapital_4 {D : va_G} {B : Nat} {Y : Nat → ClassId} {p : Program} {l : Launch} {e : Env} {s : State} {m : MethodId} {args : Array Value} {below : List Frame} {meth : Method} {c : Code} {z : (Int32 × Wd)} {H : Heap} {locs : List Loc} {ls : Array Slot} {w : Wd} {v1 : Int32} {v2 : Int32} {v3 : Int32} (C : CX D B Y p s m args meth c cX11_isCapital 4 RX11 (some .boolean))  {rc_4 : Int32 × Int32 × Int32 × Wd → Option (Int32 × Wd)} (hr_4 : ∀ (v1 : Int32) (v2 : Int32) (v3 : Int32) (w : Wd), rc_4 (v1, v2, v3, w) = some z → isZ v2 → ∀ (H : Heap) (locs : List Loc) (ls : Array Slot), HS D B Y w s H locs → lv_has ls 4 [(0, .ref (B + 713)), (1, .int v1), (2, .int v2), (3, .int v3)] → W p l e (RM 1 0 0) s m args below meth c H locs 0 0 (MQ below (QG D B Y (some (.int z.1)) z.2 (isZ z.1)) args s 0 0 (AB B)) (F0 m 4 ls []))   (z_v2 : isZ v2) (hH : HS D B Y w s H locs) (hl : lv_has ls 4 [(0, .ref (B + 713)), (1, .int v1), (2, .int v2), (3, .int v3)]) (hf : g_X11_isCapital_4 rc_4 v1 v2 v3 w = some z) : W p l e (RM 1 0 0) s m args below meth c H locs 0 0 (MQ below (QG D B Y (some (.int z.1)) z.2 (isZ z.1)) args s 0 0 (AB B)) (F0 m 4 ls []) := by
  have hx := C.1
  have hb := C.2.1
  unfold g_X11_isCapital_4 at hf
  refine lv_iload_n hx hb dX11_isCapital_4 rfl (lv_at hl 3 rfl) ?_
  refine lv_bipush (v := (96 : Int32)) hx hb dX11_isCapital_5 (by decide) ?_
  refine b_icmp_ge (tgt := 57) hx hb hf dX11_isCapital_7 (by decide) (fun hf => ?_) (fun hf => ?_)
  · refine lv_iload_n hx hb dX11_isCapital_57 rfl (lv_at hl 2 rfl) ?_
    cases hf
    exact q_retz C hH z_v2 z_v2 dX11_isCapital_58
  · refine lv_iload_n hx hb dX11_isCapital_10 rfl (lv_at hl 2 rfl) ?_
    refine b_if_ne (tgt := 45) hx hb hf dX11_isCapital_11 (by decide) (fun hf => ?_) (fun hf => ?_)
    · refine lv_iconst (v := (1 : Int32)) hx hb dX11_isCapital_45 (by decide) ?_
      refine lv_goto (tgt := 50) hx hb dX11_isCapital_46 (by decide) ?_
      refine lv_istore_n (lv' := [(2, .int (1 : Int32)), (0, .ref (B + 713)), (1, .int v1), (3, .int v3)]) hx hb dX11_isCapital_50 rfl hl (by decide) rfl (fun ls hl => ?_)
      refine b_let hf (fun x1 he hf => ?_)
      refine lv_iinc (v := x1) (lv' := [(3, .int x1), (2, .int (1 : Int32)), (0, .ref (B + 713)), (1, .int v1)]) hx hb dX11_isCapital_51 hl (k := 3) rfl (by rw [← he]; rfl) (by decide) rfl (fun ls hl => ?_)
      refine lv_goto (tgt := 4) hx hb dX11_isCapital_54 (by decide) ?_
      exact hr_4 v1 (1 : Int32) x1 w hf isZ_1 _ _ _ hH (lv_sub hl [2, 3, 1, 0] rfl)
    · refine lv_iload_n hx hb dX11_isCapital_14 rfl (lv_at hl 3 rfl) ?_
      refine lv_iload_n hx hb dX11_isCapital_15 rfl (lv_at hl 1 rfl) ?_
      refine b_icmp_eq (tgt := 49) hx hb hf dX11_isCapital_16 (by decide) (fun hf => ?_) (fun hf => ?_)
      · exact t_X11_isCapital_49 C hr_4 hH (lv_sub hl [0, 1, 3] rfl) hf
      · refine lv_aload_n hx hb dX11_isCapital_19 rfl (lv_at hl 0 rfl) ?_
        refine lv_iload_n hx hb dX11_isCapital_20 rfl (lv_at hl 3 rfl) ?_
        refine lv_bipush (v := (6 : Int32)) hx hb dX11_isCapital_21 (by decide) ?_
        obtain ⟨x3, w2, hc, hf⟩ := bd_some hf
        refine q_callV1 (v := .int x3) (As := [.int v3, .int (6 : Int32)]) C hH (ci := 11) rfl (by omega) gk_X11_127 yd_X11_of (by omega) (by omega) kc_713 (c_X11_of hc) hl.1 rfl (Nat.le_of_ble_eq_true rfl) dX11_isCapital_23 ⟨by decide, by decide⟩ (fun H locs hH hP => ?_)
        refine lv_iload_n hx hb dX11_isCapital_26 rfl (lv_at hl 1 rfl) ?_
        refine lv_iconst (v := (1 : Int32)) hx hb dX11_isCapital_27 (by decide) ?_
        refine lv_iadd hx hb dX11_isCapital_28 ?_
        refine b_icmp_eq (tgt := 45) hx hb hf dX11_isCapital_29 (by decide) (fun hf => ?_) (fun hf => ?_)
        · refine lv_iconst (v := (1 : Int32)) hx hb dX11_isCapital_45 (by decide) ?_
          refine lv_goto (tgt := 50) hx hb dX11_isCapital_46 (by decide) ?_
          refine lv_istore_n (lv' := [(2, .int (1 : Int32)), (0, .ref (B + 713)), (1, .int v1), (3, .int v3)]) hx hb dX11_isCapital_50 rfl hl (by decide) rfl (fun ls hl => ?_)
          refine b_let hf (fun x4 he hf => ?_)
          refine lv_iinc (v := x4) (lv' := [(3, .int x4), (2, .int (1 : Int32)), (0, .ref (B + 713)), (1, .int v1)]) hx hb dX11_isCapital_51 hl (k := 3) rfl (by rw [← he]; rfl) (by decide) rfl (fun ls hl => ?_)
          refine lv_goto (tgt := 4) hx hb dX11_isCapital_54 (by decide) ?_
          exact hr_4 v1 (1 : Int32) x4 w2 hf isZ_1 _ _ _ hH (lv_sub hl [2, 3, 1, 0] rfl)
        · refine lv_aload_n hx hb dX11_isCapital_32 rfl (lv_at hl 0 rfl) ?_
          refine lv_iload_n hx hb dX11_isCapital_33 rfl (lv_at hl 3 rfl) ?_
          refine lv_bipush (v := (7 : Int32)) hx hb dX11_isCapital_34 (by decide) ?_
          obtain ⟨x6, w5, hc, hf⟩ := bd_some hf
          refine q_callV1 (v := .int x6) (As := [.int v3, .int (7 : Int32)]) C hH (ci := 11) rfl (by omega) gk_X11_127 yd_X11_of (by omega) (by omega) kc_713 (c_X11_of hc) hl.1 rfl (Nat.le_of_ble_eq_true rfl) dX11_isCapital_36 ⟨by decide, by decide⟩ (fun H locs hH hP => ?_)
          refine lv_iload_n hx hb dX11_isCapital_39 rfl (lv_at hl 1 rfl) ?_
          refine lv_iconst (v := (1 : Int32)) hx hb dX11_isCapital_40 (by decide) ?_
          refine lv_iadd hx hb dX11_isCapital_41 ?_
          refine b_icmp_ne (tgt := 49) hx hb hf dX11_isCapital_42 (by decide) (fun hf => ?_) (fun hf => ?_)
          · exact t_X11_isCapital_49 C hr_4 hH (lv_sub hl [0, 1, 3] rfl) hf
          · refine lv_iconst (v := (1 : Int32)) hx hb dX11_isCapital_45 (by decide) ?_
            refine lv_goto (tgt := 50) hx hb dX11_isCapital_46 (by decide) ?_
            refine lv_istore_n (lv' := [(2, .int (1 : Int32)), (0, .ref (B + 713)), (1, .int v1), (3, .int v3)]) hx hb dX11_isCapital_50 rfl hl (by decide) rfl (fun ls hl => ?_)
            refine b_let hf (fun x7 he hf => ?_)
            refine lv_iinc (v := x7) (lv' := [(3, .int x7), (2, .int (1 : Int32)), (0, .ref (B + 713)), (1, .int v1)]) hx hb dX11_isCapital_51 hl (k := 3) rfl (by rw [← he]; rfl) (by decide) rfl (fun ls hl => ?_)
            refine lv_goto (tgt := 4) hx hb dX11_isCapital_54 (by decide) ?_
            exact hr_4 v1 (1 : Int32) x7 w5 hf isZ_1 _ _ _ hH (lv_sub hl [2, 3, 1, 0] rfl)
set_option maxRecDepth 100000 in
set_option maxHeartbeats 4000000 in
theorem t_X11_isCapital_4 {D : va_G} {B : Nat} {Y : Nat → ClassId} {p : Program} {l : Launch} {e : Env} {s : State} {m : MethodId} {args : Array Value} {below : List Frame} {meth : Method} {c : Code} {z : (Int32 × Wd)} {H : Heap} {locs : List Loc} {ls : Array Slot} {w : Wd} {v1 : Int32} {v2 : Int32} {v3 : Int32} (C : CX D B Y p s m args meth c cX11_isCapital 4 RX11 (some .boolean))    (z_v2 : isZ v2) (hH : HS D B Y w s H locs) (hl : lv_has ls 4 [(0, .ref (B + 713)), (1, .int v1), (2, .int v2), (3, .int v3)]) (hf : f_X11_isCapital_4 v1 v2 v3 w = some z) : W p l e (RM 1 0 0) s m args below meth c H locs 0 0 (MQ below (QG D B Y (some (.int z.1)) z.2 (isZ z.1)) args s 0 0 (AB B)) (F0 m 4 ls []) := by
  exact loopN_ind (z := z) (body := fun rc σ => g_X11_isCapital_4 rc  σ.1 σ.2.1 σ.2.2.1 σ.2.2.2)
    (P := fun σ => isZ σ.2.1 → ∀ (H : Heap) (locs : List Loc) (ls : Array Slot), HS D B Y σ.2.2.2 s H locs → lv_has ls 4 [(0, .ref (B + 713)), (1, .int σ.1), (2, .int σ.2.1), (3, .int σ.2.2.1)] → W p l e (RM 1 0 0) s m args below meth c H locs 0 0 (MQ below (QG D B Y (some (.int z.1)) z.2 (isZ z.1)) args s 0 0 (AB B)) (F0 m 4 ls []))
    (fun rc hrec σ hf z_v2 H locs ls hH hl => tb_X11_isCapital_4 C (fun v1 v2 v3 w hr z_v2 H locs ls hH hl => hrec (v1, v2, v3, w) hr z_v2 H locs ls hH hl)  z_v2 hH hl hf) FU (v1, v2, v3, w) hf z_v2 H locs ls hH hl
set_option maxRecDepth 100000 in
set_option maxHeartbeats 4000000 in
theorem t_X11_isCapital_0 {D : va_G} {B : Nat} {Y : Nat → ClassId} {p : Program} {l : Launch} {e : Env} {s : State} {m : MethodId} {args : Array Value} {below : List Frame} {meth : Method} {c : Code} {z : (Int32 × Wd)} {H : Heap} {locs : List Loc} {ls : Array Slot} {w : Wd} {v1 : Int32} (C : CX D B Y p s m args meth c cX11_isCapital 4 RX11 (some .boolean))     (hH : HS D B Y w s H locs) (hl : lv_has ls 4 [(0, .ref (B + 713)), (1, .int v1)]) (hf : f_X11_isCapital v1 w = some z) : W p l e (RM 1 0 0) s m args below meth c H locs 0 0 (MQ below (QG D B Y (some (.int z.1)) z.2 (isZ z.1)) args s 0 0 (AB B)) (F0 m 0 ls []) := by
  have hx := C.1
  have hb := C.2.1
  unfold f_X11_isCapital at hf
  refine lv_iconst (v := (0 : Int32)) hx hb dX11_isCapital_0 (by decide) ?_
  refine lv_istore_n (lv' := [(2, .int (0 : Int32)), (0, .ref (B + 713)), (1, .int v1)]) hx hb dX11_isCapital_1 rfl hl (by decide) rfl (fun ls hl => ?_)
  refine lv_iconst (v := (0 : Int32)) hx hb dX11_isCapital_2 (by decide) ?_
  refine lv_istore_n (lv' := [(3, .int (0 : Int32)), (2, .int (0 : Int32)), (0, .ref (B + 713)), (1, .int v1)]) hx hb dX11_isCapital_3 rfl hl (by decide) rfl (fun ls hl => ?_)
  exact t_X11_isCapital_4 C isZ_0 hH (lv_sub hl [2, 3, 1, 0] rfl) hf
set_option maxRecDepth 100000 in
theorem c_X11_isCapital {l : Launch} {D : va_G} {B : Nat} {Y : Nat → ClassId} {v1 : Int32} {w : Wd} {r : Int32} {w1 : Wd}   (hf : f_X11_isCapital v1 w = some (r, w1)) : CM l D B Y yX11_isCapital cX11_isCapital 4 (some .boolean) 1 [.ref (B + 713), .int v1] w (some (.int r)) w1 (isZ r) :=
  CM_of (by decide +kernel) (Nat.le_of_ble_eq_true rfl) (fun p e s m args below meth c ls C hH hl => t_X11_isCapital_0 C  hH (lv_sub hl [0, 1] rfl) hf)
/-! LetterTablesModel.hasLetter -/
set_option maxRecDepth 100000 in
set_option maxHeartbeats 4000000 in
theorem t_X11_hasLetter_94 {D : va_G} {B : Nat} {Y : Nat → ClassId} {p : Program} {l : Launch} {e : Env} {s : State} {m : MethodId} {args : Array Value} {below : List Frame} {meth : Method} {c : Code} {z : (Int32 × Wd)} {H : Heap} {locs : List Loc} {ls : Array Slot} {w : Wd} {t0 : Int32} {t1 : Int32} (C : CX D B Y p s m args meth c cX11_hasLetter 6 RX11 (some .boolean))    (z_t0 : isZ t0) (z_t1 : isZ t1) (hH : HS D B Y w s H locs) (hl : lv_has ls 6 []) (hf : f_X11_hasLetter_94 t0 t1 w = some z) : W p l e (RM 2 0 0) s m args below meth c H locs 0 0 (MQ below (QG D B Y (some (.int z.1)) z.2 (isZ z.1)) args s 0 0 (AB B)) (F0 m 94 ls [.int t1, .int t0]) := by
  have hx := C.1
  have hb := C.2.1
  unfold f_X11_hasLetter_94 at hf
  refine b_icmp_eq (tgt := 101) hx hb hf dX11_hasLetter_94 (by decide) (fun hf => ?_) (fun hf => ?_)
  · refine lv_iconst (v := (0 : Int32)) hx hb dX11_hasLetter_101 (by decide) ?_
    cases hf
    exact q_retz C hH isZ_0 isZ_0 dX11_hasLetter_102
  · refine lv_iconst (v := (1 : Int32)) hx hb dX11_hasLetter_97 (by decide) ?_
    refine lv_goto (tgt := 102) hx hb dX11_hasLetter_98 (by decide) ?_
    cases hf
    exact q_retz C hH isZ_1 isZ_1 dX11_hasLetter_102
set_option maxRecDepth 100000 in
set_option maxHeartbeats 4000000 in
theorem t_X11_hasLetter_81 {D : va_G} {B : Nat} {Y : Nat → ClassId} {p : Program} {l : Launch} {e : Env} {s : State} {m : MethodId} {args : Array Value} {below : List Frame} {meth : Method} {c : Code} {z : (Int32 × Wd)} {H : Heap} {locs : List Loc} {ls : Array Slot} {w : Wd} {v1 : Int32} {t0 : Int32} (C : CX D B Y p s m args meth c cX11_hasLetter 6 RX11 (some .boolean))    (z_t0 : isZ t0) (hH : HS D B Y w s H locs) (hl : lv_has ls 6 [(1, .int v1)]) (hf : f_X11_hasLetter_81 v1 t0 w = some z) : W p l e (RM 2 0 0) s m args below meth c H locs 0 0 (MQ below (QG D B Y (some (.int z.1)) z.2 (isZ z.1)) args s 0 0 (AB B)) (F0 m 81 ls [.int t0]) := by
  have hx := C.1
  have hb := C.2.1
  unfold f_X11_hasLetter_81 at hf
  refine lv_istore (lv' := [(5, .int t0), (1, .int v1)]) hx hb dX11_hasLetter_81 hl (by decide) rfl (fun ls hl => ?_)
  refine lv_iload hx hb dX11_hasLetter_83 (lv_at hl 0 rfl) ?_
  refine lv_iload_n hx hb dX11_hasLetter_85 rfl (lv_at hl 1 rfl) ?_
  refine b_if_ge (tgt := 93) hx hb hf dX11_hasLetter_86 (by decide) (fun hf => ?_) (fun hf => ?_)
  · refine lv_iconst (v := (0 : Int32)) hx hb dX11_hasLetter_93 (by decide) ?_
    exact t_X11_hasLetter_94 C z_t0 isZ_0 hH (lv_sub hl [] rfl) hf
  · refine lv_iconst (v := (1 : Int32)) hx hb dX11_hasLetter_89 (by decide) ?_
    refine lv_goto (tgt := 94) hx hb dX11_hasLetter_90 (by decide) ?_
    exact t_X11_hasLetter_94 C z_t0 isZ_1 hH (lv_sub hl [] rfl) hf
set_option maxRecDepth 100000 in
set_option maxHeartbeats 4000000 in
theorem t_X11_hasLetter_73 {D : va_G} {B : Nat} {Y : Nat → ClassId} {p : Program} {l : Launch} {e : Env} {s : State} {m : MethodId} {args : Array Value} {below : List Frame} {meth : Method} {c : Code} {z : (Int32 × Wd)} {H : Heap} {locs : List Loc} {ls : Array Slot} {w : Wd} {v1 : Int32} {t0 : Int32} {t1 : Int32} (C : CX D B Y p s m args meth c cX11_hasLetter 6 RX11 (some .boolean))     (hH : HS D B Y w s H locs) (hl : lv_has ls 6 [(1, .int v1)]) (hf : f_X11_hasLetter_73 v1 t0 t1 w = some z) : W p l e (RM 2 0 0) s m args below meth c H locs 0 0 (MQ below (QG D B Y (some (.int z.1)) z.2 (isZ z.1)) args s 0 0 (AB B)) (F0 m 73 ls [.int t1, .int t0]) := by
  have hx := C.1
  have hb := C.2.1
  unfold f_X11_hasLetter_73 at hf
  refine b_icmp_ne (tgt := 80) hx hb hf dX11_hasLetter_73 (by decide) (fun hf => ?_) (fun hf => ?_)
  · refine lv_iconst (v := (0 : Int32)) hx hb dX11_hasLetter_80 (by decide) ?_
    exact t_X11_hasLetter_81 C isZ_0 hH (lv_sub hl [0] rfl) hf
  · refine lv_iconst (v := (1 : Int32)) hx hb dX11_hasLetter_76 (by decide) ?_
    refine lv_goto (tgt := 81) hx hb dX11_hasLetter_77 (by decide) ?_
    exact t_X11_hasLetter_81 C isZ_1 hH (lv_sub hl [0] rfl) hf
set_option maxRecDepth 100000 in
set_option maxHeartbeats 4000000 in
theorem t_X11_hasLetter_11 {D : va_G} {B : Nat} {Y : Nat → ClassId} {p : Program} {l : Launch} {e : Env} {s : State} {m : MethodId} {args : Array Value} {below : List Frame} {meth : Method} {c : Code} {z : (Int32 × Wd)} {H : Heap} {locs : List Loc} {ls : Array Slot} {w : Wd} {v1 : Int32} {v2 : Int32} {t0 : Int32} (C : CX D B Y p s m args meth c cX11_hasLetter 6 RX11 (some .boolean))     (hH : HS D B Y w s H locs) (hl : lv_has ls 6 [(0, .ref (B + 713)), (1, .int v1), (2, .int v2)]) (hf : f_X11_hasLetter_11 v1 v2 t0 w = some z) : W p l e (RM 2 0 0) s m args below meth c H locs 0 0 (MQ below (QG D B Y (some (.int z.1)) z.2 (isZ z.1)) args s 0 0 (AB B)) (F0 m 11 ls [.int t0]) := by
  have hx := C.1
  have hb := C.2.1
  unfold f_X11_hasLetter_11 at hf
  refine lv_istore_n (lv' := [(3, .int t0), (0, .ref (B + 713)), (1, .int v1), (2, .int v2)]) hx hb dX11_hasLetter_11 rfl hl (by decide) rfl (fun ls hl => ?_)
  refine lv_aload_n hx hb dX11_hasLetter_12 rfl (lv_at hl 1 rfl) ?_
  refine lv_iload_n hx hb dX11_hasLetter_13 rfl (lv_at hl 3 rfl) ?_
  refine lv_iconst (v := (2 : Int32)) hx hb dX11_hasLetter_14 (by decide) ?_
  obtain ⟨x2, w1, hc, hf⟩ := bd_some hf
  refine q_callV1 (v := .int x2) (As := [.int v2, .int (2 : Int32)]) C hH (ci := 11) rfl (by omega) gk_X11_127 yd_X11_of (by omega) (by omega) kc_713 (c_X11_of hc) hl.1 rfl (Nat.le_of_ble_eq_true rfl) dX11_hasLetter_15 ⟨by decide, by decide⟩ (fun H locs hH hP => ?_)
  refine lv_istore (lv' := [(4, .int x2), (3, .int t0), (0, .ref (B + 713)), (1, .int v1), (2, .int v2)]) hx hb dX11_hasLetter_18 hl (by decide) rfl (fun ls hl => ?_)
  refine lv_iload_n hx hb dX11_hasLetter_20 rfl (lv_at hl 1 rfl) ?_
  refine lv_bipush (v := (100 : Int32)) hx hb dX11_hasLetter_21 (by decide) ?_
  refine b_icmp_lt (tgt := 42) hx hb hf dX11_hasLetter_23 (by decide) (fun hf => ?_) (fun hf => ?_)
  · refine lv_iload_n hx hb dX11_hasLetter_42 rfl (lv_at hl 1 rfl) ?_
    refine lv_bipush (v := (6 : Int32)) hx hb dX11_hasLetter_43 (by decide) ?_
    refine b_icmp_ne (tgt := 56) hx hb hf dX11_hasLetter_45 (by decide) (fun hf => ?_) (fun hf => ?_)
    · refine lv_iload_n hx hb dX11_hasLetter_56 rfl (lv_at hl 1 rfl) ?_
      refine b_if_eq (tgt := 76) hx hb hf dX11_hasLetter_57 (by decide) (fun hf => ?_) (fun hf => ?_)
      · refine lv_iconst (v := (1 : Int32)) hx hb dX11_hasLetter_76 (by decide) ?_
        refine lv_goto (tgt := 81) hx hb dX11_hasLetter_77 (by decide) ?_
        exact t_X11_hasLetter_81 C isZ_1 hH (lv_sub hl [3] rfl) hf
      · refine lv_iload hx hb dX11_hasLetter_60 (lv_at hl 0 rfl) ?_
        refine lv_iload_n hx hb dX11_hasLetter_62 rfl (lv_at hl 1 rfl) ?_
        refine lv_iconst (v := (5 : Int32)) hx hb dX11_hasLetter_63 (by decide) ?_
        refine b_icmp_ne (tgt := 72) hx hb hf dX11_hasLetter_64 (by decide) (fun hf => ?_) (fun hf => ?_)
        · refine lv_iload_n hx hb dX11_hasLetter_72 rfl (lv_at hl 1 rfl) ?_
          exact t_X11_hasLetter_73 C hH (lv_sub hl [3] rfl) hf
        · refine lv_bipush (v := (6 : Int32)) hx hb dX11_hasLetter_67 (by decide) ?_
          refine lv_goto (tgt := 73) hx hb dX11_hasLetter_69 (by decide) ?_
          exact t_X11_hasLetter_73 C hH (lv_sub hl [3] rfl) hf
    · refine lv_aload_n hx hb dX11_hasLetter_48 rfl (lv_at hl 2 rfl) ?_
      refine lv_iload_n hx hb dX11_hasLetter_49 rfl (lv_at hl 4 rfl) ?_
      obtain ⟨x4, w3, hc, hf⟩ := bd_some hf
      refine q_callV1 (v := .int x4) (As := [.int v2]) C hH (ci := 11) rfl (by omega) gk_X11_305 yd_X11_isCapital (by omega) (by omega) kc_713 (c_X11_isCapital hc) hl.1 rfl (Nat.le_of_ble_eq_true rfl) dX11_hasLetter_50 ⟨by decide, by decide⟩ (fun H locs hH z_x4 => ?_)
      refine lv_goto (tgt := 81) hx hb dX11_hasLetter_53 (by decide) ?_
      exact t_X11_hasLetter_81 C z_x4 hH (lv_sub hl [3] rfl) hf
  · refine lv_iload_n hx hb dX11_hasLetter_26 rfl (lv_at hl 4 rfl) ?_
    refine lv_iload_n hx hb dX11_hasLetter_27 rfl (lv_at hl 1 rfl) ?_
    refine lv_bipush (v := (100 : Int32)) hx hb dX11_hasLetter_28 (by decide) ?_
    refine lv_isub hx hb dX11_hasLetter_30 ?_
    refine b_icmp_ne (tgt := 38) hx hb hf dX11_hasLetter_31 (by decide) (fun hf => ?_) (fun hf => ?_)
    · refine lv_iconst (v := (0 : Int32)) hx hb dX11_hasLetter_38 (by decide) ?_
      refine lv_goto (tgt := 81) hx hb dX11_hasLetter_39 (by decide) ?_
      exact t_X11_hasLetter_81 C isZ_0 hH (lv_sub hl [3] rfl) hf
    · refine lv_iconst (v := (1 : Int32)) hx hb dX11_hasLetter_34 (by decide) ?_
      refine lv_goto (tgt := 81) hx hb dX11_hasLetter_35 (by decide) ?_
      exact t_X11_hasLetter_81 C isZ_1 hH (lv_sub hl [3] rfl) hf
set_option maxRecDepth 100000 in
set_option maxHeartbeats 4000000 in
theorem t_X11_hasLetter_0 {D : va_G} {B : Nat} {Y : Nat → ClassId} {p : Program} {l : Launch} {e : Env} {s : State} {m : MethodId} {args : Array Value} {below : List Frame} {meth : Method} {c : Code} {z : (Int32 × Wd)} {H : Heap} {locs : List Loc} {ls : Array Slot} {w : Wd} {v1 : Int32} {v2 : Int32} (C : CX D B Y p s m args meth c cX11_hasLetter 6 RX11 (some .boolean))     (hH : HS D B Y w s H locs) (hl : lv_has ls 6 [(0, .ref (B + 713)), (1, .int v1), (2, .int v2)]) (hf : f_X11_hasLetter v1 v2 w = some z) : W p l e (RM 2 0 0) s m args below meth c H locs 0 0 (MQ below (QG D B Y (some (.int z.1)) z.2 (isZ z.1)) args s 0 0 (AB B)) (F0 m 0 ls []) := by
  have hx := C.1
  have hb := C.2.1
  unfold f_X11_hasLetter at hf
  refine lv_iload_n hx hb dX11_hasLetter_0 rfl (lv_at hl 1 rfl) ?_
  refine b_if_ge (tgt := 10) hx hb hf dX11_hasLetter_1 (by decide) (fun hf => ?_) (fun hf => ?_)
  · refine lv_iload_n hx hb dX11_hasLetter_10 rfl (lv_at hl 1 rfl) ?_
    exact t_X11_hasLetter_11 C hH (lv_sub hl [0, 1, 2] rfl) hf
  · refine lv_iconst (v := (-1 : Int32)) hx hb dX11_hasLetter_4 (by decide) ?_
    refine lv_iload_n hx hb dX11_hasLetter_5 rfl (lv_at hl 1 rfl) ?_
    refine lv_isub hx hb dX11_hasLetter_6 ?_
    refine lv_goto (tgt := 11) hx hb dX11_hasLetter_7 (by decide) ?_
    exact t_X11_hasLetter_11 C hH (lv_sub hl [0, 1, 2] rfl) hf
set_option maxRecDepth 100000 in
theorem c_X11_hasLetter {l : Launch} {D : va_G} {B : Nat} {Y : Nat → ClassId} {v1 : Int32} {v2 : Int32} {w : Wd} {r : Int32} {w1 : Wd}   (hf : f_X11_hasLetter v1 v2 w = some (r, w1)) : CM l D B Y yX11_hasLetter cX11_hasLetter 6 (some .boolean) 2 [.ref (B + 713), .int v1, .int v2] w (some (.int r)) w1 (isZ r) :=
  CM_of (by decide +kernel) (Nat.le_of_ble_eq_true rfl) (fun p e s m args below meth c ls C hH hl => t_X11_hasLetter_0 C  hH (lv_sub hl [0, 1, 2] rfl) hf)
/-! LetterTablesModel.takes -/
set_option maxRecDepth 100000 in
set_option maxHeartbeats 4000000 in
theorem t_X11_takes_0 {D : va_G} {B : Nat} {Y : Nat → ClassId} {p : Program} {l : Launch} {e : Env} {s : State} {m : MethodId} {args : Array Value} {below : List Frame} {meth : Method} {c : Code} {z : (Int32 × Wd)} {H : Heap} {locs : List Loc} {ls : Array Slot} {w : Wd} {v1 : Int32} {v2 : Int32} {v3 : Int32} (C : CX D B Y p s m args meth c cX11_takes 4 RX11 (some .boolean))     (hH : HS D B Y w s H locs) (hl : lv_has ls 4 [(0, .ref (B + 713)), (1, .int v1), (2, .int v2), (3, .int v3)]) (hf : f_X11_takes v1 v2 v3 w = some z) : W p l e (RM 3 0 0) s m args below meth c H locs 0 0 (MQ below (QG D B Y (some (.int z.1)) z.2 (isZ z.1)) args s 0 0 (AB B)) (F0 m 0 ls []) := by
  have hx := C.1
  have hb := C.2.1
  unfold f_X11_takes at hf
  refine lv_iload_n hx hb dX11_takes_0 rfl (lv_at hl 2 rfl) ?_
  refine lv_aload_n hx hb dX11_takes_1 rfl (lv_at hl 0 rfl) ?_
  refine fg_X11_19 C hH dX11_takes_2 ?_
  refine lv_iload_n hx hb dX11_takes_5 rfl (lv_at hl 1 rfl) ?_
  refine g_iald C hH kc_717 hf dX11_takes_6 (fun x1 hf => ?_)
  refine b_icmp_ge (tgt := 29) hx hb hf dX11_takes_7 (by decide) (fun hf => ?_) (fun hf => ?_)
  · refine lv_iconst (v := (0 : Int32)) hx hb dX11_takes_29 (by decide) ?_
    cases hf
    exact q_retz C hH isZ_0 isZ_0 dX11_takes_30
  · refine lv_aload_n hx hb dX11_takes_10 rfl (lv_at hl 0 rfl) ?_
    refine lv_aload_n hx hb dX11_takes_11 rfl (lv_at hl 0 rfl) ?_
    refine fg_X11_77 C hH dX11_takes_12 ?_
    refine lv_iload_n hx hb dX11_takes_15 rfl (lv_at hl 3 rfl) ?_
    refine g_iald C hH kc_736 hf dX11_takes_16 (fun x2 hf => ?_)
    refine lv_aload_n hx hb dX11_takes_17 rfl (lv_at hl 0 rfl) ?_
    refine lv_iload_n hx hb dX11_takes_18 rfl (lv_at hl 1 rfl) ?_
    refine lv_iload_n hx hb dX11_takes_19 rfl (lv_at hl 2 rfl) ?_
    obtain ⟨x4, w3, hc, hf⟩ := bd_some hf
    refine q_callV1 (v := .int x4) (As := [.int v1, .int v2]) C hH (ci := 11) rfl (by omega) gk_X11_148 yd_X11_letterAt (by omega) (by omega) kc_713 (c_X11_letterAt hc) hl.1 rfl (Nat.le_of_ble_eq_true rfl) dX11_takes_20 ⟨by decide, by decide⟩ (fun H locs hH hP => ?_)
    obtain ⟨x6, w5, hc, hf⟩ := bd_some hf
    refine q_callV1 (v := .int x6) (As := [.int x2, .int x4]) C hH (ci := 11) rfl (by omega) gk_X11_308 yd_X11_hasLetter (by omega) (by omega) kc_713 (c_X11_hasLetter hc) hl.1 rfl (Nat.le_of_ble_eq_true rfl) dX11_takes_23 ⟨by decide, by decide⟩ (fun H locs hH z_x6 => ?_)
    refine b_if_ne (tgt := 31) hx hb hf dX11_takes_26 (by decide) (fun hf => ?_) (fun hf => ?_)
    · refine lv_aload_n hx hb dX11_takes_31 rfl (lv_at hl 0 rfl) ?_
      refine fg_X11_80 C hH dX11_takes_32 ?_
      refine lv_iload_n hx hb dX11_takes_35 rfl (lv_at hl 3 rfl) ?_
      refine g_iald C hH kc_737 hf dX11_takes_36 (fun x7 hf => ?_)
      refine lv_sipush (v := (999 : Int32)) hx hb dX11_takes_37 (by decide) ?_
      refine b_icmp_eq (tgt := 68) hx hb hf dX11_takes_40 (by decide) (fun hf => ?_) (fun hf => ?_)
      · refine lv_iconst (v := (1 : Int32)) hx hb dX11_takes_68 (by decide) ?_
        refine lv_goto (tgt := 73) hx hb dX11_takes_69 (by decide) ?_
        cases hf
        exact q_retz C hH isZ_1 isZ_1 dX11_takes_73
      · refine lv_iload_n hx hb dX11_takes_43 rfl (lv_at hl 2 rfl) ?_
        refine b_if_le (tgt := 72) hx hb hf dX11_takes_44 (by decide) (fun hf => ?_) (fun hf => ?_)
        · refine lv_iconst (v := (0 : Int32)) hx hb dX11_takes_72 (by decide) ?_
          cases hf
          exact q_retz C hH isZ_0 isZ_0 dX11_takes_73
        · refine lv_aload_n hx hb dX11_takes_47 rfl (lv_at hl 0 rfl) ?_
          refine lv_aload_n hx hb dX11_takes_48 rfl (lv_at hl 0 rfl) ?_
          refine fg_X11_80 C hH dX11_takes_49 ?_
          refine lv_iload_n hx hb dX11_takes_52 rfl (lv_at hl 3 rfl) ?_
          refine g_iald C hH kc_737 hf dX11_takes_53 (fun x8 hf => ?_)
          refine lv_aload_n hx hb dX11_takes_54 rfl (lv_at hl 0 rfl) ?_
          refine lv_iload_n hx hb dX11_takes_55 rfl (lv_at hl 1 rfl) ?_
          refine lv_iload_n hx hb dX11_takes_56 rfl (lv_at hl 2 rfl) ?_
          refine lv_iconst (v := (1 : Int32)) hx hb dX11_takes_57 (by decide) ?_
          refine lv_isub hx hb dX11_takes_58 ?_
          obtain ⟨x10, w9, hc, hf⟩ := bd_some hf
          refine q_callV1 (v := .int x10) (As := [.int v1, .int (v2 - (1 : Int32))]) C hH (ci := 11) rfl (by omega) gk_X11_148 yd_X11_letterAt (by omega) (by omega) kc_713 (c_X11_letterAt hc) hl.1 rfl (Nat.le_of_ble_eq_true rfl) dX11_takes_59 ⟨by decide, by decide⟩ (fun H locs hH hP => ?_)
          obtain ⟨x12, w11, hc, hf⟩ := bd_some hf
          refine q_callV1 (v := .int x12) (As := [.int x8, .int x10]) C hH (ci := 11) rfl (by omega) gk_X11_308 yd_X11_hasLetter (by omega) (by omega) kc_713 (c_X11_hasLetter hc) hl.1 rfl (Nat.le_of_ble_eq_true rfl) dX11_takes_62 ⟨by decide, by decide⟩ (fun H locs hH z_x12 => ?_)
          refine b_if_eq (tgt := 72) hx hb hf dX11_takes_65 (by decide) (fun hf => ?_) (fun hf => ?_)
          · refine lv_iconst (v := (0 : Int32)) hx hb dX11_takes_72 (by decide) ?_
            cases hf
            exact q_retz C hH isZ_0 isZ_0 dX11_takes_73
          · refine lv_iconst (v := (1 : Int32)) hx hb dX11_takes_68 (by decide) ?_
            refine lv_goto (tgt := 73) hx hb dX11_takes_69 (by decide) ?_
            cases hf
            exact q_retz C hH isZ_1 isZ_1 dX11_takes_73
    · refine lv_iconst (v := (0 : Int32)) hx hb dX11_takes_29 (by decide) ?_
      cases hf
      exact q_retz C hH isZ_0 isZ_0 dX11_takes_30
set_option maxRecDepth 100000 in
theorem c_X11_takes {l : Launch} {D : va_G} {B : Nat} {Y : Nat → ClassId} {v1 : Int32} {v2 : Int32} {v3 : Int32} {w : Wd} {r : Int32} {w1 : Wd}   (hf : f_X11_takes v1 v2 v3 w = some (r, w1)) : CM l D B Y yX11_takes cX11_takes 4 (some .boolean) 3 [.ref (B + 713), .int v1, .int v2, .int v3] w (some (.int r)) w1 (isZ r) :=
  CM_of (by decide +kernel) (Nat.le_of_ble_eq_true rfl) (fun p e s m args below meth c ls C hH hl => t_X11_takes_0 C  hH (lv_sub hl [0, 1, 2, 3] rfl) hf)
/-! LetterTablesModel.matches -/
set_option maxRecDepth 100000 in
set_option maxHeartbeats 4000000 in
theorem tb_X11_matches_223 {D : va_G} {B : Nat} {Y : Nat → ClassId} {p : Program} {l : Launch} {e : Env} {s : State} {m : MethodId} {args : Array Value} {below : List Frame} {meth : Method} {c : Code} {z : (Int32 × Wd)} {H : Heap} {locs : List Loc} {ls : Array Slot} {w : Wd} {v3 : Int32} {v4 : Int32} (C : CX D B Y p s m args meth c cX11_matches 6 RX11 (some .int))  {rc_223 : Int32 × Int32 × Wd → Option (Int32 × Wd)} (hr_223 : ∀ (v3 : Int32) (v4 : Int32) (w : Wd), rc_223 (v3, v4, w) = some z → ∀ (H : Heap) (locs : List Loc) (ls : Array Slot), HS D B Y w s H locs → lv_has ls 6 [(0, .ref (B + 713)), (3, .int v3), (4, .int v4)] → W p l e (RM 4 0 0) s m args below meth c H locs 0 0 (MQ below (QG D B Y (some (.int z.1)) z.2 True) args s 0 0 (AB B)) (F0 m 223 ls []))    (hH : HS D B Y w s H locs) (hl : lv_has ls 6 [(0, .ref (B + 713)), (3, .int v3), (4, .int v4)]) (hf : g_X11_matches_223 rc_223 v3 v4 w = some z) : W p l e (RM 4 0 0) s m args below meth c H locs 0 0 (MQ below (QG D B Y (some (.int z.1)) z.2 True) args s 0 0 (AB B)) (F0 m 223 ls []) := by
  have hx := C.1
  have hb := C.2.1
  unfold g_X11_matches_223 at hf
  refine lv_iload hx hb dX11_matches_223 (lv_at hl 2 rfl) ?_
  refine lv_bipush (v := (40 : Int32)) hx hb dX11_matches_225 (by decide) ?_
  refine b_icmp_gt (tgt := 253) hx hb hf dX11_matches_227 (by decide) (fun hf => ?_) (fun hf => ?_)
  · refine lv_iload_n hx hb dX11_matches_253 rfl (lv_at hl 1 rfl) ?_
    cases hf
    exact q_reti C hH trivial dX11_matches_254
  · refine lv_aload_n hx hb dX11_matches_230 rfl (lv_at hl 0 rfl) ?_
    refine fg_X11_86 C hH dX11_matches_231 ?_
    refine lv_iload hx hb dX11_matches_234 (lv_at hl 2 rfl) ?_
    refine g_zald C hH kc_739 hf dX11_matches_236 (fun x1 hf => ?_)
    refine b_if_eq (tgt := 245) hx hb hf dX11_matches_237 (by decide) (fun hf => ?_) (fun hf => ?_)
    · refine lv_iload_n hx hb dX11_matches_245 rfl (lv_at hl 1 rfl) ?_
      refine lv_istore_n (lv' := [(3, .int v3), (0, .ref (B + 713)), (4, .int v4)]) hx hb dX11_matches_246 rfl hl (by decide) rfl (fun ls hl => ?_)
      refine b_let hf (fun x2 he hf => ?_)
      refine lv_iinc (v := x2) (lv' := [(4, .int x2), (3, .int v3), (0, .ref (B + 713))]) hx hb dX11_matches_247 hl (k := 2) rfl (by rw [← he]; rfl) (by decide) rfl (fun ls hl => ?_)
      refine lv_goto (tgt := 223) hx hb dX11_matches_250 (by decide) ?_
      exact hr_223 v3 x2 w hf _ _ _ hH (lv_sub hl [2, 1, 0] rfl)
    · refine lv_iload hx hb dX11_matches_240 (lv_at hl 2 rfl) ?_
      refine lv_goto (tgt := 246) hx hb dX11_matches_242 (by decide) ?_
      refine lv_istore_n (lv' := [(3, .int v4), (0, .ref (B + 713)), (4, .int v4)]) hx hb dX11_matches_246 rfl hl (by decide) rfl (fun ls hl => ?_)
      refine b_let hf (fun x3 he hf => ?_)
      refine lv_iinc (v := x3) (lv' := [(4, .int x3), (3, .int v4), (0, .ref (B + 713))]) hx hb dX11_matches_247 hl (k := 2) rfl (by rw [← he]; rfl) (by decide) rfl (fun ls hl => ?_)
      refine lv_goto (tgt := 223) hx hb dX11_matches_250 (by decide) ?_
      exact hr_223 v4 x3 w hf _ _ _ hH (lv_sub hl [2, 1, 0] rfl)
set_option maxRecDepth 100000 in
set_option maxHeartbeats 4000000 in
theorem t_X11_matches_223 {D : va_G} {B : Nat} {Y : Nat → ClassId} {p : Program} {l : Launch} {e : Env} {s : State} {m : MethodId} {args : Array Value} {below : List Frame} {meth : Method} {c : Code} {z : (Int32 × Wd)} {H : Heap} {locs : List Loc} {ls : Array Slot} {w : Wd} {v3 : Int32} {v4 : Int32} (C : CX D B Y p s m args meth c cX11_matches 6 RX11 (some .int))     (hH : HS D B Y w s H locs) (hl : lv_has ls 6 [(0, .ref (B + 713)), (3, .int v3), (4, .int v4)]) (hf : f_X11_matches_223 v3 v4 w = some z) : W p l e (RM 4 0 0) s m args below meth c H locs 0 0 (MQ below (QG D B Y (some (.int z.1)) z.2 True) args s 0 0 (AB B)) (F0 m 223 ls []) := by
  exact loopN_ind (z := z) (body := fun rc σ => g_X11_matches_223 rc  σ.1 σ.2.1 σ.2.2)
    (P := fun σ => ∀ (H : Heap) (locs : List Loc) (ls : Array Slot), HS D B Y σ.2.2 s H locs → lv_has ls 6 [(0, .ref (B + 713)), (3, .int σ.1), (4, .int σ.2.1)] → W p l e (RM 4 0 0) s m args below meth c H locs 0 0 (MQ below (QG D B Y (some (.int z.1)) z.2 True) args s 0 0 (AB B)) (F0 m 223 ls []))
    (fun rc hrec σ hf  H locs ls hH hl => tb_X11_matches_223 C (fun v3 v4 w hr  H locs ls hH hl => hrec (v3, v4, w) hr  H locs ls hH hl)   hH hl hf) FU (v3, v4, w) hf  H locs ls hH hl
set_option maxRecDepth 100000 in
set_option maxHeartbeats 4000000 in
theorem tb_X11_matches_185 {D : va_G} {B : Nat} {Y : Nat → ClassId} {p : Program} {l : Launch} {e : Env} {s : State} {m : MethodId} {args : Array Value} {below : List Frame} {meth : Method} {c : Code} {z : (Int32 × Wd)} {H : Heap} {locs : List Loc} {ls : Array Slot} {w : Wd} {v1 : Int32} {v3 : Int32} {v4 : Int32} (C : CX D B Y p s m args meth c cX11_matches 6 RX11 (some .int))  {rc_185 : Int32 × Int32 × Int32 × Wd → Option (Int32 × Wd)} (hr_185 : ∀ (v1 : Int32) (v3 : Int32) (v4 : Int32) (w : Wd), rc_185 (v1, v3, v4, w) = some z → ∀ (H : Heap) (locs : List Loc) (ls : Array Slot), HS D B Y w s H locs → lv_has ls 6 [(0, .ref (B + 713)), (1, .int v1), (3, .int v3), (4, .int v4)] → W p l e (RM 4 0 0) s m args below meth c H locs 0 0 (MQ below (QG D B Y (some (.int z.1)) z.2 True) args s 0 0 (AB B)) (F0 m 185 ls [])) {rc_32 : Int32 × Int32 × Wd → Option (Int32 × Wd)} (hr_32 : ∀ (v1 : Int32) (v3 : Int32) (w : Wd), rc_32 (v1, v3, w) = some z → ∀ (H : Heap) (locs : List Loc) (ls : Array Slot), HS D B Y w s H locs → lv_has ls 6 [(0, .ref (B + 713)), (1, .int v1), (3, .int v3)] → W p l e (RM 4 0 0) s m args below meth c H locs 0 0 (MQ below (QG D B Y (some (.int z.1)) z.2 True) args s 0 0 (AB B)) (F0 m 32 ls []))    (hH : HS D B Y w s H locs) (hl : lv_has ls 6 [(0, .ref (B + 713)), (1, .int v1), (3, .int v3), (4, .int v4)]) (hf : g_X11_matches_185 rc_185 rc_32 v1 v3 v4 w = some z) : W p l e (RM 4 0 0) s m args below meth c H locs 0 0 (MQ below (QG D B Y (some (.int z.1)) z.2 True) args s 0 0 (AB B)) (F0 m 185 ls []) := by
  have hx := C.1
  have hb := C.2.1
  unfold g_X11_matches_185 at hf
  refine lv_iload hx hb dX11_matches_185 (lv_at hl 3 rfl) ?_
  refine lv_bipush (v := (40 : Int32)) hx hb dX11_matches_187 (by decide) ?_
  refine b_icmp_gt (tgt := 212) hx hb hf dX11_matches_189 (by decide) (fun hf => ?_) (fun hf => ?_)
  · refine b_let hf (fun x1 he hf => ?_)
    refine lv_iinc (v := x1) (lv' := [(3, .int x1), (0, .ref (B + 713)), (1, .int v1), (4, .int v4)]) hx hb dX11_matches_212 hl (k := 2) rfl (by rw [← he]; rfl) (by decide) rfl (fun ls hl => ?_)
    refine lv_goto (tgt := 32) hx hb dX11_matches_215 (by decide) ?_
    exact hr_32 v1 x1 w hf _ _ _ hH (lv_sub hl [1, 2, 0] rfl)
  · refine lv_aload_n hx hb dX11_matches_192 rfl (lv_at hl 0 rfl) ?_
    refine fg_X11_86 C hH dX11_matches_193 ?_
    refine lv_iload hx hb dX11_matches_196 (lv_at hl 3 rfl) ?_
    refine lv_aload_n hx hb dX11_matches_198 rfl (lv_at hl 0 rfl) ?_
    refine fg_X11_89 C hH dX11_matches_199 ?_
    refine lv_iload hx hb dX11_matches_202 (lv_at hl 3 rfl) ?_
    refine g_zald C hH kc_740 hf dX11_matches_204 (fun x2 hf => ?_)
    refine g_zastN C hH kc_739 hf dX11_matches_205 (fun w3 H locs hf hH => ?_)
    refine b_let hf (fun x4 he hf => ?_)
    refine lv_iinc (v := x4) (lv' := [(4, .int x4), (0, .ref (B + 713)), (1, .int v1), (3, .int v3)]) hx hb dX11_matches_206 hl (k := 3) rfl (by rw [← he]; rfl) (by decide) rfl (fun ls hl => ?_)
    refine lv_goto (tgt := 185) hx hb dX11_matches_209 (by decide) ?_
    exact hr_185 v1 v3 x4 w3 hf _ _ _ hH (lv_sub hl [1, 2, 3, 0] rfl)
set_option maxRecDepth 100000 in
set_option maxHeartbeats 4000000 in
theorem t_X11_matches_185 {D : va_G} {B : Nat} {Y : Nat → ClassId} {p : Program} {l : Launch} {e : Env} {s : State} {m : MethodId} {args : Array Value} {below : List Frame} {meth : Method} {c : Code} {z : (Int32 × Wd)} {H : Heap} {locs : List Loc} {ls : Array Slot} {w : Wd} {v1 : Int32} {v3 : Int32} {v4 : Int32} (C : CX D B Y p s m args meth c cX11_matches 6 RX11 (some .int))  {rc_32 : Int32 × Int32 × Wd → Option (Int32 × Wd)} (hr_32 : ∀ (v1 : Int32) (v3 : Int32) (w : Wd), rc_32 (v1, v3, w) = some z → ∀ (H : Heap) (locs : List Loc) (ls : Array Slot), HS D B Y w s H locs → lv_has ls 6 [(0, .ref (B + 713)), (1, .int v1), (3, .int v3)] → W p l e (RM 4 0 0) s m args below meth c H locs 0 0 (MQ below (QG D B Y (some (.int z.1)) z.2 True) args s 0 0 (AB B)) (F0 m 32 ls []))    (hH : HS D B Y w s H locs) (hl : lv_has ls 6 [(0, .ref (B + 713)), (1, .int v1), (3, .int v3), (4, .int v4)]) (hf : f_X11_matches_185 rc_32 v1 v3 v4 w = some z) : W p l e (RM 4 0 0) s m args below meth c H locs 0 0 (MQ below (QG D B Y (some (.int z.1)) z.2 True) args s 0 0 (AB B)) (F0 m 185 ls []) := by
  exact loopN_ind (z := z) (body := fun rc σ => g_X11_matches_185 rc rc_32 σ.1 σ.2.1 σ.2.2.1 σ.2.2.2)
    (P := fun σ => ∀ (H : Heap) (locs : List Loc) (ls : Array Slot), HS D B Y σ.2.2.2 s H locs → lv_has ls 6 [(0, .ref (B + 713)), (1, .int σ.1), (3, .int σ.2.1), (4, .int σ.2.2.1)] → W p l e (RM 4 0 0) s m args below meth c H locs 0 0 (MQ below (QG D B Y (some (.int z.1)) z.2 True) args s 0 0 (AB B)) (F0 m 185 ls []))
    (fun rc hrec σ hf  H locs ls hH hl => tb_X11_matches_185 C (fun v1 v3 v4 w hr  H locs ls hH hl => hrec (v1, v3, v4, w) hr  H locs ls hH hl) hr_32  hH hl hf) FU (v1, v3, v4, w) hf  H locs ls hH hl
set_option maxRecDepth 100000 in
set_option maxHeartbeats 4000000 in
theorem t_X11_matches_174 {D : va_G} {B : Nat} {Y : Nat → ClassId} {p : Program} {l : Launch} {e : Env} {s : State} {m : MethodId} {args : Array Value} {below : List Frame} {meth : Method} {c : Code} {z : (Int32 × Wd)} {H : Heap} {locs : List Loc} {ls : Array Slot} {w : Wd} {v1 : Int32} {v3 : Int32} {v4 : Int32} {t0 : Nat} {t1 : Int32} (C : CX D B Y p s m args meth c cX11_matches 6 RX11 (some .int))  {rc_90 : Int32 × Int32 × Int32 × Wd → Option (Int32 × Wd)} (hr_90 : ∀ (v1 : Int32) (v3 : Int32) (v4 : Int32) (w : Wd), rc_90 (v1, v3, v4, w) = some z → ∀ (H : Heap) (locs : List Loc) (ls : Array Slot), HS D B Y w s H locs → lv_has ls 6 [(0, .ref (B + 713)), (1, .int v1), (3, .int v3), (4, .int v4)] → W p l e (RM 4 0 0) s m args below meth c H locs 0 0 (MQ below (QG D B Y (some (.int z.1)) z.2 True) args s 0 0 (AB B)) (F0 m 90 ls []))  (k_t0 : KD t0 = 21)  (hH : HS D B Y w s H locs) (hl : lv_has ls 6 [(0, .ref (B + 713)), (1, .int v1), (3, .int v3), (4, .int v4)]) (hf : f_X11_matches_174 rc_90 v1 v3 v4 t0 t1 w = some z) : W p l e (RM 4 0 0) s m args below meth c H locs 0 0 (MQ below (QG D B Y (some (.int z.1)) z.2 True) args s 0 0 (AB B)) (F0 m 174 ls [.int t1, .ref (B + t0)]) := by
  have hx := C.1
  have hb := C.2.1
  unfold f_X11_matches_174 at hf
  refine lv_iconst (v := (0 : Int32)) hx hb dX11_matches_174 (by decide) ?_
  refine g_zast C hH k_t0 isZ_0 hf dX11_matches_175 (fun w1 H locs hf hH => ?_)
  refine b_let hf (fun x2 he hf => ?_)
  refine lv_iinc (v := x2) (lv' := [(4, .int x2), (0, .ref (B + 713)), (1, .int v1), (3, .int v3)]) hx hb dX11_matches_176 hl (k := 3) rfl (by rw [← he]; rfl) (by decide) rfl (fun ls hl => ?_)
  refine lv_goto (tgt := 90) hx hb dX11_matches_179 (by decide) ?_
  exact hr_90 v1 v3 x2 w1 hf _ _ _ hH (lv_sub hl [1, 2, 3, 0] rfl)
set_option maxRecDepth 100000 in
set_option maxHeartbeats 4000000 in
theorem t_X11_matches_132 {D : va_G} {B : Nat} {Y : Nat → ClassId} {p : Program} {l : Launch} {e : Env} {s : State} {m : MethodId} {args : Array Value} {below : List Frame} {meth : Method} {c : Code} {z : (Int32 × Wd)} {H : Heap} {locs : List Loc} {ls : Array Slot} {w : Wd} {v1 : Int32} {v3 : Int32} {v4 : Int32} {t0 : Int32} (C : CX D B Y p s m args meth c cX11_matches 6 RX11 (some .int))  {rc_90 : Int32 × Int32 × Int32 × Wd → Option (Int32 × Wd)} (hr_90 : ∀ (v1 : Int32) (v3 : Int32) (v4 : Int32) (w : Wd), rc_90 (v1, v3, v4, w) = some z → ∀ (H : Heap) (locs : List Loc) (ls : Array Slot), HS D B Y w s H locs → lv_has ls 6 [(0, .ref (B + 713)), (1, .int v1), (3, .int v3), (4, .int v4)] → W p l e (RM 4 0 0) s m args below meth c H locs 0 0 (MQ below (QG D B Y (some (.int z.1)) z.2 True) args s 0 0 (AB B)) (F0 m 90 ls []))   (z_t0 : isZ t0) (hH : HS D B Y w s H locs) (hl : lv_has ls 6 [(0, .ref (B + 713)), (1, .int v1), (3, .int v3), (4, .int v4)]) (hf : f_X11_matches_132 rc_90 v1 v3 v4 t0 w = some z) : W p l e (RM 4 0 0) s m args below meth c H locs 0 0 (MQ below (QG D B Y (some (.int z.1)) z.2 True) args s 0 0 (AB B)) (F0 m 132 ls [.int t0]) := by
  have hx := C.1
  have hb := C.2.1
  unfold f_X11_matches_132 at hf
  refine lv_istore (lv' := [(5, .int t0), (0, .ref (B + 713)), (1, .int v1), (3, .int v3), (4, .int v4)]) hx hb dX11_matches_132 hl (by decide) rfl (fun ls hl => ?_)
  refine lv_aload_n hx hb dX11_matches_134 rfl (lv_at hl 1 rfl) ?_
  refine fg_X11_89 C hH dX11_matches_135 ?_
  refine lv_iload hx hb dX11_matches_138 (lv_at hl 4 rfl) ?_
  refine lv_iconst (v := (1 : Int32)) hx hb dX11_matches_140 (by decide) ?_
  refine lv_iadd hx hb dX11_matches_141 ?_
  refine lv_aload_n hx hb dX11_matches_142 rfl (lv_at hl 1 rfl) ?_
  refine fg_X11_89 C hH dX11_matches_143 ?_
  refine lv_iload hx hb dX11_matches_146 (lv_at hl 4 rfl) ?_
  refine lv_iconst (v := (1 : Int32)) hx hb dX11_matches_148 (by decide) ?_
  refine lv_iadd hx hb dX11_matches_149 ?_
  refine g_zald C hH kc_740 hf dX11_matches_150 (fun x1 hf => ?_)
  refine b_if_ne (tgt := 170) hx hb hf dX11_matches_151 (by decide) (fun hf => ?_) (fun hf => ?_)
  · refine lv_iconst (v := (1 : Int32)) hx hb dX11_matches_170 (by decide) ?_
    refine lv_goto (tgt := 175) hx hb dX11_matches_171 (by decide) ?_
    refine g_zast C hH kc_740 isZ_1 hf dX11_matches_175 (fun w2 H locs hf hH => ?_)
    refine b_let hf (fun x3 he hf => ?_)
    refine lv_iinc (v := x3) (lv' := [(4, .int x3), (5, .int t0), (0, .ref (B + 713)), (1, .int v1), (3, .int v3)]) hx hb dX11_matches_176 hl (k := 4) rfl (by rw [← he]; rfl) (by decide) rfl (fun ls hl => ?_)
    refine lv_goto (tgt := 90) hx hb dX11_matches_179 (by decide) ?_
    exact hr_90 v1 v3 x3 w2 hf _ _ _ hH (lv_sub hl [2, 3, 4, 0] rfl)
  · refine lv_iload hx hb dX11_matches_154 (lv_at hl 0 rfl) ?_
    refine b_if_eq (tgt := 174) hx hb hf dX11_matches_156 (by decide) (fun hf => ?_) (fun hf => ?_)
    · exact t_X11_matches_174 C hr_90 kc_740 hH (lv_sub hl [1, 2, 3, 4] rfl) hf
    · refine lv_aload_n hx hb dX11_matches_159 rfl (lv_at hl 1 rfl) ?_
      refine lv_iload_n hx hb dX11_matches_160 rfl (lv_at hl 2 rfl) ?_
      refine lv_iload hx hb dX11_matches_161 (lv_at hl 4 rfl) ?_
      refine lv_iload_n hx hb dX11_matches_163 rfl (lv_at hl 3 rfl) ?_
      obtain ⟨x5, w4, hc, hf⟩ := bd_some hf
      refine q_callV1 (v := .int x5) (As := [.int v1, .int v4, .int v3]) C hH (ci := 11) rfl (by omega) gk_X11_311 yd_X11_takes (by omega) (by omega) kc_713 (c_X11_takes hc) hl.1 rfl (Nat.le_of_ble_eq_true rfl) dX11_matches_164 ⟨by decide, by decide⟩ (fun H locs hH z_x5 => ?_)
      refine b_if_eq (tgt := 174) hx hb hf dX11_matches_167 (by decide) (fun hf => ?_) (fun hf => ?_)
      · exact t_X11_matches_174 C hr_90 kc_740 hH (lv_sub hl [1, 2, 3, 4] rfl) hf
      · refine lv_iconst (v := (1 : Int32)) hx hb dX11_matches_170 (by decide) ?_
        refine lv_goto (tgt := 175) hx hb dX11_matches_171 (by decide) ?_
        refine g_zast C hH kc_740 isZ_1 hf dX11_matches_175 (fun w6 H locs hf hH => ?_)
        refine b_let hf (fun x7 he hf => ?_)
        refine lv_iinc (v := x7) (lv' := [(4, .int x7), (5, .int t0), (0, .ref (B + 713)), (1, .int v1), (3, .int v3)]) hx hb dX11_matches_176 hl (k := 4) rfl (by rw [← he]; rfl) (by decide) rfl (fun ls hl => ?_)
        refine lv_goto (tgt := 90) hx hb dX11_matches_179 (by decide) ?_
        exact hr_90 v1 v3 x7 w6 hf _ _ _ hH (lv_sub hl [2, 3, 4, 0] rfl)
set_option maxRecDepth 100000 in
set_option maxHeartbeats 4000000 in
theorem t_X11_matches_131 {D : va_G} {B : Nat} {Y : Nat → ClassId} {p : Program} {l : Launch} {e : Env} {s : State} {m : MethodId} {args : Array Value} {below : List Frame} {meth : Method} {c : Code} {z : (Int32 × Wd)} {H : Heap} {locs : List Loc} {ls : Array Slot} {w : Wd} {v1 : Int32} {v3 : Int32} {v4 : Int32} (C : CX D B Y p s m args meth c cX11_matches 6 RX11 (some .int))  {rc_90 : Int32 × Int32 × Int32 × Wd → Option (Int32 × Wd)} (hr_90 : ∀ (v1 : Int32) (v3 : Int32) (v4 : Int32) (w : Wd), rc_90 (v1, v3, v4, w) = some z → ∀ (H : Heap) (locs : List Loc) (ls : Array Slot), HS D B Y w s H locs → lv_has ls 6 [(0, .ref (B + 713)), (1, .int v1), (3, .int v3), (4, .int v4)] → W p l e (RM 4 0 0) s m args below meth c H locs 0 0 (MQ below (QG D B Y (some (.int z.1)) z.2 True) args s 0 0 (AB B)) (F0 m 90 ls []))    (hH : HS D B Y w s H locs) (hl : lv_has ls 6 [(0, .ref (B + 713)), (1, .int v1), (3, .int v3), (4, .int v4)]) (hf : f_X11_matches_131 rc_90 v1 v3 v4 w = some z) : W p l e (RM 4 0 0) s m args below meth c H locs 0 0 (MQ below (QG D B Y (some (.int z.1)) z.2 True) args s 0 0 (AB B)) (F0 m 131 ls []) := by
  have hx := C.1
  have hb := C.2.1
  unfold f_X11_matches_131 at hf
  refine lv_iconst (v := (0 : Int32)) hx hb dX11_matches_131 (by decide) ?_
  exact t_X11_matches_132 C hr_90 isZ_0 hH (lv_sub hl [0, 1, 2, 3] rfl) hf
set_option maxRecDepth 100000 in
set_option maxHeartbeats 4000000 in
theorem tb_X11_matches_90 {D : va_G} {B : Nat} {Y : Nat → ClassId} {p : Program} {l : Launch} {e : Env} {s : State} {m : MethodId} {args : Array Value} {below : List Frame} {meth : Method} {c : Code} {z : (Int32 × Wd)} {H : Heap} {locs : List Loc} {ls : Array Slot} {w : Wd} {v1 : Int32} {v3 : Int32} {v4 : Int32} (C : CX D B Y p s m args meth c cX11_matches 6 RX11 (some .int))  {rc_90 : Int32 × Int32 × Int32 × Wd → Option (Int32 × Wd)} (hr_90 : ∀ (v1 : Int32) (v3 : Int32) (v4 : Int32) (w : Wd), rc_90 (v1, v3, v4, w) = some z → ∀ (H : Heap) (locs : List Loc) (ls : Array Slot), HS D B Y w s H locs → lv_has ls 6 [(0, .ref (B + 713)), (1, .int v1), (3, .int v3), (4, .int v4)] → W p l e (RM 4 0 0) s m args below meth c H locs 0 0 (MQ below (QG D B Y (some (.int z.1)) z.2 True) args s 0 0 (AB B)) (F0 m 90 ls [])) {rc_32 : Int32 × Int32 × Wd → Option (Int32 × Wd)} (hr_32 : ∀ (v1 : Int32) (v3 : Int32) (w : Wd), rc_32 (v1, v3, w) = some z → ∀ (H : Heap) (locs : List Loc) (ls : Array Slot), HS D B Y w s H locs → lv_has ls 6 [(0, .ref (B + 713)), (1, .int v1), (3, .int v3)] → W p l e (RM 4 0 0) s m args below meth c H locs 0 0 (MQ below (QG D B Y (some (.int z.1)) z.2 True) args s 0 0 (AB B)) (F0 m 32 ls []))    (hH : HS D B Y w s H locs) (hl : lv_has ls 6 [(0, .ref (B + 713)), (1, .int v1), (3, .int v3), (4, .int v4)]) (hf : g_X11_matches_90 rc_90 rc_32 v1 v3 v4 w = some z) : W p l e (RM 4 0 0) s m args below meth c H locs 0 0 (MQ below (QG D B Y (some (.int z.1)) z.2 True) args s 0 0 (AB B)) (F0 m 90 ls []) := by
  have hx := C.1
  have hb := C.2.1
  unfold g_X11_matches_90 at hf
  refine lv_iload hx hb dX11_matches_90 (lv_at hl 3 rfl) ?_
  refine lv_bipush (v := (40 : Int32)) hx hb dX11_matches_92 (by decide) ?_
  refine b_icmp_ge (tgt := 182) hx hb hf dX11_matches_94 (by decide) (fun hf => ?_) (fun hf => ?_)
  · refine lv_iconst (v := (0 : Int32)) hx hb dX11_matches_182 (by decide) ?_
    refine lv_istore (lv' := [(4, .int (0 : Int32)), (0, .ref (B + 713)), (1, .int v1), (3, .int v3)]) hx hb dX11_matches_183 hl (by decide) rfl (fun ls hl => ?_)
    exact t_X11_matches_185 C hr_32 hH (lv_sub hl [1, 2, 3, 0] rfl) hf
  · refine lv_aload_n hx hb dX11_matches_97 rfl (lv_at hl 0 rfl) ?_
    refine fg_X11_86 C hH dX11_matches_98 ?_
    refine lv_iload hx hb dX11_matches_101 (lv_at hl 3 rfl) ?_
    refine g_zald C hH kc_739 hf dX11_matches_103 (fun x1 hf => ?_)
    refine b_if_ne (tgt := 127) hx hb hf dX11_matches_104 (by decide) (fun hf => ?_) (fun hf => ?_)
    · refine lv_iconst (v := (1 : Int32)) hx hb dX11_matches_127 (by decide) ?_
      refine lv_goto (tgt := 132) hx hb dX11_matches_128 (by decide) ?_
      exact t_X11_matches_132 C hr_90 isZ_1 hH (lv_sub hl [0, 1, 2, 3] rfl) hf
    · refine lv_aload_n hx hb dX11_matches_107 rfl (lv_at hl 0 rfl) ?_
      refine fg_X11_83 C hH dX11_matches_108 ?_
      refine lv_iload_n hx hb dX11_matches_111 rfl (lv_at hl 2 rfl) ?_
      refine g_iald C hH kc_738 hf dX11_matches_112 (fun x2 hf => ?_)
      refine lv_iconst (v := (2 : Int32)) hx hb dX11_matches_113 (by decide) ?_
      refine b_icmp_ne (tgt := 131) hx hb hf dX11_matches_114 (by decide) (fun hf => ?_) (fun hf => ?_)
      · exact t_X11_matches_131 C hr_90 hH (lv_sub hl [0, 1, 2, 3] rfl) hf
      · refine lv_aload_n hx hb dX11_matches_117 rfl (lv_at hl 0 rfl) ?_
        refine fg_X11_89 C hH dX11_matches_118 ?_
        refine lv_iload hx hb dX11_matches_121 (lv_at hl 3 rfl) ?_
        refine g_zald C hH kc_740 hf dX11_matches_123 (fun x3 hf => ?_)
        refine b_if_eq (tgt := 131) hx hb hf dX11_matches_124 (by decide) (fun hf => ?_) (fun hf => ?_)
        · exact t_X11_matches_131 C hr_90 hH (lv_sub hl [0, 1, 2, 3] rfl) hf
        · refine lv_iconst (v := (1 : Int32)) hx hb dX11_matches_127 (by decide) ?_
          refine lv_goto (tgt := 132) hx hb dX11_matches_128 (by decide) ?_
          exact t_X11_matches_132 C hr_90 isZ_1 hH (lv_sub hl [0, 1, 2, 3] rfl) hf
set_option maxRecDepth 100000 in
set_option maxHeartbeats 4000000 in
theorem t_X11_matches_90 {D : va_G} {B : Nat} {Y : Nat → ClassId} {p : Program} {l : Launch} {e : Env} {s : State} {m : MethodId} {args : Array Value} {below : List Frame} {meth : Method} {c : Code} {z : (Int32 × Wd)} {H : Heap} {locs : List Loc} {ls : Array Slot} {w : Wd} {v1 : Int32} {v3 : Int32} {v4 : Int32} (C : CX D B Y p s m args meth c cX11_matches 6 RX11 (some .int))  {rc_32 : Int32 × Int32 × Wd → Option (Int32 × Wd)} (hr_32 : ∀ (v1 : Int32) (v3 : Int32) (w : Wd), rc_32 (v1, v3, w) = some z → ∀ (H : Heap) (locs : List Loc) (ls : Array Slot), HS D B Y w s H locs → lv_has ls 6 [(0, .ref (B + 713)), (1, .int v1), (3, .int v3)] → W p l e (RM 4 0 0) s m args below meth c H locs 0 0 (MQ below (QG D B Y (some (.int z.1)) z.2 True) args s 0 0 (AB B)) (F0 m 32 ls []))    (hH : HS D B Y w s H locs) (hl : lv_has ls 6 [(0, .ref (B + 713)), (1, .int v1), (3, .int v3), (4, .int v4)]) (hf : f_X11_matches_90 rc_32 v1 v3 v4 w = some z) : W p l e (RM 4 0 0) s m args below meth c H locs 0 0 (MQ below (QG D B Y (some (.int z.1)) z.2 True) args s 0 0 (AB B)) (F0 m 90 ls []) := by
  exact loopN_ind (z := z) (body := fun rc σ => g_X11_matches_90 rc rc_32 σ.1 σ.2.1 σ.2.2.1 σ.2.2.2)
    (P := fun σ => ∀ (H : Heap) (locs : List Loc) (ls : Array Slot), HS D B Y σ.2.2.2 s H locs → lv_has ls 6 [(0, .ref (B + 713)), (1, .int σ.1), (3, .int σ.2.1), (4, .int σ.2.2.1)] → W p l e (RM 4 0 0) s m args below meth c H locs 0 0 (MQ below (QG D B Y (some (.int z.1)) z.2 True) args s 0 0 (AB B)) (F0 m 90 ls []))
    (fun rc hrec σ hf  H locs ls hH hl => tb_X11_matches_90 C (fun v1 v3 v4 w hr  H locs ls hH hl => hrec (v1, v3, v4, w) hr  H locs ls hH hl) hr_32  hH hl hf) FU (v1, v3, v4, w) hf  H locs ls hH hl
set_option maxRecDepth 100000 in
set_option maxHeartbeats 4000000 in
theorem t_X11_matches_79 {D : va_G} {B : Nat} {Y : Nat → ClassId} {p : Program} {l : Launch} {e : Env} {s : State} {m : MethodId} {args : Array Value} {below : List Frame} {meth : Method} {c : Code} {z : (Int32 × Wd)} {H : Heap} {locs : List Loc} {ls : Array Slot} {w : Wd} {v1 : Int32} {v3 : Int32} {v4 : Int32} {t0 : Nat} {t1 : Int32} (C : CX D B Y p s m args meth c cX11_matches 6 RX11 (some .int))  {rc_43 : Int32 × Int32 × Int32 × Wd → Option (Int32 × Wd)} (hr_43 : ∀ (v1 : Int32) (v3 : Int32) (v4 : Int32) (w : Wd), rc_43 (v1, v3, v4, w) = some z → ∀ (H : Heap) (locs : List Loc) (ls : Array Slot), HS D B Y w s H locs → lv_has ls 6 [(0, .ref (B + 713)), (1, .int v1), (3, .int v3), (4, .int v4)] → W p l e (RM 4 0 0) s m args below meth c H locs 0 0 (MQ below (QG D B Y (some (.int z.1)) z.2 True) args s 0 0 (AB B)) (F0 m 43 ls []))  (k_t0 : KD t0 = 21)  (hH : HS D B Y w s H locs) (hl : lv_has ls 6 [(0, .ref (B + 713)), (1, .int v1), (3, .int v3), (4, .int v4)]) (hf : f_X11_matches_79 rc_43 v1 v3 v4 t0 t1 w = some z) : W p l e (RM 4 0 0) s m args below meth c H locs 0 0 (MQ below (QG D B Y (some (.int z.1)) z.2 True) args s 0 0 (AB B)) (F0 m 79 ls [.int t1, .ref (B + t0)]) := by
  have hx := C.1
  have hb := C.2.1
  unfold f_X11_matches_79 at hf
  refine lv_iconst (v := (0 : Int32)) hx hb dX11_matches_79 (by decide) ?_
  refine g_zast C hH k_t0 isZ_0 hf dX11_matches_80 (fun w1 H locs hf hH => ?_)
  refine b_let hf (fun x2 he hf => ?_)
  refine lv_iinc (v := x2) (lv' := [(4, .int x2), (0, .ref (B + 713)), (1, .int v1), (3, .int v3)]) hx hb dX11_matches_81 hl (k := 3) rfl (by rw [← he]; rfl) (by decide) rfl (fun ls hl => ?_)
  refine lv_goto (tgt := 43) hx hb dX11_matches_84 (by decide) ?_
  exact hr_43 v1 v3 x2 w1 hf _ _ _ hH (lv_sub hl [1, 2, 3, 0] rfl)
set_option maxRecDepth 100000 in
set_option maxHeartbeats 4000000 in
theorem tb_X11_matches_43 {D : va_G} {B : Nat} {Y : Nat → ClassId} {p : Program} {l : Launch} {e : Env} {s : State} {m : MethodId} {args : Array Value} {below : List Frame} {meth : Method} {c : Code} {z : (Int32 × Wd)} {H : Heap} {locs : List Loc} {ls : Array Slot} {w : Wd} {v1 : Int32} {v3 : Int32} {v4 : Int32} (C : CX D B Y p s m args meth c cX11_matches 6 RX11 (some .int))  {rc_43 : Int32 × Int32 × Int32 × Wd → Option (Int32 × Wd)} (hr_43 : ∀ (v1 : Int32) (v3 : Int32) (v4 : Int32) (w : Wd), rc_43 (v1, v3, v4, w) = some z → ∀ (H : Heap) (locs : List Loc) (ls : Array Slot), HS D B Y w s H locs → lv_has ls 6 [(0, .ref (B + 713)), (1, .int v1), (3, .int v3), (4, .int v4)] → W p l e (RM 4 0 0) s m args below meth c H locs 0 0 (MQ below (QG D B Y (some (.int z.1)) z.2 True) args s 0 0 (AB B)) (F0 m 43 ls [])) {rc_32 : Int32 × Int32 × Wd → Option (Int32 × Wd)} (hr_32 : ∀ (v1 : Int32) (v3 : Int32) (w : Wd), rc_32 (v1, v3, w) = some z → ∀ (H : Heap) (locs : List Loc) (ls : Array Slot), HS D B Y w s H locs → lv_has ls 6 [(0, .ref (B + 713)), (1, .int v1), (3, .int v3)] → W p l e (RM 4 0 0) s m args below meth c H locs 0 0 (MQ below (QG D B Y (some (.int z.1)) z.2 True) args s 0 0 (AB B)) (F0 m 32 ls []))    (hH : HS D B Y w s H locs) (hl : lv_has ls 6 [(0, .ref (B + 713)), (1, .int v1), (3, .int v3), (4, .int v4)]) (hf : g_X11_matches_43 rc_43 rc_32 v1 v3 v4 w = some z) : W p l e (RM 4 0 0) s m args below meth c H locs 0 0 (MQ below (QG D B Y (some (.int z.1)) z.2 True) args s 0 0 (AB B)) (F0 m 43 ls []) := by
  have hx := C.1
  have hb := C.2.1
  unfold g_X11_matches_43 at hf
  refine lv_iload hx hb dX11_matches_43 (lv_at hl 3 rfl) ?_
  refine lv_bipush (v := (40 : Int32)) hx hb dX11_matches_45 (by decide) ?_
  refine b_icmp_gt (tgt := 87) hx hb hf dX11_matches_47 (by decide) (fun hf => ?_) (fun hf => ?_)
  · refine lv_iconst (v := (0 : Int32)) hx hb dX11_matches_87 (by decide) ?_
    refine lv_istore (lv' := [(4, .int (0 : Int32)), (0, .ref (B + 713)), (1, .int v1), (3, .int v3)]) hx hb dX11_matches_88 hl (by decide) rfl (fun ls hl => ?_)
    exact t_X11_matches_90 C hr_32 hH (lv_sub hl [1, 2, 3, 0] rfl) hf
  · refine lv_aload_n hx hb dX11_matches_50 rfl (lv_at hl 0 rfl) ?_
    refine fg_X11_89 C hH dX11_matches_51 ?_
    refine lv_iload hx hb dX11_matches_54 (lv_at hl 3 rfl) ?_
    refine lv_aload_n hx hb dX11_matches_56 rfl (lv_at hl 0 rfl) ?_
    refine fg_X11_83 C hH dX11_matches_57 ?_
    refine lv_iload_n hx hb dX11_matches_60 rfl (lv_at hl 2 rfl) ?_
    refine g_iald C hH kc_738 hf dX11_matches_61 (fun x1 hf => ?_)
    refine b_if_le (tgt := 79) hx hb hf dX11_matches_62 (by decide) (fun hf => ?_) (fun hf => ?_)
    · exact t_X11_matches_79 C hr_43 kc_740 hH (lv_sub hl [0, 1, 2, 3] rfl) hf
    · refine lv_aload_n hx hb dX11_matches_65 rfl (lv_at hl 0 rfl) ?_
      refine fg_X11_86 C hH dX11_matches_66 ?_
      refine lv_iload hx hb dX11_matches_69 (lv_at hl 3 rfl) ?_
      refine g_zald C hH kc_739 hf dX11_matches_71 (fun x2 hf => ?_)
      refine b_if_eq (tgt := 79) hx hb hf dX11_matches_72 (by decide) (fun hf => ?_) (fun hf => ?_)
      · exact t_X11_matches_79 C hr_43 kc_740 hH (lv_sub hl [0, 1, 2, 3] rfl) hf
      · refine lv_iconst (v := (1 : Int32)) hx hb dX11_matches_75 (by decide) ?_
        refine lv_goto (tgt := 80) hx hb dX11_matches_76 (by decide) ?_
        refine g_zast C hH kc_740 isZ_1 hf dX11_matches_80 (fun w3 H locs hf hH => ?_)
        refine b_let hf (fun x4 he hf => ?_)
        refine lv_iinc (v := x4) (lv' := [(4, .int x4), (0, .ref (B + 713)), (1, .int v1), (3, .int v3)]) hx hb dX11_matches_81 hl (k := 3) rfl (by rw [← he]; rfl) (by decide) rfl (fun ls hl => ?_)
        refine lv_goto (tgt := 43) hx hb dX11_matches_84 (by decide) ?_
        exact hr_43 v1 v3 x4 w3 hf _ _ _ hH (lv_sub hl [1, 2, 3, 0] rfl)
set_option maxRecDepth 100000 in
set_option maxHeartbeats 4000000 in
theorem t_X11_matches_43 {D : va_G} {B : Nat} {Y : Nat → ClassId} {p : Program} {l : Launch} {e : Env} {s : State} {m : MethodId} {args : Array Value} {below : List Frame} {meth : Method} {c : Code} {z : (Int32 × Wd)} {H : Heap} {locs : List Loc} {ls : Array Slot} {w : Wd} {v1 : Int32} {v3 : Int32} {v4 : Int32} (C : CX D B Y p s m args meth c cX11_matches 6 RX11 (some .int))  {rc_32 : Int32 × Int32 × Wd → Option (Int32 × Wd)} (hr_32 : ∀ (v1 : Int32) (v3 : Int32) (w : Wd), rc_32 (v1, v3, w) = some z → ∀ (H : Heap) (locs : List Loc) (ls : Array Slot), HS D B Y w s H locs → lv_has ls 6 [(0, .ref (B + 713)), (1, .int v1), (3, .int v3)] → W p l e (RM 4 0 0) s m args below meth c H locs 0 0 (MQ below (QG D B Y (some (.int z.1)) z.2 True) args s 0 0 (AB B)) (F0 m 32 ls []))    (hH : HS D B Y w s H locs) (hl : lv_has ls 6 [(0, .ref (B + 713)), (1, .int v1), (3, .int v3), (4, .int v4)]) (hf : f_X11_matches_43 rc_32 v1 v3 v4 w = some z) : W p l e (RM 4 0 0) s m args below meth c H locs 0 0 (MQ below (QG D B Y (some (.int z.1)) z.2 True) args s 0 0 (AB B)) (F0 m 43 ls []) := by
  exact loopN_ind (z := z) (body := fun rc σ => g_X11_matches_43 rc rc_32 σ.1 σ.2.1 σ.2.2.1 σ.2.2.2)
    (P := fun σ => ∀ (H : Heap) (locs : List Loc) (ls : Array Slot), HS D B Y σ.2.2.2 s H locs → lv_has ls 6 [(0, .ref (B + 713)), (1, .int σ.1), (3, .int σ.2.1), (4, .int σ.2.2.1)] → W p l e (RM 4 0 0) s m args below meth c H locs 0 0 (MQ below (QG D B Y (some (.int z.1)) z.2 True) args s 0 0 (AB B)) (F0 m 43 ls []))
    (fun rc hrec σ hf  H locs ls hH hl => tb_X11_matches_43 C (fun v1 v3 v4 w hr  H locs ls hH hl => hrec (v1, v3, v4, w) hr  H locs ls hH hl) hr_32  hH hl hf) FU (v1, v3, v4, w) hf  H locs ls hH hl
set_option maxRecDepth 100000 in
set_option maxHeartbeats 4000000 in
theorem tb_X11_matches_32 {D : va_G} {B : Nat} {Y : Nat → ClassId} {p : Program} {l : Launch} {e : Env} {s : State} {m : MethodId} {args : Array Value} {below : List Frame} {meth : Method} {c : Code} {z : (Int32 × Wd)} {H : Heap} {locs : List Loc} {ls : Array Slot} {w : Wd} {v1 : Int32} {v3 : Int32} (C : CX D B Y p s m args meth c cX11_matches 6 RX11 (some .int))  {rc_32 : Int32 × Int32 × Wd → Option (Int32 × Wd)} (hr_32 : ∀ (v1 : Int32) (v3 : Int32) (w : Wd), rc_32 (v1, v3, w) = some z → ∀ (H : Heap) (locs : List Loc) (ls : Array Slot), HS D B Y w s H locs → lv_has ls 6 [(0, .ref (B + 713)), (1, .int v1), (3, .int v3)] → W p l e (RM 4 0 0) s m args below meth c H locs 0 0 (MQ below (QG D B Y (some (.int z.1)) z.2 True) args s 0 0 (AB B)) (F0 m 32 ls []))    (hH : HS D B Y w s H locs) (hl : lv_has ls 6 [(0, .ref (B + 713)), (1, .int v1), (3, .int v3)]) (hf : g_X11_matches_32 rc_32 v1 v3 w = some z) : W p l e (RM 4 0 0) s m args below meth c H locs 0 0 (MQ below (QG D B Y (some (.int z.1)) z.2 True) args s 0 0 (AB B)) (F0 m 32 ls []) := by
  have hx := C.1
  have hb := C.2.1
  unfold g_X11_matches_32 at hf
  refine lv_iload_n hx hb dX11_matches_32 rfl (lv_at hl 2 rfl) ?_
  refine lv_aload_n hx hb dX11_matches_33 rfl (lv_at hl 0 rfl) ?_
  refine fg_X11_302 C hH dX11_matches_34 ?_
  refine b_icmp_ge (tgt := 218) hx hb hf dX11_matches_37 (by decide) (fun hf => ?_) (fun hf => ?_)
  · refine lv_iconst (v := (-1 : Int32)) hx hb dX11_matches_218 (by decide) ?_
    refine lv_istore_n (lv' := [(3, .int (-1 : Int32)), (0, .ref (B + 713)), (1, .int v1)]) hx hb dX11_matches_219 rfl hl (by decide) rfl (fun ls hl => ?_)
    refine lv_iconst (v := (0 : Int32)) hx hb dX11_matches_220 (by decide) ?_
    refine lv_istore (lv' := [(4, .int (0 : Int32)), (3, .int (-1 : Int32)), (0, .ref (B + 713)), (1, .int v1)]) hx hb dX11_matches_221 hl (by decide) rfl (fun ls hl => ?_)
    exact t_X11_matches_223 C hH (lv_sub hl [2, 1, 0] rfl) hf
  · refine lv_iconst (v := (0 : Int32)) hx hb dX11_matches_40 (by decide) ?_
    refine lv_istore (lv' := [(4, .int (0 : Int32)), (0, .ref (B + 713)), (1, .int v1), (3, .int v3)]) hx hb dX11_matches_41 hl (by decide) rfl (fun ls hl => ?_)
    exact t_X11_matches_43 C hr_32 hH (lv_sub hl [1, 2, 3, 0] rfl) hf
set_option maxRecDepth 100000 in
set_option maxHeartbeats 4000000 in
theorem t_X11_matches_32 {D : va_G} {B : Nat} {Y : Nat → ClassId} {p : Program} {l : Launch} {e : Env} {s : State} {m : MethodId} {args : Array Value} {below : List Frame} {meth : Method} {c : Code} {z : (Int32 × Wd)} {H : Heap} {locs : List Loc} {ls : Array Slot} {w : Wd} {v1 : Int32} {v3 : Int32} (C : CX D B Y p s m args meth c cX11_matches 6 RX11 (some .int))     (hH : HS D B Y w s H locs) (hl : lv_has ls 6 [(0, .ref (B + 713)), (1, .int v1), (3, .int v3)]) (hf : f_X11_matches_32 v1 v3 w = some z) : W p l e (RM 4 0 0) s m args below meth c H locs 0 0 (MQ below (QG D B Y (some (.int z.1)) z.2 True) args s 0 0 (AB B)) (F0 m 32 ls []) := by
  exact loopN_ind (z := z) (body := fun rc σ => g_X11_matches_32 rc  σ.1 σ.2.1 σ.2.2)
    (P := fun σ => ∀ (H : Heap) (locs : List Loc) (ls : Array Slot), HS D B Y σ.2.2 s H locs → lv_has ls 6 [(0, .ref (B + 713)), (1, .int σ.1), (3, .int σ.2.1)] → W p l e (RM 4 0 0) s m args below meth c H locs 0 0 (MQ below (QG D B Y (some (.int z.1)) z.2 True) args s 0 0 (AB B)) (F0 m 32 ls []))
    (fun rc hrec σ hf  H locs ls hH hl => tb_X11_matches_32 C (fun v1 v3 w hr  H locs ls hH hl => hrec (v1, v3, w) hr  H locs ls hH hl)   hH hl hf) FU (v1, v3, w) hf  H locs ls hH hl
set_option maxRecDepth 100000 in
set_option maxHeartbeats 4000000 in
theorem tb_X11_matches_2 {D : va_G} {B : Nat} {Y : Nat → ClassId} {p : Program} {l : Launch} {e : Env} {s : State} {m : MethodId} {args : Array Value} {below : List Frame} {meth : Method} {c : Code} {z : (Int32 × Wd)} {H : Heap} {locs : List Loc} {ls : Array Slot} {w : Wd} {v1 : Int32} {v2 : Int32} {v3 : Int32} (C : CX D B Y p s m args meth c cX11_matches 6 RX11 (some .int))  {rc_2 : Int32 × Int32 × Int32 × Wd → Option (Int32 × Wd)} (hr_2 : ∀ (v1 : Int32) (v2 : Int32) (v3 : Int32) (w : Wd), rc_2 (v1, v2, v3, w) = some z → ∀ (H : Heap) (locs : List Loc) (ls : Array Slot), HS D B Y w s H locs → lv_has ls 6 [(0, .ref (B + 713)), (1, .int v1), (2, .int v2), (3, .int v3)] → W p l e (RM 4 0 0) s m args below meth c H locs 0 0 (MQ below (QG D B Y (some (.int z.1)) z.2 True) args s 0 0 (AB B)) (F0 m 2 ls []))    (hH : HS D B Y w s H locs) (hl : lv_has ls 6 [(0, .ref (B + 713)), (1, .int v1), (2, .int v2), (3, .int v3)]) (hf : g_X11_matches_2 rc_2 v1 v2 v3 w = some z) : W p l e (RM 4 0 0) s m args below meth c H locs 0 0 (MQ below (QG D B Y (some (.int z.1)) z.2 True) args s 0 0 (AB B)) (F0 m 2 ls []) := by
  have hx := C.1
  have hb := C.2.1
  unfold g_X11_matches_2 at hf
  refine lv_iload_n hx hb dX11_matches_2 rfl (lv_at hl 3 rfl) ?_
  refine lv_bipush (v := (40 : Int32)) hx hb dX11_matches_3 (by decide) ?_
  refine b_icmp_gt (tgt := 30) hx hb hf dX11_matches_5 (by decide) (fun hf => ?_) (fun hf => ?_)
  · refine lv_iconst (v := (0 : Int32)) hx hb dX11_matches_30 (by decide) ?_
    refine lv_istore_n (lv' := [(3, .int (0 : Int32)), (0, .ref (B + 713)), (1, .int v1), (2, .int v2)]) hx hb dX11_matches_31 rfl hl (by decide) rfl (fun ls hl => ?_)
    exact t_X11_matches_32 C hH (lv_sub hl [1, 2, 0] rfl) hf
  · refine lv_aload_n hx hb dX11_matches_8 rfl (lv_at hl 0 rfl) ?_
    refine fg_X11_86 C hH dX11_matches_9 ?_
    refine lv_iload_n hx hb dX11_matches_12 rfl (lv_at hl 3 rfl) ?_
    refine lv_iload_n hx hb dX11_matches_13 rfl (lv_at hl 3 rfl) ?_
    refine lv_iload_n hx hb dX11_matches_14 rfl (lv_at hl 2 rfl) ?_
    refine b_icmp_ne (tgt := 22) hx hb hf dX11_matches_15 (by decide) (fun hf => ?_) (fun hf => ?_)
    · refine lv_iconst (v := (0 : Int32)) hx hb dX11_matches_22 (by decide) ?_
      refine g_zast C hH kc_739 isZ_0 hf dX11_matches_23 (fun w1 H locs hf hH => ?_)
      refine b_let hf (fun x2 he hf => ?_)
      refine lv_iinc (v := x2) (lv' := [(3, .int x2), (0, .ref (B + 713)), (1, .int v1), (2, .int v2)]) hx hb dX11_matches_24 hl (k := 3) rfl (by rw [← he]; rfl) (by decide) rfl (fun ls hl => ?_)
      refine lv_goto (tgt := 2) hx hb dX11_matches_27 (by decide) ?_
      exact hr_2 v1 v2 x2 w1 hf _ _ _ hH (lv_sub hl [1, 2, 3, 0] rfl)
    · refine lv_iconst (v := (1 : Int32)) hx hb dX11_matches_18 (by decide) ?_
      refine lv_goto (tgt := 23) hx hb dX11_matches_19 (by decide) ?_
      refine g_zast C hH kc_739 isZ_1 hf dX11_matches_23 (fun w3 H locs hf hH => ?_)
      refine b_let hf (fun x4 he hf => ?_)
      refine lv_iinc (v := x4) (lv' := [(3, .int x4), (0, .ref (B + 713)), (1, .int v1), (2, .int v2)]) hx hb dX11_matches_24 hl (k := 3) rfl (by rw [← he]; rfl) (by decide) rfl (fun ls hl => ?_)
      refine lv_goto (tgt := 2) hx hb dX11_matches_27 (by decide) ?_
      exact hr_2 v1 v2 x4 w3 hf _ _ _ hH (lv_sub hl [1, 2, 3, 0] rfl)
set_option maxRecDepth 100000 in
set_option maxHeartbeats 4000000 in
theorem t_X11_matches_2 {D : va_G} {B : Nat} {Y : Nat → ClassId} {p : Program} {l : Launch} {e : Env} {s : State} {m : MethodId} {args : Array Value} {below : List Frame} {meth : Method} {c : Code} {z : (Int32 × Wd)} {H : Heap} {locs : List Loc} {ls : Array Slot} {w : Wd} {v1 : Int32} {v2 : Int32} {v3 : Int32} (C : CX D B Y p s m args meth c cX11_matches 6 RX11 (some .int))     (hH : HS D B Y w s H locs) (hl : lv_has ls 6 [(0, .ref (B + 713)), (1, .int v1), (2, .int v2), (3, .int v3)]) (hf : f_X11_matches_2 v1 v2 v3 w = some z) : W p l e (RM 4 0 0) s m args below meth c H locs 0 0 (MQ below (QG D B Y (some (.int z.1)) z.2 True) args s 0 0 (AB B)) (F0 m 2 ls []) := by
  exact loopN_ind (z := z) (body := fun rc σ => g_X11_matches_2 rc  σ.1 σ.2.1 σ.2.2.1 σ.2.2.2)
    (P := fun σ => ∀ (H : Heap) (locs : List Loc) (ls : Array Slot), HS D B Y σ.2.2.2 s H locs → lv_has ls 6 [(0, .ref (B + 713)), (1, .int σ.1), (2, .int σ.2.1), (3, .int σ.2.2.1)] → W p l e (RM 4 0 0) s m args below meth c H locs 0 0 (MQ below (QG D B Y (some (.int z.1)) z.2 True) args s 0 0 (AB B)) (F0 m 2 ls []))
    (fun rc hrec σ hf  H locs ls hH hl => tb_X11_matches_2 C (fun v1 v2 v3 w hr  H locs ls hH hl => hrec (v1, v2, v3, w) hr  H locs ls hH hl)   hH hl hf) FU (v1, v2, v3, w) hf  H locs ls hH hl
set_option maxRecDepth 100000 in
set_option maxHeartbeats 4000000 in
theorem t_X11_matches_0 {D : va_G} {B : Nat} {Y : Nat → ClassId} {p : Program} {l : Launch} {e : Env} {s : State} {m : MethodId} {args : Array Value} {below : List Frame} {meth : Method} {c : Code} {z : (Int32 × Wd)} {H : Heap} {locs : List Loc} {ls : Array Slot} {w : Wd} {v1 : Int32} {v2 : Int32} (C : CX D B Y p s m args meth c cX11_matches 6 RX11 (some .int))     (hH : HS D B Y w s H locs) (hl : lv_has ls 6 [(0, .ref (B + 713)), (1, .int v1), (2, .int v2)]) (hf : f_X11_matches v1 v2 w = some z) : W p l e (RM 4 0 0) s m args below meth c H locs 0 0 (MQ below (QG D B Y (some (.int z.1)) z.2 True) args s 0 0 (AB B)) (F0 m 0 ls []) := by
  have hx := C.1
  have hb := C.2.1
  unfold f_X11_matches at hf
  refine lv_iconst (v := (0 : Int32)) hx hb dX11_matches_0 (by decide) ?_
  refine lv_istore_n (lv' := [(3, .int (0 : Int32)), (0, .ref (B + 713)), (1, .int v1), (2, .int v2)]) hx hb dX11_matches_1 rfl hl (by decide) rfl (fun ls hl => ?_)
  exact t_X11_matches_2 C hH (lv_sub hl [1, 2, 3, 0] rfl) hf
set_option maxRecDepth 100000 in
theorem c_X11_matches {l : Launch} {D : va_G} {B : Nat} {Y : Nat → ClassId} {v1 : Int32} {v2 : Int32} {w : Wd} {r : Int32} {w1 : Wd}   (hf : f_X11_matches v1 v2 w = some (r, w1)) : CM l D B Y yX11_matches cX11_matches 6 (some .int) 4 [.ref (B + 713), .int v1, .int v2] w (some (.int r)) w1 True :=
  CM_of (by decide +kernel) (Nat.le_of_ble_eq_true rfl) (fun p e s m args below meth c ls C hH hl => t_X11_matches_0 C  hH (lv_sub hl [0, 1, 2] rfl) hf)
