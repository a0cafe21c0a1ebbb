/-! LetterTablesModel.isEdge -/
set_option maxRecDepth 100000 in
set_option maxHeartbeats 4000000 in
theorem t_X11_isEdge_0 {D : va_G} {B : Nat} {Y : Nat → ClassId} {p : Program} {l : Launch} {e : Env} {s : State} {m : MethodId} {args : Array Value} {below : List Frame} {meth : Method} {c : Code} {z : (Int32 × Wd)} {H : Heap} {locs : List Loc} {ls : Array Slot} {w : Wd} {v1 : Int32} {v2 : Int32} (C : CX D B Y p s m args meth c cX11_isEdge 3 RX11 (some .boolean))     (hH : HS D B Y w s H locs) (hl : lv_has ls 3 [(0, .ref (B + 713)), (1, .int v1), (2, .int v2)]) (hf : f_X11_isEdge v1 v2 w = some z) : W p l e (RM 3 0 0) s m args below meth c H locs 0 0 (MQ below (QG D B Y (some (.int z.1)) z.2 (isZ z.1)) args s 0 0 (AB B)) (F0 m 0 ls []) := by
  have hx := C.1
  have hb := C.2.1
  unfold f_X11_isEdge at hf
  refine lv_iload_n hx hb dX11_isEdge_0 rfl (lv_at hl 2 rfl) ?_
  refine lv_aload_n hx hb dX11_isEdge_1 rfl (lv_at hl 0 rfl) ?_
  refine fg_X11_19 C hH dX11_isEdge_2 ?_
  refine lv_iload_n hx hb dX11_isEdge_5 rfl (lv_at hl 1 rfl) ?_
  refine g_iald C hH kc_717 hf dX11_isEdge_6 (fun x1 hf => ?_)
  refine b_icmp_eq (tgt := 19) hx hb hf dX11_isEdge_7 (by decide) (fun hf => ?_) (fun hf => ?_)
  · refine lv_iconst (v := (1 : Int32)) hx hb dX11_isEdge_19 (by decide) ?_
    refine lv_goto (tgt := 24) hx hb dX11_isEdge_20 (by decide) ?_
    cases hf
    exact q_retz C hH isZ_1 isZ_1 dX11_isEdge_24
  · refine lv_aload_n hx hb dX11_isEdge_10 rfl (lv_at hl 0 rfl) ?_
    refine lv_iload_n hx hb dX11_isEdge_11 rfl (lv_at hl 1 rfl) ?_
    refine lv_iload_n hx hb dX11_isEdge_12 rfl (lv_at hl 2 rfl) ?_
    obtain ⟨x3, w2, hc, hf⟩ := bd_some hf
    refine q_callV1 (v := .int x3) (As := [.int v1, .int v2]) C hH (ci := 11) rfl (by omega) gk_X11_249 yd_X11_isCluster (by omega) (by omega) kc_713 (c_X11_isCluster hc) hl.1 rfl (Nat.le_of_ble_eq_true rfl) dX11_isEdge_13 ⟨by decide, by decide⟩ (fun H locs hH z_x3 => ?_)
    refine b_if_eq (tgt := 23) hx hb hf dX11_isEdge_16 (by decide) (fun hf => ?_) (fun hf => ?_)
    · refine lv_iconst (v := (0 : Int32)) hx hb dX11_isEdge_23 (by decide) ?_
      cases hf
      exact q_retz C hH isZ_0 isZ_0 dX11_isEdge_24
    · refine lv_iconst (v := (1 : Int32)) hx hb dX11_isEdge_19 (by decide) ?_
      refine lv_goto (tgt := 24) hx hb dX11_isEdge_20 (by decide) ?_
      cases hf
      exact q_retz C hH isZ_1 isZ_1 dX11_isEdge_24
set_option maxRecDepth 100000 in
theorem c_X11_isEdge {l : Launch} {D : va_G} {B : Nat} {Y : Nat → ClassId} {v1 : Int32} {v2 : Int32} {w : Wd} {r : Int32} {w1 : Wd}   (hf : f_X11_isEdge v1 v2 w = some (r, w1)) : CM l D B Y yX11_isEdge cX11_isEdge 3 (some .boolean) 3 [.ref (B + 713), .int v1, .int v2] w (some (.int r)) w1 (isZ r) :=
  CM_of (by decide +kernel) (Nat.le_of_ble_eq_true rfl) (fun p e s m args below meth c ls C hH hl => t_X11_isEdge_0 C  hH (lv_sub hl [0, 1, 2] rfl) hf)
/-! LetterTablesModel.clusterAhead -/
set_option maxRecDepth 100000 in
set_option maxHeartbeats 4000000 in
theorem tb_X11_clusterAhead_4 {D : va_G} {B : Nat} {Y : Nat → ClassId} {p : Program} {l : Launch} {e : Env} {s : State} {m : MethodId} {args : Array Value} {below : List Frame} {meth : Method} {c : Code} {z : (Int32 × Wd)} {H : Heap} {locs : List Loc} {ls : Array Slot} {w : Wd} {v1 : Int32} {v3 : Int32} (C : CX D B Y p s m args meth c cX11_clusterAhead 4 RX11 (some .int))  {rc_4 : Int32 × Int32 × Wd → Option (Int32 × Wd)} (hr_4 : ∀ (v1 : Int32) (v3 : Int32) (w : Wd), rc_4 (v1, v3, w) = some z → ∀ (H : Heap) (locs : List Loc) (ls : Array Slot), HS D B Y w s H locs → lv_has ls 4 [(0, .ref (B + 713)), (1, .int v1), (3, .int v3)] → W p l e (RM 3 0 0) s m args below meth c H locs 0 0 (MQ below (QG D B Y (some (.int z.1)) z.2 True) args s 0 0 (AB B)) (F0 m 4 ls []))    (hH : HS D B Y w s H locs) (hl : lv_has ls 4 [(0, .ref (B + 713)), (1, .int v1), (3, .int v3)]) (hf : g_X11_clusterAhead_4 rc_4 v1 v3 w = some z) : W p l e (RM 3 0 0) s m args below meth c H locs 0 0 (MQ below (QG D B Y (some (.int z.1)) z.2 True) args s 0 0 (AB B)) (F0 m 4 ls []) := by
  have hx := C.1
  have hb := C.2.1
  unfold g_X11_clusterAhead_4 at hf
  refine lv_aload_n hx hb dX11_clusterAhead_4 rfl (lv_at hl 0 rfl) ?_
  refine lv_iload_n hx hb dX11_clusterAhead_5 rfl (lv_at hl 1 rfl) ?_
  refine lv_iload_n hx hb dX11_clusterAhead_6 rfl (lv_at hl 2 rfl) ?_
  obtain ⟨x2, w1, hc, hf⟩ := bd_some hf
  refine q_callV1 (v := .int x2) (As := [.int v1, .int v3]) C hH (ci := 11) rfl (by omega) gk_X11_249 yd_X11_isCluster (by omega) (by omega) kc_713 (c_X11_isCluster hc) hl.1 rfl (Nat.le_of_ble_eq_true rfl) dX11_clusterAhead_7 ⟨by decide, by decide⟩ (fun H locs hH z_x2 => ?_)
  refine b_if_ne (tgt := 19) hx hb hf dX11_clusterAhead_10 (by decide) (fun hf => ?_) (fun hf => ?_)
  · refine lv_iload_n hx hb dX11_clusterAhead_19 rfl (lv_at hl 2 rfl) ?_
    cases hf
    exact q_reti C hH trivial dX11_clusterAhead_20
  · refine b_let hf (fun x3 he hf => ?_)
    refine lv_iinc (v := x3) (lv' := [(3, .int x3), (0, .ref (B + 713)), (1, .int v1)]) hx hb dX11_clusterAhead_13 hl (k := 2) rfl (by rw [← he]; rfl) (by decide) rfl (fun ls hl => ?_)
    refine lv_goto (tgt := 4) hx hb dX11_clusterAhead_16 (by decide) ?_
    exact hr_4 v1 x3 w1 hf _ _ _ hH (lv_sub hl [1, 2, 0] rfl)
set_option maxRecDepth 100000 in
set_option maxHeartbeats 4000000 in
theorem t_X11_clusterAhead_4 {D : va_G} {B : Nat} {Y : Nat → ClassId} {p : Program} {l : Launch} {e : Env} {s : State} {m : MethodId} {args : Array Value} {below : List Frame} {meth : Method} {c : Code} {z : (Int32 × Wd)} {H : Heap} {locs : List Loc} {ls : Array Slot} {w : Wd} {v1 : Int32} {v3 : Int32} (C : CX D B Y p s m args meth c cX11_clusterAhead 4 RX11 (some .int))     (hH : HS D B Y w s H locs) (hl : lv_has ls 4 [(0, .ref (B + 713)), (1, .int v1), (3, .int v3)]) (hf : f_X11_clusterAhead_4 v1 v3 w = some z) : W p l e (RM 3 0 0) s m args below meth c H locs 0 0 (MQ below (QG D B Y (some (.int z.1)) z.2 True) args s 0 0 (AB B)) (F0 m 4 ls []) := by
  exact loopN_ind (z := z) (body := fun rc σ => g_X11_clusterAhead_4 rc  σ.1 σ.2.1 σ.2.2)
    (P := fun σ => ∀ (H : Heap) (locs : List Loc) (ls : Array Slot), HS D B Y σ.2.2 s H locs → lv_has ls 4 [(0, .ref (B + 713)), (1, .int σ.1), (3, .int σ.2.1)] → W p l e (RM 3 0 0) s m args below meth c H locs 0 0 (MQ below (QG D B Y (some (.int z.1)) z.2 True) args s 0 0 (AB B)) (F0 m 4 ls []))
    (fun rc hrec σ hf  H locs ls hH hl => tb_X11_clusterAhead_4 C (fun v1 v3 w hr  H locs ls hH hl => hrec (v1, v3, w) hr  H locs ls hH hl)   hH hl hf) FU (v1, v3, w) hf  H locs ls hH hl
set_option maxRecDepth 100000 in
set_option maxHeartbeats 4000000 in
theorem t_X11_clusterAhead_0 {D : va_G} {B : Nat} {Y : Nat → ClassId} {p : Program} {l : Launch} {e : Env} {s : State} {m : MethodId} {args : Array Value} {below : List Frame} {meth : Method} {c : Code} {z : (Int32 × Wd)} {H : Heap} {locs : List Loc} {ls : Array Slot} {w : Wd} {v1 : Int32} {v2 : Int32} (C : CX D B Y p s m args meth c cX11_clusterAhead 4 RX11 (some .int))     (hH : HS D B Y w s H locs) (hl : lv_has ls 4 [(0, .ref (B + 713)), (1, .int v1), (2, .int v2)]) (hf : f_X11_clusterAhead v1 v2 w = some z) : W p l e (RM 3 0 0) s m args below meth c H locs 0 0 (MQ below (QG D B Y (some (.int z.1)) z.2 True) args s 0 0 (AB B)) (F0 m 0 ls []) := by
  have hx := C.1
  have hb := C.2.1
  unfold f_X11_clusterAhead at hf
  refine lv_iload_n hx hb dX11_clusterAhead_0 rfl (lv_at hl 2 rfl) ?_
  refine lv_iconst (v := (1 : Int32)) hx hb dX11_clusterAhead_1 (by decide) ?_
  refine lv_isub hx hb dX11_clusterAhead_2 ?_
  refine b_leti hf (fun x1 hf => ?_)
  refine lv_istore_n (lv' := [(3, .int x1), (0, .ref (B + 713)), (1, .int v1), (2, .int v2)]) hx hb dX11_clusterAhead_3 rfl hl (by decide) rfl (fun ls hl => ?_)
  exact t_X11_clusterAhead_4 C hH (lv_sub hl [1, 2, 0] rfl) hf
set_option maxRecDepth 100000 in
theorem c_X11_clusterAhead {l : Launch} {D : va_G} {B : Nat} {Y : Nat → ClassId} {v1 : Int32} {v2 : Int32} {w : Wd} {r : Int32} {w1 : Wd}   (hf : f_X11_clusterAhead v1 v2 w = some (r, w1)) : CM l D B Y yX11_clusterAhead cX11_clusterAhead 4 (some .int) 3 [.ref (B + 713), .int v1, .int v2] w (some (.int r)) w1 True :=
  CM_of (by decide +kernel) (Nat.le_of_ble_eq_true rfl) (fun p e s m args below meth c ls C hH hl => t_X11_clusterAhead_0 C  hH (lv_sub hl [0, 1, 2] rfl) hf)
/-! LetterTablesModel.isWordAt -/
set_option maxRecDepth 100000 in
set_option maxHeartbeats 4000000 in
theorem tb_X11_isWordAt_38 {D : va_G} {B : Nat} {Y : Nat → ClassId} {p : Program} {l : Launch} {e : Env} {s : State} {m : MethodId} {args : Array Value} {below : List Frame} {meth : Method} {c : Code} {z : (Int32 × Wd)} {H : Heap} {locs : List Loc} {ls : Array Slot} {w : Wd} {v1 : Int32} {v2 : Int32} {v4 : Int32} {v5 : Int32} {v6 : Int32} (C : CX D B Y p s m args meth c cX11_isWordAt 7 RX11 (some .boolean))  {rc_38 : Int32 × Int32 × Int32 × Int32 × Int32 × Wd → Option (Int32 × Wd)} (hr_38 : ∀ (v1 : Int32) (v2 : Int32) (v4 : Int32) (v5 : Int32) (v6 : Int32) (w : Wd), rc_38 (v1, v2, v4, v5, v6, w) = some z → isZ v5 → ∀ (H : Heap) (locs : List Loc) (ls : Array Slot), HS D B Y w s H locs → lv_has ls 7 [(0, .ref (B + 713)), (1, .int v1), (2, .int v2), (4, .int v4), (5, .int v5), (6, .int v6)] → W p l e (RM 1 0 0) s m args below meth c H locs 0 0 (MQ below (QG D B Y (some (.int z.1)) z.2 (isZ z.1)) args s 0 0 (AB B)) (F0 m 38 ls []))   (z_v5 : isZ v5) (hH : HS D B Y w s H locs) (hl : lv_has ls 7 [(0, .ref (B + 713)), (1, .int v1), (2, .int v2), (4, .int v4), (5, .int v5), (6, .int v6)]) (hf : g_X11_isWordAt_38 rc_38 v1 v2 v4 v5 v6 w = some z) : W p l e (RM 1 0 0) s m args below meth c H locs 0 0 (MQ below (QG D B Y (some (.int z.1)) z.2 (isZ z.1)) args s 0 0 (AB B)) (F0 m 38 ls []) := by
  have hx := C.1
  have hb := C.2.1
  unfold g_X11_isWordAt_38 at hf
  refine lv_iload hx hb dX11_isWordAt_38 (lv_at hl 5 rfl) ?_
  refine lv_aload_n hx hb dX11_isWordAt_40 rfl (lv_at hl 0 rfl) ?_
  refine fg_X11_7 C hH dX11_isWordAt_41 ?_
  refine lv_iload hx hb dX11_isWordAt_44 (lv_at hl 3 rfl) ?_
  refine g_iald C hH kc_714 hf dX11_isWordAt_46 (fun x1 hf => ?_)
  refine b_icmp_ge (tgt := 92) hx hb hf dX11_isWordAt_47 (by decide) (fun hf => ?_) (fun hf => ?_)
  · refine lv_iload hx hb dX11_isWordAt_92 (lv_at hl 4 rfl) ?_
    cases hf
    exact q_retz C hH z_v5 z_v5 dX11_isWordAt_94
  · refine lv_iload hx hb dX11_isWordAt_50 (lv_at hl 4 rfl) ?_
    refine b_if_eq (tgt := 92) hx hb hf dX11_isWordAt_52 (by decide) (fun hf => ?_) (fun hf => ?_)
    · refine lv_iload hx hb dX11_isWordAt_92 (lv_at hl 4 rfl) ?_
      cases hf
      exact q_retz C hH z_v5 z_v5 dX11_isWordAt_94
    · refine lv_aload_n hx hb dX11_isWordAt_55 rfl (lv_at hl 0 rfl) ?_
      refine lv_iload_n hx hb dX11_isWordAt_56 rfl (lv_at hl 1 rfl) ?_
      refine lv_iload_n hx hb dX11_isWordAt_57 rfl (lv_at hl 2 rfl) ?_
      refine lv_iload hx hb dX11_isWordAt_58 (lv_at hl 5 rfl) ?_
      refine lv_iadd hx hb dX11_isWordAt_60 ?_
      obtain ⟨x3, w2, hc, hf⟩ := bd_some hf
      refine q_callV1 (v := .int x3) (As := [.int v1, .int (v2 + v6)]) C hH (ci := 11) rfl (by omega) gk_X11_148 yd_X11_letterAt (by omega) (by omega) kc_713 (c_X11_letterAt hc) hl.1 rfl (Nat.le_of_ble_eq_true rfl) dX11_isWordAt_61 ⟨by decide, by decide⟩ (fun H locs hH hP => ?_)
      refine lv_aload_n hx hb dX11_isWordAt_64 rfl (lv_at hl 0 rfl) ?_
      refine fg_X11_7 C hH dX11_isWordAt_65 ?_
      refine lv_iload hx hb dX11_isWordAt_68 (lv_at hl 3 rfl) ?_
      refine lv_iconst (v := (1 : Int32)) hx hb dX11_isWordAt_70 (by decide) ?_
      refine lv_iadd hx hb dX11_isWordAt_71 ?_
      refine lv_iload hx hb dX11_isWordAt_72 (lv_at hl 5 rfl) ?_
      refine lv_iadd hx hb dX11_isWordAt_74 ?_
      refine g_iald C hH kc_714 hf dX11_isWordAt_75 (fun x4 hf => ?_)
      refine b_icmp_ne (tgt := 83) hx hb hf dX11_isWordAt_76 (by decide) (fun hf => ?_) (fun hf => ?_)
      · refine lv_iconst (v := (0 : Int32)) hx hb dX11_isWordAt_83 (by decide) ?_
        refine lv_istore (lv' := [(5, .int (0 : Int32)), (0, .ref (B + 713)), (1, .int v1), (2, .int v2), (4, .int v4), (6, .int v6)]) hx hb dX11_isWordAt_84 hl (by decide) rfl (fun ls hl => ?_)
        refine b_let hf (fun x5 he hf => ?_)
        refine lv_iinc (v := x5) (lv' := [(6, .int x5), (5, .int (0 : Int32)), (0, .ref (B + 713)), (1, .int v1), (2, .int v2), (4, .int v4)]) hx hb dX11_isWordAt_86 hl (k := 5) rfl (by rw [← he]; rfl) (by decide) rfl (fun ls hl => ?_)
        refine lv_goto (tgt := 38) hx hb dX11_isWordAt_89 (by decide) ?_
        exact hr_38 v1 v2 v4 (0 : Int32) x5 w2 hf isZ_0 _ _ _ hH (lv_sub hl [2, 3, 4, 5, 1, 0] rfl)
      · refine lv_iconst (v := (1 : Int32)) hx hb dX11_isWordAt_79 (by decide) ?_
        refine lv_goto (tgt := 84) hx hb dX11_isWordAt_80 (by decide) ?_
        refine lv_istore (lv' := [(5, .int (1 : Int32)), (0, .ref (B + 713)), (1, .int v1), (2, .int v2), (4, .int v4), (6, .int v6)]) hx hb dX11_isWordAt_84 hl (by decide) rfl (fun ls hl => ?_)
        refine b_let hf (fun x6 he hf => ?_)
        refine lv_iinc (v := x6) (lv' := [(6, .int x6), (5, .int (1 : Int32)), (0, .ref (B + 713)), (1, .int v1), (2, .int v2), (4, .int v4)]) hx hb dX11_isWordAt_86 hl (k := 5) rfl (by rw [← he]; rfl) (by decide) rfl (fun ls hl => ?_)
        refine lv_goto (tgt := 38) hx hb dX11_isWordAt_89 (by decide) ?_
        exact hr_38 v1 v2 v4 (1 : Int32) x6 w2 hf isZ_1 _ _ _ hH (lv_sub hl [2, 3, 4, 5, 1, 0] rfl)
set_option maxRecDepth 100000 in
set_option maxHeartbeats 4000000 in
theorem t_X11_isWordAt_38 {D : va_G} {B : Nat} {Y : Nat → ClassId} {p : Program} {l : Launch} {e : Env} {s : State} {m : MethodId} {args : Array Value} {below : List Frame} {meth : Method} {c : Code} {z : (Int32 × Wd)} {H : Heap} {locs : List Loc} {ls : Array Slot} {w : Wd} {v1 : Int32} {v2 : Int32} {v4 : Int32} {v5 : Int32} {v6 : Int32} (C : CX D B Y p s m args meth c cX11_isWordAt 7 RX11 (some .boolean))    (z_v5 : isZ v5) (hH : HS D B Y w s H locs) (hl : lv_has ls 7 [(0, .ref (B + 713)), (1, .int v1), (2, .int v2), (4, .int v4), (5, .int v5), (6, .int v6)]) (hf : f_X11_isWordAt_38 v1 v2 v4 v5 v6 w = some z) : W p l e (RM 1 0 0) s m args below meth c H locs 0 0 (MQ below (QG D B Y (some (.int z.1)) z.2 (isZ z.1)) args s 0 0 (AB B)) (F0 m 38 ls []) := by
  exact loopN_ind (z := z) (body := fun rc σ => g_X11_isWordAt_38 rc  σ.1 σ.2.1 σ.2.2.1 σ.2.2.2.1 σ.2.2.2.2.1 σ.2.2.2.2.2)
    (P := fun σ => isZ σ.2.2.2.1 → ∀ (H : Heap) (locs : List Loc) (ls : Array Slot), HS D B Y σ.2.2.2.2.2 s H locs → lv_has ls 7 [(0, .ref (B + 713)), (1, .int σ.1), (2, .int σ.2.1), (4, .int σ.2.2.1), (5, .int σ.2.2.2.1), (6, .int σ.2.2.2.2.1)] → W p l e (RM 1 0 0) s m args below meth c H locs 0 0 (MQ below (QG D B Y (some (.int z.1)) z.2 (isZ z.1)) args s 0 0 (AB B)) (F0 m 38 ls []))
    (fun rc hrec σ hf z_v5 H locs ls hH hl => tb_X11_isWordAt_38 C (fun v1 v2 v4 v5 v6 w hr z_v5 H locs ls hH hl => hrec (v1, v2, v4, v5, v6, w) hr z_v5 H locs ls hH hl)  z_v5 hH hl hf) FU (v1, v2, v4, v5, v6, w) hf z_v5 H locs ls hH hl
set_option maxRecDepth 100000 in
set_option maxHeartbeats 4000000 in
theorem t_X11_isWordAt_33 {D : va_G} {B : Nat} {Y : Nat → ClassId} {p : Program} {l : Launch} {e : Env} {s : State} {m : MethodId} {args : Array Value} {below : List Frame} {meth : Method} {c : Code} {z : (Int32 × Wd)} {H : Heap} {locs : List Loc} {ls : Array Slot} {w : Wd} {v1 : Int32} {v2 : Int32} {v4 : Int32} {t0 : Int32} (C : CX D B Y p s m args meth c cX11_isWordAt 7 RX11 (some .boolean))    (z_t0 : isZ t0) (hH : HS D B Y w s H locs) (hl : lv_has ls 7 [(0, .ref (B + 713)), (1, .int v1), (2, .int v2), (4, .int v4)]) (hf : f_X11_isWordAt_33 v1 v2 v4 t0 w = some z) : W p l e (RM 1 0 0) s m args below meth c H locs 0 0 (MQ below (QG D B Y (some (.int z.1)) z.2 (isZ z.1)) args s 0 0 (AB B)) (F0 m 33 ls [.int t0]) := by
  have hx := C.1
  have hb := C.2.1
  unfold f_X11_isWordAt_33 at hf
  refine lv_istore (lv' := [(5, .int t0), (0, .ref (B + 713)), (1, .int v1), (2, .int v2), (4, .int v4)]) hx hb dX11_isWordAt_33 hl (by decide) rfl (fun ls hl => ?_)
  refine lv_iconst (v := (0 : Int32)) hx hb dX11_isWordAt_35 (by decide) ?_
  refine lv_istore (lv' := [(6, .int (0 : Int32)), (5, .int t0), (0, .ref (B + 713)), (1, .int v1), (2, .int v2), (4, .int v4)]) hx hb dX11_isWordAt_36 hl (by decide) rfl (fun ls hl => ?_)
  exact t_X11_isWordAt_38 C z_t0 hH (lv_sub hl [2, 3, 4, 5, 1, 0] rfl) hf
set_option maxRecDepth 100000 in
set_option maxHeartbeats 4000000 in
theorem t_X11_isWordAt_0 {D : va_G} {B : Nat} {Y : Nat → ClassId} {p : Program} {l : Launch} {e : Env} {s : State} {m : MethodId} {args : Array Value} {below : List Frame} {meth : Method} {c : Code} {z : (Int32 × Wd)} {H : Heap} {locs : List Loc} {ls : Array Slot} {w : Wd} {v1 : Int32} {v2 : Int32} {v3 : Int32} (C : CX D B Y p s m args meth c cX11_isWordAt 7 RX11 (some .boolean))     (hH : HS D B Y w s H locs) (hl : lv_has ls 7 [(0, .ref (B + 713)), (1, .int v1), (2, .int v2), (3, .int v3)]) (hf : f_X11_isWordAt v1 v2 v3 w = some z) : W p l e (RM 1 0 0) s m args below meth c H locs 0 0 (MQ below (QG D B Y (some (.int z.1)) z.2 (isZ z.1)) args s 0 0 (AB B)) (F0 m 0 ls []) := by
  have hx := C.1
  have hb := C.2.1
  unfold f_X11_isWordAt at hf
  refine lv_sipush (v := (1503 : Int32)) hx hb dX11_isWordAt_0 (by decide) ?_
  refine lv_bipush (v := (9 : Int32)) hx hb dX11_isWordAt_3 (by decide) ?_
  refine lv_iload_n hx hb dX11_isWordAt_5 rfl (lv_at hl 3 rfl) ?_
  refine lv_imul hx hb dX11_isWordAt_6 ?_
  refine lv_iadd hx hb dX11_isWordAt_7 ?_
  refine b_leti hf (fun x1 hf => ?_)
  refine lv_istore (lv' := [(4, .int x1), (0, .ref (B + 713)), (1, .int v1), (2, .int v2), (3, .int v3)]) hx hb dX11_isWordAt_8 hl (by decide) rfl (fun ls hl => ?_)
  refine lv_iload_n hx hb dX11_isWordAt_10 rfl (lv_at hl 3 rfl) ?_
  refine lv_aload_n hx hb dX11_isWordAt_11 rfl (lv_at hl 1 rfl) ?_
  refine fg_X11_7 C hH dX11_isWordAt_12 ?_
  refine lv_iload hx hb dX11_isWordAt_15 (lv_at hl 0 rfl) ?_
  refine g_iald C hH kc_714 hf dX11_isWordAt_17 (fun x2 hf => ?_)
  refine lv_iadd hx hb dX11_isWordAt_18 ?_
  refine lv_aload_n hx hb dX11_isWordAt_19 rfl (lv_at hl 1 rfl) ?_
  refine fg_X11_19 C hH dX11_isWordAt_20 ?_
  refine lv_iload_n hx hb dX11_isWordAt_23 rfl (lv_at hl 2 rfl) ?_
  refine g_iald C hH kc_717 hf dX11_isWordAt_24 (fun x3 hf => ?_)
  refine b_icmp_gt (tgt := 32) hx hb hf dX11_isWordAt_25 (by decide) (fun hf => ?_) (fun hf => ?_)
  · refine lv_iconst (v := (0 : Int32)) hx hb dX11_isWordAt_32 (by decide) ?_
    exact t_X11_isWordAt_33 C isZ_0 hH (lv_sub hl [1, 2, 3, 0] rfl) hf
  · refine lv_iconst (v := (1 : Int32)) hx hb dX11_isWordAt_28 (by decide) ?_
    refine lv_goto (tgt := 33) hx hb dX11_isWordAt_29 (by decide) ?_
    exact t_X11_isWordAt_33 C isZ_1 hH (lv_sub hl [1, 2, 3, 0] rfl) hf
set_option maxRecDepth 100000 in
theorem c_X11_isWordAt {l : Launch} {D : va_G} {B : Nat} {Y : Nat → ClassId} {v1 : Int32} {v2 : Int32} {v3 : Int32} {w : Wd} {r : Int32} {w1 : Wd}   (hf : f_X11_isWordAt v1 v2 v3 w = some (r, w1)) : CM l D B Y yX11_isWordAt cX11_isWordAt 7 (some .boolean) 1 [.ref (B + 713), .int v1, .int v2, .int v3] w (some (.int r)) w1 (isZ r) :=
  CM_of (by decide +kernel) (Nat.le_of_ble_eq_true rfl) (fun p e s m args below meth c ls C hH hl => t_X11_isWordAt_0 C  hH (lv_sub hl [0, 1, 2, 3] rfl) hf)
/-! LetterTablesModel.wordEnd -/
set_option maxRecDepth 100000 in
set_option maxHeartbeats 4000000 in
theorem tb_X11_wordEnd_105 {D : va_G} {B : Nat} {Y : Nat → ClassId} {p : Program} {l : Launch} {e : Env} {s : State} {m : MethodId} {args : Array Value} {below : List Frame} {meth : Method} {c : Code} {z : (Int32 × Wd)} {H : Heap} {locs : List Loc} {ls : Array Slot} {w : Wd} {v1 : Int32} {v2 : Int32} {v4 : Int32} {v5 : Int32} (C : CX D B Y p s m args meth c cX11_wordEnd 8 RX11 (some .int))  {rc_105 : Int32 × Int32 × Int32 × Int32 × Wd → Option (Int32 × Wd)} (hr_105 : ∀ (v1 : Int32) (v2 : Int32) (v4 : Int32) (v5 : Int32) (w : Wd), rc_105 (v1, v2, v4, v5, w) = some z → ∀ (H : Heap) (locs : List Loc) (ls : Array Slot), HS D B Y w s H locs → lv_has ls 8 [(0, .ref (B + 713)), (1, .int v1), (2, .int v2), (4, .int v4), (5, .int v5)] → W p l e (RM 4 0 0) s m args below meth c H locs 0 0 (MQ below (QG D B Y (some (.int z.1)) z.2 True) args s 0 0 (AB B)) (F0 m 105 ls []))    (hH : HS D B Y w s H locs) (hl : lv_has ls 8 [(0, .ref (B + 713)), (1, .int v1), (2, .int v2), (4, .int v4), (5, .int v5)]) (hf : g_X11_wordEnd_105 rc_105 v1 v2 v4 v5 w = some z) : W p l e (RM 4 0 0) s m args below meth c H locs 0 0 (MQ below (QG D B Y (some (.int z.1)) z.2 True) args s 0 0 (AB B)) (F0 m 105 ls []) := by
  have hx := C.1
  have hb := C.2.1
  unfold g_X11_wordEnd_105 at hf
  refine lv_aload_n hx hb dX11_wordEnd_105 rfl (lv_at hl 0 rfl) ?_
  refine lv_iload_n hx hb dX11_wordEnd_106 rfl (lv_at hl 1 rfl) ?_
  refine lv_iload hx hb dX11_wordEnd_107 (lv_at hl 4 rfl) ?_
  obtain ⟨x2, w1, hc, hf⟩ := bd_some hf
  refine q_callV1 (v := .int x2) (As := [.int v1, .int v5]) C hH (ci := 11) rfl (by omega) gk_X11_258 yd_X11_isEdge (by omega) (by omega) kc_713 (c_X11_isEdge hc) hl.1 rfl (Nat.le_of_ble_eq_true rfl) dX11_wordEnd_109 ⟨by decide, by decide⟩ (fun H locs hH z_x2 => ?_)
  refine b_if_ne (tgt := 121) hx hb hf dX11_wordEnd_112 (by decide) (fun hf => ?_) (fun hf => ?_)
  · refine lv_iload hx hb dX11_wordEnd_121 (lv_at hl 3 rfl) ?_
    refine b_if_le (tgt := 133) hx hb hf dX11_wordEnd_123 (by decide) (fun hf => ?_) (fun hf => ?_)
    · refine lv_iload hx hb dX11_wordEnd_133 (lv_at hl 4 rfl) ?_
      cases hf
      exact q_reti C hH trivial dX11_wordEnd_135
    · refine lv_iload_n hx hb dX11_wordEnd_126 rfl (lv_at hl 2 rfl) ?_
      refine lv_iload hx hb dX11_wordEnd_127 (lv_at hl 3 rfl) ?_
      refine lv_iadd hx hb dX11_wordEnd_129 ?_
      refine lv_goto (tgt := 135) hx hb dX11_wordEnd_130 (by decide) ?_
      cases hf
      exact q_reti C hH trivial dX11_wordEnd_135
  · refine b_let hf (fun x3 he hf => ?_)
    refine lv_iinc (v := x3) (lv' := [(5, .int x3), (0, .ref (B + 713)), (1, .int v1), (2, .int v2), (4, .int v4)]) hx hb dX11_wordEnd_115 hl (k := 4) rfl (by rw [← he]; rfl) (by decide) rfl (fun ls hl => ?_)
    refine lv_goto (tgt := 105) hx hb dX11_wordEnd_118 (by decide) ?_
    exact hr_105 v1 v2 v4 x3 w1 hf _ _ _ hH (lv_sub hl [1, 2, 3, 4, 0] rfl)
set_option maxRecDepth 100000 in
set_option maxHeartbeats 4000000 in
theorem t_X11_wordEnd_105 {D : va_G} {B : Nat} {Y : Nat → ClassId} {p : Program} {l : Launch} {e : Env} {s : State} {m : MethodId} {args : Array Value} {below : List Frame} {meth : Method} {c : Code} {z : (Int32 × Wd)} {H : Heap} {locs : List Loc} {ls : Array Slot} {w : Wd} {v1 : Int32} {v2 : Int32} {v4 : Int32} {v5 : Int32} (C : CX D B Y p s m args meth c cX11_wordEnd 8 RX11 (some .int))     (hH : HS D B Y w s H locs) (hl : lv_has ls 8 [(0, .ref (B + 713)), (1, .int v1), (2, .int v2), (4, .int v4), (5, .int v5)]) (hf : f_X11_wordEnd_105 v1 v2 v4 v5 w = some z) : W p l e (RM 4 0 0) s m args below meth c H locs 0 0 (MQ below (QG D B Y (some (.int z.1)) z.2 True) args s 0 0 (AB B)) (F0 m 105 ls []) := by
  exact loopN_ind (z := z) (body := fun rc σ => g_X11_wordEnd_105 rc  σ.1 σ.2.1 σ.2.2.1 σ.2.2.2.1 σ.2.2.2.2)
    (P := fun σ => ∀ (H : Heap) (locs : List Loc) (ls : Array Slot), HS D B Y σ.2.2.2.2 s H locs → lv_has ls 8 [(0, .ref (B + 713)), (1, .int σ.1), (2, .int σ.2.1), (4, .int σ.2.2.1), (5, .int σ.2.2.2.1)] → W p l e (RM 4 0 0) s m args below meth c H locs 0 0 (MQ below (QG D B Y (some (.int z.1)) z.2 True) args s 0 0 (AB B)) (F0 m 105 ls []))
    (fun rc hrec σ hf  H locs ls hH hl => tb_X11_wordEnd_105 C (fun v1 v2 v4 v5 w hr  H locs ls hH hl => hrec (v1, v2, v4, v5, w) hr  H locs ls hH hl)   hH hl hf) FU (v1, v2, v4, v5, w) hf  H locs ls hH hl
set_option maxRecDepth 100000 in
set_option maxHeartbeats 4000000 in
theorem t_X11_wordEnd_90 {D : va_G} {B : Nat} {Y : Nat → ClassId} {p : Program} {l : Launch} {e : Env} {s : State} {m : MethodId} {args : Array Value} {below : List Frame} {meth : Method} {c : Code} {z : (Int32 × Wd)} {H : Heap} {locs : List Loc} {ls : Array Slot} {w : Wd} {v1 : Int32} {v2 : Int32} {v3 : Int32} {v4 : Int32} {v5 : Int32} (C : CX D B Y p s m args meth c cX11_wordEnd 8 RX11 (some .int))  {rc_6 : Int32 × Int32 × Int32 × Int32 × Int32 × Wd → Option (Int32 × Wd)} (hr_6 : ∀ (v1 : Int32) (v2 : Int32) (v3 : Int32) (v4 : Int32) (v5 : Int32) (w : Wd), rc_6 (v1, v2, v3, v4, v5, w) = some z → ∀ (H : Heap) (locs : List Loc) (ls : Array Slot), HS D B Y w s H locs → lv_has ls 8 [(0, .ref (B + 713)), (1, .int v1), (2, .int v2), (3, .int v3), (4, .int v4), (5, .int v5)] → W p l e (RM 4 0 0) s m args below meth c H locs 0 0 (MQ below (QG D B Y (some (.int z.1)) z.2 True) args s 0 0 (AB B)) (F0 m 6 ls []))    (hH : HS D B Y w s H locs) (hl : lv_has ls 8 [(0, .ref (B + 713)), (1, .int v1), (2, .int v2), (3, .int v3), (4, .int v4), (5, .int v5)]) (hf : f_X11_wordEnd_90 rc_6 v1 v2 v3 v4 v5 w = some z) : W p l e (RM 4 0 0) s m args below meth c H locs 0 0 (MQ below (QG D B Y (some (.int z.1)) z.2 True) args s 0 0 (AB B)) (F0 m 90 ls []) := by
  have hx := C.1
  have hb := C.2.1
  unfold f_X11_wordEnd_90 at hf
  refine lv_iload hx hb dX11_wordEnd_90 (lv_at hl 4 rfl) ?_
  refine lv_istore (lv' := [(4, .int v4), (0, .ref (B + 713)), (1, .int v1), (2, .int v2), (3, .int v3), (5, .int v5)]) hx hb dX11_wordEnd_92 hl (by decide) rfl (fun ls hl => ?_)
  refine b_let hf (fun x1 he hf => ?_)
  refine lv_iinc (v := x1) (lv' := [(5, .int x1), (4, .int v4), (0, .ref (B + 713)), (1, .int v1), (2, .int v2), (3, .int v3)]) hx hb dX11_wordEnd_94 hl (k := 5) rfl (by rw [← he]; rfl) (by decide) rfl (fun ls hl => ?_)
  refine lv_goto (tgt := 6) hx hb dX11_wordEnd_97 (by decide) ?_
  exact hr_6 v1 v2 v3 v4 x1 w hf _ _ _ hH (lv_sub hl [2, 3, 4, 5, 1, 0] rfl)
set_option maxRecDepth 100000 in
set_option maxHeartbeats 4000000 in
theorem t_X11_wordEnd_71 {D : va_G} {B : Nat} {Y : Nat → ClassId} {p : Program} {l : Launch} {e : Env} {s : State} {m : MethodId} {args : Array Value} {below : List Frame} {meth : Method} {c : Code} {z : (Int32 × Wd)} {H : Heap} {locs : List Loc} {ls : Array Slot} {w : Wd} {v1 : Int32} {v2 : Int32} {v3 : Int32} {v4 : Int32} {v5 : Int32} {v6 : Int32} {t0 : Int32} (C : CX D B Y p s m args meth c cX11_wordEnd 8 RX11 (some .int))  {rc_6 : Int32 × Int32 × Int32 × Int32 × Int32 × Wd → Option (Int32 × Wd)} (hr_6 : ∀ (v1 : Int32) (v2 : Int32) (v3 : Int32) (v4 : Int32) (v5 : Int32) (w : Wd), rc_6 (v1, v2, v3, v4, v5, w) = some z → ∀ (H : Heap) (locs : List Loc) (ls : Array Slot), HS D B Y w s H locs → lv_has ls 8 [(0, .ref (B + 713)), (1, .int v1), (2, .int v2), (3, .int v3), (4, .int v4), (5, .int v5)] → W p l e (RM 4 0 0) s m args below meth c H locs 0 0 (MQ below (QG D B Y (some (.int z.1)) z.2 True) args s 0 0 (AB B)) (F0 m 6 ls []))   (z_t0 : isZ t0) (hH : HS D B Y w s H locs) (hl : lv_has ls 8 [(0, .ref (B + 713)), (1, .int v1), (2, .int v2), (3, .int v3), (4, .int v4), (5, .int v5), (6, .int v6)]) (hf : f_X11_wordEnd_71 rc_6 v1 v2 v3 v4 v5 v6 t0 w = some z) : W p l e (RM 4 0 0) s m args below meth c H locs 0 0 (MQ below (QG D B Y (some (.int z.1)) z.2 True) args s 0 0 (AB B)) (F0 m 71 ls [.int t0]) := by
  have hx := C.1
  have hb := C.2.1
  unfold f_X11_wordEnd_71 at hf
  refine lv_istore (lv' := [(7, .int t0), (0, .ref (B + 713)), (1, .int v1), (2, .int v2), (3, .int v3), (4, .int v4), (5, .int v5), (6, .int v6)]) hx hb dX11_wordEnd_71 hl (by decide) rfl (fun ls hl => ?_)
  refine lv_iload hx hb dX11_wordEnd_73 (lv_at hl 0 rfl) ?_
  refine b_if_eq (tgt := 90) hx hb hf dX11_wordEnd_75 (by decide) (fun hf => ?_) (fun hf => ?_)
  · exact t_X11_wordEnd_90 C hr_6 hH (lv_sub hl [1, 2, 3, 4, 5, 6] rfl) hf
  · refine lv_iload hx hb dX11_wordEnd_78 (lv_at hl 7 rfl) ?_
    refine lv_iload hx hb dX11_wordEnd_80 (lv_at hl 5 rfl) ?_
    refine b_icmp_le (tgt := 90) hx hb hf dX11_wordEnd_82 (by decide) (fun hf => ?_) (fun hf => ?_)
    · exact t_X11_wordEnd_90 C hr_6 hH (lv_sub hl [1, 2, 3, 4, 5, 6] rfl) hf
    · refine lv_iload hx hb dX11_wordEnd_85 (lv_at hl 7 rfl) ?_
      refine lv_goto (tgt := 92) hx hb dX11_wordEnd_87 (by decide) ?_
      refine lv_istore (lv' := [(4, .int v6), (7, .int t0), (0, .ref (B + 713)), (1, .int v1), (2, .int v2), (3, .int v3), (5, .int v5), (6, .int v6)]) hx hb dX11_wordEnd_92 hl (by decide) rfl (fun ls hl => ?_)
      refine b_let hf (fun x1 he hf => ?_)
      refine lv_iinc (v := x1) (lv' := [(5, .int x1), (4, .int v6), (7, .int t0), (0, .ref (B + 713)), (1, .int v1), (2, .int v2), (3, .int v3), (6, .int v6)]) hx hb dX11_wordEnd_94 hl (k := 6) rfl (by rw [← he]; rfl) (by decide) rfl (fun ls hl => ?_)
      refine lv_goto (tgt := 6) hx hb dX11_wordEnd_97 (by decide) ?_
      exact hr_6 v1 v2 v3 v6 x1 w hf _ _ _ hH (lv_sub hl [3, 4, 5, 6, 1, 0] rfl)
set_option maxRecDepth 100000 in
set_option maxHeartbeats 4000000 in
theorem t_X11_wordEnd_70 {D : va_G} {B : Nat} {Y : Nat → ClassId} {p : Program} {l : Launch} {e : Env} {s : State} {m : MethodId} {args : Array Value} {below : List Frame} {meth : Method} {c : Code} {z : (Int32 × Wd)} {H : Heap} {locs : List Loc} {ls : Array Slot} {w : Wd} {v1 : Int32} {v2 : Int32} {v3 : Int32} {v4 : Int32} {v5 : Int32} {v6 : Int32} (C : CX D B Y p s m args meth c cX11_wordEnd 8 RX11 (some .int))  {rc_6 : Int32 × Int32 × Int32 × Int32 × Int32 × Wd → Option (Int32 × Wd)} (hr_6 : ∀ (v1 : Int32) (v2 : Int32) (v3 : Int32) (v4 : Int32) (v5 : Int32) (w : Wd), rc_6 (v1, v2, v3, v4, v5, w) = some z → ∀ (H : Heap) (locs : List Loc) (ls : Array Slot), HS D B Y w s H locs → lv_has ls 8 [(0, .ref (B + 713)), (1, .int v1), (2, .int v2), (3, .int v3), (4, .int v4), (5, .int v5)] → W p l e (RM 4 0 0) s m args below meth c H locs 0 0 (MQ below (QG D B Y (some (.int z.1)) z.2 True) args s 0 0 (AB B)) (F0 m 6 ls []))    (hH : HS D B Y w s H locs) (hl : lv_has ls 8 [(0, .ref (B + 713)), (1, .int v1), (2, .int v2), (3, .int v3), (4, .int v4), (5, .int v5), (6, .int v6)]) (hf : f_X11_wordEnd_70 rc_6 v1 v2 v3 v4 v5 v6 w = some z) : W p l e (RM 4 0 0) s m args below meth c H locs 0 0 (MQ below (QG D B Y (some (.int z.1)) z.2 True) args s 0 0 (AB B)) (F0 m 70 ls []) := by
  have hx := C.1
  have hb := C.2.1
  unfold f_X11_wordEnd_70 at hf
  refine lv_iconst (v := (0 : Int32)) hx hb dX11_wordEnd_70 (by decide) ?_
  exact t_X11_wordEnd_71 C hr_6 isZ_0 hH (lv_sub hl [0, 1, 2, 3, 4, 5, 6] rfl) hf
set_option maxRecDepth 100000 in
set_option maxHeartbeats 4000000 in
theorem tb_X11_wordEnd_6 {D : va_G} {B : Nat} {Y : Nat → ClassId} {p : Program} {l : Launch} {e : Env} {s : State} {m : MethodId} {args : Array Value} {below : List Frame} {meth : Method} {c : Code} {z : (Int32 × Wd)} {H : Heap} {locs : List Loc} {ls : Array Slot} {w : Wd} {v1 : Int32} {v2 : Int32} {v3 : Int32} {v4 : Int32} {v5 : Int32} (C : CX D B Y p s m args meth c cX11_wordEnd 8 RX11 (some .int))  {rc_6 : Int32 × Int32 × Int32 × Int32 × Int32 × Wd → Option (Int32 × Wd)} (hr_6 : ∀ (v1 : Int32) (v2 : Int32) (v3 : Int32) (v4 : Int32) (v5 : Int32) (w : Wd), rc_6 (v1, v2, v3, v4, v5, w) = some z → ∀ (H : Heap) (locs : List Loc) (ls : Array Slot), HS D B Y w s H locs → lv_has ls 8 [(0, .ref (B + 713)), (1, .int v1), (2, .int v2), (3, .int v3), (4, .int v4), (5, .int v5)] → W p l e (RM 4 0 0) s m args below meth c H locs 0 0 (MQ below (QG D B Y (some (.int z.1)) z.2 True) args s 0 0 (AB B)) (F0 m 6 ls []))    (hH : HS D B Y w s H locs) (hl : lv_has ls 8 [(0, .ref (B + 713)), (1, .int v1), (2, .int v2), (3, .int v3), (4, .int v4), (5, .int v5)]) (hf : g_X11_wordEnd_6 rc_6 v1 v2 v3 v4 v5 w = some z) : W p l e (RM 4 0 0) s m args below meth c H locs 0 0 (MQ below (QG D B Y (some (.int z.1)) z.2 True) args s 0 0 (AB B)) (F0 m 6 ls []) := by
  have hx := C.1
  have hb := C.2.1
  unfold g_X11_wordEnd_6 at hf
  refine lv_iload hx hb dX11_wordEnd_6 (lv_at hl 5 rfl) ?_
  refine lv_aload_n hx hb dX11_wordEnd_8 rfl (lv_at hl 0 rfl) ?_
  refine fg_X11_7 C hH dX11_wordEnd_9 ?_
  refine lv_sipush (v := (1502 : Int32)) hx hb dX11_wordEnd_12 (by decide) ?_
  refine g_iald C hH kc_714 hf dX11_wordEnd_15 (fun x1 hf => ?_)
  refine b_icmp_ge (tgt := 100) hx hb hf dX11_wordEnd_16 (by decide) (fun hf => ?_) (fun hf => ?_)
  · refine lv_iload_n hx hb dX11_wordEnd_100 rfl (lv_at hl 2 rfl) ?_
    refine lv_iconst (v := (1 : Int32)) hx hb dX11_wordEnd_101 (by decide) ?_
    refine lv_iadd hx hb dX11_wordEnd_102 ?_
    refine b_leti hf (fun x2 hf => ?_)
    refine lv_istore (lv' := [(5, .int x2), (0, .ref (B + 713)), (1, .int v1), (2, .int v2), (3, .int v3), (4, .int v4)]) hx hb dX11_wordEnd_103 hl (by decide) rfl (fun ls hl => ?_)
    exact t_X11_wordEnd_105 C hH (lv_sub hl [1, 2, 3, 5, 0] rfl) hf
  · refine lv_aload_n hx hb dX11_wordEnd_19 rfl (lv_at hl 0 rfl) ?_
    refine fg_X11_7 C hH dX11_wordEnd_20 ?_
    refine lv_sipush (v := (1503 : Int32)) hx hb dX11_wordEnd_23 (by decide) ?_
    refine lv_bipush (v := (9 : Int32)) hx hb dX11_wordEnd_26 (by decide) ?_
    refine lv_iload hx hb dX11_wordEnd_28 (lv_at hl 5 rfl) ?_
    refine lv_imul hx hb dX11_wordEnd_30 ?_
    refine lv_iadd hx hb dX11_wordEnd_31 ?_
    refine g_iald C hH kc_714 hf dX11_wordEnd_32 (fun x3 hf => ?_)
    refine lv_istore (lv' := [(6, .int x3), (0, .ref (B + 713)), (1, .int v1), (2, .int v2), (3, .int v3), (4, .int v4), (5, .int v5)]) hx hb dX11_wordEnd_33 hl (by decide) rfl (fun ls hl => ?_)
    refine lv_aload_n hx hb dX11_wordEnd_35 rfl (lv_at hl 1 rfl) ?_
    refine lv_iload_n hx hb dX11_wordEnd_36 rfl (lv_at hl 2 rfl) ?_
    refine lv_iload_n hx hb dX11_wordEnd_37 rfl (lv_at hl 3 rfl) ?_
    refine lv_iload hx hb dX11_wordEnd_38 (lv_at hl 6 rfl) ?_
    obtain ⟨x5, w4, hc, hf⟩ := bd_some hf
    refine q_callV1 (v := .int x5) (As := [.int v1, .int v2, .int v5]) C hH (ci := 11) rfl (by omega) gk_X11_255 yd_X11_isWordAt (by omega) (by omega) kc_713 (c_X11_isWordAt hc) hl.1 rfl (Nat.le_of_ble_eq_true rfl) dX11_wordEnd_40 ⟨by decide, by decide⟩ (fun H locs hH z_x5 => ?_)
    refine b_if_eq (tgt := 70) hx hb hf dX11_wordEnd_43 (by decide) (fun hf => ?_) (fun hf => ?_)
    · exact t_X11_wordEnd_70 C hr_6 hH (lv_sub hl [1, 2, 3, 4, 5, 6, 0] rfl) hf
    · refine lv_iload_n hx hb dX11_wordEnd_46 rfl (lv_at hl 3 rfl) ?_
      refine lv_iload hx hb dX11_wordEnd_47 (lv_at hl 0 rfl) ?_
      refine lv_iadd hx hb dX11_wordEnd_49 ?_
      refine lv_iload_n hx hb dX11_wordEnd_50 rfl (lv_at hl 4 rfl) ?_
      refine b_icmp_gt (tgt := 70) hx hb hf dX11_wordEnd_51 (by decide) (fun hf => ?_) (fun hf => ?_)
      · exact t_X11_wordEnd_70 C hr_6 hH (lv_sub hl [1, 2, 3, 4, 5, 6, 0] rfl) hf
      · refine lv_aload_n hx hb dX11_wordEnd_54 rfl (lv_at hl 1 rfl) ?_
        refine lv_iload_n hx hb dX11_wordEnd_55 rfl (lv_at hl 2 rfl) ?_
        refine lv_iload_n hx hb dX11_wordEnd_56 rfl (lv_at hl 3 rfl) ?_
        refine lv_iload hx hb dX11_wordEnd_57 (lv_at hl 0 rfl) ?_
        refine lv_iadd hx hb dX11_wordEnd_59 ?_
        obtain ⟨x7, w6, hc, hf⟩ := bd_some hf
        refine q_callV1 (v := .int x7) (As := [.int v1, .int (v2 + x3)]) C hH (ci := 11) rfl (by omega) gk_X11_258 yd_X11_isEdge (by omega) (by omega) kc_713 (c_X11_isEdge hc) hl.1 rfl (Nat.le_of_ble_eq_true rfl) dX11_wordEnd_60 ⟨by decide, by decide⟩ (fun H locs hH z_x7 => ?_)
        refine b_if_eq (tgt := 70) hx hb hf dX11_wordEnd_63 (by decide) (fun hf => ?_) (fun hf => ?_)
        · exact t_X11_wordEnd_70 C hr_6 hH (lv_sub hl [1, 2, 3, 4, 5, 6, 0] rfl) hf
        · refine lv_iconst (v := (1 : Int32)) hx hb dX11_wordEnd_66 (by decide) ?_
          refine lv_goto (tgt := 71) hx hb dX11_wordEnd_67 (by decide) ?_
          exact t_X11_wordEnd_71 C hr_6 isZ_1 hH (lv_sub hl [1, 2, 3, 4, 5, 6, 0] rfl) hf
set_option maxRecDepth 100000 in
set_option maxHeartbeats 4000000 in
theorem t_X11_wordEnd_6 {D : va_G} {B : Nat} {Y : Nat → ClassId} {p : Program} {l : Launch} {e : Env} {s : State} {m : MethodId} {args : Array Value} {below : List Frame} {meth : Method} {c : Code} {z : (Int32 × Wd)} {H : Heap} {locs : List Loc} {ls : Array Slot} {w : Wd} {v1 : Int32} {v2 : Int32} {v3 : Int32} {v4 : Int32} {v5 : Int32} (C : CX D B Y p s m args meth c cX11_wordEnd 8 RX11 (some .int))     (hH : HS D B Y w s H locs) (hl : lv_has ls 8 [(0, .ref (B + 713)), (1, .int v1), (2, .int v2), (3, .int v3), (4, .int v4), (5, .int v5)]) (hf : f_X11_wordEnd_6 v1 v2 v3 v4 v5 w = some z) : W p l e (RM 4 0 0) s m args below meth c H locs 0 0 (MQ below (QG D B Y (some (.int z.1)) z.2 True) args s 0 0 (AB B)) (F0 m 6 ls []) := by
  exact loopN_ind (z := z) (body := fun rc σ => g_X11_wordEnd_6 rc  σ.1 σ.2.1 σ.2.2.1 σ.2.2.2.1 σ.2.2.2.2.1 σ.2.2.2.2.2)
    (P := fun σ => ∀ (H : Heap) (locs : List Loc) (ls : Array Slot), HS D B Y σ.2.2.2.2.2 s H locs → lv_has ls 8 [(0, .ref (B + 713)), (1, .int σ.1), (2, .int σ.2.1), (3, .int σ.2.2.1), (4, .int σ.2.2.2.1), (5, .int σ.2.2.2.2.1)] → W p l e (RM 4 0 0) s m args below meth c H locs 0 0 (MQ below (QG D B Y (some (.int z.1)) z.2 True) args s 0 0 (AB B)) (F0 m 6 ls []))
    (fun rc hrec σ hf  H locs ls hH hl => tb_X11_wordEnd_6 C (fun v1 v2 v3 v4 v5 w hr  H locs ls hH hl => hrec (v1, v2, v3, v4, v5, w) hr  H locs ls hH hl)   hH hl hf) FU (v1, v2, v3, v4, v5, w) hf  H locs ls hH hl
set_option maxRecDepth 100000 in
set_option maxHeartbeats 4000000 in
theorem t_X11_wordEnd_0 {D : va_G} {B : Nat} {Y : Nat → ClassId} {p : Program} {l : Launch} {e : Env} {s : State} {m : MethodId} {args : Array Value} {below : List Frame} {meth : Method} {c : Code} {z : (Int32 × Wd)} {H : Heap} {locs : List Loc} {ls : Array Slot} {w : Wd} {v1 : Int32} {v2 : Int32} {v3 : Int32} (C : CX D B Y p s m args meth c cX11_wordEnd 8 RX11 (some .int))     (hH : HS D B Y w s H locs) (hl : lv_has ls 8 [(0, .ref (B + 713)), (1, .int v1), (2, .int v2), (3, .int v3)]) (hf : f_X11_wordEnd v1 v2 v3 w = some z) : W p l e (RM 4 0 0) s m args below meth c H locs 0 0 (MQ below (QG D B Y (some (.int z.1)) z.2 True) args s 0 0 (AB B)) (F0 m 0 ls []) := by
  have hx := C.1
  have hb := C.2.1
  unfold f_X11_wordEnd at hf
  refine lv_iconst (v := (0 : Int32)) hx hb dX11_wordEnd_0 (by decide) ?_
  refine lv_istore (lv' := [(4, .int (0 : Int32)), (0, .ref (B + 713)), (1, .int v1), (2, .int v2), (3, .int v3)]) hx hb dX11_wordEnd_1 hl (by decide) rfl (fun ls hl => ?_)
  refine lv_iconst (v := (0 : Int32)) hx hb dX11_wordEnd_3 (by decide) ?_
  refine lv_istore (lv' := [(5, .int (0 : Int32)), (4, .int (0 : Int32)), (0, .ref (B + 713)), (1, .int v1), (2, .int v2), (3, .int v3)]) hx hb dX11_wordEnd_4 hl (by decide) rfl (fun ls hl => ?_)
  exact t_X11_wordEnd_6 C hH (lv_sub hl [2, 3, 4, 5, 1, 0] rfl) hf
set_option maxRecDepth 100000 in
theorem c_X11_wordEnd {l : Launch} {D : va_G} {B : Nat} {Y : Nat → ClassId} {v1 : Int32} {v2 : Int32} {v3 : Int32} {w : Wd} {r : Int32} {w1 : Wd}   (hf : f_X11_wordEnd v1 v2 v3 w = some (r, w1)) : CM l D B Y yX11_wordEnd cX11_wordEnd 8 (some .int) 4 [.ref (B + 713), .int v1, .int v2, .int v3] w (some (.int r)) w1 True :=
  CM_of (by decide +kernel) (Nat.le_of_ble_eq_true rfl) (fun p e s m args below meth c ls C hH hl => t_X11_wordEnd_0 C  hH (lv_sub hl [0, 1, 2, 3] rfl) hf)
/-! LetterTablesModel.laysWords -/
set_option maxRecDepth 100000 in
set_option maxHeartbeats 4000000 in
theorem tb_X11_laysWords_99 {D : va_G} {B : Nat} {Y : Nat → ClassId} {p : Program} {l : Launch} {e : Env} {s : State} {m : MethodId} {args : Array Value} {below : List Frame} {meth : Method} {c : Code} {z : (Unit × Wd)} {H : Heap} {locs : List Loc} {ls : Array Slot} {w : Wd} {v1 : Int32} {v2 : Int32} {v3 : Int32} (C : CX D B Y p s m args meth c cX11_laysWords 5 RX11 none)  {rc_99 : Int32 × Int32 × Int32 × Wd → Option (Unit × Wd)} (hr_99 : ∀ (v1 : Int32) (v2 : Int32) (v3 : Int32) (w : Wd), rc_99 (v1, v2, v3, w) = some z → ∀ (H : Heap) (locs : List Loc) (ls : Array Slot), HS D B Y w s H locs → lv_has ls 5 [(0, .ref (B + 713)), (1, .int v1), (2, .int v2), (3, .int v3)] → W p l e (RM 5 0 0) s m args below meth c H locs 0 0 (MQ below (QG D B Y none z.2 True) args s 0 0 (AB B)) (F0 m 99 ls [])) {rc_29 : Int32 × Int32 × Int32 × Wd → Option (Unit × Wd)} (hr_29 : ∀ (v1 : Int32) (v2 : Int32) (v3 : Int32) (w : Wd), rc_29 (v1, v2, v3, w) = some z → ∀ (H : Heap) (locs : List Loc) (ls : Array Slot), HS D B Y w s H locs → lv_has ls 5 [(0, .ref (B + 713)), (1, .int v1), (2, .int v2), (3, .int v3)] → W p l e (RM 5 0 0) s m args below meth c H locs 0 0 (MQ below (QG D B Y none z.2 True) args s 0 0 (AB B)) (F0 m 29 ls []))    (hH : HS D B Y w s H locs) (hl : lv_has ls 5 [(0, .ref (B + 713)), (1, .int v1), (2, .int v2), (3, .int v3)]) (hf : g_X11_laysWords_99 rc_99 rc_29 v1 v2 v3 w = some z) : W p l e (RM 5 0 0) s m args below meth c H locs 0 0 (MQ below (QG D B Y none z.2 True) args s 0 0 (AB B)) (F0 m 99 ls []) := by
  have hx := C.1
  have hb := C.2.1
  unfold g_X11_laysWords_99 at hf
  refine lv_iload_n hx hb dX11_laysWords_99 rfl (lv_at hl 3 rfl) ?_
  refine lv_iload_n hx hb dX11_laysWords_100 rfl (lv_at hl 2 rfl) ?_
  refine b_icmp_ge (tgt := 119) hx hb hf dX11_laysWords_101 (by decide) (fun hf => ?_) (fun hf => ?_)
  · refine lv_goto (tgt := 29) hx hb dX11_laysWords_119 (by decide) ?_
    exact hr_29 v1 v2 v3 w hf _ _ _ hH (lv_sub hl [0, 1, 2, 3] rfl)
  · refine lv_aload_n hx hb dX11_laysWords_104 rfl (lv_at hl 0 rfl) ?_
    refine lv_iload_n hx hb dX11_laysWords_105 rfl (lv_at hl 1 rfl) ?_
    refine lv_iload_n hx hb dX11_laysWords_106 rfl (lv_at hl 3 rfl) ?_
    obtain ⟨x2, w1, hc, hf⟩ := bd_some hf
    refine q_callV1 (v := .int x2) (As := [.int v1, .int v3]) C hH (ci := 11) rfl (by omega) gk_X11_249 yd_X11_isCluster (by omega) (by omega) kc_713 (c_X11_isCluster hc) hl.1 rfl (Nat.le_of_ble_eq_true rfl) dX11_laysWords_107 ⟨by decide, by decide⟩ (fun H locs hH z_x2 => ?_)
    refine b_if_ne (tgt := 119) hx hb hf dX11_laysWords_110 (by decide) (fun hf => ?_) (fun hf => ?_)
    · refine lv_goto (tgt := 29) hx hb dX11_laysWords_119 (by decide) ?_
      exact hr_29 v1 v2 v3 w1 hf _ _ _ hH (lv_sub hl [0, 1, 2, 3] rfl)
    · refine b_let hf (fun x3 he hf => ?_)
      refine lv_iinc (v := x3) (lv' := [(3, .int x3), (0, .ref (B + 713)), (1, .int v1), (2, .int v2)]) hx hb dX11_laysWords_113 hl (k := 3) rfl (by rw [← he]; rfl) (by decide) rfl (fun ls hl => ?_)
      refine lv_goto (tgt := 99) hx hb dX11_laysWords_116 (by decide) ?_
      exact hr_99 v1 v2 x3 w1 hf _ _ _ hH (lv_sub hl [1, 2, 3, 0] rfl)
set_option maxRecDepth 100000 in
set_option maxHeartbeats 4000000 in
theorem t_X11_laysWords_99 {D : va_G} {B : Nat} {Y : Nat → ClassId} {p : Program} {l : Launch} {e : Env} {s : State} {m : MethodId} {args : Array Value} {below : List Frame} {meth : Method} {c : Code} {z : (Unit × Wd)} {H : Heap} {locs : List Loc} {ls : Array Slot} {w : Wd} {v1 : Int32} {v2 : Int32} {v3 : Int32} (C : CX D B Y p s m args meth c cX11_laysWords 5 RX11 none)  {rc_29 : Int32 × Int32 × Int32 × Wd → Option (Unit × Wd)} (hr_29 : ∀ (v1 : Int32) (v2 : Int32) (v3 : Int32) (w : Wd), rc_29 (v1, v2, v3, w) = some z → ∀ (H : Heap) (locs : List Loc) (ls : Array Slot), HS D B Y w s H locs → lv_has ls 5 [(0, .ref (B + 713)), (1, .int v1), (2, .int v2), (3, .int v3)] → W p l e (RM 5 0 0) s m args below meth c H locs 0 0 (MQ below (QG D B Y none z.2 True) args s 0 0 (AB B)) (F0 m 29 ls []))    (hH : HS D B Y w s H locs) (hl : lv_has ls 5 [(0, .ref (B + 713)), (1, .int v1), (2, .int v2), (3, .int v3)]) (hf : f_X11_laysWords_99 rc_29 v1 v2 v3 w = some z) : W p l e (RM 5 0 0) s m args below meth c H locs 0 0 (MQ below (QG D B Y none z.2 True) args s 0 0 (AB B)) (F0 m 99 ls []) := by
  exact loopN_ind (z := z) (body := fun rc σ => g_X11_laysWords_99 rc rc_29 σ.1 σ.2.1 σ.2.2.1 σ.2.2.2)
    (P := fun σ => ∀ (H : Heap) (locs : List Loc) (ls : Array Slot), HS D B Y σ.2.2.2 s H locs → lv_has ls 5 [(0, .ref (B + 713)), (1, .int σ.1), (2, .int σ.2.1), (3, .int σ.2.2.1)] → W p l e (RM 5 0 0) s m args below meth c H locs 0 0 (MQ below (QG D B Y none z.2 True) args s 0 0 (AB B)) (F0 m 99 ls []))
    (fun rc hrec σ hf  H locs ls hH hl => tb_X11_laysWords_99 C (fun v1 v2 v3 w hr  H locs ls hH hl => hrec (v1, v2, v3, w) hr  H locs ls hH hl) hr_29  hH hl hf) FU (v1, v2, v3, w) hf  H locs ls hH hl
set_option maxRecDepth 100000 in
set_option maxHeartbeats 4000000 in
theorem tb_X11_laysWords_71 {D : va_G} {B : Nat} {Y : Nat → ClassId} {p : Program} {l : Launch} {e : Env} {s : State} {m : MethodId} {args : Array Value} {below : List Frame} {meth : Method} {c : Code} {z : (Unit × Wd)} {H : Heap} {locs : List Loc} {ls : Array Slot} {w : Wd} {v1 : Int32} {v2 : Int32} {v3 : Int32} {v4 : Int32} (C : CX D B Y p s m args meth c cX11_laysWords 5 RX11 none)  {rc_71 : Int32 × Int32 × Int32 × Int32 × Wd → Option (Unit × Wd)} (hr_71 : ∀ (v1 : Int32) (v2 : Int32) (v3 : Int32) (v4 : Int32) (w : Wd), rc_71 (v1, v2, v3, v4, w) = some z → ∀ (H : Heap) (locs : List Loc) (ls : Array Slot), HS D B Y w s H locs → lv_has ls 5 [(0, .ref (B + 713)), (1, .int v1), (2, .int v2), (3, .int v3), (4, .int v4)] → W p l e (RM 5 0 0) s m args below meth c H locs 0 0 (MQ below (QG D B Y none z.2 True) args s 0 0 (AB B)) (F0 m 71 ls [])) {rc_29 : Int32 × Int32 × Int32 × Wd → Option (Unit × Wd)} (hr_29 : ∀ (v1 : Int32) (v2 : Int32) (v3 : Int32) (w : Wd), rc_29 (v1, v2, v3, w) = some z → ∀ (H : Heap) (locs : List Loc) (ls : Array Slot), HS D B Y w s H locs → lv_has ls 5 [(0, .ref (B + 713)), (1, .int v1), (2, .int v2), (3, .int v3)] → W p l e (RM 5 0 0) s m args below meth c H locs 0 0 (MQ below (QG D B Y none z.2 True) args s 0 0 (AB B)) (F0 m 29 ls []))    (hH : HS D B Y w s H locs) (hl : lv_has ls 5 [(0, .ref (B + 713)), (1, .int v1), (2, .int v2), (3, .int v3), (4, .int v4)]) (hf : g_X11_laysWords_71 rc_71 rc_29 v1 v2 v3 v4 w = some z) : W p l e (RM 5 0 0) s m args below meth c H locs 0 0 (MQ below (QG D B Y none z.2 True) args s 0 0 (AB B)) (F0 m 71 ls []) := by
  have hx := C.1
  have hb := C.2.1
  unfold g_X11_laysWords_71 at hf
  refine lv_iload_n hx hb dX11_laysWords_71 rfl (lv_at hl 3 rfl) ?_
  refine lv_iload hx hb dX11_laysWords_72 (lv_at hl 4 rfl) ?_
  refine b_icmp_ge (tgt := 96) hx hb hf dX11_laysWords_74 (by decide) (fun hf => ?_) (fun hf => ?_)
  · refine b_let hf (fun x1 he hf => ?_)
    refine lv_iinc (v := x1) (lv' := [(3, .int x1), (0, .ref (B + 713)), (1, .int v1), (2, .int v2), (4, .int v4)]) hx hb dX11_laysWords_96 hl (k := 3) rfl (by rw [← he]; rfl) (by decide) rfl (fun ls hl => ?_)
    exact t_X11_laysWords_99 C hr_29 hH (lv_sub hl [1, 2, 3, 0] rfl) hf
  · refine lv_aload_n hx hb dX11_laysWords_77 rfl (lv_at hl 0 rfl) ?_
    refine lv_iload_n hx hb dX11_laysWords_78 rfl (lv_at hl 1 rfl) ?_
    refine lv_iload_n hx hb dX11_laysWords_79 rfl (lv_at hl 3 rfl) ?_
    refine lv_iload hx hb dX11_laysWords_80 (lv_at hl 4 rfl) ?_
    obtain ⟨x3, w2, hc, hf⟩ := bd_some hf
    refine q_callV1 (v := .int x3) (As := [.int v1, .int v3, .int v4]) C hH (ci := 11) rfl (by omega) gk_X11_261 yd_X11_wordEnd (by omega) (by omega) kc_713 (c_X11_wordEnd hc) hl.1 rfl (Nat.le_of_ble_eq_true rfl) dX11_laysWords_82 ⟨by decide, by decide⟩ (fun H locs hH hP => ?_)
    refine lv_istore_n (lv' := [(3, .int x3), (0, .ref (B + 713)), (1, .int v1), (2, .int v2), (4, .int v4)]) hx hb dX11_laysWords_85 rfl hl (by decide) rfl (fun ls hl => ?_)
    refine lv_aload_n hx hb dX11_laysWords_86 rfl (lv_at hl 1 rfl) ?_
    refine fg_X11_67 C hH dX11_laysWords_87 ?_
    refine lv_iload_n hx hb dX11_laysWords_90 rfl (lv_at hl 0 rfl) ?_
    refine lv_iconst (v := (1 : Int32)) hx hb dX11_laysWords_91 (by decide) ?_
    refine g_zast C hH kc_733 isZ_1 hf dX11_laysWords_92 (fun w4 H locs hf hH => ?_)
    refine lv_goto (tgt := 71) hx hb dX11_laysWords_93 (by decide) ?_
    exact hr_71 v1 v2 x3 v4 w4 hf _ _ _ hH (lv_sub hl [1, 2, 3, 0, 4] rfl)
set_option maxRecDepth 100000 in
set_option maxHeartbeats 4000000 in
theorem t_X11_laysWords_71 {D : va_G} {B : Nat} {Y : Nat → ClassId} {p : Program} {l : Launch} {e : Env} {s : State} {m : MethodId} {args : Array Value} {below : List Frame} {meth : Method} {c : Code} {z : (Unit × Wd)} {H : Heap} {locs : List Loc} {ls : Array Slot} {w : Wd} {v1 : Int32} {v2 : Int32} {v3 : Int32} {v4 : Int32} (C : CX D B Y p s m args meth c cX11_laysWords 5 RX11 none)  {rc_29 : Int32 × Int32 × Int32 × Wd → Option (Unit × Wd)} (hr_29 : ∀ (v1 : Int32) (v2 : Int32) (v3 : Int32) (w : Wd), rc_29 (v1, v2, v3, w) = some z → ∀ (H : Heap) (locs : List Loc) (ls : Array Slot), HS D B Y w s H locs → lv_has ls 5 [(0, .ref (B + 713)), (1, .int v1), (2, .int v2), (3, .int v3)] → W p l e (RM 5 0 0) s m args below meth c H locs 0 0 (MQ below (QG D B Y none z.2 True) args s 0 0 (AB B)) (F0 m 29 ls []))    (hH : HS D B Y w s H locs) (hl : lv_has ls 5 [(0, .ref (B + 713)), (1, .int v1), (2, .int v2), (3, .int v3), (4, .int v4)]) (hf : f_X11_laysWords_71 rc_29 v1 v2 v3 v4 w = some z) : W p l e (RM 5 0 0) s m args below meth c H locs 0 0 (MQ below (QG D B Y none z.2 True) args s 0 0 (AB B)) (F0 m 71 ls []) := by
  exact loopN_ind (z := z) (body := fun rc σ => g_X11_laysWords_71 rc rc_29 σ.1 σ.2.1 σ.2.2.1 σ.2.2.2.1 σ.2.2.2.2)
    (P := fun σ => ∀ (H : Heap) (locs : List Loc) (ls : Array Slot), HS D B Y σ.2.2.2.2 s H locs → lv_has ls 5 [(0, .ref (B + 713)), (1, .int σ.1), (2, .int σ.2.1), (3, .int σ.2.2.1), (4, .int σ.2.2.2.1)] → W p l e (RM 5 0 0) s m args below meth c H locs 0 0 (MQ below (QG D B Y none z.2 True) args s 0 0 (AB B)) (F0 m 71 ls []))
    (fun rc hrec σ hf  H locs ls hH hl => tb_X11_laysWords_71 C (fun v1 v2 v3 v4 w hr  H locs ls hH hl => hrec (v1, v2, v3, v4, w) hr  H locs ls hH hl) hr_29  hH hl hf) FU (v1, v2, v3, v4, w) hf  H locs ls hH hl
set_option maxRecDepth 100000 in
set_option maxHeartbeats 4000000 in
theorem tb_X11_laysWords_37 {D : va_G} {B : Nat} {Y : Nat → ClassId} {p : Program} {l : Launch} {e : Env} {s : State} {m : MethodId} {args : Array Value} {below : List Frame} {meth : Method} {c : Code} {z : (Unit × Wd)} {H : Heap} {locs : List Loc} {ls : Array Slot} {w : Wd} {v1 : Int32} {v2 : Int32} {v3 : Int32} {v4 : Int32} (C : CX D B Y p s m args meth c cX11_laysWords 5 RX11 none)  {rc_37 : Int32 × Int32 × Int32 × Int32 × Wd → Option (Unit × Wd)} (hr_37 : ∀ (v1 : Int32) (v2 : Int32) (v3 : Int32) (v4 : Int32) (w : Wd), rc_37 (v1, v2, v3, v4, w) = some z → ∀ (H : Heap) (locs : List Loc) (ls : Array Slot), HS D B Y w s H locs → lv_has ls 5 [(0, .ref (B + 713)), (1, .int v1), (2, .int v2), (3, .int v3), (4, .int v4)] → W p l e (RM 5 0 0) s m args below meth c H locs 0 0 (MQ below (QG D B Y none z.2 True) args s 0 0 (AB B)) (F0 m 37 ls [])) {rc_29 : Int32 × Int32 × Int32 × Wd → Option (Unit × Wd)} (hr_29 : ∀ (v1 : Int32) (v2 : Int32) (v3 : Int32) (w : Wd), rc_29 (v1, v2, v3, w) = some z → ∀ (H : Heap) (locs : List Loc) (ls : Array Slot), HS D B Y w s H locs → lv_has ls 5 [(0, .ref (B + 713)), (1, .int v1), (2, .int v2), (3, .int v3)] → W p l e (RM 5 0 0) s m args below meth c H locs 0 0 (MQ below (QG D B Y none z.2 True) args s 0 0 (AB B)) (F0 m 29 ls []))    (hH : HS D B Y w s H locs) (hl : lv_has ls 5 [(0, .ref (B + 713)), (1, .int v1), (2, .int v2), (3, .int v3), (4, .int v4)]) (hf : g_X11_laysWords_37 rc_37 rc_29 v1 v2 v3 v4 w = some z) : W p l e (RM 5 0 0) s m args below meth c H locs 0 0 (MQ below (QG D B Y none z.2 True) args s 0 0 (AB B)) (F0 m 37 ls []) := by
  have hx := C.1
  have hb := C.2.1
  unfold g_X11_laysWords_37 at hf
  refine lv_iload hx hb dX11_laysWords_37 (lv_at hl 4 rfl) ?_
  refine lv_iload_n hx hb dX11_laysWords_39 rfl (lv_at hl 2 rfl) ?_
  refine b_icmp_ge (tgt := 71) hx hb hf dX11_laysWords_40 (by decide) (fun hf => ?_) (fun hf => ?_)
  · exact t_X11_laysWords_71 C hr_29 hH (lv_sub hl [0, 1, 2, 3, 4] rfl) hf
  · refine lv_aload_n hx hb dX11_laysWords_43 rfl (lv_at hl 0 rfl) ?_
    refine lv_iload_n hx hb dX11_laysWords_44 rfl (lv_at hl 1 rfl) ?_
    refine lv_iload hx hb dX11_laysWords_45 (lv_at hl 4 rfl) ?_
    obtain ⟨x2, w1, hc, hf⟩ := bd_some hf
    refine q_callV1 (v := .int x2) (As := [.int v1, .int v4]) C hH (ci := 11) rfl (by omega) gk_X11_249 yd_X11_isCluster (by omega) (by omega) kc_713 (c_X11_isCluster hc) hl.1 rfl (Nat.le_of_ble_eq_true rfl) dX11_laysWords_47 ⟨by decide, by decide⟩ (fun H locs hH z_x2 => ?_)
    refine b_if_eq (tgt := 65) hx hb hf dX11_laysWords_50 (by decide) (fun hf => ?_) (fun hf => ?_)
    · refine b_let hf (fun x3 he hf => ?_)
      refine lv_iinc (v := x3) (lv' := [(4, .int x3), (0, .ref (B + 713)), (1, .int v1), (2, .int v2), (3, .int v3)]) hx hb dX11_laysWords_65 hl (k := 4) rfl (by rw [← he]; rfl) (by decide) rfl (fun ls hl => ?_)
      refine lv_goto (tgt := 37) hx hb dX11_laysWords_68 (by decide) ?_
      exact hr_37 v1 v2 v3 x3 w1 hf _ _ _ hH (lv_sub hl [1, 2, 3, 4, 0] rfl)
    · refine lv_aload_n hx hb dX11_laysWords_53 rfl (lv_at hl 0 rfl) ?_
      refine lv_iload_n hx hb dX11_laysWords_54 rfl (lv_at hl 1 rfl) ?_
      refine lv_iload hx hb dX11_laysWords_55 (lv_at hl 4 rfl) ?_
      obtain ⟨x5, w4, hc, hf⟩ := bd_some hf
      refine q_callV1 (v := .int x5) (As := [.int v1, .int v4]) C hH (ci := 11) rfl (by omega) gk_X11_252 yd_X11_kindAt (by omega) (by omega) kc_713 (c_X11_kindAt hc) hl.1 rfl (Nat.le_of_ble_eq_true rfl) dX11_laysWords_57 ⟨by decide, by decide⟩ (fun H locs hH hP => ?_)
      refine lv_bipush (v := (6 : Int32)) hx hb dX11_laysWords_60 (by decide) ?_
      refine b_icmp_ne (tgt := 71) hx hb hf dX11_laysWords_62 (by decide) (fun hf => ?_) (fun hf => ?_)
      · exact t_X11_laysWords_71 C hr_29 hH (lv_sub hl [0, 1, 2, 3, 4] rfl) hf
      · refine b_let hf (fun x6 he hf => ?_)
        refine lv_iinc (v := x6) (lv' := [(4, .int x6), (0, .ref (B + 713)), (1, .int v1), (2, .int v2), (3, .int v3)]) hx hb dX11_laysWords_65 hl (k := 4) rfl (by rw [← he]; rfl) (by decide) rfl (fun ls hl => ?_)
        refine lv_goto (tgt := 37) hx hb dX11_laysWords_68 (by decide) ?_
        exact hr_37 v1 v2 v3 x6 w4 hf _ _ _ hH (lv_sub hl [1, 2, 3, 4, 0] rfl)
set_option maxRecDepth 100000 in
set_option maxHeartbeats 4000000 in
theorem t_X11_laysWords_37 {D : va_G} {B : Nat} {Y : Nat → ClassId} {p : Program} {l : Launch} {e : Env} {s : State} {m : MethodId} {args : Array Value} {below : List Frame} {meth : Method} {c : Code} {z : (Unit × Wd)} {H : Heap} {locs : List Loc} {ls : Array Slot} {w : Wd} {v1 : Int32} {v2 : Int32} {v3 : Int32} {v4 : Int32} (C : CX D B Y p s m args meth c cX11_laysWords 5 RX11 none)  {rc_29 : Int32 × Int32 × Int32 × Wd → Option (Unit × Wd)} (hr_29 : ∀ (v1 : Int32) (v2 : Int32) (v3 : Int32) (w : Wd), rc_29 (v1, v2, v3, w) = some z → ∀ (H : Heap) (locs : List Loc) (ls : Array Slot), HS D B Y w s H locs → lv_has ls 5 [(0, .ref (B + 713)), (1, .int v1), (2, .int v2), (3, .int v3)] → W p l e (RM 5 0 0) s m args below meth c H locs 0 0 (MQ below (QG D B Y none z.2 True) args s 0 0 (AB B)) (F0 m 29 ls []))    (hH : HS D B Y w s H locs) (hl : lv_has ls 5 [(0, .ref (B + 713)), (1, .int v1), (2, .int v2), (3, .int v3), (4, .int v4)]) (hf : f_X11_laysWords_37 rc_29 v1 v2 v3 v4 w = some z) : W p l e (RM 5 0 0) s m args below meth c H locs 0 0 (MQ below (QG D B Y none z.2 True) args s 0 0 (AB B)) (F0 m 37 ls []) := by
  exact loopN_ind (z := z) (body := fun rc σ => g_X11_laysWords_37 rc rc_29 σ.1 σ.2.1 σ.2.2.1 σ.2.2.2.1 σ.2.2.2.2)
    (P := fun σ => ∀ (H : Heap) (locs : List Loc) (ls : Array Slot), HS D B Y σ.2.2.2.2 s H locs → lv_has ls 5 [(0, .ref (B + 713)), (1, .int σ.1), (2, .int σ.2.1), (3, .int σ.2.2.1), (4, .int σ.2.2.2.1)] → W p l e (RM 5 0 0) s m args below meth c H locs 0 0 (MQ below (QG D B Y none z.2 True) args s 0 0 (AB B)) (F0 m 37 ls []))
    (fun rc hrec σ hf  H locs ls hH hl => tb_X11_laysWords_37 C (fun v1 v2 v3 v4 w hr  H locs ls hH hl => hrec (v1, v2, v3, v4, w) hr  H locs ls hH hl) hr_29  hH hl hf) FU (v1, v2, v3, v4, w) hf  H locs ls hH hl
set_option maxRecDepth 100000 in
set_option maxHeartbeats 4000000 in
theorem tb_X11_laysWords_29 {D : va_G} {B : Nat} {Y : Nat → ClassId} {p : Program} {l : Launch} {e : Env} {s : State} {m : MethodId} {args : Array Value} {below : List Frame} {meth : Method} {c : Code} {z : (Unit × Wd)} {H : Heap} {locs : List Loc} {ls : Array Slot} {w : Wd} {v1 : Int32} {v2 : Int32} {v3 : Int32} (C : CX D B Y p s m args meth c cX11_laysWords 5 RX11 none)  {rc_29 : Int32 × Int32 × Int32 × Wd → Option (Unit × Wd)} (hr_29 : ∀ (v1 : Int32) (v2 : Int32) (v3 : Int32) (w : Wd), rc_29 (v1, v2, v3, w) = some z → ∀ (H : Heap) (locs : List Loc) (ls : Array Slot), HS D B Y w s H locs → lv_has ls 5 [(0, .ref (B + 713)), (1, .int v1), (2, .int v2), (3, .int v3)] → W p l e (RM 5 0 0) s m args below meth c H locs 0 0 (MQ below (QG D B Y none z.2 True) args s 0 0 (AB B)) (F0 m 29 ls []))    (hH : HS D B Y w s H locs) (hl : lv_has ls 5 [(0, .ref (B + 713)), (1, .int v1), (2, .int v2), (3, .int v3)]) (hf : g_X11_laysWords_29 rc_29 v1 v2 v3 w = some z) : W p l e (RM 5 0 0) s m args below meth c H locs 0 0 (MQ below (QG D B Y none z.2 True) args s 0 0 (AB B)) (F0 m 29 ls []) := by
  have hx := C.1
  have hb := C.2.1
  unfold g_X11_laysWords_29 at hf
  refine lv_iload_n hx hb dX11_laysWords_29 rfl (lv_at hl 3 rfl) ?_
  refine lv_iload_n hx hb dX11_laysWords_30 rfl (lv_at hl 2 rfl) ?_
  refine b_icmp_ge (tgt := 122) hx hb hf dX11_laysWords_31 (by decide) (fun hf => ?_) (fun hf => ?_)
  · cases hf
    exact q_retv C hH trivial dX11_laysWords_122
  · refine lv_iload_n hx hb dX11_laysWords_34 rfl (lv_at hl 3 rfl) ?_
    refine lv_istore (lv' := [(4, .int v3), (0, .ref (B + 713)), (1, .int v1), (2, .int v2), (3, .int v3)]) hx hb dX11_laysWords_35 hl (by decide) rfl (fun ls hl => ?_)
    exact t_X11_laysWords_37 C hr_29 hH (lv_sub hl [1, 2, 3, 4, 0] rfl) hf
set_option maxRecDepth 100000 in
set_option maxHeartbeats 4000000 in
theorem t_X11_laysWords_29 {D : va_G} {B : Nat} {Y : Nat → ClassId} {p : Program} {l : Launch} {e : Env} {s : State} {m : MethodId} {args : Array Value} {below : List Frame} {meth : Method} {c : Code} {z : (Unit × Wd)} {H : Heap} {locs : List Loc} {ls : Array Slot} {w : Wd} {v1 : Int32} {v2 : Int32} {v3 : Int32} (C : CX D B Y p s m args meth c cX11_laysWords 5 RX11 none)     (hH : HS D B Y w s H locs) (hl : lv_has ls 5 [(0, .ref (B + 713)), (1, .int v1), (2, .int v2), (3, .int v3)]) (hf : f_X11_laysWords_29 v1 v2 v3 w = some z) : W p l e (RM 5 0 0) s m args below meth c H locs 0 0 (MQ below (QG D B Y none z.2 True) args s 0 0 (AB B)) (F0 m 29 ls []) := by
  exact loopN_ind (z := z) (body := fun rc σ => g_X11_laysWords_29 rc  σ.1 σ.2.1 σ.2.2.1 σ.2.2.2)
    (P := fun σ => ∀ (H : Heap) (locs : List Loc) (ls : Array Slot), HS D B Y σ.2.2.2 s H locs → lv_has ls 5 [(0, .ref (B + 713)), (1, .int σ.1), (2, .int σ.2.1), (3, .int σ.2.2.1)] → W p l e (RM 5 0 0) s m args below meth c H locs 0 0 (MQ below (QG D B Y none z.2 True) args s 0 0 (AB B)) (F0 m 29 ls []))
    (fun rc hrec σ hf  H locs ls hH hl => tb_X11_laysWords_29 C (fun v1 v2 v3 w hr  H locs ls hH hl => hrec (v1, v2, v3, w) hr  H locs ls hH hl)   hH hl hf) FU (v1, v2, v3, w) hf  H locs ls hH hl
set_option maxRecDepth 100000 in
set_option maxHeartbeats 4000000 in
theorem tb_X11_laysWords_9 {D : va_G} {B : Nat} {Y : Nat → ClassId} {p : Program} {l : Launch} {e : Env} {s : State} {m : MethodId} {args : Array Value} {below : List Frame} {meth : Method} {c : Code} {z : (Unit × Wd)} {H : Heap} {locs : List Loc} {ls : Array Slot} {w : Wd} {v1 : Int32} {v2 : Int32} {v3 : Int32} (C : CX D B Y p s m args meth c cX11_laysWords 5 RX11 none)  {rc_9 : Int32 × Int32 × Int32 × Wd → Option (Unit × Wd)} (hr_9 : ∀ (v1 : Int32) (v2 : Int32) (v3 : Int32) (w : Wd), rc_9 (v1, v2, v3, w) = some z → ∀ (H : Heap) (locs : List Loc) (ls : Array Slot), HS D B Y w s H locs → lv_has ls 5 [(0, .ref (B + 713)), (1, .int v1), (2, .int v2), (3, .int v3)] → W p l e (RM 5 0 0) s m args below meth c H locs 0 0 (MQ below (QG D B Y none z.2 True) args s 0 0 (AB B)) (F0 m 9 ls []))    (hH : HS D B Y w s H locs) (hl : lv_has ls 5 [(0, .ref (B + 713)), (1, .int v1), (2, .int v2), (3, .int v3)]) (hf : g_X11_laysWords_9 rc_9 v1 v2 v3 w = some z) : W p l e (RM 5 0 0) s m args below meth c H locs 0 0 (MQ below (QG D B Y none z.2 True) args s 0 0 (AB B)) (F0 m 9 ls []) := by
  have hx := C.1
  have hb := C.2.1
  unfold g_X11_laysWords_9 at hf
  refine lv_iload_n hx hb dX11_laysWords_9 rfl (lv_at hl 3 rfl) ?_
  refine lv_iload_n hx hb dX11_laysWords_10 rfl (lv_at hl 2 rfl) ?_
  refine b_icmp_gt (tgt := 27) hx hb hf dX11_laysWords_11 (by decide) (fun hf => ?_) (fun hf => ?_)
  · refine lv_iconst (v := (0 : Int32)) hx hb dX11_laysWords_27 (by decide) ?_
    refine lv_istore_n (lv' := [(3, .int (0 : Int32)), (0, .ref (B + 713)), (1, .int v1), (2, .int v2)]) hx hb dX11_laysWords_28 rfl hl (by decide) rfl (fun ls hl => ?_)
    exact t_X11_laysWords_29 C hH (lv_sub hl [1, 2, 3, 0] rfl) hf
  · refine lv_aload_n hx hb dX11_laysWords_14 rfl (lv_at hl 0 rfl) ?_
    refine fg_X11_67 C hH dX11_laysWords_15 ?_
    refine lv_iload_n hx hb dX11_laysWords_18 rfl (lv_at hl 3 rfl) ?_
    refine lv_iconst (v := (0 : Int32)) hx hb dX11_laysWords_19 (by decide) ?_
    refine g_zast C hH kc_733 isZ_0 hf dX11_laysWords_20 (fun w1 H locs hf hH => ?_)
    refine b_let hf (fun x2 he hf => ?_)
    refine lv_iinc (v := x2) (lv' := [(3, .int x2), (0, .ref (B + 713)), (1, .int v1), (2, .int v2)]) hx hb dX11_laysWords_21 hl (k := 3) rfl (by rw [← he]; rfl) (by decide) rfl (fun ls hl => ?_)
    refine lv_goto (tgt := 9) hx hb dX11_laysWords_24 (by decide) ?_
    exact hr_9 v1 v2 x2 w1 hf _ _ _ hH (lv_sub hl [1, 2, 3, 0] rfl)
set_option maxRecDepth 100000 in
set_option maxHeartbeats 4000000 in
theorem t_X11_laysWords_9 {D : va_G} {B : Nat} {Y : Nat → ClassId} {p : Program} {l : Launch} {e : Env} {s : State} {m : MethodId} {args : Array Value} {below : List Frame} {meth : Method} {c : Code} {z : (Unit × Wd)} {H : Heap} {locs : List Loc} {ls : Array Slot} {w : Wd} {v1 : Int32} {v2 : Int32} {v3 : Int32} (C : CX D B Y p s m args meth c cX11_laysWords 5 RX11 none)     (hH : HS D B Y w s H locs) (hl : lv_has ls 5 [(0, .ref (B + 713)), (1, .int v1), (2, .int v2), (3, .int v3)]) (hf : f_X11_laysWords_9 v1 v2 v3 w = some z) : W p l e (RM 5 0 0) s m args below meth c H locs 0 0 (MQ below (QG D B Y none z.2 True) args s 0 0 (AB B)) (F0 m 9 ls []) := by
  exact loopN_ind (z := z) (body := fun rc σ => g_X11_laysWords_9 rc  σ.1 σ.2.1 σ.2.2.1 σ.2.2.2)
    (P := fun σ => ∀ (H : Heap) (locs : List Loc) (ls : Array Slot), HS D B Y σ.2.2.2 s H locs → lv_has ls 5 [(0, .ref (B + 713)), (1, .int σ.1), (2, .int σ.2.1), (3, .int σ.2.2.1)] → W p l e (RM 5 0 0) s m args below meth c H locs 0 0 (MQ below (QG D B Y none z.2 True) args s 0 0 (AB B)) (F0 m 9 ls []))
    (fun rc hrec σ hf  H locs ls hH hl => tb_X11_laysWords_9 C (fun v1 v2 v3 w hr  H locs ls hH hl => hrec (v1, v2, v3, w) hr  H locs ls hH hl)   hH hl hf) FU (v1, v2, v3, w) hf  H locs ls hH hl
set_option maxRecDepth 100000 in
set_option maxHeartbeats 4000000 in
theorem t_X11_laysWords_0 {D : va_G} {B : Nat} {Y : Nat → ClassId} {p : Program} {l : Launch} {e : Env} {s : State} {m : MethodId} {args : Array Value} {below : List Frame} {meth : Method} {c : Code} {z : (Unit × Wd)} {H : Heap} {locs : List Loc} {ls : Array Slot} {w : Wd} {v1 : Int32} (C : CX D B Y p s m args meth c cX11_laysWords 5 RX11 none)     (hH : HS D B Y w s H locs) (hl : lv_has ls 5 [(0, .ref (B + 713)), (1, .int v1)]) (hf : f_X11_laysWords v1 w = some z) : W p l e (RM 5 0 0) s m args below meth c H locs 0 0 (MQ below (QG D B Y none z.2 True) args s 0 0 (AB B)) (F0 m 0 ls []) := by
  have hx := C.1
  have hb := C.2.1
  unfold f_X11_laysWords at hf
  refine lv_aload_n hx hb dX11_laysWords_0 rfl (lv_at hl 0 rfl) ?_
  refine fg_X11_19 C hH dX11_laysWords_1 ?_
  refine lv_iload_n hx hb dX11_laysWords_4 rfl (lv_at hl 1 rfl) ?_
  refine g_iald C hH kc_717 hf dX11_laysWords_5 (fun x1 hf => ?_)
  refine lv_istore_n (lv' := [(2, .int x1), (0, .ref (B + 713)), (1, .int v1)]) hx hb dX11_laysWords_6 rfl hl (by decide) rfl (fun ls hl => ?_)
  refine lv_iconst (v := (0 : Int32)) hx hb dX11_laysWords_7 (by decide) ?_
  refine lv_istore_n (lv' := [(3, .int (0 : Int32)), (2, .int x1), (0, .ref (B + 713)), (1, .int v1)]) hx hb dX11_laysWords_8 rfl hl (by decide) rfl (fun ls hl => ?_)
  exact t_X11_laysWords_9 C hH (lv_sub hl [2, 3, 1, 0] rfl) hf
set_option maxRecDepth 100000 in
theorem c_X11_laysWords {l : Launch} {D : va_G} {B : Nat} {Y : Nat → ClassId} {v1 : Int32} {w : Wd} {r : Unit} {w1 : Wd}   (hf : f_X11_laysWords v1 w = some (r, w1)) : CM l D B Y yX11_laysWords cX11_laysWords 5 none 5 [.ref (B + 713), .int v1] w none w1 True :=
  CM_of (by decide +kernel) (Nat.le_of_ble_eq_true rfl) (fun p e s m args below meth c ls C hH hl => t_X11_laysWords_0 C  hH (lv_sub hl [0, 1] rfl) hf)
/-! LetterTablesModel.isBreak -/
set_option maxRecDepth 100000 in
set_option maxHeartbeats 4000000 in
theorem t_X11_isBreak_148 {D : va_G} {B : Nat} {Y : Nat → ClassId} {p : Program} {l : Launch} {e : Env} {s : State} {m : MethodId} {args : Array Value} {below : List Frame} {meth : Method} {c : Code} {z : (Int32 × Wd)} {H : Heap} {locs : List Loc} {ls : Array Slot} {w : Wd} {v7 : Int32} (C : CX D B Y p s m args meth c cX11_isBreak 9 RX11 (some .boolean))    (z_v7 : isZ v7) (hH : HS D B Y w s H locs) (hl : lv_has ls 9 [(7, .int v7)]) (hf : f_X11_isBreak_148 v7 w = some z) : W p l e (RM 4 0 0) s m args below meth c H locs 0 0 (MQ below (QG D B Y (some (.int z.1)) z.2 (isZ z.1)) args s 0 0 (AB B)) (F0 m 148 ls []) := by
  have hx := C.1
  have hb := C.2.1
  unfold f_X11_isBreak_148 at hf
  refine lv_iload hx hb dX11_isBreak_148 (lv_at hl 0 rfl) ?_
  refine b_if_eq (tgt := 157) hx hb hf dX11_isBreak_150 (by decide) (fun hf => ?_) (fun hf => ?_)
  · refine lv_iconst (v := (0 : Int32)) hx hb dX11_isBreak_157 (by decide) ?_
    cases hf
    exact q_retz C hH isZ_0 isZ_0 dX11_isBreak_158
  · refine lv_iconst (v := (1 : Int32)) hx hb dX11_isBreak_153 (by decide) ?_
    refine lv_goto (tgt := 158) hx hb dX11_isBreak_154 (by decide) ?_
    cases hf
    exact q_retz C hH isZ_1 isZ_1 dX11_isBreak_158
set_option maxRecDepth 100000 in
set_option maxHeartbeats 4000000 in
theorem t_X11_isBreak_120 {D : va_G} {B : Nat} {Y : Nat → ClassId} {p : Program} {l : Launch} {e : Env} {s : State} {m : MethodId} {args : Array Value} {below : List Frame} {meth : Method} {c : Code} {z : (Int32 × Wd)} {H : Heap} {locs : List Loc} {ls : Array Slot} {w : Wd} {v3 : Int32} {v4 : Int32} {v5 : Int32} {v7 : Int32} {t0 : Int32} (C : CX D B Y p s m args meth c cX11_isBreak 9 RX11 (some .boolean))    (z_v7 : isZ v7) (z_t0 : isZ t0) (hH : HS D B Y w s H locs) (hl : lv_has ls 9 [(3, .int v3), (4, .int v4), (5, .int v5), (7, .int v7)]) (hf : f_X11_isBreak_120 v3 v4 v5 v7 t0 w = some z) : W p l e (RM 4 0 0) s m args below meth c H locs 0 0 (MQ below (QG D B Y (some (.int z.1)) z.2 (isZ z.1)) args s 0 0 (AB B)) (F0 m 120 ls [.int t0]) := by
  have hx := C.1
  have hb := C.2.1
  unfold f_X11_isBreak_120 at hf
  refine lv_istore (lv' := [(8, .int t0), (3, .int v3), (4, .int v4), (5, .int v5), (7, .int v7)]) hx hb dX11_isBreak_120 hl (by decide) rfl (fun ls hl => ?_)
  refine lv_iload_n hx hb dX11_isBreak_122 rfl (lv_at hl 1 rfl) ?_
  refine b_if_eq (tgt := 153) hx hb hf dX11_isBreak_123 (by decide) (fun hf => ?_) (fun hf => ?_)
  · refine lv_iconst (v := (1 : Int32)) hx hb dX11_isBreak_153 (by decide) ?_
    refine lv_goto (tgt := 158) hx hb dX11_isBreak_154 (by decide) ?_
    cases hf
    exact q_retz C hH isZ_1 isZ_1 dX11_isBreak_158
  · refine lv_iload hx hb dX11_isBreak_126 (lv_at hl 0 rfl) ?_
    refine b_if_eq (tgt := 157) hx hb hf dX11_isBreak_128 (by decide) (fun hf => ?_) (fun hf => ?_)
    · refine lv_iconst (v := (0 : Int32)) hx hb dX11_isBreak_157 (by decide) ?_
      cases hf
      exact q_retz C hH isZ_0 isZ_0 dX11_isBreak_158
    · refine lv_iload_n hx hb dX11_isBreak_131 rfl (lv_at hl 1 rfl) ?_
      refine lv_iconst (v := (1 : Int32)) hx hb dX11_isBreak_132 (by decide) ?_
      refine b_icmp_eq (tgt := 153) hx hb hf dX11_isBreak_133 (by decide) (fun hf => ?_) (fun hf => ?_)
      · refine lv_iconst (v := (1 : Int32)) hx hb dX11_isBreak_153 (by decide) ?_
        refine lv_goto (tgt := 158) hx hb dX11_isBreak_154 (by decide) ?_
        cases hf
        exact q_retz C hH isZ_1 isZ_1 dX11_isBreak_158
      · refine lv_iload hx hb dX11_isBreak_136 (lv_at hl 2 rfl) ?_
        refine lv_iconst (v := (3 : Int32)) hx hb dX11_isBreak_138 (by decide) ?_
        refine b_icmp_ne (tgt := 148) hx hb hf dX11_isBreak_139 (by decide) (fun hf => ?_) (fun hf => ?_)
        · exact t_X11_isBreak_148 C z_v7 hH (lv_sub hl [4] rfl) hf
        · refine lv_iload hx hb dX11_isBreak_142 (lv_at hl 3 rfl) ?_
          refine lv_iconst (v := (3 : Int32)) hx hb dX11_isBreak_144 (by decide) ?_
          refine b_icmp_ne (tgt := 153) hx hb hf dX11_isBreak_145 (by decide) (fun hf => ?_) (fun hf => ?_)
          · refine lv_iconst (v := (1 : Int32)) hx hb dX11_isBreak_153 (by decide) ?_
            refine lv_goto (tgt := 158) hx hb dX11_isBreak_154 (by decide) ?_
            cases hf
            exact q_retz C hH isZ_1 isZ_1 dX11_isBreak_158
          · exact t_X11_isBreak_148 C z_v7 hH (lv_sub hl [4] rfl) hf
set_option maxRecDepth 100000 in
set_option maxHeartbeats 4000000 in
theorem t_X11_isBreak_119 {D : va_G} {B : Nat} {Y : Nat → ClassId} {p : Program} {l : Launch} {e : Env} {s : State} {m : MethodId} {args : Array Value} {below : List Frame} {meth : Method} {c : Code} {z : (Int32 × Wd)} {H : Heap} {locs : List Loc} {ls : Array Slot} {w : Wd} {v3 : Int32} {v4 : Int32} {v5 : Int32} {v7 : Int32} (C : CX D B Y p s m args meth c cX11_isBreak 9 RX11 (some .boolean))    (z_v7 : isZ v7) (hH : HS D B Y w s H locs) (hl : lv_has ls 9 [(3, .int v3), (4, .int v4), (5, .int v5), (7, .int v7)]) (hf : f_X11_isBreak_119 v3 v4 v5 v7 w = some z) : W p l e (RM 4 0 0) s m args below meth c H locs 0 0 (MQ below (QG D B Y (some (.int z.1)) z.2 (isZ z.1)) args s 0 0 (AB B)) (F0 m 119 ls []) := by
  have hx := C.1
  have hb := C.2.1
  unfold f_X11_isBreak_119 at hf
  refine lv_iconst (v := (0 : Int32)) hx hb dX11_isBreak_119 (by decide) ?_
  exact t_X11_isBreak_120 C z_v7 isZ_0 hH (lv_sub hl [0, 1, 2, 3] rfl) hf
set_option maxRecDepth 100000 in
set_option maxHeartbeats 4000000 in
theorem t_X11_isBreak_101 {D : va_G} {B : Nat} {Y : Nat → ClassId} {p : Program} {l : Launch} {e : Env} {s : State} {m : MethodId} {args : Array Value} {below : List Frame} {meth : Method} {c : Code} {z : (Int32 × Wd)} {H : Heap} {locs : List Loc} {ls : Array Slot} {w : Wd} {v2 : Int32} {v3 : Int32} {v4 : Int32} {v5 : Int32} {v7 : Int32} (C : CX D B Y p s m args meth c cX11_isBreak 9 RX11 (some .boolean))    (z_v7 : isZ v7) (hH : HS D B Y w s H locs) (hl : lv_has ls 9 [(0, .ref (B + 713)), (2, .int v2), (3, .int v3), (4, .int v4), (5, .int v5), (7, .int v7)]) (hf : f_X11_isBreak_101 v2 v3 v4 v5 v7 w = some z) : W p l e (RM 4 0 0) s m args below meth c H locs 0 0 (MQ below (QG D B Y (some (.int z.1)) z.2 (isZ z.1)) args s 0 0 (AB B)) (F0 m 101 ls []) := by
  have hx := C.1
  have hb := C.2.1
  unfold f_X11_isBreak_101 at hf
  refine lv_iload hx hb dX11_isBreak_101 (lv_at hl 5 rfl) ?_
  refine b_if_eq (tgt := 115) hx hb hf dX11_isBreak_103 (by decide) (fun hf => ?_) (fun hf => ?_)
  · refine lv_iconst (v := (1 : Int32)) hx hb dX11_isBreak_115 (by decide) ?_
    refine lv_goto (tgt := 120) hx hb dX11_isBreak_116 (by decide) ?_
    exact t_X11_isBreak_120 C z_v7 isZ_1 hH (lv_sub hl [2, 3, 4, 5] rfl) hf
  · refine lv_aload_n hx hb dX11_isBreak_106 rfl (lv_at hl 0 rfl) ?_
    refine fg_X11_67 C hH dX11_isBreak_107 ?_
    refine lv_iload_n hx hb dX11_isBreak_110 rfl (lv_at hl 1 rfl) ?_
    refine g_zald C hH kc_733 hf dX11_isBreak_111 (fun x1 hf => ?_)
    refine b_if_eq (tgt := 119) hx hb hf dX11_isBreak_112 (by decide) (fun hf => ?_) (fun hf => ?_)
    · exact t_X11_isBreak_119 C z_v7 hH (lv_sub hl [2, 3, 4, 5] rfl) hf
    · refine lv_iconst (v := (1 : Int32)) hx hb dX11_isBreak_115 (by decide) ?_
      refine lv_goto (tgt := 120) hx hb dX11_isBreak_116 (by decide) ?_
      exact t_X11_isBreak_120 C z_v7 isZ_1 hH (lv_sub hl [2, 3, 4, 5] rfl) hf
set_option maxRecDepth 100000 in
set_option maxHeartbeats 4000000 in
theorem t_X11_isBreak_82 {D : va_G} {B : Nat} {Y : Nat → ClassId} {p : Program} {l : Launch} {e : Env} {s : State} {m : MethodId} {args : Array Value} {below : List Frame} {meth : Method} {c : Code} {z : (Int32 × Wd)} {H : Heap} {locs : List Loc} {ls : Array Slot} {w : Wd} {v2 : Int32} {v3 : Int32} {v4 : Int32} {v5 : Int32} {v6 : Int32} {t0 : Int32} (C : CX D B Y p s m args meth c cX11_isBreak 9 RX11 (some .boolean))    (z_v6 : isZ v6) (z_t0 : isZ t0) (hH : HS D B Y w s H locs) (hl : lv_has ls 9 [(0, .ref (B + 713)), (2, .int v2), (3, .int v3), (4, .int v4), (5, .int v5), (6, .int v6)]) (hf : f_X11_isBreak_82 v2 v3 v4 v5 v6 t0 w = some z) : W p l e (RM 4 0 0) s m args below meth c H locs 0 0 (MQ below (QG D B Y (some (.int z.1)) z.2 (isZ z.1)) args s 0 0 (AB B)) (F0 m 82 ls [.int t0]) := by
  have hx := C.1
  have hb := C.2.1
  unfold f_X11_isBreak_82 at hf
  refine lv_istore (lv' := [(7, .int t0), (0, .ref (B + 713)), (2, .int v2), (3, .int v3), (4, .int v4), (5, .int v5), (6, .int v6)]) hx hb dX11_isBreak_82 hl (by decide) rfl (fun ls hl => ?_)
  refine lv_iload hx hb dX11_isBreak_84 (lv_at hl 6 rfl) ?_
  refine b_if_ne (tgt := 119) hx hb hf dX11_isBreak_86 (by decide) (fun hf => ?_) (fun hf => ?_)
  · exact t_X11_isBreak_119 C z_t0 hH (lv_sub hl [3, 4, 5, 0] rfl) hf
  · refine lv_iload hx hb dX11_isBreak_89 (lv_at hl 4 rfl) ?_
    refine lv_iconst (v := (3 : Int32)) hx hb dX11_isBreak_91 (by decide) ?_
    refine b_icmp_ne (tgt := 101) hx hb hf dX11_isBreak_92 (by decide) (fun hf => ?_) (fun hf => ?_)
    · exact t_X11_isBreak_101 C z_t0 hH (lv_sub hl [1, 2, 3, 4, 5, 0] rfl) hf
    · refine lv_iload hx hb dX11_isBreak_95 (lv_at hl 5 rfl) ?_
      refine lv_iconst (v := (3 : Int32)) hx hb dX11_isBreak_97 (by decide) ?_
      refine b_icmp_eq (tgt := 119) hx hb hf dX11_isBreak_98 (by decide) (fun hf => ?_) (fun hf => ?_)
      · exact t_X11_isBreak_119 C z_t0 hH (lv_sub hl [3, 4, 5, 0] rfl) hf
      · exact t_X11_isBreak_101 C z_t0 hH (lv_sub hl [1, 2, 3, 4, 5, 0] rfl) hf
set_option maxRecDepth 100000 in
set_option maxHeartbeats 4000000 in
theorem t_X11_isBreak_81 {D : va_G} {B : Nat} {Y : Nat → ClassId} {p : Program} {l : Launch} {e : Env} {s : State} {m : MethodId} {args : Array Value} {below : List Frame} {meth : Method} {c : Code} {z : (Int32 × Wd)} {H : Heap} {locs : List Loc} {ls : Array Slot} {w : Wd} {v2 : Int32} {v3 : Int32} {v4 : Int32} {v5 : Int32} {v6 : Int32} (C : CX D B Y p s m args meth c cX11_isBreak 9 RX11 (some .boolean))    (z_v6 : isZ v6) (hH : HS D B Y w s H locs) (hl : lv_has ls 9 [(0, .ref (B + 713)), (2, .int v2), (3, .int v3), (4, .int v4), (5, .int v5), (6, .int v6)]) (hf : f_X11_isBreak_81 v2 v3 v4 v5 v6 w = some z) : W p l e (RM 4 0 0) s m args below meth c H locs 0 0 (MQ below (QG D B Y (some (.int z.1)) z.2 (isZ z.1)) args s 0 0 (AB B)) (F0 m 81 ls []) := by
  have hx := C.1
  have hb := C.2.1
  unfold f_X11_isBreak_81 at hf
  refine lv_iconst (v := (0 : Int32)) hx hb dX11_isBreak_81 (by decide) ?_
  exact t_X11_isBreak_82 C z_v6 isZ_0 hH (lv_sub hl [0, 1, 2, 3, 4, 5] rfl) hf
set_option maxRecDepth 100000 in
set_option maxHeartbeats 4000000 in
theorem t_X11_isBreak_61 {D : va_G} {B : Nat} {Y : Nat → ClassId} {p : Program} {l : Launch} {e : Env} {s : State} {m : MethodId} {args : Array Value} {below : List Frame} {meth : Method} {c : Code} {z : (Int32 × Wd)} {H : Heap} {locs : List Loc} {ls : Array Slot} {w : Wd} {v2 : Int32} {v3 : Int32} {v4 : Int32} {v5 : Int32} {t0 : Int32} (C : CX D B Y p s m args meth c cX11_isBreak 9 RX11 (some .boolean))    (z_t0 : isZ t0) (hH : HS D B Y w s H locs) (hl : lv_has ls 9 [(0, .ref (B + 713)), (2, .int v2), (3, .int v3), (4, .int v4), (5, .int v5)]) (hf : f_X11_isBreak_61 v2 v3 v4 v5 t0 w = some z) : W p l e (RM 4 0 0) s m args below meth c H locs 0 0 (MQ below (QG D B Y (some (.int z.1)) z.2 (isZ z.1)) args s 0 0 (AB B)) (F0 m 61 ls [.int t0]) := by
  have hx := C.1
  have hb := C.2.1
  unfold f_X11_isBreak_61 at hf
  refine lv_istore (lv' := [(6, .int t0), (0, .ref (B + 713)), (2, .int v2), (3, .int v3), (4, .int v4), (5, .int v5)]) hx hb dX11_isBreak_61 hl (by decide) rfl (fun ls hl => ?_)
  refine lv_iload hx hb dX11_isBreak_63 (lv_at hl 4 rfl) ?_
  refine lv_bipush (v := (6 : Int32)) hx hb dX11_isBreak_65 (by decide) ?_
  refine b_icmp_ne (tgt := 81) hx hb hf dX11_isBreak_67 (by decide) (fun hf => ?_) (fun hf => ?_)
  · exact t_X11_isBreak_81 C z_t0 hH (lv_sub hl [1, 2, 3, 4, 5, 0] rfl) hf
  · refine lv_iload hx hb dX11_isBreak_70 (lv_at hl 5 rfl) ?_
    refine lv_bipush (v := (6 : Int32)) hx hb dX11_isBreak_72 (by decide) ?_
    refine b_icmp_ne (tgt := 81) hx hb hf dX11_isBreak_74 (by decide) (fun hf => ?_) (fun hf => ?_)
    · exact t_X11_isBreak_81 C z_t0 hH (lv_sub hl [1, 2, 3, 4, 5, 0] rfl) hf
    · refine lv_iconst (v := (1 : Int32)) hx hb dX11_isBreak_77 (by decide) ?_
      refine lv_goto (tgt := 82) hx hb dX11_isBreak_78 (by decide) ?_
      exact t_X11_isBreak_82 C z_t0 isZ_1 hH (lv_sub hl [1, 2, 3, 4, 5, 0] rfl) hf
set_option maxRecDepth 100000 in
set_option maxHeartbeats 4000000 in
theorem t_X11_isBreak_60 {D : va_G} {B : Nat} {Y : Nat → ClassId} {p : Program} {l : Launch} {e : Env} {s : State} {m : MethodId} {args : Array Value} {below : List Frame} {meth : Method} {c : Code} {z : (Int32 × Wd)} {H : Heap} {locs : List Loc} {ls : Array Slot} {w : Wd} {v2 : Int32} {v3 : Int32} {v4 : Int32} {v5 : Int32} (C : CX D B Y p s m args meth c cX11_isBreak 9 RX11 (some .boolean))     (hH : HS D B Y w s H locs) (hl : lv_has ls 9 [(0, .ref (B + 713)), (2, .int v2), (3, .int v3), (4, .int v4), (5, .int v5)]) (hf : f_X11_isBreak_60 v2 v3 v4 v5 w = some z) : W p l e (RM 4 0 0) s m args below meth c H locs 0 0 (MQ below (QG D B Y (some (.int z.1)) z.2 (isZ z.1)) args s 0 0 (AB B)) (F0 m 60 ls []) := by
  have hx := C.1
  have hb := C.2.1
  unfold f_X11_isBreak_60 at hf
  refine lv_iconst (v := (0 : Int32)) hx hb dX11_isBreak_60 (by decide) ?_
  exact t_X11_isBreak_61 C isZ_0 hH (lv_sub hl [0, 1, 2, 3, 4] rfl) hf
set_option maxRecDepth 100000 in
set_option maxHeartbeats 4000000 in
theorem t_X11_isBreak_44 {D : va_G} {B : Nat} {Y : Nat → ClassId} {p : Program} {l : Launch} {e : Env} {s : State} {m : MethodId} {args : Array Value} {below : List Frame} {meth : Method} {c : Code} {z : (Int32 × Wd)} {H : Heap} {locs : List Loc} {ls : Array Slot} {w : Wd} {v2 : Int32} {v3 : Int32} {v4 : Int32} {v5 : Int32} (C : CX D B Y p s m args meth c cX11_isBreak 9 RX11 (some .boolean))     (hH : HS D B Y w s H locs) (hl : lv_has ls 9 [(0, .ref (B + 713)), (2, .int v2), (3, .int v3), (4, .int v4), (5, .int v5)]) (hf : f_X11_isBreak_44 v2 v3 v4 v5 w = some z) : W p l e (RM 4 0 0) s m args below meth c H locs 0 0 (MQ below (QG D B Y (some (.int z.1)) z.2 (isZ z.1)) args s 0 0 (AB B)) (F0 m 44 ls []) := by
  have hx := C.1
  have hb := C.2.1
  unfold f_X11_isBreak_44 at hf
  refine lv_iload hx hb dX11_isBreak_44 (lv_at hl 4 rfl) ?_
  refine lv_iconst (v := (1 : Int32)) hx hb dX11_isBreak_46 (by decide) ?_
  refine b_icmp_eq (tgt := 56) hx hb hf dX11_isBreak_47 (by decide) (fun hf => ?_) (fun hf => ?_)
  · refine lv_iconst (v := (1 : Int32)) hx hb dX11_isBreak_56 (by decide) ?_
    refine lv_goto (tgt := 61) hx hb dX11_isBreak_57 (by decide) ?_
    exact t_X11_isBreak_61 C isZ_1 hH (lv_sub hl [0, 1, 2, 3, 4] rfl) hf
  · refine lv_iload hx hb dX11_isBreak_50 (lv_at hl 4 rfl) ?_
    refine lv_iconst (v := (4 : Int32)) hx hb dX11_isBreak_52 (by decide) ?_
    refine b_icmp_ne (tgt := 60) hx hb hf dX11_isBreak_53 (by decide) (fun hf => ?_) (fun hf => ?_)
    · exact t_X11_isBreak_60 C hH (lv_sub hl [0, 1, 2, 3, 4] rfl) hf
    · refine lv_iconst (v := (1 : Int32)) hx hb dX11_isBreak_56 (by decide) ?_
      refine lv_goto (tgt := 61) hx hb dX11_isBreak_57 (by decide) ?_
      exact t_X11_isBreak_61 C isZ_1 hH (lv_sub hl [0, 1, 2, 3, 4] rfl) hf
set_option maxRecDepth 100000 in
set_option maxHeartbeats 4000000 in
theorem t_X11_isBreak_0 {D : va_G} {B : Nat} {Y : Nat → ClassId} {p : Program} {l : Launch} {e : Env} {s : State} {m : MethodId} {args : Array Value} {below : List Frame} {meth : Method} {c : Code} {z : (Int32 × Wd)} {H : Heap} {locs : List Loc} {ls : Array Slot} {w : Wd} {v1 : Int32} {v2 : Int32} {v3 : Int32} (C : CX D B Y p s m args meth c cX11_isBreak 9 RX11 (some .boolean))     (hH : HS D B Y w s H locs) (hl : lv_has ls 9 [(0, .ref (B + 713)), (1, .int v1), (2, .int v2), (3, .int v3)]) (hf : f_X11_isBreak v1 v2 v3 w = some z) : W p l e (RM 4 0 0) s m args below meth c H locs 0 0 (MQ below (QG D B Y (some (.int z.1)) z.2 (isZ z.1)) args s 0 0 (AB B)) (F0 m 0 ls []) := by
  have hx := C.1
  have hb := C.2.1
  unfold f_X11_isBreak at hf
  refine lv_aload_n hx hb dX11_isBreak_0 rfl (lv_at hl 0 rfl) ?_
  refine lv_iload_n hx hb dX11_isBreak_1 rfl (lv_at hl 1 rfl) ?_
  refine lv_iload_n hx hb dX11_isBreak_2 rfl (lv_at hl 2 rfl) ?_
  obtain ⟨x2, w1, hc, hf⟩ := bd_some hf
  refine q_callV1 (v := .int x2) (As := [.int v1, .int v2]) C hH (ci := 11) rfl (by omega) gk_X11_249 yd_X11_isCluster (by omega) (by omega) kc_713 (c_X11_isCluster hc) hl.1 rfl (Nat.le_of_ble_eq_true rfl) dX11_isBreak_3 ⟨by decide, by decide⟩ (fun H locs hH z_x2 => ?_)
  refine b_if_ne (tgt := 11) hx hb hf dX11_isBreak_6 (by decide) (fun hf => ?_) (fun hf => ?_)
  · refine lv_aload_n hx hb dX11_isBreak_11 rfl (lv_at hl 0 rfl) ?_
    refine lv_iload_n hx hb dX11_isBreak_12 rfl (lv_at hl 1 rfl) ?_
    refine lv_aload_n hx hb dX11_isBreak_13 rfl (lv_at hl 0 rfl) ?_
    refine lv_iload_n hx hb dX11_isBreak_14 rfl (lv_at hl 1 rfl) ?_
    refine lv_iload_n hx hb dX11_isBreak_15 rfl (lv_at hl 2 rfl) ?_
    obtain ⟨x4, w3, hc, hf⟩ := bd_some hf
    refine q_callV1 (v := .int x4) (As := [.int v1, .int v2]) C hH (ci := 11) rfl (by omega) gk_X11_264 yd_X11_clusterAhead (by omega) (by omega) kc_713 (c_X11_clusterAhead hc) hl.1 rfl (Nat.le_of_ble_eq_true rfl) dX11_isBreak_16 ⟨by decide, by decide⟩ (fun H locs hH hP => ?_)
    obtain ⟨x6, w5, hc, hf⟩ := bd_some hf
    refine q_callV1 (v := .int x6) (As := [.int v1, .int x4]) C hH (ci := 11) rfl (by omega) gk_X11_252 yd_X11_kindAt (by omega) (by omega) kc_713 (c_X11_kindAt hc) hl.1 rfl (Nat.le_of_ble_eq_true rfl) dX11_isBreak_19 ⟨by decide, by decide⟩ (fun H locs hH hP => ?_)
    refine lv_istore (lv' := [(4, .int x6), (0, .ref (B + 713)), (1, .int v1), (2, .int v2), (3, .int v3)]) hx hb dX11_isBreak_22 hl (by decide) rfl (fun ls hl => ?_)
    refine lv_aload_n hx hb dX11_isBreak_24 rfl (lv_at hl 1 rfl) ?_
    refine lv_iload_n hx hb dX11_isBreak_25 rfl (lv_at hl 2 rfl) ?_
    refine lv_iload_n hx hb dX11_isBreak_26 rfl (lv_at hl 3 rfl) ?_
    obtain ⟨x8, w7, hc, hf⟩ := bd_some hf
    refine q_callV1 (v := .int x8) (As := [.int v1, .int v2]) C hH (ci := 11) rfl (by omega) gk_X11_252 yd_X11_kindAt (by omega) (by omega) kc_713 (c_X11_kindAt hc) hl.1 rfl (Nat.le_of_ble_eq_true rfl) dX11_isBreak_27 ⟨by decide, by decide⟩ (fun H locs hH hP => ?_)
    refine lv_istore (lv' := [(5, .int x8), (4, .int x6), (0, .ref (B + 713)), (1, .int v1), (2, .int v2), (3, .int v3)]) hx hb dX11_isBreak_30 hl (by decide) rfl (fun ls hl => ?_)
    refine lv_iload hx hb dX11_isBreak_32 (lv_at hl 1 rfl) ?_
    refine lv_iconst (v := (1 : Int32)) hx hb dX11_isBreak_34 (by decide) ?_
    refine b_icmp_eq (tgt := 44) hx hb hf dX11_isBreak_35 (by decide) (fun hf => ?_) (fun hf => ?_)
    · exact t_X11_isBreak_44 C hH (lv_sub hl [2, 4, 5, 1, 0] rfl) hf
    · refine lv_iload hx hb dX11_isBreak_38 (lv_at hl 1 rfl) ?_
      refine lv_iconst (v := (4 : Int32)) hx hb dX11_isBreak_40 (by decide) ?_
      refine b_icmp_ne (tgt := 60) hx hb hf dX11_isBreak_41 (by decide) (fun hf => ?_) (fun hf => ?_)
      · exact t_X11_isBreak_60 C hH (lv_sub hl [2, 4, 5, 1, 0] rfl) hf
      · exact t_X11_isBreak_44 C hH (lv_sub hl [2, 4, 5, 1, 0] rfl) hf
  · refine lv_iconst (v := (0 : Int32)) hx hb dX11_isBreak_9 (by decide) ?_
    cases hf
    exact q_retz C hH isZ_0 isZ_0 dX11_isBreak_10
set_option maxRecDepth 100000 in
theorem c_X11_isBreak {l : Launch} {D : va_G} {B : Nat} {Y : Nat → ClassId} {v1 : Int32} {v2 : Int32} {v3 : Int32} {w : Wd} {r : Int32} {w1 : Wd}   (hf : f_X11_isBreak v1 v2 v3 w = some (r, w1)) : CM l D B Y yX11_isBreak cX11_isBreak 9 (some .boolean) 4 [.ref (B + 713), .int v1, .int v2, .int v3] w (some (.int r)) w1 (isZ r) :=
  CM_of (by decide +kernel) (Nat.le_of_ble_eq_true rfl) (fun p e s m args below meth c ls C hH hl => t_X11_isBreak_0 C  hH (lv_sub hl [0, 1, 2, 3] rfl) hf)
/-! LetterTablesModel.breaks -/
set_option maxRecDepth 100000 in
set_option maxHeartbeats 4000000 in
theorem t_X11_breaks_75 {D : va_G} {B : Nat} {Y : Nat → ClassId} {p : Program} {l : Launch} {e : Env} {s : State} {m : MethodId} {args : Array Value} {below : List Frame} {meth : Method} {c : Code} {z : (Int64 × Wd)} {H : Heap} {locs : List Loc} {ls : Array Slot} {w : Wd} {v1 : Int32} {v2 : Int32} {v5 : Int32} {t0 : Int64} {t1 : Int64} (C : CX D B Y p s m args meth c cX11_breaks 6 RX11 (some .long))  {rc_44 : Int32 × Int32 × Int64 × Int32 × Wd → Option (Int64 × Wd)} (hr_44 : ∀ (v1 : Int32) (v2 : Int32) (v3 : Int64) (v5 : Int32) (w : Wd), rc_44 (v1, v2, v3, v5, w) = some z → ∀ (H : Heap) (locs : List Loc) (ls : Array Slot), HS D B Y w s H locs → lv_has ls 6 [(0, .ref (B + 713)), (1, .int v1), (2, .int v2), (3, .long v3), (5, .int v5)] → W p l e (RM 6 0 0) s m args below meth c H locs 0 0 (MQ below (QG D B Y (some (.long z.1)) z.2 True) args s 0 0 (AB B)) (F0 m 44 ls []))    (hH : HS D B Y w s H locs) (hl : lv_has ls 6 [(0, .ref (B + 713)), (1, .int v1), (2, .int v2), (5, .int v5)]) (hf : f_X11_breaks_75 rc_44 v1 v2 v5 t0 t1 w = some z) : W p l e (RM 6 0 0) s m args below meth c H locs 0 0 (MQ below (QG D B Y (some (.long z.1)) z.2 True) args s 0 0 (AB B)) (F0 m 75 ls [.long t1, .long t0]) := by
  have hx := C.1
  have hb := C.2.1
  unfold f_X11_breaks_75 at hf
  refine lv_lor hx hb dX11_breaks_75 ?_
  refine b_letl hf (fun y1 hf => ?_)
  refine lv_lstore_n (lv' := [(3, .long y1), (0, .ref (B + 713)), (1, .int v1), (2, .int v2), (5, .int v5)]) hx hb dX11_breaks_76 rfl hl (by decide) rfl (fun ls hl => ?_)
  refine b_let hf (fun x2 he hf => ?_)
  refine lv_iinc (v := x2) (lv' := [(5, .int x2), (3, .long y1), (0, .ref (B + 713)), (1, .int v1), (2, .int v2)]) hx hb dX11_breaks_77 hl (k := 4) rfl (by rw [← he]; rfl) (by decide) rfl (fun ls hl => ?_)
  refine lv_goto (tgt := 44) hx hb dX11_breaks_80 (by decide) ?_
  exact hr_44 v1 v2 y1 x2 w hf _ _ _ hH (lv_sub hl [2, 3, 4, 1, 0] rfl)
set_option maxRecDepth 100000 in
set_option maxHeartbeats 4000000 in
theorem tb_X11_breaks_44 {D : va_G} {B : Nat} {Y : Nat → ClassId} {p : Program} {l : Launch} {e : Env} {s : State} {m : MethodId} {args : Array Value} {below : List Frame} {meth : Method} {c : Code} {z : (Int64 × Wd)} {H : Heap} {locs : List Loc} {ls : Array Slot} {w : Wd} {v1 : Int32} {v2 : Int32} {v3 : Int64} {v5 : Int32} (C : CX D B Y p s m args meth c cX11_breaks 6 RX11 (some .long))  {rc_44 : Int32 × Int32 × Int64 × Int32 × Wd → Option (Int64 × Wd)} (hr_44 : ∀ (v1 : Int32) (v2 : Int32) (v3 : Int64) (v5 : Int32) (w : Wd), rc_44 (v1, v2, v3, v5, w) = some z → ∀ (H : Heap) (locs : List Loc) (ls : Array Slot), HS D B Y w s H locs → lv_has ls 6 [(0, .ref (B + 713)), (1, .int v1), (2, .int v2), (3, .long v3), (5, .int v5)] → W p l e (RM 6 0 0) s m args below meth c H locs 0 0 (MQ below (QG D B Y (some (.long z.1)) z.2 True) args s 0 0 (AB B)) (F0 m 44 ls []))    (hH : HS D B Y w s H locs) (hl : lv_has ls 6 [(0, .ref (B + 713)), (1, .int v1), (2, .int v2), (3, .long v3), (5, .int v5)]) (hf : g_X11_breaks_44 rc_44 v1 v2 v3 v5 w = some z) : W p l e (RM 6 0 0) s m args below meth c H locs 0 0 (MQ below (QG D B Y (some (.long z.1)) z.2 True) args s 0 0 (AB B)) (F0 m 44 ls []) := by
  have hx := C.1
  have hb := C.2.1
  unfold g_X11_breaks_44 at hf
  refine lv_iload hx hb dX11_breaks_44 (lv_at hl 4 rfl) ?_
  refine lv_aload_n hx hb dX11_breaks_46 rfl (lv_at hl 0 rfl) ?_
  refine fg_X11_19 C hH dX11_breaks_47 ?_
  refine lv_iload_n hx hb dX11_breaks_50 rfl (lv_at hl 1 rfl) ?_
  refine g_iald C hH kc_717 hf dX11_breaks_51 (fun x1 hf => ?_)
  refine b_icmp_ge (tgt := 83) hx hb hf dX11_breaks_52 (by decide) (fun hf => ?_) (fun hf => ?_)
  · refine lv_lload_n hx hb dX11_breaks_83 rfl (lv_at hl 3 rfl) ?_
    cases hf
    exact q_retl C hH trivial dX11_breaks_84
  · refine lv_lload_n hx hb dX11_breaks_55 rfl (lv_at hl 3 rfl) ?_
    refine lv_aload_n hx hb dX11_breaks_56 rfl (lv_at hl 0 rfl) ?_
    refine lv_iload_n hx hb dX11_breaks_57 rfl (lv_at hl 1 rfl) ?_
    refine lv_iload hx hb dX11_breaks_58 (lv_at hl 4 rfl) ?_
    refine lv_iload_n hx hb dX11_breaks_60 rfl (lv_at hl 2 rfl) ?_
    obtain ⟨x3, w2, hc, hf⟩ := bd_some hf
    refine q_callV1 (v := .int x3) (As := [.int v1, .int v5, .int v2]) C hH (ci := 11) rfl (by omega) gk_X11_270 yd_X11_isBreak (by omega) (by omega) kc_713 (c_X11_isBreak hc) hl.1 rfl (Nat.le_of_ble_eq_true rfl) dX11_breaks_61 ⟨by decide, by decide⟩ (fun H locs hH z_x3 => ?_)
    refine b_if_eq (tgt := 74) hx hb hf dX11_breaks_64 (by decide) (fun hf => ?_) (fun hf => ?_)
    · refine lv_lconst (v := (0 : Int64)) hx hb dX11_breaks_74 (by decide) ?_
      exact t_X11_breaks_75 C hr_44 hH (lv_sub hl [0, 1, 2, 4] rfl) hf
    · refine lv_lconst (v := (1 : Int64)) hx hb dX11_breaks_67 (by decide) ?_
      refine lv_iload hx hb dX11_breaks_68 (lv_at hl 4 rfl) ?_
      refine lv_lshl (v := (1 : Int64) <<< (v5.toInt64 &&& 63)) hx hb dX11_breaks_70 rfl ?_
      refine lv_goto (tgt := 75) hx hb dX11_breaks_71 (by decide) ?_
      exact t_X11_breaks_75 C hr_44 hH (lv_sub hl [0, 1, 2, 4] rfl) hf
set_option maxRecDepth 100000 in
set_option maxHeartbeats 4000000 in
theorem t_X11_breaks_44 {D : va_G} {B : Nat} {Y : Nat → ClassId} {p : Program} {l : Launch} {e : Env} {s : State} {m : MethodId} {args : Array Value} {below : List Frame} {meth : Method} {c : Code} {z : (Int64 × Wd)} {H : Heap} {locs : List Loc} {ls : Array Slot} {w : Wd} {v1 : Int32} {v2 : Int32} {v3 : Int64} {v5 : Int32} (C : CX D B Y p s m args meth c cX11_breaks 6 RX11 (some .long))     (hH : HS D B Y w s H locs) (hl : lv_has ls 6 [(0, .ref (B + 713)), (1, .int v1), (2, .int v2), (3, .long v3), (5, .int v5)]) (hf : f_X11_breaks_44 v1 v2 v3 v5 w = some z) : W p l e (RM 6 0 0) s m args below meth c H locs 0 0 (MQ below (QG D B Y (some (.long z.1)) z.2 True) args s 0 0 (AB B)) (F0 m 44 ls []) := by
  exact loopN_ind (z := z) (body := fun rc σ => g_X11_breaks_44 rc  σ.1 σ.2.1 σ.2.2.1 σ.2.2.2.1 σ.2.2.2.2)
    (P := fun σ => ∀ (H : Heap) (locs : List Loc) (ls : Array Slot), HS D B Y σ.2.2.2.2 s H locs → lv_has ls 6 [(0, .ref (B + 713)), (1, .int σ.1), (2, .int σ.2.1), (3, .long σ.2.2.1), (5, .int σ.2.2.2.1)] → W p l e (RM 6 0 0) s m args below meth c H locs 0 0 (MQ below (QG D B Y (some (.long z.1)) z.2 True) args s 0 0 (AB B)) (F0 m 44 ls []))
    (fun rc hrec σ hf  H locs ls hH hl => tb_X11_breaks_44 C (fun v1 v2 v3 v5 w hr  H locs ls hH hl => hrec (v1, v2, v3, v5, w) hr  H locs ls hH hl)   hH hl hf) FU (v1, v2, v3, v5, w) hf  H locs ls hH hl
set_option maxRecDepth 100000 in
set_option maxHeartbeats 4000000 in
theorem t_X11_breaks_26 {D : va_G} {B : Nat} {Y : Nat → ClassId} {p : Program} {l : Launch} {e : Env} {s : State} {m : MethodId} {args : Array Value} {below : List Frame} {meth : Method} {c : Code} {z : (Int64 × Wd)} {H : Heap} {locs : List Loc} {ls : Array Slot} {w : Wd} {v1 : Int32} {v2 : Int32} {t1 : Int32} (C : CX D B Y p s m args meth c cX11_breaks 6 RX11 (some .long))     (hH : HS D B Y w s H locs) (hl : lv_has ls 6 [(0, .ref (B + 713)), (1, .int v1), (2, .int v2)]) (hf : f_X11_breaks_26 v1 v2 t1 w = some z) : W p l e (RM 6 0 0) s m args below meth c H locs 0 0 (MQ below (QG D B Y (some (.long z.1)) z.2 True) args s 0 0 (AB B)) (F0 m 26 ls [.int t1, .ref (B + 713)]) := by
  have hx := C.1
  have hb := C.2.1
  unfold f_X11_breaks_26 at hf
  obtain ⟨x2, w1, hc, hf⟩ := bd_some hf
  refine q_callV1 (v := .int x2) (As := [.int t1]) C hH (ci := 11) rfl (by omega) gk_X11_118 yd_X11_holds (by omega) (by omega) kc_713 (c_X11_holds hc) hl.1 rfl (Nat.le_of_ble_eq_true rfl) dX11_breaks_26 ⟨by decide, by decide⟩ (fun H locs hH z_x2 => ?_)
  refine b_if_ne (tgt := 34) hx hb hf dX11_breaks_29 (by decide) (fun hf => ?_) (fun hf => ?_)
  · refine lv_aload_n hx hb dX11_breaks_34 rfl (lv_at hl 0 rfl) ?_
    refine lv_iload_n hx hb dX11_breaks_35 rfl (lv_at hl 1 rfl) ?_
    obtain ⟨u, w3, hc, hf⟩ := bd_some hf
    refine q_callV0 (As := [.int v1]) C hH (ci := 11) rfl (by omega) gk_X11_267 yd_X11_laysWords (by omega) (by omega) kc_713 (c_X11_laysWords hc) hl.1 rfl (Nat.le_of_ble_eq_true rfl) dX11_breaks_36 ⟨by decide, by decide⟩ (fun H locs hH hP => ?_)
    refine lv_lconst (v := (0 : Int64)) hx hb dX11_breaks_39 (by decide) ?_
    refine lv_lstore_n (lv' := [(3, .long (0 : Int64)), (0, .ref (B + 713)), (1, .int v1), (2, .int v2)]) hx hb dX11_breaks_40 rfl hl (by decide) rfl (fun ls hl => ?_)
    refine lv_iconst (v := (1 : Int32)) hx hb dX11_breaks_41 (by decide) ?_
    refine lv_istore (lv' := [(5, .int (1 : Int32)), (3, .long (0 : Int64)), (0, .ref (B + 713)), (1, .int v1), (2, .int v2)]) hx hb dX11_breaks_42 hl (by decide) rfl (fun ls hl => ?_)
    exact t_X11_breaks_44 C hH (lv_sub hl [2, 3, 4, 1, 0] rfl) hf
  · refine lv_lconst (v := (0 : Int64)) hx hb dX11_breaks_32 (by decide) ?_
    cases hf
    exact q_retl C hH trivial dX11_breaks_33
set_option maxRecDepth 100000 in
set_option maxHeartbeats 4000000 in
theorem t_X11_breaks_0 {D : va_G} {B : Nat} {Y : Nat → ClassId} {p : Program} {l : Launch} {e : Env} {s : State} {m : MethodId} {args : Array Value} {below : List Frame} {meth : Method} {c : Code} {z : (Int64 × Wd)} {H : Heap} {locs : List Loc} {ls : Array Slot} {w : Wd} {v1 : Int32} {v2 : Int32} (C : CX D B Y p s m args meth c cX11_breaks 6 RX11 (some .long))     (hH : HS D B Y w s H locs) (hl : lv_has ls 6 [(0, .ref (B + 713)), (1, .int v1), (2, .int v2)]) (hf : f_X11_breaks v1 v2 w = some z) : W p l e (RM 6 0 0) s m args below meth c H locs 0 0 (MQ below (QG D B Y (some (.long z.1)) z.2 True) args s 0 0 (AB B)) (F0 m 0 ls []) := by
  have hx := C.1
  have hb := C.2.1
  unfold f_X11_breaks at hf
  refine lv_aload_n hx hb dX11_breaks_0 rfl (lv_at hl 0 rfl) ?_
  refine lv_iload_n hx hb dX11_breaks_1 rfl (lv_at hl 1 rfl) ?_
  obtain ⟨x2, w1, hc, hf⟩ := bd_some hf
  refine q_callS1 (v := .int x2) (As := [.int v1]) C hH gk_X11_145 yd_X11_isSlot (by omega) (by omega) (c_X11_isSlot hc) hl.1 rfl (Nat.le_of_ble_eq_true rfl) dX11_breaks_2 ⟨by decide, by decide⟩ (fun H locs hH z_x2 => ?_)
  refine b_if_ne (tgt := 12) hx hb hf dX11_breaks_5 (by decide) (fun hf => ?_) (fun hf => ?_)
  · refine lv_iload_n hx hb dX11_breaks_12 rfl (lv_at hl 2 rfl) ?_
    refine lv_iconst (v := (0 : Int32)) hx hb dX11_breaks_13 (by decide) ?_
    refine lv_iconst (v := (2 : Int32)) hx hb dX11_breaks_14 (by decide) ?_
    obtain ⟨x4, w3, hc, hf⟩ := bd_some hf
    refine q_callS1 (v := .int x4) (As := [.int v2, .int (0 : Int32), .int (2 : Int32)]) C hH gk_X11_111 yd_X11_in (by omega) (by omega) (c_X11_in hc) hl.1 rfl (Nat.le_of_ble_eq_true rfl) dX11_breaks_15 ⟨by decide, by decide⟩ (fun H locs hH z_x4 => ?_)
    refine b_if_eq (tgt := 25) hx hb hf dX11_breaks_18 (by decide) (fun hf => ?_) (fun hf => ?_)
    · refine lv_iconst (v := (2 : Int32)) hx hb dX11_breaks_25 (by decide) ?_
      exact t_X11_breaks_26 C hH (lv_sub hl [0, 1, 2] rfl) hf
    · refine lv_iconst (v := (0 : Int32)) hx hb dX11_breaks_21 (by decide) ?_
      refine lv_goto (tgt := 26) hx hb dX11_breaks_22 (by decide) ?_
      exact t_X11_breaks_26 C hH (lv_sub hl [0, 1, 2] rfl) hf
  · refine lv_iconst (v := (1 : Int32)) hx hb dX11_breaks_8 (by decide) ?_
    refine lv_goto (tgt := 26) hx hb dX11_breaks_9 (by decide) ?_
    exact t_X11_breaks_26 C hH (lv_sub hl [0, 1, 2] rfl) hf
set_option maxRecDepth 100000 in
theorem c_X11_breaks {l : Launch} {D : va_G} {B : Nat} {Y : Nat → ClassId} {v1 : Int32} {v2 : Int32} {w : Wd} {r : Int64} {w1 : Wd}   (hf : f_X11_breaks v1 v2 w = some (r, w1)) : CM l D B Y yX11_breaks cX11_breaks 6 (some .long) 6 [.ref (B + 713), .int v1, .int v2] w (some (.long r)) w1 True :=
  CM_of (by decide +kernel) (Nat.le_of_ble_eq_true rfl) (fun p e s m args below meth c ls C hH hl => t_X11_breaks_0 C  hH (lv_sub hl [0, 1, 2] rfl) hf)
/-! LetterTablesModel.bySense -/
set_option maxRecDepth 100000 in
set_option maxHeartbeats 4000000 in
theorem t_X11_bySense_92 {D : va_G} {B : Nat} {Y : Nat → ClassId} {p : Program} {l : Launch} {e : Env} {s : State} {m : MethodId} {args : Array Value} {below : List Frame} {meth : Method} {c : Code} {z : (Int32 × Wd)} {H : Heap} {locs : List Loc} {ls : Array Slot} {w : Wd} {v1 : Int32} {v2 : Int32} {v4 : Int32} (C : CX D B Y p s m args meth c cX11_bySense 5 RX11 (some .int))     (hH : HS D B Y w s H locs) (hl : lv_has ls 5 [(0, .ref (B + 713)), (1, .int v1), (2, .int v2), (4, .int v4)]) (hf : f_X11_bySense_92 v1 v2 v4 w = some z) : W p l e (RM 4 0 0) s m args below meth c H locs 0 0 (MQ below (QG D B Y (some (.int z.1)) z.2 True) args s 0 0 (AB B)) (F0 m 92 ls []) := by
  have hx := C.1
  have hb := C.2.1
  unfold f_X11_bySense_92 at hf
  refine lv_iload hx hb dX11_bySense_92 (lv_at hl 3 rfl) ?_
  refine lv_iconst (v := (0 : Int32)) hx hb dX11_bySense_94 (by decide) ?_
  refine lv_aload_n hx hb dX11_bySense_95 rfl (lv_at hl 0 rfl) ?_
  refine fg_X11_19 C hH dX11_bySense_96 ?_
  refine lv_iload_n hx hb dX11_bySense_99 rfl (lv_at hl 1 rfl) ?_
  refine g_iald C hH kc_717 hf dX11_bySense_100 (fun x1 hf => ?_)
  obtain ⟨x3, w2, hc, hf⟩ := bd_some hf
  refine q_callS1 (v := .int x3) (As := [.int v4, .int (0 : Int32), .int x1]) C hH gk_X11_111 yd_X11_in (by omega) (by omega) (c_X11_in hc) hl.1 rfl (Nat.le_of_ble_eq_true rfl) dX11_bySense_101 ⟨by decide, by decide⟩ (fun H locs hH z_x3 => ?_)
  refine b_if_eq (tgt := 112) hx hb hf dX11_bySense_104 (by decide) (fun hf => ?_) (fun hf => ?_)
  · refine lv_iload_n hx hb dX11_bySense_112 rfl (lv_at hl 2 rfl) ?_
    cases hf
    exact q_reti C hH trivial dX11_bySense_113
  · refine lv_iload hx hb dX11_bySense_107 (lv_at hl 3 rfl) ?_
    refine lv_goto (tgt := 113) hx hb dX11_bySense_109 (by decide) ?_
    cases hf
    exact q_reti C hH trivial dX11_bySense_113
set_option maxRecDepth 100000 in
set_option maxHeartbeats 4000000 in
theorem tb_X11_bySense_50 {D : va_G} {B : Nat} {Y : Nat → ClassId} {p : Program} {l : Launch} {e : Env} {s : State} {m : MethodId} {args : Array Value} {below : List Frame} {meth : Method} {c : Code} {z : (Int32 × Wd)} {H : Heap} {locs : List Loc} {ls : Array Slot} {w : Wd} {v1 : Int32} {v2 : Int32} {v3 : Int32} {v4 : Int32} (C : CX D B Y p s m args meth c cX11_bySense 5 RX11 (some .int))  {rc_50 : Int32 × Int32 × Int32 × Int32 × Wd → Option (Int32 × Wd)} (hr_50 : ∀ (v1 : Int32) (v2 : Int32) (v3 : Int32) (v4 : Int32) (w : Wd), rc_50 (v1, v2, v3, v4, w) = some z → isZ v3 → ∀ (H : Heap) (locs : List Loc) (ls : Array Slot), HS D B Y w s H locs → lv_has ls 5 [(0, .ref (B + 713)), (1, .int v1), (2, .int v2), (3, .int v3), (4, .int v4)] → W p l e (RM 4 0 0) s m args below meth c H locs 0 0 (MQ below (QG D B Y (some (.int z.1)) z.2 True) args s 0 0 (AB B)) (F0 m 50 ls []))   (z_v3 : isZ v3) (hH : HS D B Y w s H locs) (hl : lv_has ls 5 [(0, .ref (B + 713)), (1, .int v1), (2, .int v2), (3, .int v3), (4, .int v4)]) (hf : g_X11_bySense_50 rc_50 v1 v2 v3 v4 w = some z) : W p l e (RM 4 0 0) s m args below meth c H locs 0 0 (MQ below (QG D B Y (some (.int z.1)) z.2 True) args s 0 0 (AB B)) (F0 m 50 ls []) := by
  have hx := C.1
  have hb := C.2.1
  unfold g_X11_bySense_50 at hf
  refine lv_iload hx hb dX11_bySense_50 (lv_at hl 4 rfl) ?_
  refine lv_iconst (v := (0 : Int32)) hx hb dX11_bySense_52 (by decide) ?_
  refine lv_aload_n hx hb dX11_bySense_53 rfl (lv_at hl 0 rfl) ?_
  refine fg_X11_19 C hH dX11_bySense_54 ?_
  refine lv_iload_n hx hb dX11_bySense_57 rfl (lv_at hl 1 rfl) ?_
  refine g_iald C hH kc_717 hf dX11_bySense_58 (fun x1 hf => ?_)
  obtain ⟨x3, w2, hc, hf⟩ := bd_some hf
  refine q_callS1 (v := .int x3) (As := [.int v4, .int (0 : Int32), .int x1]) C hH gk_X11_111 yd_X11_in (by omega) (by omega) (c_X11_in hc) hl.1 rfl (Nat.le_of_ble_eq_true rfl) dX11_bySense_59 ⟨by decide, by decide⟩ (fun H locs hH z_x3 => ?_)
  refine b_if_eq (tgt := 92) hx hb hf dX11_bySense_62 (by decide) (fun hf => ?_) (fun hf => ?_)
  · exact t_X11_bySense_92 C hH (lv_sub hl [0, 1, 2, 4] rfl) hf
  · refine lv_aload_n hx hb dX11_bySense_65 rfl (lv_at hl 0 rfl) ?_
    refine lv_iload_n hx hb dX11_bySense_66 rfl (lv_at hl 1 rfl) ?_
    refine lv_iload hx hb dX11_bySense_67 (lv_at hl 4 rfl) ?_
    obtain ⟨x5, w4, hc, hf⟩ := bd_some hf
    refine q_callV1 (v := .int x5) (As := [.int v1, .int v4]) C hH (ci := 11) rfl (by omega) gk_X11_258 yd_X11_isEdge (by omega) (by omega) kc_713 (c_X11_isEdge hc) hl.1 rfl (Nat.le_of_ble_eq_true rfl) dX11_bySense_69 ⟨by decide, by decide⟩ (fun H locs hH z_x5 => ?_)
    refine b_if_ne (tgt := 92) hx hb hf dX11_bySense_72 (by decide) (fun hf => ?_) (fun hf => ?_)
    · exact t_X11_bySense_92 C hH (lv_sub hl [0, 1, 2, 4] rfl) hf
    · refine lv_iload hx hb dX11_bySense_75 (lv_at hl 4 rfl) ?_
      refine lv_iload_n hx hb dX11_bySense_77 rfl (lv_at hl 3 rfl) ?_
      refine b_if_eq (tgt := 85) hx hb hf dX11_bySense_78 (by decide) (fun hf => ?_) (fun hf => ?_)
      · refine lv_iconst (v := (-1 : Int32)) hx hb dX11_bySense_85 (by decide) ?_
        refine lv_iadd hx hb dX11_bySense_86 ?_
        refine b_leti hf (fun x6 hf => ?_)
        refine lv_istore (lv' := [(4, .int x6), (0, .ref (B + 713)), (1, .int v1), (2, .int v2), (3, .int v3)]) hx hb dX11_bySense_87 hl (by decide) rfl (fun ls hl => ?_)
        refine lv_goto (tgt := 50) hx hb dX11_bySense_89 (by decide) ?_
        exact hr_50 v1 v2 v3 x6 w4 hf z_v3 _ _ _ hH (lv_sub hl [1, 2, 3, 4, 0] rfl)
      · refine lv_iconst (v := (1 : Int32)) hx hb dX11_bySense_81 (by decide) ?_
        refine lv_goto (tgt := 86) hx hb dX11_bySense_82 (by decide) ?_
        refine lv_iadd hx hb dX11_bySense_86 ?_
        refine b_leti hf (fun x7 hf => ?_)
        refine lv_istore (lv' := [(4, .int x7), (0, .ref (B + 713)), (1, .int v1), (2, .int v2), (3, .int v3)]) hx hb dX11_bySense_87 hl (by decide) rfl (fun ls hl => ?_)
        refine lv_goto (tgt := 50) hx hb dX11_bySense_89 (by decide) ?_
        exact hr_50 v1 v2 v3 x7 w4 hf z_v3 _ _ _ hH (lv_sub hl [1, 2, 3, 4, 0] rfl)
set_option maxRecDepth 100000 in
set_option maxHeartbeats 4000000 in
theorem t_X11_bySense_50 {D : va_G} {B : Nat} {Y : Nat → ClassId} {p : Program} {l : Launch} {e : Env} {s : State} {m : MethodId} {args : Array Value} {below : List Frame} {meth : Method} {c : Code} {z : (Int32 × Wd)} {H : Heap} {locs : List Loc} {ls : Array Slot} {w : Wd} {v1 : Int32} {v2 : Int32} {v3 : Int32} {v4 : Int32} (C : CX D B Y p s m args meth c cX11_bySense 5 RX11 (some .int))    (z_v3 : isZ v3) (hH : HS D B Y w s H locs) (hl : lv_has ls 5 [(0, .ref (B + 713)), (1, .int v1), (2, .int v2), (3, .int v3), (4, .int v4)]) (hf : f_X11_bySense_50 v1 v2 v3 v4 w = some z) : W p l e (RM 4 0 0) s m args below meth c H locs 0 0 (MQ below (QG D B Y (some (.int z.1)) z.2 True) args s 0 0 (AB B)) (F0 m 50 ls []) := by
  exact loopN_ind (z := z) (body := fun rc σ => g_X11_bySense_50 rc  σ.1 σ.2.1 σ.2.2.1 σ.2.2.2.1 σ.2.2.2.2)
    (P := fun σ => isZ σ.2.2.1 → ∀ (H : Heap) (locs : List Loc) (ls : Array Slot), HS D B Y σ.2.2.2.2 s H locs → lv_has ls 5 [(0, .ref (B + 713)), (1, .int σ.1), (2, .int σ.2.1), (3, .int σ.2.2.1), (4, .int σ.2.2.2.1)] → W p l e (RM 4 0 0) s m args below meth c H locs 0 0 (MQ below (QG D B Y (some (.int z.1)) z.2 True) args s 0 0 (AB B)) (F0 m 50 ls []))
    (fun rc hrec σ hf z_v3 H locs ls hH hl => tb_X11_bySense_50 C (fun v1 v2 v3 v4 w hr z_v3 H locs ls hH hl => hrec (v1, v2, v3, v4, w) hr z_v3 H locs ls hH hl)  z_v3 hH hl hf) FU (v1, v2, v3, v4, w) hf z_v3 H locs ls hH hl
set_option maxRecDepth 100000 in
set_option maxHeartbeats 4000000 in
theorem t_X11_bySense_48 {D : va_G} {B : Nat} {Y : Nat → ClassId} {p : Program} {l : Launch} {e : Env} {s : State} {m : MethodId} {args : Array Value} {below : List Frame} {meth : Method} {c : Code} {z : (Int32 × Wd)} {H : Heap} {locs : List Loc} {ls : Array Slot} {w : Wd} {v1 : Int32} {v2 : Int32} {v3 : Int32} {t0 : Int32} (C : CX D B Y p s m args meth c cX11_bySense 5 RX11 (some .int))    (z_v3 : isZ v3) (hH : HS D B Y w s H locs) (hl : lv_has ls 5 [(0, .ref (B + 713)), (1, .int v1), (2, .int v2), (3, .int v3)]) (hf : f_X11_bySense_48 v1 v2 v3 t0 w = some z) : W p l e (RM 4 0 0) s m args below meth c H locs 0 0 (MQ below (QG D B Y (some (.int z.1)) z.2 True) args s 0 0 (AB B)) (F0 m 48 ls [.int t0]) := by
  have hx := C.1
  have hb := C.2.1
  unfold f_X11_bySense_48 at hf
  refine lv_istore (lv' := [(4, .int t0), (0, .ref (B + 713)), (1, .int v1), (2, .int v2), (3, .int v3)]) hx hb dX11_bySense_48 hl (by decide) rfl (fun ls hl => ?_)
  exact t_X11_bySense_50 C z_v3 hH (lv_sub hl [1, 2, 3, 4, 0] rfl) hf
set_option maxRecDepth 100000 in
set_option maxHeartbeats 4000000 in
theorem t_X11_bySense_27 {D : va_G} {B : Nat} {Y : Nat → ClassId} {p : Program} {l : Launch} {e : Env} {s : State} {m : MethodId} {args : Array Value} {below : List Frame} {meth : Method} {c : Code} {z : (Int32 × Wd)} {H : Heap} {locs : List Loc} {ls : Array Slot} {w : Wd} {v1 : Int32} {v2 : Int32} {v3 : Int32} {t1 : Int32} (C : CX D B Y p s m args meth c cX11_bySense 5 RX11 (some .int))    (z_v3 : isZ v3) (z_t1 : isZ t1) (hH : HS D B Y w s H locs) (hl : lv_has ls 5 [(0, .ref (B + 713)), (1, .int v1), (2, .int v2), (3, .int v3)]) (hf : f_X11_bySense_27 v1 v2 v3 t1 w = some z) : W p l e (RM 4 0 0) s m args below meth c H locs 0 0 (MQ below (QG D B Y (some (.int z.1)) z.2 True) args s 0 0 (AB B)) (F0 m 27 ls [.int t1, .ref (B + 713)]) := by
  have hx := C.1
  have hb := C.2.1
  unfold f_X11_bySense_27 at hf
  obtain ⟨x2, w1, hc, hf⟩ := bd_some hf
  refine q_callV1 (v := .int x2) (As := [.int t1]) C hH (ci := 11) rfl (by omega) gk_X11_118 yd_X11_holds (by omega) (by omega) kc_713 (c_X11_holds hc) hl.1 rfl (Nat.le_of_ble_eq_true rfl) dX11_bySense_27 ⟨by decide, by decide⟩ (fun H locs hH z_x2 => ?_)
  refine b_if_ne (tgt := 35) hx hb hf dX11_bySense_30 (by decide) (fun hf => ?_) (fun hf => ?_)
  · refine lv_iload_n hx hb dX11_bySense_35 rfl (lv_at hl 3 rfl) ?_
    refine b_if_eq (tgt := 45) hx hb hf dX11_bySense_36 (by decide) (fun hf => ?_) (fun hf => ?_)
    · refine lv_iload_n hx hb dX11_bySense_45 rfl (lv_at hl 2 rfl) ?_
      refine lv_iconst (v := (1 : Int32)) hx hb dX11_bySense_46 (by decide) ?_
      refine lv_isub hx hb dX11_bySense_47 ?_
      exact t_X11_bySense_48 C z_v3 hH (lv_sub hl [0, 1, 2, 3] rfl) hf
    · refine lv_iload_n hx hb dX11_bySense_39 rfl (lv_at hl 2 rfl) ?_
      refine lv_iconst (v := (1 : Int32)) hx hb dX11_bySense_40 (by decide) ?_
      refine lv_iadd hx hb dX11_bySense_41 ?_
      refine lv_goto (tgt := 48) hx hb dX11_bySense_42 (by decide) ?_
      exact t_X11_bySense_48 C z_v3 hH (lv_sub hl [0, 1, 2, 3] rfl) hf
  · refine lv_iconst (v := (0 : Int32)) hx hb dX11_bySense_33 (by decide) ?_
    cases hf
    exact q_reti C hH trivial dX11_bySense_34
set_option maxRecDepth 100000 in
set_option maxHeartbeats 4000000 in
theorem t_X11_bySense_26 {D : va_G} {B : Nat} {Y : Nat → ClassId} {p : Program} {l : Launch} {e : Env} {s : State} {m : MethodId} {args : Array Value} {below : List Frame} {meth : Method} {c : Code} {z : (Int32 × Wd)} {H : Heap} {locs : List Loc} {ls : Array Slot} {w : Wd} {v1 : Int32} {v2 : Int32} {v3 : Int32} (C : CX D B Y p s m args meth c cX11_bySense 5 RX11 (some .int))    (z_v3 : isZ v3) (hH : HS D B Y w s H locs) (hl : lv_has ls 5 [(0, .ref (B + 713)), (1, .int v1), (2, .int v2), (3, .int v3)]) (hf : f_X11_bySense_26 v1 v2 v3 w = some z) : W p l e (RM 4 0 0) s m args below meth c H locs 0 0 (MQ below (QG D B Y (some (.int z.1)) z.2 True) args s 0 0 (AB B)) (F0 m 26 ls [.ref (B + 713)]) := by
  have hx := C.1
  have hb := C.2.1
  unfold f_X11_bySense_26 at hf
  refine lv_iconst (v := (1 : Int32)) hx hb dX11_bySense_26 (by decide) ?_
  exact t_X11_bySense_27 C z_v3 isZ_1 hH (lv_sub hl [0, 1, 2, 3] rfl) hf
set_option maxRecDepth 100000 in
set_option maxHeartbeats 4000000 in
theorem t_X11_bySense_0 {D : va_G} {B : Nat} {Y : Nat → ClassId} {p : Program} {l : Launch} {e : Env} {s : State} {m : MethodId} {args : Array Value} {below : List Frame} {meth : Method} {c : Code} {z : (Int32 × Wd)} {H : Heap} {locs : List Loc} {ls : Array Slot} {w : Wd} {v1 : Int32} {v2 : Int32} {v3 : Int32} (C : CX D B Y p s m args meth c cX11_bySense 5 RX11 (some .int))    (z_v3 : isZ v3) (hH : HS D B Y w s H locs) (hl : lv_has ls 5 [(0, .ref (B + 713)), (1, .int v1), (2, .int v2), (3, .int v3)]) (hf : f_X11_bySense v1 v2 v3 w = some z) : W p l e (RM 4 0 0) s m args below meth c H locs 0 0 (MQ below (QG D B Y (some (.int z.1)) z.2 True) args s 0 0 (AB B)) (F0 m 0 ls []) := by
  have hx := C.1
  have hb := C.2.1
  unfold f_X11_bySense at hf
  refine lv_aload_n hx hb dX11_bySense_0 rfl (lv_at hl 0 rfl) ?_
  refine lv_iload_n hx hb dX11_bySense_1 rfl (lv_at hl 1 rfl) ?_
  obtain ⟨x2, w1, hc, hf⟩ := bd_some hf
  refine q_callS1 (v := .int x2) (As := [.int v1]) C hH gk_X11_145 yd_X11_isSlot (by omega) (by omega) (c_X11_isSlot hc) hl.1 rfl (Nat.le_of_ble_eq_true rfl) dX11_bySense_2 ⟨by decide, by decide⟩ (fun H locs hH z_x2 => ?_)
  refine b_if_eq (tgt := 26) hx hb hf dX11_bySense_5 (by decide) (fun hf => ?_) (fun hf => ?_)
  · exact t_X11_bySense_26 C z_v3 hH (lv_sub hl [0, 1, 2, 3] rfl) hf
  · refine lv_iload_n hx hb dX11_bySense_8 rfl (lv_at hl 2 rfl) ?_
    refine lv_iconst (v := (0 : Int32)) hx hb dX11_bySense_9 (by decide) ?_
    refine lv_aload_n hx hb dX11_bySense_10 rfl (lv_at hl 0 rfl) ?_
    refine fg_X11_19 C hH dX11_bySense_11 ?_
    refine lv_iload_n hx hb dX11_bySense_14 rfl (lv_at hl 1 rfl) ?_
    refine g_iald C hH kc_717 hf dX11_bySense_15 (fun x3 hf => ?_)
    obtain ⟨x5, w4, hc, hf⟩ := bd_some hf
    refine q_callS1 (v := .int x5) (As := [.int v2, .int (0 : Int32), .int x3]) C hH gk_X11_111 yd_X11_in (by omega) (by omega) (c_X11_in hc) hl.1 rfl (Nat.le_of_ble_eq_true rfl) dX11_bySense_16 ⟨by decide, by decide⟩ (fun H locs hH z_x5 => ?_)
    refine b_if_eq (tgt := 26) hx hb hf dX11_bySense_19 (by decide) (fun hf => ?_) (fun hf => ?_)
    · exact t_X11_bySense_26 C z_v3 hH (lv_sub hl [0, 1, 2, 3] rfl) hf
    · refine lv_iconst (v := (0 : Int32)) hx hb dX11_bySense_22 (by decide) ?_
      refine lv_goto (tgt := 27) hx hb dX11_bySense_23 (by decide) ?_
      exact t_X11_bySense_27 C z_v3 isZ_0 hH (lv_sub hl [0, 1, 2, 3] rfl) hf
set_option maxRecDepth 100000 in
theorem c_X11_bySense {l : Launch} {D : va_G} {B : Nat} {Y : Nat → ClassId} {v1 : Int32} {v2 : Int32} {v3 : Int32} {w : Wd} {r : Int32} {w1 : Wd}  (z_v3 : isZ v3) (hf : f_X11_bySense v1 v2 v3 w = some (r, w1)) : CM l D B Y yX11_bySense cX11_bySense 5 (some .int) 4 [.ref (B + 713), .int v1, .int v2, .int v3] w (some (.int r)) w1 True :=
  CM_of (by decide +kernel) (Nat.le_of_ble_eq_true rfl) (fun p e s m args below meth c ls C hH hl => t_X11_bySense_0 C z_v3 hH (lv_sub hl [0, 1, 2, 3] rfl) hf)
/-! LetterTablesModel.keyed -/
set_option maxRecDepth 100000 in
set_option maxHeartbeats 4000000 in
theorem t_X11_keyed_170 {D : va_G} {B : Nat} {Y : Nat → ClassId} {p : Program} {l : Launch} {e : Env} {s : State} {m : MethodId} {args : Array Value} {below : List Frame} {meth : Method} {c : Code} {z : (Int32 × Wd)} {H : Heap} {locs : List Loc} {ls : Array Slot} {w : Wd} {v1 : Int32} {v3 : Int32} {v4 : Int32} {v5 : Int32} {t1 : Int32} {t2 : Int32} (C : CX D B Y p s m args meth c cX11_keyed 7 RX11 (some .boolean))  {rc_50 : Int32 × Int32 × Int32 × Wd → Option (Int32 × Wd)} (hr_50 : ∀ (v1 : Int32) (v3 : Int32) (v4 : Int32) (w : Wd), rc_50 (v1, v3, v4, w) = some z → ∀ (H : Heap) (locs : List Loc) (ls : Array Slot), HS D B Y w s H locs → lv_has ls 7 [(0, .ref (B + 713)), (1, .int v1), (3, .int v3), (4, .int v4)] → W p l e (RM 5 0 0) s m args below meth c H locs 0 0 (MQ below (QG D B Y (some (.int z.1)) z.2 (isZ z.1)) args s 0 0 (AB B)) (F0 m 50 ls []))   (z_t2 : isZ t2) (hH : HS D B Y w s H locs) (hl : lv_has ls 7 [(0, .ref (B + 713)), (1, .int v1), (3, .int v3), (4, .int v4), (5, .int v5)]) (hf : f_X11_keyed_170 rc_50 v1 v3 v4 v5 t1 t2 w = some z) : W p l e (RM 5 0 0) s m args below meth c H locs 0 0 (MQ below (QG D B Y (some (.int z.1)) z.2 (isZ z.1)) args s 0 0 (AB B)) (F0 m 170 ls [.int t2, .int t1, .ref (B + 713)]) := by
  have hx := C.1
  have hb := C.2.1
  unfold f_X11_keyed_170 at hf
  refine lv_iadd hx hb dX11_keyed_170 ?_
  refine fp_X11_273 C hH dX11_keyed_171 (fun H locs hH => ?_)
  refine b_w hf hH (fun w1 hf hH => ?_)
  refine lv_iload hx hb dX11_keyed_174 (lv_at hl 3 rfl) ?_
  refine lv_iload hx hb dX11_keyed_176 (lv_at hl 4 rfl) ?_
  refine lv_iconst (v := (-1 : Int32)) hx hb dX11_keyed_178 (by decide) ?_
  refine b_icmp_ne (tgt := 186) hx hb hf dX11_keyed_179 (by decide) (fun hf => ?_) (fun hf => ?_)
  · refine lv_iconst (v := (2 : Int32)) hx hb dX11_keyed_186 (by decide) ?_
    refine lv_iadd hx hb dX11_keyed_187 ?_
    refine b_leti hf (fun x2 hf => ?_)
    refine lv_istore (lv' := [(4, .int x2), (0, .ref (B + 713)), (1, .int v1), (3, .int v3), (5, .int v5)]) hx hb dX11_keyed_188 hl (by decide) rfl (fun ls hl => ?_)
    refine lv_goto (tgt := 50) hx hb dX11_keyed_190 (by decide) ?_
    exact hr_50 v1 v3 x2 w1 hf _ _ _ hH (lv_sub hl [1, 2, 3, 0] rfl)
  · refine lv_iconst (v := (1 : Int32)) hx hb dX11_keyed_182 (by decide) ?_
    refine lv_goto (tgt := 187) hx hb dX11_keyed_183 (by decide) ?_
    refine lv_iadd hx hb dX11_keyed_187 ?_
    refine b_leti hf (fun x3 hf => ?_)
    refine lv_istore (lv' := [(4, .int x3), (0, .ref (B + 713)), (1, .int v1), (3, .int v3), (5, .int v5)]) hx hb dX11_keyed_188 hl (by decide) rfl (fun ls hl => ?_)
    refine lv_goto (tgt := 50) hx hb dX11_keyed_190 (by decide) ?_
    exact hr_50 v1 v3 x3 w1 hf _ _ _ hH (lv_sub hl [1, 2, 3, 0] rfl)
set_option maxRecDepth 100000 in
set_option maxHeartbeats 4000000 in
theorem t_X11_keyed_142 {D : va_G} {B : Nat} {Y : Nat → ClassId} {p : Program} {l : Launch} {e : Env} {s : State} {m : MethodId} {args : Array Value} {below : List Frame} {meth : Method} {c : Code} {z : (Int32 × Wd)} {H : Heap} {locs : List Loc} {ls : Array Slot} {w : Wd} {v1 : Int32} {v3 : Int32} {v4 : Int32} {v5 : Int32} {t0 : Int32} (C : CX D B Y p s m args meth c cX11_keyed 7 RX11 (some .boolean))  {rc_50 : Int32 × Int32 × Int32 × Wd → Option (Int32 × Wd)} (hr_50 : ∀ (v1 : Int32) (v3 : Int32) (v4 : Int32) (w : Wd), rc_50 (v1, v3, v4, w) = some z → ∀ (H : Heap) (locs : List Loc) (ls : Array Slot), HS D B Y w s H locs → lv_has ls 7 [(0, .ref (B + 713)), (1, .int v1), (3, .int v3), (4, .int v4)] → W p l e (RM 5 0 0) s m args below meth c H locs 0 0 (MQ below (QG D B Y (some (.int z.1)) z.2 (isZ z.1)) args s 0 0 (AB B)) (F0 m 50 ls []))    (hH : HS D B Y w s H locs) (hl : lv_has ls 7 [(0, .ref (B + 713)), (1, .int v1), (3, .int v3), (4, .int v4), (5, .int v5)]) (hf : f_X11_keyed_142 rc_50 v1 v3 v4 v5 t0 w = some z) : W p l e (RM 5 0 0) s m args below meth c H locs 0 0 (MQ below (QG D B Y (some (.int z.1)) z.2 (isZ z.1)) args s 0 0 (AB B)) (F0 m 142 ls [.int t0]) := by
  have hx := C.1
  have hb := C.2.1
  unfold f_X11_keyed_142 at hf
  refine lv_istore (lv' := [(6, .int t0), (0, .ref (B + 713)), (1, .int v1), (3, .int v3), (4, .int v4), (5, .int v5)]) hx hb dX11_keyed_142 hl (by decide) rfl (fun ls hl => ?_)
  refine lv_aload_n hx hb dX11_keyed_144 rfl (lv_at hl 1 rfl) ?_
  refine fg_X11_71 C hH dX11_keyed_145 ?_
  refine lv_aload_n hx hb dX11_keyed_148 rfl (lv_at hl 1 rfl) ?_
  refine fg_X11_273 C hH dX11_keyed_149 ?_
  refine lv_iload hx hb dX11_keyed_152 (lv_at hl 0 rfl) ?_
  refine g_iast C hH kc_734 hf dX11_keyed_154 (fun w1 H locs hf hH => ?_)
  refine lv_aload_n hx hb dX11_keyed_155 rfl (lv_at hl 1 rfl) ?_
  refine lv_dup hx hb dX11_keyed_156 rfl ?_
  refine fg_X11_273 C hH dX11_keyed_157 ?_
  refine lv_iload hx hb dX11_keyed_160 (lv_at hl 0 rfl) ?_
  refine b_if_le (tgt := 169) hx hb hf dX11_keyed_162 (by decide) (fun hf => ?_) (fun hf => ?_)
  · refine lv_iconst (v := (0 : Int32)) hx hb dX11_keyed_169 (by decide) ?_
    exact t_X11_keyed_170 C hr_50 isZ_0 hH (lv_sub hl [1, 2, 3, 4, 5] rfl) hf
  · refine lv_iconst (v := (1 : Int32)) hx hb dX11_keyed_165 (by decide) ?_
    refine lv_goto (tgt := 170) hx hb dX11_keyed_166 (by decide) ?_
    exact t_X11_keyed_170 C hr_50 isZ_1 hH (lv_sub hl [1, 2, 3, 4, 5] rfl) hf
set_option maxRecDepth 100000 in
set_option maxHeartbeats 4000000 in
theorem t_X11_keyed_95 {D : va_G} {B : Nat} {Y : Nat → ClassId} {p : Program} {l : Launch} {e : Env} {s : State} {m : MethodId} {args : Array Value} {below : List Frame} {meth : Method} {c : Code} {z : (Int32 × Wd)} {H : Heap} {locs : List Loc} {ls : Array Slot} {w : Wd} {v1 : Int32} {v3 : Int32} {v4 : Int32} {t0 : Int32} (C : CX D B Y p s m args meth c cX11_keyed 7 RX11 (some .boolean))  {rc_50 : Int32 × Int32 × Int32 × Wd → Option (Int32 × Wd)} (hr_50 : ∀ (v1 : Int32) (v3 : Int32) (v4 : Int32) (w : Wd), rc_50 (v1, v3, v4, w) = some z → ∀ (H : Heap) (locs : List Loc) (ls : Array Slot), HS D B Y w s H locs → lv_has ls 7 [(0, .ref (B + 713)), (1, .int v1), (3, .int v3), (4, .int v4)] → W p l e (RM 5 0 0) s m args below meth c H locs 0 0 (MQ below (QG D B Y (some (.int z.1)) z.2 (isZ z.1)) args s 0 0 (AB B)) (F0 m 50 ls []))    (hH : HS D B Y w s H locs) (hl : lv_has ls 7 [(0, .ref (B + 713)), (1, .int v1), (3, .int v3), (4, .int v4)]) (hf : f_X11_keyed_95 rc_50 v1 v3 v4 t0 w = some z) : W p l e (RM 5 0 0) s m args below meth c H locs 0 0 (MQ below (QG D B Y (some (.int z.1)) z.2 (isZ z.1)) args s 0 0 (AB B)) (F0 m 95 ls [.int t0]) := by
  have hx := C.1
  have hb := C.2.1
  unfold f_X11_keyed_95 at hf
  refine lv_istore (lv' := [(5, .int t0), (0, .ref (B + 713)), (1, .int v1), (3, .int v3), (4, .int v4)]) hx hb dX11_keyed_95 hl (by decide) rfl (fun ls hl => ?_)
  refine lv_iload hx hb dX11_keyed_97 (lv_at hl 0 rfl) ?_
  refine lv_iconst (v := (-1 : Int32)) hx hb dX11_keyed_99 (by decide) ?_
  refine b_icmp_ne (tgt := 131) hx hb hf dX11_keyed_100 (by decide) (fun hf => ?_) (fun hf => ?_)
  · refine lv_aload_n hx hb dX11_keyed_131 rfl (lv_at hl 1 rfl) ?_
    refine fg_X11_7 C hH dX11_keyed_132 ?_
    refine lv_iload hx hb dX11_keyed_135 (lv_at hl 0 rfl) ?_
    refine lv_iconst (v := (2 : Int32)) hx hb dX11_keyed_137 (by decide) ?_
    refine lv_iadd hx hb dX11_keyed_138 ?_
    refine lv_iload_n hx hb dX11_keyed_139 rfl (lv_at hl 3 rfl) ?_
    refine lv_iadd hx hb dX11_keyed_140 ?_
    refine g_iald C hH kc_714 hf dX11_keyed_141 (fun x1 hf => ?_)
    exact t_X11_keyed_142 C hr_50 hH (lv_sub hl [1, 2, 3, 4, 0] rfl) hf
  · refine lv_aload_n hx hb dX11_keyed_103 rfl (lv_at hl 1 rfl) ?_
    refine fg_X11_7 C hH dX11_keyed_104 ?_
    refine lv_sipush (v := (864 : Int32)) hx hb dX11_keyed_107 (by decide) ?_
    refine lv_iconst (v := (3 : Int32)) hx hb dX11_keyed_110 (by decide) ?_
    refine lv_bipush (v := (96 : Int32)) hx hb dX11_keyed_111 (by decide) ?_
    refine lv_iload_n hx hb dX11_keyed_113 rfl (lv_at hl 2 rfl) ?_
    refine lv_imul hx hb dX11_keyed_114 ?_
    refine lv_aload_n hx hb dX11_keyed_115 rfl (lv_at hl 1 rfl) ?_
    refine fg_X11_28 C hH dX11_keyed_116 ?_
    refine lv_iload hx hb dX11_keyed_119 (lv_at hl 4 rfl) ?_
    refine g_iald C hH kc_720 hf dX11_keyed_121 (fun x2 hf => ?_)
    refine lv_iadd hx hb dX11_keyed_122 ?_
    refine lv_imul hx hb dX11_keyed_123 ?_
    refine lv_iadd hx hb dX11_keyed_124 ?_
    refine lv_iload_n hx hb dX11_keyed_125 rfl (lv_at hl 3 rfl) ?_
    refine lv_iadd hx hb dX11_keyed_126 ?_
    refine g_iald C hH kc_714 hf dX11_keyed_127 (fun x3 hf => ?_)
    refine lv_goto (tgt := 142) hx hb dX11_keyed_128 (by decide) ?_
    exact t_X11_keyed_142 C hr_50 hH (lv_sub hl [1, 2, 3, 4, 0] rfl) hf
set_option maxRecDepth 100000 in
set_option maxHeartbeats 4000000 in
theorem tb_X11_keyed_50 {D : va_G} {B : Nat} {Y : Nat → ClassId} {p : Program} {l : Launch} {e : Env} {s : State} {m : MethodId} {args : Array Value} {below : List Frame} {meth : Method} {c : Code} {z : (Int32 × Wd)} {H : Heap} {locs : List Loc} {ls : Array Slot} {w : Wd} {v1 : Int32} {v3 : Int32} {v4 : Int32} (C : CX D B Y p s m args meth c cX11_keyed 7 RX11 (some .boolean))  {rc_50 : Int32 × Int32 × Int32 × Wd → Option (Int32 × Wd)} (hr_50 : ∀ (v1 : Int32) (v3 : Int32) (v4 : Int32) (w : Wd), rc_50 (v1, v3, v4, w) = some z → ∀ (H : Heap) (locs : List Loc) (ls : Array Slot), HS D B Y w s H locs → lv_has ls 7 [(0, .ref (B + 713)), (1, .int v1), (3, .int v3), (4, .int v4)] → W p l e (RM 5 0 0) s m args below meth c H locs 0 0 (MQ below (QG D B Y (some (.int z.1)) z.2 (isZ z.1)) args s 0 0 (AB B)) (F0 m 50 ls [])) {rc_18 : Int32 × Int32 × Wd → Option (Int32 × Wd)} (hr_18 : ∀ (v1 : Int32) (v3 : Int32) (w : Wd), rc_18 (v1, v3, w) = some z → ∀ (H : Heap) (locs : List Loc) (ls : Array Slot), HS D B Y w s H locs → lv_has ls 7 [(0, .ref (B + 713)), (1, .int v1), (3, .int v3)] → W p l e (RM 5 0 0) s m args below meth c H locs 0 0 (MQ below (QG D B Y (some (.int z.1)) z.2 (isZ z.1)) args s 0 0 (AB B)) (F0 m 18 ls []))    (hH : HS D B Y w s H locs) (hl : lv_has ls 7 [(0, .ref (B + 713)), (1, .int v1), (3, .int v3), (4, .int v4)]) (hf : g_X11_keyed_50 rc_50 rc_18 v1 v3 v4 w = some z) : W p l e (RM 5 0 0) s m args below meth c H locs 0 0 (MQ below (QG D B Y (some (.int z.1)) z.2 (isZ z.1)) args s 0 0 (AB B)) (F0 m 50 ls []) := by
  have hx := C.1
  have hb := C.2.1
  unfold g_X11_keyed_50 at hf
  refine lv_iload hx hb dX11_keyed_50 (lv_at hl 3 rfl) ?_
  refine lv_aload_n hx hb dX11_keyed_52 rfl (lv_at hl 0 rfl) ?_
  refine fg_X11_158 C hH dX11_keyed_53 ?_
  refine b_icmp_ge (tgt := 193) hx hb hf dX11_keyed_56 (by decide) (fun hf => ?_) (fun hf => ?_)
  · refine b_let hf (fun x1 he hf => ?_)
    refine lv_iinc (v := x1) (lv' := [(3, .int x1), (0, .ref (B + 713)), (1, .int v1), (4, .int v4)]) hx hb dX11_keyed_193 hl (k := 2) rfl (by rw [← he]; rfl) (by decide) rfl (fun ls hl => ?_)
    refine lv_goto (tgt := 18) hx hb dX11_keyed_196 (by decide) ?_
    exact hr_18 v1 x1 w hf _ _ _ hH (lv_sub hl [1, 2, 0] rfl)
  · refine lv_iload hx hb dX11_keyed_59 (lv_at hl 3 rfl) ?_
    refine lv_iconst (v := (1 : Int32)) hx hb dX11_keyed_61 (by decide) ?_
    refine lv_iadd hx hb dX11_keyed_62 ?_
    refine lv_aload_n hx hb dX11_keyed_63 rfl (lv_at hl 0 rfl) ?_
    refine fg_X11_158 C hH dX11_keyed_64 ?_
    refine b_icmp_ge (tgt := 94) hx hb hf dX11_keyed_67 (by decide) (fun hf => ?_) (fun hf => ?_)
    · refine lv_iconst (v := (-1 : Int32)) hx hb dX11_keyed_94 (by decide) ?_
      exact t_X11_keyed_95 C hr_50 hH (lv_sub hl [0, 1, 2, 3] rfl) hf
    · refine lv_aload_n hx hb dX11_keyed_70 rfl (lv_at hl 0 rfl) ?_
      refine lv_iload_n hx hb dX11_keyed_71 rfl (lv_at hl 1 rfl) ?_
      refine lv_aload_n hx hb dX11_keyed_72 rfl (lv_at hl 0 rfl) ?_
      refine fg_X11_28 C hH dX11_keyed_73 ?_
      refine lv_iload hx hb dX11_keyed_76 (lv_at hl 3 rfl) ?_
      refine g_iald C hH kc_720 hf dX11_keyed_78 (fun x2 hf => ?_)
      refine lv_aload_n hx hb dX11_keyed_79 rfl (lv_at hl 0 rfl) ?_
      refine fg_X11_28 C hH dX11_keyed_80 ?_
      refine lv_iload hx hb dX11_keyed_83 (lv_at hl 3 rfl) ?_
      refine lv_iconst (v := (1 : Int32)) hx hb dX11_keyed_85 (by decide) ?_
      refine lv_iadd hx hb dX11_keyed_86 ?_
      refine g_iald C hH kc_720 hf dX11_keyed_87 (fun x3 hf => ?_)
      obtain ⟨x5, w4, hc, hf⟩ := bd_some hf
      refine q_callV1 (v := .int x5) (As := [.int v1, .int x2, .int x3]) C hH (ci := 11) rfl (by omega) gk_X11_141 yd_X11_contraction (by omega) (by omega) kc_713 (c_X11_contraction hc) hl.1 rfl (Nat.le_of_ble_eq_true rfl) dX11_keyed_88 ⟨by decide, by decide⟩ (fun H locs hH hP => ?_)
      refine lv_goto (tgt := 95) hx hb dX11_keyed_91 (by decide) ?_
      exact t_X11_keyed_95 C hr_50 hH (lv_sub hl [0, 1, 2, 3] rfl) hf
set_option maxRecDepth 100000 in
set_option maxHeartbeats 4000000 in
theorem t_X11_keyed_50 {D : va_G} {B : Nat} {Y : Nat → ClassId} {p : Program} {l : Launch} {e : Env} {s : State} {m : MethodId} {args : Array Value} {below : List Frame} {meth : Method} {c : Code} {z : (Int32 × Wd)} {H : Heap} {locs : List Loc} {ls : Array Slot} {w : Wd} {v1 : Int32} {v3 : Int32} {v4 : Int32} (C : CX D B Y p s m args meth c cX11_keyed 7 RX11 (some .boolean))  {rc_18 : Int32 × Int32 × Wd → Option (Int32 × Wd)} (hr_18 : ∀ (v1 : Int32) (v3 : Int32) (w : Wd), rc_18 (v1, v3, w) = some z → ∀ (H : Heap) (locs : List Loc) (ls : Array Slot), HS D B Y w s H locs → lv_has ls 7 [(0, .ref (B + 713)), (1, .int v1), (3, .int v3)] → W p l e (RM 5 0 0) s m args below meth c H locs 0 0 (MQ below (QG D B Y (some (.int z.1)) z.2 (isZ z.1)) args s 0 0 (AB B)) (F0 m 18 ls []))    (hH : HS D B Y w s H locs) (hl : lv_has ls 7 [(0, .ref (B + 713)), (1, .int v1), (3, .int v3), (4, .int v4)]) (hf : f_X11_keyed_50 rc_18 v1 v3 v4 w = some z) : W p l e (RM 5 0 0) s m args below meth c H locs 0 0 (MQ below (QG D B Y (some (.int z.1)) z.2 (isZ z.1)) args s 0 0 (AB B)) (F0 m 50 ls []) := by
  exact loopN_ind (z := z) (body := fun rc σ => g_X11_keyed_50 rc rc_18 σ.1 σ.2.1 σ.2.2.1 σ.2.2.2)
    (P := fun σ => ∀ (H : Heap) (locs : List Loc) (ls : Array Slot), HS D B Y σ.2.2.2 s H locs → lv_has ls 7 [(0, .ref (B + 713)), (1, .int σ.1), (3, .int σ.2.1), (4, .int σ.2.2.1)] → W p l e (RM 5 0 0) s m args below meth c H locs 0 0 (MQ below (QG D B Y (some (.int z.1)) z.2 (isZ z.1)) args s 0 0 (AB B)) (F0 m 50 ls []))
    (fun rc hrec σ hf  H locs ls hH hl => tb_X11_keyed_50 C (fun v1 v3 v4 w hr  H locs ls hH hl => hrec (v1, v3, v4, w) hr  H locs ls hH hl) hr_18  hH hl hf) FU (v1, v3, v4, w) hf  H locs ls hH hl
set_option maxRecDepth 100000 in
set_option maxHeartbeats 4000000 in
theorem t_X11_keyed_47 {D : va_G} {B : Nat} {Y : Nat → ClassId} {p : Program} {l : Launch} {e : Env} {s : State} {m : MethodId} {args : Array Value} {below : List Frame} {meth : Method} {c : Code} {z : (Int32 × Wd)} {H : Heap} {locs : List Loc} {ls : Array Slot} {w : Wd} {v1 : Int32} {v3 : Int32} (C : CX D B Y p s m args meth c cX11_keyed 7 RX11 (some .boolean))  {rc_18 : Int32 × Int32 × Wd → Option (Int32 × Wd)} (hr_18 : ∀ (v1 : Int32) (v3 : Int32) (w : Wd), rc_18 (v1, v3, w) = some z → ∀ (H : Heap) (locs : List Loc) (ls : Array Slot), HS D B Y w s H locs → lv_has ls 7 [(0, .ref (B + 713)), (1, .int v1), (3, .int v3)] → W p l e (RM 5 0 0) s m args below meth c H locs 0 0 (MQ below (QG D B Y (some (.int z.1)) z.2 (isZ z.1)) args s 0 0 (AB B)) (F0 m 18 ls []))    (hH : HS D B Y w s H locs) (hl : lv_has ls 7 [(0, .ref (B + 713)), (1, .int v1), (3, .int v3)]) (hf : f_X11_keyed_47 rc_18 v1 v3 w = some z) : W p l e (RM 5 0 0) s m args below meth c H locs 0 0 (MQ below (QG D B Y (some (.int z.1)) z.2 (isZ z.1)) args s 0 0 (AB B)) (F0 m 47 ls []) := by
  have hx := C.1
  have hb := C.2.1
  unfold f_X11_keyed_47 at hf
  refine lv_iconst (v := (0 : Int32)) hx hb dX11_keyed_47 (by decide) ?_
  refine lv_istore (lv' := [(4, .int (0 : Int32)), (0, .ref (B + 713)), (1, .int v1), (3, .int v3)]) hx hb dX11_keyed_48 hl (by decide) rfl (fun ls hl => ?_)
  exact t_X11_keyed_50 C hr_18 hH (lv_sub hl [1, 2, 3, 0] rfl) hf
set_option maxRecDepth 100000 in
set_option maxHeartbeats 4000000 in
theorem tb_X11_keyed_18 {D : va_G} {B : Nat} {Y : Nat → ClassId} {p : Program} {l : Launch} {e : Env} {s : State} {m : MethodId} {args : Array Value} {below : List Frame} {meth : Method} {c : Code} {z : (Int32 × Wd)} {H : Heap} {locs : List Loc} {ls : Array Slot} {w : Wd} {v1 : Int32} {v3 : Int32} (C : CX D B Y p s m args meth c cX11_keyed 7 RX11 (some .boolean))  {rc_18 : Int32 × Int32 × Wd → Option (Int32 × Wd)} (hr_18 : ∀ (v1 : Int32) (v3 : Int32) (w : Wd), rc_18 (v1, v3, w) = some z → ∀ (H : Heap) (locs : List Loc) (ls : Array Slot), HS D B Y w s H locs → lv_has ls 7 [(0, .ref (B + 713)), (1, .int v1), (3, .int v3)] → W p l e (RM 5 0 0) s m args below meth c H locs 0 0 (MQ below (QG D B Y (some (.int z.1)) z.2 (isZ z.1)) args s 0 0 (AB B)) (F0 m 18 ls []))    (hH : HS D B Y w s H locs) (hl : lv_has ls 7 [(0, .ref (B + 713)), (1, .int v1), (3, .int v3)]) (hf : g_X11_keyed_18 rc_18 v1 v3 w = some z) : W p l e (RM 5 0 0) s m args below meth c H locs 0 0 (MQ below (QG D B Y (some (.int z.1)) z.2 (isZ z.1)) args s 0 0 (AB B)) (F0 m 18 ls []) := by
  have hx := C.1
  have hb := C.2.1
  unfold g_X11_keyed_18 at hf
  refine lv_iload_n hx hb dX11_keyed_18 rfl (lv_at hl 2 rfl) ?_
  refine lv_iconst (v := (3 : Int32)) hx hb dX11_keyed_19 (by decide) ?_
  refine b_icmp_ge (tgt := 199) hx hb hf dX11_keyed_20 (by decide) (fun hf => ?_) (fun hf => ?_)
  · refine lv_iconst (v := (1 : Int32)) hx hb dX11_keyed_199 (by decide) ?_
    cases hf
    exact q_retz C hH isZ_1 isZ_1 dX11_keyed_200
  · refine lv_iload_n hx hb dX11_keyed_23 rfl (lv_at hl 2 rfl) ?_
    refine b_if_le (tgt := 47) hx hb hf dX11_keyed_24 (by decide) (fun hf => ?_) (fun hf => ?_)
    · exact t_X11_keyed_47 C hr_18 hH (lv_sub hl [0, 1, 2] rfl) hf
    · refine lv_aload_n hx hb dX11_keyed_27 rfl (lv_at hl 0 rfl) ?_
      refine fg_X11_71 C hH dX11_keyed_28 ?_
      refine lv_aload_n hx hb dX11_keyed_31 rfl (lv_at hl 0 rfl) ?_
      refine fg_X11_273 C hH dX11_keyed_32 ?_
      refine lv_iconst (v := (0 : Int32)) hx hb dX11_keyed_35 (by decide) ?_
      refine g_iast C hH kc_734 hf dX11_keyed_36 (fun w1 H locs hf hH => ?_)
      refine lv_aload_n hx hb dX11_keyed_37 rfl (lv_at hl 0 rfl) ?_
      refine lv_dup hx hb dX11_keyed_38 rfl ?_
      refine fg_X11_273 C hH dX11_keyed_39 ?_
      refine lv_iconst (v := (1 : Int32)) hx hb dX11_keyed_42 (by decide) ?_
      refine lv_iadd hx hb dX11_keyed_43 ?_
      refine fp_X11_273 C hH dX11_keyed_44 (fun H locs hH => ?_)
      refine b_w hf hH (fun w2 hf hH => ?_)
      exact t_X11_keyed_47 C hr_18 hH (lv_sub hl [0, 1, 2] rfl) hf
set_option maxRecDepth 100000 in
set_option maxHeartbeats 4000000 in
theorem t_X11_keyed_18 {D : va_G} {B : Nat} {Y : Nat → ClassId} {p : Program} {l : Launch} {e : Env} {s : State} {m : MethodId} {args : Array Value} {below : List Frame} {meth : Method} {c : Code} {z : (Int32 × Wd)} {H : Heap} {locs : List Loc} {ls : Array Slot} {w : Wd} {v1 : Int32} {v3 : Int32} (C : CX D B Y p s m args meth c cX11_keyed 7 RX11 (some .boolean))     (hH : HS D B Y w s H locs) (hl : lv_has ls 7 [(0, .ref (B + 713)), (1, .int v1), (3, .int v3)]) (hf : f_X11_keyed_18 v1 v3 w = some z) : W p l e (RM 5 0 0) s m args below meth c H locs 0 0 (MQ below (QG D B Y (some (.int z.1)) z.2 (isZ z.1)) args s 0 0 (AB B)) (F0 m 18 ls []) := by
  exact loopN_ind (z := z) (body := fun rc σ => g_X11_keyed_18 rc  σ.1 σ.2.1 σ.2.2)
    (P := fun σ => ∀ (H : Heap) (locs : List Loc) (ls : Array Slot), HS D B Y σ.2.2 s H locs → lv_has ls 7 [(0, .ref (B + 713)), (1, .int σ.1), (3, .int σ.2.1)] → W p l e (RM 5 0 0) s m args below meth c H locs 0 0 (MQ below (QG D B Y (some (.int z.1)) z.2 (isZ z.1)) args s 0 0 (AB B)) (F0 m 18 ls []))
    (fun rc hrec σ hf  H locs ls hH hl => tb_X11_keyed_18 C (fun v1 v3 w hr  H locs ls hH hl => hrec (v1, v3, w) hr  H locs ls hH hl)   hH hl hf) FU (v1, v3, w) hf  H locs ls hH hl
set_option maxRecDepth 100000 in
set_option maxHeartbeats 4000000 in
theorem t_X11_keyed_0 {D : va_G} {B : Nat} {Y : Nat → ClassId} {p : Program} {l : Launch} {e : Env} {s : State} {m : MethodId} {args : Array Value} {below : List Frame} {meth : Method} {c : Code} {z : (Int32 × Wd)} {H : Heap} {locs : List Loc} {ls : Array Slot} {w : Wd} {v1 : Int32} {v2 : Int32} (C : CX D B Y p s m args meth c cX11_keyed 7 RX11 (some .boolean))     (hH : HS D B Y w s H locs) (hl : lv_has ls 7 [(0, .ref (B + 713)), (1, .int v1), (2, .int v2)]) (hf : f_X11_keyed v1 v2 w = some z) : W p l e (RM 5 0 0) s m args below meth c H locs 0 0 (MQ below (QG D B Y (some (.int z.1)) z.2 (isZ z.1)) args s 0 0 (AB B)) (F0 m 0 ls []) := by
  have hx := C.1
  have hb := C.2.1
  unfold f_X11_keyed at hf
  refine lv_aload_n hx hb dX11_keyed_0 rfl (lv_at hl 0 rfl) ?_
  refine lv_iload_n hx hb dX11_keyed_1 rfl (lv_at hl 2 rfl) ?_
  refine lv_iconst (v := (0 : Int32)) hx hb dX11_keyed_2 (by decide) ?_
  obtain ⟨x2, w1, hc, hf⟩ := bd_some hf
  refine q_callV1 (v := .int x2) (As := [.int v2, .int (0 : Int32)]) C hH (ci := 11) rfl (by omega) gk_X11_190 yd_X11_formed (by omega) (by omega) kc_713 (c_X11_formed hc) hl.1 rfl (Nat.le_of_ble_eq_true rfl) dX11_keyed_3 ⟨by decide, by decide⟩ (fun H locs hH z_x2 => ?_)
  refine b_if_ne (tgt := 11) hx hb hf dX11_keyed_6 (by decide) (fun hf => ?_) (fun hf => ?_)
  · refine lv_aload_n hx hb dX11_keyed_11 rfl (lv_at hl 0 rfl) ?_
    refine lv_iconst (v := (0 : Int32)) hx hb dX11_keyed_12 (by decide) ?_
    refine fp_X11_273 C hH dX11_keyed_13 (fun H locs hH => ?_)
    refine b_w hf hH (fun w3 hf hH => ?_)
    refine lv_iconst (v := (0 : Int32)) hx hb dX11_keyed_16 (by decide) ?_
    refine lv_istore_n (lv' := [(3, .int (0 : Int32)), (0, .ref (B + 713)), (1, .int v1), (2, .int v2)]) hx hb dX11_keyed_17 rfl hl (by decide) rfl (fun ls hl => ?_)
    exact t_X11_keyed_18 C hH (lv_sub hl [1, 2, 0] rfl) hf
  · refine lv_iconst (v := (0 : Int32)) hx hb dX11_keyed_9 (by decide) ?_
    cases hf
    exact q_retz C hH isZ_0 isZ_0 dX11_keyed_10
set_option maxRecDepth 100000 in
theorem c_X11_keyed {l : Launch} {D : va_G} {B : Nat} {Y : Nat → ClassId} {v1 : Int32} {v2 : Int32} {w : Wd} {r : Int32} {w1 : Wd}   (hf : f_X11_keyed v1 v2 w = some (r, w1)) : CM l D B Y yX11_keyed cX11_keyed 7 (some .boolean) 5 [.ref (B + 713), .int v1, .int v2] w (some (.int r)) w1 (isZ r) :=
  CM_of (by decide +kernel) (Nat.le_of_ble_eq_true rfl) (fun p e s m args below meth c ls C hH hl => t_X11_keyed_0 C  hH (lv_sub hl [0, 1, 2] rfl) hf)
/-! LetterTablesModel.compares -/
set_option maxRecDepth 100000 in
set_option maxHeartbeats 4000000 in
theorem t_X11_compares_57 {D : va_G} {B : Nat} {Y : Nat → ClassId} {p : Program} {l : Launch} {e : Env} {s : State} {m : MethodId} {args : Array Value} {below : List Frame} {meth : Method} {c : Code} {z : (Int32 × Wd)} {H : Heap} {locs : List Loc} {ls : Array Slot} {w : Wd} {v1 : Int32} (C : CX D B Y p s m args meth c cX11_compares 3 RX11 (some .int))     (hH : HS D B Y w s H locs) (hl : lv_has ls 3 [(0, .ref (B + 713)), (1, .int v1)]) (hf : f_X11_compares_57 v1 w = some z) : W p l e (RM 0 0 0) s m args below meth c H locs 0 0 (MQ below (QG D B Y (some (.int z.1)) z.2 True) args s 0 0 (AB B)) (F0 m 57 ls []) := by
  have hx := C.1
  have hb := C.2.1
  unfold f_X11_compares_57 at hf
  refine lv_iload_n hx hb dX11_compares_57 rfl (lv_at hl 1 rfl) ?_
  refine lv_aload_n hx hb dX11_compares_58 rfl (lv_at hl 0 rfl) ?_
  refine fg_X11_273 C hH dX11_compares_59 ?_
  refine b_icmp_ge (tgt := 69) hx hb hf dX11_compares_62 (by decide) (fun hf => ?_) (fun hf => ?_)
  · refine lv_iload_n hx hb dX11_compares_69 rfl (lv_at hl 1 rfl) ?_
    refine lv_aload_n hx hb dX11_compares_70 rfl (lv_at hl 0 rfl) ?_
    refine fg_X11_273 C hH dX11_compares_71 ?_
    refine b_icmp_le (tgt := 81) hx hb hf dX11_compares_74 (by decide) (fun hf => ?_) (fun hf => ?_)
    · refine lv_iconst (v := (0 : Int32)) hx hb dX11_compares_81 (by decide) ?_
      cases hf
      exact q_reti C hH trivial dX11_compares_82
    · refine lv_iconst (v := (1 : Int32)) hx hb dX11_compares_77 (by decide) ?_
      refine lv_goto (tgt := 82) hx hb dX11_compares_78 (by decide) ?_
      cases hf
      exact q_reti C hH trivial dX11_compares_82
  · refine lv_iconst (v := (-1 : Int32)) hx hb dX11_compares_65 (by decide) ?_
    refine lv_goto (tgt := 82) hx hb dX11_compares_66 (by decide) ?_
    cases hf
    exact q_reti C hH trivial dX11_compares_82
set_option maxRecDepth 100000 in
set_option maxHeartbeats 4000000 in
theorem tb_X11_compares_2 {D : va_G} {B : Nat} {Y : Nat → ClassId} {p : Program} {l : Launch} {e : Env} {s : State} {m : MethodId} {args : Array Value} {below : List Frame} {meth : Method} {c : Code} {z : (Int32 × Wd)} {H : Heap} {locs : List Loc} {ls : Array Slot} {w : Wd} {v1 : Int32} {v2 : Int32} (C : CX D B Y p s m args meth c cX11_compares 3 RX11 (some .int))  {rc_2 : Int32 × Int32 × Wd → Option (Int32 × Wd)} (hr_2 : ∀ (v1 : Int32) (v2 : Int32) (w : Wd), rc_2 (v1, v2, w) = some z → ∀ (H : Heap) (locs : List Loc) (ls : Array Slot), HS D B Y w s H locs → lv_has ls 3 [(0, .ref (B + 713)), (1, .int v1), (2, .int v2)] → W p l e (RM 0 0 0) s m args below meth c H locs 0 0 (MQ below (QG D B Y (some (.int z.1)) z.2 True) args s 0 0 (AB B)) (F0 m 2 ls []))    (hH : HS D B Y w s H locs) (hl : lv_has ls 3 [(0, .ref (B + 713)), (1, .int v1), (2, .int v2)]) (hf : g_X11_compares_2 rc_2 v1 v2 w = some z) : W p l e (RM 0 0 0) s m args below meth c H locs 0 0 (MQ below (QG D B Y (some (.int z.1)) z.2 True) args s 0 0 (AB B)) (F0 m 2 ls []) := by
  have hx := C.1
  have hb := C.2.1
  unfold g_X11_compares_2 at hf
  refine lv_iload_n hx hb dX11_compares_2 rfl (lv_at hl 2 rfl) ?_
  refine lv_aload_n hx hb dX11_compares_3 rfl (lv_at hl 0 rfl) ?_
  refine fg_X11_273 C hH dX11_compares_4 ?_
  refine b_icmp_ge (tgt := 57) hx hb hf dX11_compares_7 (by decide) (fun hf => ?_) (fun hf => ?_)
  · exact t_X11_compares_57 C hH (lv_sub hl [0, 1] rfl) hf
  · refine lv_iload_n hx hb dX11_compares_10 rfl (lv_at hl 2 rfl) ?_
    refine lv_iload_n hx hb dX11_compares_11 rfl (lv_at hl 1 rfl) ?_
    refine b_icmp_ge (tgt := 57) hx hb hf dX11_compares_12 (by decide) (fun hf => ?_) (fun hf => ?_)
    · exact t_X11_compares_57 C hH (lv_sub hl [0, 1] rfl) hf
    · refine lv_aload_n hx hb dX11_compares_15 rfl (lv_at hl 0 rfl) ?_
      refine fg_X11_71 C hH dX11_compares_16 ?_
      refine lv_iload_n hx hb dX11_compares_19 rfl (lv_at hl 2 rfl) ?_
      refine g_iald C hH kc_734 hf dX11_compares_20 (fun x1 hf => ?_)
      refine lv_aload_n hx hb dX11_compares_21 rfl (lv_at hl 0 rfl) ?_
      refine fg_X11_74 C hH dX11_compares_22 ?_
      refine lv_iload_n hx hb dX11_compares_25 rfl (lv_at hl 2 rfl) ?_
      refine g_iald C hH kc_735 hf dX11_compares_26 (fun x2 hf => ?_)
      refine b_icmp_eq (tgt := 51) hx hb hf dX11_compares_27 (by decide) (fun hf => ?_) (fun hf => ?_)
      · refine b_let hf (fun x3 he hf => ?_)
        refine lv_iinc (v := x3) (lv' := [(2, .int x3), (0, .ref (B + 713)), (1, .int v1)]) hx hb dX11_compares_51 hl (k := 2) rfl (by rw [← he]; rfl) (by decide) rfl (fun ls hl => ?_)
        refine lv_goto (tgt := 2) hx hb dX11_compares_54 (by decide) ?_
        exact hr_2 v1 x3 w hf _ _ _ hH (lv_sub hl [1, 2, 0] rfl)
      · refine lv_aload_n hx hb dX11_compares_30 rfl (lv_at hl 0 rfl) ?_
        refine fg_X11_74 C hH dX11_compares_31 ?_
        refine lv_iload_n hx hb dX11_compares_34 rfl (lv_at hl 2 rfl) ?_
        refine g_iald C hH kc_735 hf dX11_compares_35 (fun x4 hf => ?_)
        refine lv_aload_n hx hb dX11_compares_36 rfl (lv_at hl 0 rfl) ?_
        refine fg_X11_71 C hH dX11_compares_37 ?_
        refine lv_iload_n hx hb dX11_compares_40 rfl (lv_at hl 2 rfl) ?_
        refine g_iald C hH kc_734 hf dX11_compares_41 (fun x5 hf => ?_)
        refine b_icmp_ge (tgt := 49) hx hb hf dX11_compares_42 (by decide) (fun hf => ?_) (fun hf => ?_)
        · refine lv_iconst (v := (1 : Int32)) hx hb dX11_compares_49 (by decide) ?_
          cases hf
          exact q_reti C hH trivial dX11_compares_50
        · refine lv_iconst (v := (-1 : Int32)) hx hb dX11_compares_45 (by decide) ?_
          refine lv_goto (tgt := 50) hx hb dX11_compares_46 (by decide) ?_
          cases hf
          exact q_reti C hH trivial dX11_compares_50
set_option maxRecDepth 100000 in
set_option maxHeartbeats 4000000 in
theorem t_X11_compares_2 {D : va_G} {B : Nat} {Y : Nat → ClassId} {p : Program} {l : Launch} {e : Env} {s : State} {m : MethodId} {args : Array Value} {below : List Frame} {meth : Method} {c : Code} {z : (Int32 × Wd)} {H : Heap} {locs : List Loc} {ls : Array Slot} {w : Wd} {v1 : Int32} {v2 : Int32} (C : CX D B Y p s m args meth c cX11_compares 3 RX11 (some .int))     (hH : HS D B Y w s H locs) (hl : lv_has ls 3 [(0, .ref (B + 713)), (1, .int v1), (2, .int v2)]) (hf : f_X11_compares_2 v1 v2 w = some z) : W p l e (RM 0 0 0) s m args below meth c H locs 0 0 (MQ below (QG D B Y (some (.int z.1)) z.2 True) args s 0 0 (AB B)) (F0 m 2 ls []) := by
  exact loopN_ind (z := z) (body := fun rc σ => g_X11_compares_2 rc  σ.1 σ.2.1 σ.2.2)
    (P := fun σ => ∀ (H : Heap) (locs : List Loc) (ls : Array Slot), HS D B Y σ.2.2 s H locs → lv_has ls 3 [(0, .ref (B + 713)), (1, .int σ.1), (2, .int σ.2.1)] → W p l e (RM 0 0 0) s m args below meth c H locs 0 0 (MQ below (QG D B Y (some (.int z.1)) z.2 True) args s 0 0 (AB B)) (F0 m 2 ls []))
    (fun rc hrec σ hf  H locs ls hH hl => tb_X11_compares_2 C (fun v1 v2 w hr  H locs ls hH hl => hrec (v1, v2, w) hr  H locs ls hH hl)   hH hl hf) FU (v1, v2, w) hf  H locs ls hH hl
set_option maxRecDepth 100000 in
set_option maxHeartbeats 4000000 in
theorem t_X11_compares_0 {D : va_G} {B : Nat} {Y : Nat → ClassId} {p : Program} {l : Launch} {e : Env} {s : State} {m : MethodId} {args : Array Value} {below : List Frame} {meth : Method} {c : Code} {z : (Int32 × Wd)} {H : Heap} {locs : List Loc} {ls : Array Slot} {w : Wd} {v1 : Int32} (C : CX D B Y p s m args meth c cX11_compares 3 RX11 (some .int))     (hH : HS D B Y w s H locs) (hl : lv_has ls 3 [(0, .ref (B + 713)), (1, .int v1)]) (hf : f_X11_compares v1 w = some z) : W p l e (RM 0 0 0) s m args below meth c H locs 0 0 (MQ below (QG D B Y (some (.int z.1)) z.2 True) args s 0 0 (AB B)) (F0 m 0 ls []) := by
  have hx := C.1
  have hb := C.2.1
  unfold f_X11_compares at hf
  refine lv_iconst (v := (0 : Int32)) hx hb dX11_compares_0 (by decide) ?_
  refine lv_istore_n (lv' := [(2, .int (0 : Int32)), (0, .ref (B + 713)), (1, .int v1)]) hx hb dX11_compares_1 rfl hl (by decide) rfl (fun ls hl => ?_)
  exact t_X11_compares_2 C hH (lv_sub hl [1, 2, 0] rfl) hf
set_option maxRecDepth 100000 in
theorem c_X11_compares {l : Launch} {D : va_G} {B : Nat} {Y : Nat → ClassId} {v1 : Int32} {w : Wd} {r : Int32} {w1 : Wd}   (hf : f_X11_compares v1 w = some (r, w1)) : CM l D B Y yX11_compares cX11_compares 3 (some .int) 0 [.ref (B + 713), .int v1] w (some (.int r)) w1 True :=
  CM_of (by decide +kernel) (Nat.le_of_ble_eq_true rfl) (fun p e s m args below meth c ls C hH hl => t_X11_compares_0 C  hH (lv_sub hl [0, 1] rfl) hf)
/-! LetterTablesModel.compare -/
set_option maxRecDepth 100000 in
set_option maxHeartbeats 4000000 in
theorem t_X11_compare_131 {D : va_G} {B : Nat} {Y : Nat → ClassId} {p : Program} {l : Launch} {e : Env} {s : State} {m : MethodId} {args : Array Value} {below : List Frame} {meth : Method} {c : Code} {z : (Int32 × Wd)} {H : Heap} {locs : List Loc} {ls : Array Slot} {w : Wd} {v6 : Int32} {t1 : Int32} (C : CX D B Y p s m args meth c cX11_compare 8 RX11 (some .int))     (hH : HS D B Y w s H locs) (hl : lv_has ls 8 [(0, .ref (B + 713)), (6, .int v6)]) (hf : f_X11_compare_131 v6 t1 w = some z) : W p l e (RM 6 0 0) s m args below meth c H locs 0 0 (MQ below (QG D B Y (some (.int z.1)) z.2 True) args s 0 0 (AB B)) (F0 m 131 ls [.int t1, .ref (B + 713)]) := by
  have hx := C.1
  have hb := C.2.1
  unfold f_X11_compare_131 at hf
  obtain ⟨x2, w1, hc, hf⟩ := bd_some hf
  refine q_callV1 (v := .int x2) (As := [.int t1]) C hH (ci := 11) rfl (by omega) gk_X11_118 yd_X11_holds (by omega) (by omega) kc_713 (c_X11_holds hc) hl.1 rfl (Nat.le_of_ble_eq_true rfl) dX11_compare_131 ⟨by decide, by decide⟩ (fun H locs hH z_x2 => ?_)
  refine b_if_eq (tgt := 146) hx hb hf dX11_compare_134 (by decide) (fun hf => ?_) (fun hf => ?_)
  · refine lv_iconst (v := (0 : Int32)) hx hb dX11_compare_146 (by decide) ?_
    cases hf
    exact q_reti C hH trivial dX11_compare_147
  · refine lv_aload_n hx hb dX11_compare_137 rfl (lv_at hl 0 rfl) ?_
    refine lv_iload hx hb dX11_compare_138 (lv_at hl 1 rfl) ?_
    obtain ⟨x4, w3, hc, hf⟩ := bd_some hf
    refine q_callV1 (v := .int x4) (As := [.int v6]) C hH (ci := 11) rfl (by omega) gk_X11_279 yd_X11_compares (by omega) (by omega) kc_713 (c_X11_compares hc) hl.1 rfl (Nat.le_of_ble_eq_true rfl) dX11_compare_140 ⟨by decide, by decide⟩ (fun H locs hH hP => ?_)
    refine lv_goto (tgt := 147) hx hb dX11_compare_143 (by decide) ?_
    cases hf
    exact q_reti C hH trivial dX11_compare_147
set_option maxRecDepth 100000 in
set_option maxHeartbeats 4000000 in
theorem t_X11_compare_109 {D : va_G} {B : Nat} {Y : Nat → ClassId} {p : Program} {l : Launch} {e : Env} {s : State} {m : MethodId} {args : Array Value} {below : List Frame} {meth : Method} {c : Code} {z : (Int32 × Wd)} {H : Heap} {locs : List Loc} {ls : Array Slot} {w : Wd} {v4 : Int32} {v6 : Int32} {t0 : Int32} (C : CX D B Y p s m args meth c cX11_compare 8 RX11 (some .int))    (z_v4 : isZ v4) (z_t0 : isZ t0) (hH : HS D B Y w s H locs) (hl : lv_has ls 8 [(0, .ref (B + 713)), (4, .int v4), (6, .int v6)]) (hf : f_X11_compare_109 v4 v6 t0 w = some z) : W p l e (RM 6 0 0) s m args below meth c H locs 0 0 (MQ below (QG D B Y (some (.int z.1)) z.2 True) args s 0 0 (AB B)) (F0 m 109 ls [.int t0]) := by
  have hx := C.1
  have hb := C.2.1
  unfold f_X11_compare_109 at hf
  refine lv_istore (lv' := [(5, .int t0), (0, .ref (B + 713)), (4, .int v4), (6, .int v6)]) hx hb dX11_compare_109 hl (by decide) rfl (fun ls hl => ?_)
  refine lv_aload_n hx hb dX11_compare_111 rfl (lv_at hl 1 rfl) ?_
  refine lv_iload hx hb dX11_compare_112 (lv_at hl 2 rfl) ?_
  refine b_if_ne (tgt := 121) hx hb hf dX11_compare_114 (by decide) (fun hf => ?_) (fun hf => ?_)
  · refine lv_iload hx hb dX11_compare_121 (lv_at hl 0 rfl) ?_
    refine b_if_eq (tgt := 130) hx hb hf dX11_compare_123 (by decide) (fun hf => ?_) (fun hf => ?_)
    · refine lv_iconst (v := (2 : Int32)) hx hb dX11_compare_130 (by decide) ?_
      exact t_X11_compare_131 C hH (lv_sub hl [1, 3] rfl) hf
    · refine lv_iconst (v := (0 : Int32)) hx hb dX11_compare_126 (by decide) ?_
      refine lv_goto (tgt := 131) hx hb dX11_compare_127 (by decide) ?_
      exact t_X11_compare_131 C hH (lv_sub hl [1, 3] rfl) hf
  · refine lv_iconst (v := (1 : Int32)) hx hb dX11_compare_117 (by decide) ?_
    refine lv_goto (tgt := 131) hx hb dX11_compare_118 (by decide) ?_
    exact t_X11_compare_131 C hH (lv_sub hl [1, 3] rfl) hf
set_option maxRecDepth 100000 in
set_option maxHeartbeats 4000000 in
theorem t_X11_compare_108 {D : va_G} {B : Nat} {Y : Nat → ClassId} {p : Program} {l : Launch} {e : Env} {s : State} {m : MethodId} {args : Array Value} {below : List Frame} {meth : Method} {c : Code} {z : (Int32 × Wd)} {H : Heap} {locs : List Loc} {ls : Array Slot} {w : Wd} {v4 : Int32} {v6 : Int32} (C : CX D B Y p s m args meth c cX11_compare 8 RX11 (some .int))    (z_v4 : isZ v4) (hH : HS D B Y w s H locs) (hl : lv_has ls 8 [(0, .ref (B + 713)), (4, .int v4), (6, .int v6)]) (hf : f_X11_compare_108 v4 v6 w = some z) : W p l e (RM 6 0 0) s m args below meth c H locs 0 0 (MQ below (QG D B Y (some (.int z.1)) z.2 True) args s 0 0 (AB B)) (F0 m 108 ls []) := by
  have hx := C.1
  have hb := C.2.1
  unfold f_X11_compare_108 at hf
  refine lv_iconst (v := (0 : Int32)) hx hb dX11_compare_108 (by decide) ?_
  exact t_X11_compare_109 C z_v4 isZ_0 hH (lv_sub hl [0, 1, 2] rfl) hf
set_option maxRecDepth 100000 in
set_option maxHeartbeats 4000000 in
theorem t_X11_compare_90 {D : va_G} {B : Nat} {Y : Nat → ClassId} {p : Program} {l : Launch} {e : Env} {s : State} {m : MethodId} {args : Array Value} {below : List Frame} {meth : Method} {c : Code} {z : (Int32 × Wd)} {H : Heap} {locs : List Loc} {ls : Array Slot} {w : Wd} {v1 : Int32} {v3 : Int32} {v4 : Int32} {v5 : Int32} {v6 : Int32} (C : CX D B Y p s m args meth c cX11_compare 8 RX11 (some .int))    (z_v4 : isZ v4) (z_v5 : isZ v5) (hH : HS D B Y w s H locs) (hl : lv_has ls 8 [(0, .ref (B + 713)), (1, .int v1), (3, .int v3), (4, .int v4), (5, .int v5), (6, .int v6)]) (hf : f_X11_compare_90 v1 v3 v4 v5 v6 w = some z) : W p l e (RM 6 0 0) s m args below meth c H locs 0 0 (MQ below (QG D B Y (some (.int z.1)) z.2 True) args s 0 0 (AB B)) (F0 m 90 ls []) := by
  have hx := C.1
  have hb := C.2.1
  unfold f_X11_compare_90 at hf
  refine lv_iload hx hb dX11_compare_90 (lv_at hl 4 rfl) ?_
  refine b_if_eq (tgt := 108) hx hb hf dX11_compare_92 (by decide) (fun hf => ?_) (fun hf => ?_)
  · exact t_X11_compare_108 C z_v4 hH (lv_sub hl [0, 3, 5] rfl) hf
  · refine lv_aload_n hx hb dX11_compare_95 rfl (lv_at hl 0 rfl) ?_
    refine lv_iload_n hx hb dX11_compare_96 rfl (lv_at hl 1 rfl) ?_
    refine lv_iload_n hx hb dX11_compare_97 rfl (lv_at hl 2 rfl) ?_
    obtain ⟨x2, w1, hc, hf⟩ := bd_some hf
    refine q_callV1 (v := .int x2) (As := [.int v1, .int v3]) C hH (ci := 11) rfl (by omega) gk_X11_276 yd_X11_keyed (by omega) (by omega) kc_713 (c_X11_keyed hc) hl.1 rfl (Nat.le_of_ble_eq_true rfl) dX11_compare_98 ⟨by decide, by decide⟩ (fun H locs hH z_x2 => ?_)
    refine b_if_eq (tgt := 108) hx hb hf dX11_compare_101 (by decide) (fun hf => ?_) (fun hf => ?_)
    · exact t_X11_compare_108 C z_v4 hH (lv_sub hl [0, 3, 5] rfl) hf
    · refine lv_iconst (v := (1 : Int32)) hx hb dX11_compare_104 (by decide) ?_
      refine lv_goto (tgt := 109) hx hb dX11_compare_105 (by decide) ?_
      exact t_X11_compare_109 C z_v4 isZ_1 hH (lv_sub hl [0, 3, 5] rfl) hf
set_option maxRecDepth 100000 in
set_option maxHeartbeats 4000000 in
theorem tb_X11_compare_58 {D : va_G} {B : Nat} {Y : Nat → ClassId} {p : Program} {l : Launch} {e : Env} {s : State} {m : MethodId} {args : Array Value} {below : List Frame} {meth : Method} {c : Code} {z : (Int32 × Wd)} {H : Heap} {locs : List Loc} {ls : Array Slot} {w : Wd} {v1 : Int32} {v3 : Int32} {v4 : Int32} {v5 : Int32} {v6 : Int32} {v7 : Int32} (C : CX D B Y p s m args meth c cX11_compare 8 RX11 (some .int))  {rc_58 : Int32 × Int32 × Int32 × Int32 × Int32 × Int32 × Wd → Option (Int32 × Wd)} (hr_58 : ∀ (v1 : Int32) (v3 : Int32) (v4 : Int32) (v5 : Int32) (v6 : Int32) (v7 : Int32) (w : Wd), rc_58 (v1, v3, v4, v5, v6, v7, w) = some z → isZ v4 → isZ v5 → ∀ (H : Heap) (locs : List Loc) (ls : Array Slot), HS D B Y w s H locs → lv_has ls 8 [(0, .ref (B + 713)), (1, .int v1), (3, .int v3), (4, .int v4), (5, .int v5), (6, .int v6), (7, .int v7)] → W p l e (RM 6 0 0) s m args below meth c H locs 0 0 (MQ below (QG D B Y (some (.int z.1)) z.2 True) args s 0 0 (AB B)) (F0 m 58 ls []))   (z_v4 : isZ v4) (z_v5 : isZ v5) (hH : HS D B Y w s H locs) (hl : lv_has ls 8 [(0, .ref (B + 713)), (1, .int v1), (3, .int v3), (4, .int v4), (5, .int v5), (6, .int v6), (7, .int v7)]) (hf : g_X11_compare_58 rc_58 v1 v3 v4 v5 v6 v7 w = some z) : W p l e (RM 6 0 0) s m args below meth c H locs 0 0 (MQ below (QG D B Y (some (.int z.1)) z.2 True) args s 0 0 (AB B)) (F0 m 58 ls []) := by
  have hx := C.1
  have hb := C.2.1
  unfold g_X11_compare_58 at hf
  refine lv_iload hx hb dX11_compare_58 (lv_at hl 6 rfl) ?_
  refine lv_iload hx hb dX11_compare_60 (lv_at hl 5 rfl) ?_
  refine b_icmp_ge (tgt := 90) hx hb hf dX11_compare_62 (by decide) (fun hf => ?_) (fun hf => ?_)
  · exact t_X11_compare_90 C z_v4 z_v5 hH (lv_sub hl [0, 1, 2, 3, 4, 5] rfl) hf
  · refine lv_iload hx hb dX11_compare_65 (lv_at hl 4 rfl) ?_
    refine b_if_eq (tgt := 90) hx hb hf dX11_compare_67 (by decide) (fun hf => ?_) (fun hf => ?_)
    · exact t_X11_compare_90 C z_v4 z_v5 hH (lv_sub hl [0, 1, 2, 3, 4, 5] rfl) hf
    · refine lv_aload_n hx hb dX11_compare_70 rfl (lv_at hl 0 rfl) ?_
      refine fg_X11_74 C hH dX11_compare_71 ?_
      refine lv_iload hx hb dX11_compare_74 (lv_at hl 6 rfl) ?_
      refine lv_aload_n hx hb dX11_compare_76 rfl (lv_at hl 0 rfl) ?_
      refine fg_X11_71 C hH dX11_compare_77 ?_
      refine lv_iload hx hb dX11_compare_80 (lv_at hl 6 rfl) ?_
      refine g_iald C hH kc_734 hf dX11_compare_82 (fun x1 hf => ?_)
      refine g_iast C hH kc_735 hf dX11_compare_83 (fun w2 H locs hf hH => ?_)
      refine b_let hf (fun x3 he hf => ?_)
      refine lv_iinc (v := x3) (lv' := [(7, .int x3), (0, .ref (B + 713)), (1, .int v1), (3, .int v3), (4, .int v4), (5, .int v5), (6, .int v6)]) hx hb dX11_compare_84 hl (k := 6) rfl (by rw [← he]; rfl) (by decide) rfl (fun ls hl => ?_)
      refine lv_goto (tgt := 58) hx hb dX11_compare_87 (by decide) ?_
      exact hr_58 v1 v3 v4 v5 v6 x3 w2 hf z_v4 z_v5 _ _ _ hH (lv_sub hl [1, 2, 3, 4, 5, 6, 0] rfl)
set_option maxRecDepth 100000 in
set_option maxHeartbeats 4000000 in
theorem t_X11_compare_58 {D : va_G} {B : Nat} {Y : Nat → ClassId} {p : Program} {l : Launch} {e : Env} {s : State} {m : MethodId} {args : Array Value} {below : List Frame} {meth : Method} {c : Code} {z : (Int32 × Wd)} {H : Heap} {locs : List Loc} {ls : Array Slot} {w : Wd} {v1 : Int32} {v3 : Int32} {v4 : Int32} {v5 : Int32} {v6 : Int32} {v7 : Int32} (C : CX D B Y p s m args meth c cX11_compare 8 RX11 (some .int))    (z_v4 : isZ v4) (z_v5 : isZ v5) (hH : HS D B Y w s H locs) (hl : lv_has ls 8 [(0, .ref (B + 713)), (1, .int v1), (3, .int v3), (4, .int v4), (5, .int v5), (6, .int v6), (7, .int v7)]) (hf : f_X11_compare_58 v1 v3 v4 v5 v6 v7 w = some z) : W p l e (RM 6 0 0) s m args below meth c H locs 0 0 (MQ below (QG D B Y (some (.int z.1)) z.2 True) args s 0 0 (AB B)) (F0 m 58 ls []) := by
  exact loopN_ind (z := z) (body := fun rc σ => g_X11_compare_58 rc  σ.1 σ.2.1 σ.2.2.1 σ.2.2.2.1 σ.2.2.2.2.1 σ.2.2.2.2.2.1 σ.2.2.2.2.2.2)
    (P := fun σ => isZ σ.2.2.1 → isZ σ.2.2.2.1 → ∀ (H : Heap) (locs : List Loc) (ls : Array Slot), HS D B Y σ.2.2.2.2.2.2 s H locs → lv_has ls 8 [(0, .ref (B + 713)), (1, .int σ.1), (3, .int σ.2.1), (4, .int σ.2.2.1), (5, .int σ.2.2.2.1), (6, .int σ.2.2.2.2.1), (7, .int σ.2.2.2.2.2.1)] → W p l e (RM 6 0 0) s m args below meth c H locs 0 0 (MQ below (QG D B Y (some (.int z.1)) z.2 True) args s 0 0 (AB B)) (F0 m 58 ls []))
    (fun rc hrec σ hf z_v4 z_v5 H locs ls hH hl => tb_X11_compare_58 C (fun v1 v3 v4 v5 v6 v7 w hr z_v4 z_v5 H locs ls hH hl => hrec (v1, v3, v4, v5, v6, v7, w) hr z_v4 z_v5 H locs ls hH hl)  z_v4 z_v5 hH hl hf) FU (v1, v3, v4, v5, v6, v7, w) hf z_v4 z_v5 H locs ls hH hl
set_option maxRecDepth 100000 in
set_option maxHeartbeats 4000000 in
theorem t_X11_compare_47 {D : va_G} {B : Nat} {Y : Nat → ClassId} {p : Program} {l : Launch} {e : Env} {s : State} {m : MethodId} {args : Array Value} {below : List Frame} {meth : Method} {c : Code} {z : (Int32 × Wd)} {H : Heap} {locs : List Loc} {ls : Array Slot} {w : Wd} {v1 : Int32} {v3 : Int32} {v4 : Int32} {t0 : Int32} (C : CX D B Y p s m args meth c cX11_compare 8 RX11 (some .int))    (z_v4 : isZ v4) (z_t0 : isZ t0) (hH : HS D B Y w s H locs) (hl : lv_has ls 8 [(0, .ref (B + 713)), (1, .int v1), (3, .int v3), (4, .int v4)]) (hf : f_X11_compare_47 v1 v3 v4 t0 w = some z) : W p l e (RM 6 0 0) s m args below meth c H locs 0 0 (MQ below (QG D B Y (some (.int z.1)) z.2 True) args s 0 0 (AB B)) (F0 m 47 ls [.int t0]) := by
  have hx := C.1
  have hb := C.2.1
  unfold f_X11_compare_47 at hf
  refine lv_istore (lv' := [(5, .int t0), (0, .ref (B + 713)), (1, .int v1), (3, .int v3), (4, .int v4)]) hx hb dX11_compare_47 hl (by decide) rfl (fun ls hl => ?_)
  refine lv_aload_n hx hb dX11_compare_49 rfl (lv_at hl 1 rfl) ?_
  refine fg_X11_273 C hH dX11_compare_50 ?_
  refine b_leti hf (fun x1 hf => ?_)
  refine lv_istore (lv' := [(6, .int x1), (5, .int t0), (0, .ref (B + 713)), (1, .int v1), (3, .int v3), (4, .int v4)]) hx hb dX11_compare_53 hl (by decide) rfl (fun ls hl => ?_)
  refine lv_iconst (v := (0 : Int32)) hx hb dX11_compare_55 (by decide) ?_
  refine lv_istore (lv' := [(7, .int (0 : Int32)), (6, .int x1), (5, .int t0), (0, .ref (B + 713)), (1, .int v1), (3, .int v3), (4, .int v4)]) hx hb dX11_compare_56 hl (by decide) rfl (fun ls hl => ?_)
  exact t_X11_compare_58 C z_v4 z_t0 hH (lv_sub hl [3, 4, 5, 6, 2, 1, 0] rfl) hf
set_option maxRecDepth 100000 in
set_option maxHeartbeats 4000000 in
theorem t_X11_compare_46 {D : va_G} {B : Nat} {Y : Nat → ClassId} {p : Program} {l : Launch} {e : Env} {s : State} {m : MethodId} {args : Array Value} {below : List Frame} {meth : Method} {c : Code} {z : (Int32 × Wd)} {H : Heap} {locs : List Loc} {ls : Array Slot} {w : Wd} {v1 : Int32} {v3 : Int32} {v4 : Int32} (C : CX D B Y p s m args meth c cX11_compare 8 RX11 (some .int))    (z_v4 : isZ v4) (hH : HS D B Y w s H locs) (hl : lv_has ls 8 [(0, .ref (B + 713)), (1, .int v1), (3, .int v3), (4, .int v4)]) (hf : f_X11_compare_46 v1 v3 v4 w = some z) : W p l e (RM 6 0 0) s m args below meth c H locs 0 0 (MQ below (QG D B Y (some (.int z.1)) z.2 True) args s 0 0 (AB B)) (F0 m 46 ls []) := by
  have hx := C.1
  have hb := C.2.1
  unfold f_X11_compare_46 at hf
  refine lv_iconst (v := (0 : Int32)) hx hb dX11_compare_46 (by decide) ?_
  exact t_X11_compare_47 C z_v4 isZ_0 hH (lv_sub hl [0, 1, 2, 3] rfl) hf
set_option maxRecDepth 100000 in
set_option maxHeartbeats 4000000 in
theorem t_X11_compare_26 {D : va_G} {B : Nat} {Y : Nat → ClassId} {p : Program} {l : Launch} {e : Env} {s : State} {m : MethodId} {args : Array Value} {below : List Frame} {meth : Method} {c : Code} {z : (Int32 × Wd)} {H : Heap} {locs : List Loc} {ls : Array Slot} {w : Wd} {v1 : Int32} {v2 : Int32} {v3 : Int32} {t0 : Int32} (C : CX D B Y p s m args meth c cX11_compare 8 RX11 (some .int))    (z_t0 : isZ t0) (hH : HS D B Y w s H locs) (hl : lv_has ls 8 [(0, .ref (B + 713)), (1, .int v1), (2, .int v2), (3, .int v3)]) (hf : f_X11_compare_26 v1 v2 v3 t0 w = some z) : W p l e (RM 6 0 0) s m args below meth c H locs 0 0 (MQ below (QG D B Y (some (.int z.1)) z.2 True) args s 0 0 (AB B)) (F0 m 26 ls [.int t0]) := by
  have hx := C.1
  have hb := C.2.1
  unfold f_X11_compare_26 at hf
  refine lv_istore (lv' := [(4, .int t0), (0, .ref (B + 713)), (1, .int v1), (2, .int v2), (3, .int v3)]) hx hb dX11_compare_26 hl (by decide) rfl (fun ls hl => ?_)
  refine lv_iload hx hb dX11_compare_28 (lv_at hl 0 rfl) ?_
  refine b_if_eq (tgt := 46) hx hb hf dX11_compare_30 (by decide) (fun hf => ?_) (fun hf => ?_)
  · exact t_X11_compare_46 C z_t0 hH (lv_sub hl [1, 2, 4, 0] rfl) hf
  · refine lv_aload_n hx hb dX11_compare_33 rfl (lv_at hl 1 rfl) ?_
    refine lv_iload_n hx hb dX11_compare_34 rfl (lv_at hl 2 rfl) ?_
    refine lv_iload_n hx hb dX11_compare_35 rfl (lv_at hl 3 rfl) ?_
    obtain ⟨x2, w1, hc, hf⟩ := bd_some hf
    refine q_callV1 (v := .int x2) (As := [.int v1, .int v2]) C hH (ci := 11) rfl (by omega) gk_X11_276 yd_X11_keyed (by omega) (by omega) kc_713 (c_X11_keyed hc) hl.1 rfl (Nat.le_of_ble_eq_true rfl) dX11_compare_36 ⟨by decide, by decide⟩ (fun H locs hH z_x2 => ?_)
    refine b_if_eq (tgt := 46) hx hb hf dX11_compare_39 (by decide) (fun hf => ?_) (fun hf => ?_)
    · exact t_X11_compare_46 C z_t0 hH (lv_sub hl [1, 2, 4, 0] rfl) hf
    · refine lv_iconst (v := (1 : Int32)) hx hb dX11_compare_42 (by decide) ?_
      refine lv_goto (tgt := 47) hx hb dX11_compare_43 (by decide) ?_
      exact t_X11_compare_47 C z_t0 isZ_1 hH (lv_sub hl [1, 2, 4, 0] rfl) hf
set_option maxRecDepth 100000 in
set_option maxHeartbeats 4000000 in
theorem t_X11_compare_25 {D : va_G} {B : Nat} {Y : Nat → ClassId} {p : Program} {l : Launch} {e : Env} {s : State} {m : MethodId} {args : Array Value} {below : List Frame} {meth : Method} {c : Code} {z : (Int32 × Wd)} {H : Heap} {locs : List Loc} {ls : Array Slot} {w : Wd} {v1 : Int32} {v2 : Int32} {v3 : Int32} (C : CX D B Y p s m args meth c cX11_compare 8 RX11 (some .int))     (hH : HS D B Y w s H locs) (hl : lv_has ls 8 [(0, .ref (B + 713)), (1, .int v1), (2, .int v2), (3, .int v3)]) (hf : f_X11_compare_25 v1 v2 v3 w = some z) : W p l e (RM 6 0 0) s m args below meth c H locs 0 0 (MQ below (QG D B Y (some (.int z.1)) z.2 True) args s 0 0 (AB B)) (F0 m 25 ls []) := by
  have hx := C.1
  have hb := C.2.1
  unfold f_X11_compare_25 at hf
  refine lv_iconst (v := (0 : Int32)) hx hb dX11_compare_25 (by decide) ?_
  exact t_X11_compare_26 C isZ_0 hH (lv_sub hl [0, 1, 2, 3] rfl) hf
set_option maxRecDepth 100000 in
set_option maxHeartbeats 4000000 in
theorem t_X11_compare_0 {D : va_G} {B : Nat} {Y : Nat → ClassId} {p : Program} {l : Launch} {e : Env} {s : State} {m : MethodId} {args : Array Value} {below : List Frame} {meth : Method} {c : Code} {z : (Int32 × Wd)} {H : Heap} {locs : List Loc} {ls : Array Slot} {w : Wd} {v1 : Int32} {v2 : Int32} {v3 : Int32} (C : CX D B Y p s m args meth c cX11_compare 8 RX11 (some .int))     (hH : HS D B Y w s H locs) (hl : lv_has ls 8 [(0, .ref (B + 713)), (1, .int v1), (2, .int v2), (3, .int v3)]) (hf : f_X11_compare v1 v2 v3 w = some z) : W p l e (RM 6 0 0) s m args below meth c H locs 0 0 (MQ below (QG D B Y (some (.int z.1)) z.2 True) args s 0 0 (AB B)) (F0 m 0 ls []) := by
  have hx := C.1
  have hb := C.2.1
  unfold f_X11_compare at hf
  refine lv_iload_n hx hb dX11_compare_0 rfl (lv_at hl 1 rfl) ?_
  obtain ⟨x2, w1, hc, hf⟩ := bd_some hf
  refine q_callS1 (v := .int x2) (As := [.int v1]) C hH gk_X11_131 yd_X11_isLanguage (by omega) (by omega) (c_X11_isLanguage hc) hl.1 rfl (Nat.le_of_ble_eq_true rfl) dX11_compare_1 ⟨by decide, by decide⟩ (fun H locs hH z_x2 => ?_)
  refine b_if_eq (tgt := 25) hx hb hf dX11_compare_4 (by decide) (fun hf => ?_) (fun hf => ?_)
  · exact t_X11_compare_25 C hH (lv_sub hl [0, 1, 2, 3] rfl) hf
  · refine lv_iload_n hx hb dX11_compare_7 rfl (lv_at hl 2 rfl) ?_
    obtain ⟨x4, w3, hc, hf⟩ := bd_some hf
    refine q_callS1 (v := .int x4) (As := [.int v2]) C hH gk_X11_145 yd_X11_isSlot (by omega) (by omega) (c_X11_isSlot hc) hl.1 rfl (Nat.le_of_ble_eq_true rfl) dX11_compare_8 ⟨by decide, by decide⟩ (fun H locs hH z_x4 => ?_)
    refine b_if_eq (tgt := 25) hx hb hf dX11_compare_11 (by decide) (fun hf => ?_) (fun hf => ?_)
    · exact t_X11_compare_25 C hH (lv_sub hl [0, 1, 2, 3] rfl) hf
    · refine lv_iload_n hx hb dX11_compare_14 rfl (lv_at hl 3 rfl) ?_
      obtain ⟨x6, w5, hc, hf⟩ := bd_some hf
      refine q_callS1 (v := .int x6) (As := [.int v3]) C hH gk_X11_145 yd_X11_isSlot (by omega) (by omega) (c_X11_isSlot hc) hl.1 rfl (Nat.le_of_ble_eq_true rfl) dX11_compare_15 ⟨by decide, by decide⟩ (fun H locs hH z_x6 => ?_)
      refine b_if_eq (tgt := 25) hx hb hf dX11_compare_18 (by decide) (fun hf => ?_) (fun hf => ?_)
      · exact t_X11_compare_25 C hH (lv_sub hl [0, 1, 2, 3] rfl) hf
      · refine lv_iconst (v := (1 : Int32)) hx hb dX11_compare_21 (by decide) ?_
        refine lv_goto (tgt := 26) hx hb dX11_compare_22 (by decide) ?_
        exact t_X11_compare_26 C isZ_1 hH (lv_sub hl [0, 1, 2, 3] rfl) hf
set_option maxRecDepth 100000 in
theorem c_X11_compare {l : Launch} {D : va_G} {B : Nat} {Y : Nat → ClassId} {v1 : Int32} {v2 : Int32} {v3 : Int32} {w : Wd} {r : Int32} {w1 : Wd}   (hf : f_X11_compare v1 v2 v3 w = some (r, w1)) : CM l D B Y yX11_compare cX11_compare 8 (some .int) 6 [.ref (B + 713), .int v1, .int v2, .int v3] w (some (.int r)) w1 True :=
  CM_of (by decide +kernel) (Nat.le_of_ble_eq_true rfl) (fun p e s m args below meth c ls C hH hl => t_X11_compare_0 C  hH (lv_sub hl [0, 1, 2, 3] rfl) hf)
