/-! LetterTablesModel.match -/
set_option maxRecDepth 100000 in
set_option maxHeartbeats 4000000 in
theorem t_X11_match_48 {D : va_G} {B : Nat} {Y : Nat → ClassId} {p : Program} {l : Launch} {e : Env} {s : State} {m : MethodId} {args : Array Value} {below : List Frame} {meth : Method} {c : Code} {z : (Int32 × Wd)} {H : Heap} {locs : List Loc} {ls : Array Slot} {w : Wd} {v1 : Int32} {v2 : Int32} {t1 : Int32} (C : CX D B Y p s m args meth c cX11_match 4 RX11 (some .int))     (hH : HS D B Y w s H locs) (hl : lv_has ls 4 [(0, .ref (B + 713)), (1, .int v1), (2, .int v2)]) (hf : f_X11_match_48 v1 v2 t1 w = some z) : W p l e (RM 5 0 0) s m args below meth c H locs 0 0 (MQ below (QG D B Y (some (.int z.1)) z.2 True) args s 0 0 (AB B)) (F0 m 48 ls [.int t1, .ref (B + 713)]) := by
  have hx := C.1
  have hb := C.2.1
  unfold f_X11_match_48 at hf
  obtain ⟨x2, w1, hc, hf⟩ := bd_some hf
  refine q_callV1 (v := .int x2) (As := [.int t1]) C hH (ci := 11) rfl (by omega) gk_X11_118 yd_X11_holds (by omega) (by omega) kc_713 (c_X11_holds hc) hl.1 rfl (Nat.le_of_ble_eq_true rfl) dX11_match_48 ⟨by decide, by decide⟩ (fun H locs hH z_x2 => ?_)
  refine b_if_eq (tgt := 63) hx hb hf dX11_match_51 (by decide) (fun hf => ?_) (fun hf => ?_)
  · refine lv_iconst (v := (0 : Int32)) hx hb dX11_match_63 (by decide) ?_
    cases hf
    exact q_reti C hH trivial dX11_match_64
  · refine lv_aload_n hx hb dX11_match_54 rfl (lv_at hl 0 rfl) ?_
    refine lv_iload_n hx hb dX11_match_55 rfl (lv_at hl 1 rfl) ?_
    refine lv_iload_n hx hb dX11_match_56 rfl (lv_at hl 2 rfl) ?_
    obtain ⟨x4, w3, hc, hf⟩ := bd_some hf
    refine q_callV1 (v := .int x4) (As := [.int v1, .int v2]) C hH (ci := 11) rfl (by omega) gk_X11_314 yd_X11_matches (by omega) (by omega) kc_713 (c_X11_matches hc) hl.1 rfl (Nat.le_of_ble_eq_true rfl) dX11_match_57 ⟨by decide, by decide⟩ (fun H locs hH hP => ?_)
    refine lv_goto (tgt := 64) hx hb dX11_match_60 (by decide) ?_
    cases hf
    exact q_reti C hH trivial dX11_match_64
set_option maxRecDepth 100000 in
set_option maxHeartbeats 4000000 in
theorem t_X11_match_26 {D : va_G} {B : Nat} {Y : Nat → ClassId} {p : Program} {l : Launch} {e : Env} {s : State} {m : MethodId} {args : Array Value} {below : List Frame} {meth : Method} {c : Code} {z : (Int32 × Wd)} {H : Heap} {locs : List Loc} {ls : Array Slot} {w : Wd} {v1 : Int32} {v2 : Int32} {t0 : Int32} (C : CX D B Y p s m args meth c cX11_match 4 RX11 (some .int))    (z_t0 : isZ t0) (hH : HS D B Y w s H locs) (hl : lv_has ls 4 [(0, .ref (B + 713)), (1, .int v1), (2, .int v2)]) (hf : f_X11_match_26 v1 v2 t0 w = some z) : W p l e (RM 5 0 0) s m args below meth c H locs 0 0 (MQ below (QG D B Y (some (.int z.1)) z.2 True) args s 0 0 (AB B)) (F0 m 26 ls [.int t0]) := by
  have hx := C.1
  have hb := C.2.1
  unfold f_X11_match_26 at hf
  refine lv_istore_n (lv' := [(3, .int t0), (0, .ref (B + 713)), (1, .int v1), (2, .int v2)]) hx hb dX11_match_26 rfl hl (by decide) rfl (fun ls hl => ?_)
  refine lv_aload_n hx hb dX11_match_27 rfl (lv_at hl 1 rfl) ?_
  refine lv_iload_n hx hb dX11_match_28 rfl (lv_at hl 0 rfl) ?_
  refine b_if_ne (tgt := 36) hx hb hf dX11_match_29 (by decide) (fun hf => ?_) (fun hf => ?_)
  · refine lv_aload_n hx hb dX11_match_36 rfl (lv_at hl 1 rfl) ?_
    refine fg_X11_299 C hH dX11_match_37 ?_
    refine b_if_eq (tgt := 47) hx hb hf dX11_match_40 (by decide) (fun hf => ?_) (fun hf => ?_)
    · refine lv_iconst (v := (2 : Int32)) hx hb dX11_match_47 (by decide) ?_
      exact t_X11_match_48 C hH (lv_sub hl [1, 2, 3] rfl) hf
    · refine lv_iconst (v := (0 : Int32)) hx hb dX11_match_43 (by decide) ?_
      refine lv_goto (tgt := 48) hx hb dX11_match_44 (by decide) ?_
      exact t_X11_match_48 C hH (lv_sub hl [1, 2, 3] rfl) hf
  · refine lv_iconst (v := (1 : Int32)) hx hb dX11_match_32 (by decide) ?_
    refine lv_goto (tgt := 48) hx hb dX11_match_33 (by decide) ?_
    exact t_X11_match_48 C hH (lv_sub hl [1, 2, 3] rfl) hf
set_option maxRecDepth 100000 in
set_option maxHeartbeats 4000000 in
theorem t_X11_match_25 {D : va_G} {B : Nat} {Y : Nat → ClassId} {p : Program} {l : Launch} {e : Env} {s : State} {m : MethodId} {args : Array Value} {below : List Frame} {meth : Method} {c : Code} {z : (Int32 × Wd)} {H : Heap} {locs : List Loc} {ls : Array Slot} {w : Wd} {v1 : Int32} {v2 : Int32} (C : CX D B Y p s m args meth c cX11_match 4 RX11 (some .int))     (hH : HS D B Y w s H locs) (hl : lv_has ls 4 [(0, .ref (B + 713)), (1, .int v1), (2, .int v2)]) (hf : f_X11_match_25 v1 v2 w = some z) : W p l e (RM 5 0 0) s m args below meth c H locs 0 0 (MQ below (QG D B Y (some (.int z.1)) z.2 True) args s 0 0 (AB B)) (F0 m 25 ls []) := by
  have hx := C.1
  have hb := C.2.1
  unfold f_X11_match_25 at hf
  refine lv_iconst (v := (0 : Int32)) hx hb dX11_match_25 (by decide) ?_
  exact t_X11_match_26 C isZ_0 hH (lv_sub hl [0, 1, 2] rfl) hf
set_option maxRecDepth 100000 in
set_option maxHeartbeats 4000000 in
theorem t_X11_match_0 {D : va_G} {B : Nat} {Y : Nat → ClassId} {p : Program} {l : Launch} {e : Env} {s : State} {m : MethodId} {args : Array Value} {below : List Frame} {meth : Method} {c : Code} {z : (Int32 × Wd)} {H : Heap} {locs : List Loc} {ls : Array Slot} {w : Wd} {v1 : Int32} {v2 : Int32} (C : CX D B Y p s m args meth c cX11_match 4 RX11 (some .int))     (hH : HS D B Y w s H locs) (hl : lv_has ls 4 [(0, .ref (B + 713)), (1, .int v1), (2, .int v2)]) (hf : f_X11_match v1 v2 w = some z) : W p l e (RM 5 0 0) s m args below meth c H locs 0 0 (MQ below (QG D B Y (some (.int z.1)) z.2 True) args s 0 0 (AB B)) (F0 m 0 ls []) := by
  have hx := C.1
  have hb := C.2.1
  unfold f_X11_match at hf
  refine lv_iload_n hx hb dX11_match_0 rfl (lv_at hl 1 rfl) ?_
  obtain ⟨x2, w1, hc, hf⟩ := bd_some hf
  refine q_callS1 (v := .int x2) (As := [.int v1]) C hH gk_X11_145 yd_X11_isSlot (by omega) (by omega) (c_X11_isSlot hc) hl.1 rfl (Nat.le_of_ble_eq_true rfl) dX11_match_1 ⟨by decide, by decide⟩ (fun H locs hH z_x2 => ?_)
  refine b_if_eq (tgt := 25) hx hb hf dX11_match_4 (by decide) (fun hf => ?_) (fun hf => ?_)
  · exact t_X11_match_25 C hH (lv_sub hl [0, 1, 2] rfl) hf
  · refine lv_iload_n hx hb dX11_match_7 rfl (lv_at hl 2 rfl) ?_
    refine lv_iconst (v := (0 : Int32)) hx hb dX11_match_8 (by decide) ?_
    refine lv_aload_n hx hb dX11_match_9 rfl (lv_at hl 0 rfl) ?_
    refine fg_X11_19 C hH dX11_match_10 ?_
    refine lv_iload_n hx hb dX11_match_13 rfl (lv_at hl 1 rfl) ?_
    refine g_iald C hH kc_717 hf dX11_match_14 (fun x3 hf => ?_)
    obtain ⟨x5, w4, hc, hf⟩ := bd_some hf
    refine q_callS1 (v := .int x5) (As := [.int v2, .int (0 : Int32), .int x3]) C hH gk_X11_111 yd_X11_in (by omega) (by omega) (c_X11_in hc) hl.1 rfl (Nat.le_of_ble_eq_true rfl) dX11_match_15 ⟨by decide, by decide⟩ (fun H locs hH z_x5 => ?_)
    refine b_if_eq (tgt := 25) hx hb hf dX11_match_18 (by decide) (fun hf => ?_) (fun hf => ?_)
    · exact t_X11_match_25 C hH (lv_sub hl [0, 1, 2] rfl) hf
    · refine lv_iconst (v := (1 : Int32)) hx hb dX11_match_21 (by decide) ?_
      refine lv_goto (tgt := 26) hx hb dX11_match_22 (by decide) ?_
      exact t_X11_match_26 C isZ_1 hH (lv_sub hl [0, 1, 2] rfl) hf
set_option maxRecDepth 100000 in
theorem c_X11_match {l : Launch} {D : va_G} {B : Nat} {Y : Nat → ClassId} {v1 : Int32} {v2 : Int32} {w : Wd} {r : Int32} {w1 : Wd}   (hf : f_X11_match v1 v2 w = some (r, w1)) : CM l D B Y yX11_match cX11_match 4 (some .int) 5 [.ref (B + 713), .int v1, .int v2] w (some (.int r)) w1 True :=
  CM_of (by decide +kernel) (Nat.le_of_ble_eq_true rfl) (fun p e s m args below meth c ls C hH hl => t_X11_match_0 C  hH (lv_sub hl [0, 1, 2] rfl) hf)
/-! LetterTablesModel.stand -/
set_option maxRecDepth 100000 in
set_option maxHeartbeats 4000000 in
theorem tb_X11_stand_22 {D : va_G} {B : Nat} {Y : Nat → ClassId} {p : Program} {l : Launch} {e : Env} {s : State} {m : MethodId} {args : Array Value} {below : List Frame} {meth : Method} {c : Code} {z : (Int32 × Wd)} {H : Heap} {locs : List Loc} {ls : Array Slot} {w : Wd} {v1 : Nat} {v3 : Int32} {v4 : Int32} {v5 : Int32} {v6 : Int32} {v7 : Int32} (C : CX D B Y p s m args meth c cX11_stand 8 RX11 (some .boolean))  {rc_22 : Nat × Int32 × Int32 × Int32 × Int32 × Int32 × Wd → Option (Int32 × Wd)} (hr_22 : ∀ (v1 : Nat) (v3 : Int32) (v4 : Int32) (v5 : Int32) (v6 : Int32) (v7 : Int32) (w : Wd), rc_22 (v1, v3, v4, v5, v6, v7, w) = some z → KD v1 = 20 → isZ v6 → ∀ (H : Heap) (locs : List Loc) (ls : Array Slot), HS D B Y w s H locs → lv_has ls 8 [(0, .ref (B + 713)), (1, .ref (B + v1)), (3, .int v3), (4, .int v4), (5, .int v5), (6, .int v6), (7, .int v7)] → W p l e (RM 0 0 0) s m args below meth c H locs 0 0 (MQ below (QG D B Y (some (.int z.1)) z.2 (isZ z.1)) args s 0 0 (AB B)) (F0 m 22 ls []))  (k_v1 : KD v1 = 20) (z_v6 : isZ v6) (hH : HS D B Y w s H locs) (hl : lv_has ls 8 [(0, .ref (B + 713)), (1, .ref (B + v1)), (3, .int v3), (4, .int v4), (5, .int v5), (6, .int v6), (7, .int v7)]) (hf : g_X11_stand_22 rc_22 v1 v3 v4 v5 v6 v7 w = some z) : W p l e (RM 0 0 0) s m args below meth c H locs 0 0 (MQ below (QG D B Y (some (.int z.1)) z.2 (isZ z.1)) args s 0 0 (AB B)) (F0 m 22 ls []) := by
  have hx := C.1
  have hb := C.2.1
  unfold g_X11_stand_22 at hf
  refine lv_iload hx hb dX11_stand_22 (lv_at hl 6 rfl) ?_
  refine lv_iload hx hb dX11_stand_24 (lv_at hl 4 rfl) ?_
  refine b_icmp_ge (tgt := 66) hx hb hf dX11_stand_26 (by decide) (fun hf => ?_) (fun hf => ?_)
  · refine lv_iload hx hb dX11_stand_66 (lv_at hl 5 rfl) ?_
    cases hf
    exact q_retz C hH z_v6 z_v6 dX11_stand_68
  · refine lv_iload hx hb dX11_stand_29 (lv_at hl 5 rfl) ?_
    refine b_if_eq (tgt := 66) hx hb hf dX11_stand_31 (by decide) (fun hf => ?_) (fun hf => ?_)
    · refine lv_iload hx hb dX11_stand_66 (lv_at hl 5 rfl) ?_
      cases hf
      exact q_retz C hH z_v6 z_v6 dX11_stand_68
    · refine lv_aload_n hx hb dX11_stand_34 rfl (lv_at hl 1 rfl) ?_
      refine lv_iload_n hx hb dX11_stand_35 rfl (lv_at hl 2 rfl) ?_
      refine lv_iload hx hb dX11_stand_36 (lv_at hl 6 rfl) ?_
      refine lv_iadd hx hb dX11_stand_38 ?_
      refine g_iald C hH k_v1 hf dX11_stand_39 (fun x1 hf => ?_)
      refine lv_aload_n hx hb dX11_stand_40 rfl (lv_at hl 0 rfl) ?_
      refine fg_X11_7 C hH dX11_stand_41 ?_
      refine lv_iload hx hb dX11_stand_44 (lv_at hl 3 rfl) ?_
      refine lv_iload hx hb dX11_stand_46 (lv_at hl 6 rfl) ?_
      refine lv_iadd hx hb dX11_stand_48 ?_
      refine g_iald C hH kc_714 hf dX11_stand_49 (fun x2 hf => ?_)
      refine b_icmp_ne (tgt := 57) hx hb hf dX11_stand_50 (by decide) (fun hf => ?_) (fun hf => ?_)
      · refine lv_iconst (v := (0 : Int32)) hx hb dX11_stand_57 (by decide) ?_
        refine lv_istore (lv' := [(6, .int (0 : Int32)), (0, .ref (B + 713)), (1, .ref (B + v1)), (3, .int v3), (4, .int v4), (5, .int v5), (7, .int v7)]) hx hb dX11_stand_58 hl (by decide) rfl (fun ls hl => ?_)
        refine b_let hf (fun x3 he hf => ?_)
        refine lv_iinc (v := x3) (lv' := [(7, .int x3), (6, .int (0 : Int32)), (0, .ref (B + 713)), (1, .ref (B + v1)), (3, .int v3), (4, .int v4), (5, .int v5)]) hx hb dX11_stand_60 hl (k := 6) rfl (by rw [← he]; rfl) (by decide) rfl (fun ls hl => ?_)
        refine lv_goto (tgt := 22) hx hb dX11_stand_63 (by decide) ?_
        exact hr_22 v1 v3 v4 v5 (0 : Int32) x3 w hf k_v1 isZ_0 _ _ _ hH (lv_sub hl [2, 3, 4, 5, 6, 1, 0] rfl)
      · refine lv_iconst (v := (1 : Int32)) hx hb dX11_stand_53 (by decide) ?_
        refine lv_goto (tgt := 58) hx hb dX11_stand_54 (by decide) ?_
        refine lv_istore (lv' := [(6, .int (1 : Int32)), (0, .ref (B + 713)), (1, .ref (B + v1)), (3, .int v3), (4, .int v4), (5, .int v5), (7, .int v7)]) hx hb dX11_stand_58 hl (by decide) rfl (fun ls hl => ?_)
        refine b_let hf (fun x4 he hf => ?_)
        refine lv_iinc (v := x4) (lv' := [(7, .int x4), (6, .int (1 : Int32)), (0, .ref (B + 713)), (1, .ref (B + v1)), (3, .int v3), (4, .int v4), (5, .int v5)]) hx hb dX11_stand_60 hl (k := 6) rfl (by rw [← he]; rfl) (by decide) rfl (fun ls hl => ?_)
        refine lv_goto (tgt := 22) hx hb dX11_stand_63 (by decide) ?_
        exact hr_22 v1 v3 v4 v5 (1 : Int32) x4 w hf k_v1 isZ_1 _ _ _ hH (lv_sub hl [2, 3, 4, 5, 6, 1, 0] rfl)
set_option maxRecDepth 100000 in
set_option maxHeartbeats 4000000 in
theorem t_X11_stand_22 {D : va_G} {B : Nat} {Y : Nat → ClassId} {p : Program} {l : Launch} {e : Env} {s : State} {m : MethodId} {args : Array Value} {below : List Frame} {meth : Method} {c : Code} {z : (Int32 × Wd)} {H : Heap} {locs : List Loc} {ls : Array Slot} {w : Wd} {v1 : Nat} {v3 : Int32} {v4 : Int32} {v5 : Int32} {v6 : Int32} {v7 : Int32} (C : CX D B Y p s m args meth c cX11_stand 8 RX11 (some .boolean))   (k_v1 : KD v1 = 20) (z_v6 : isZ v6) (hH : HS D B Y w s H locs) (hl : lv_has ls 8 [(0, .ref (B + 713)), (1, .ref (B + v1)), (3, .int v3), (4, .int v4), (5, .int v5), (6, .int v6), (7, .int v7)]) (hf : f_X11_stand_22 v1 v3 v4 v5 v6 v7 w = some z) : W p l e (RM 0 0 0) s m args below meth c H locs 0 0 (MQ below (QG D B Y (some (.int z.1)) z.2 (isZ z.1)) args s 0 0 (AB B)) (F0 m 22 ls []) := by
  exact loopN_ind (z := z) (body := fun rc σ => g_X11_stand_22 rc  σ.1 σ.2.1 σ.2.2.1 σ.2.2.2.1 σ.2.2.2.2.1 σ.2.2.2.2.2.1 σ.2.2.2.2.2.2)
    (P := fun σ => KD σ.1 = 20 → isZ σ.2.2.2.2.1 → ∀ (H : Heap) (locs : List Loc) (ls : Array Slot), HS D B Y σ.2.2.2.2.2.2 s H locs → lv_has ls 8 [(0, .ref (B + 713)), (1, .ref (B + σ.1)), (3, .int σ.2.1), (4, .int σ.2.2.1), (5, .int σ.2.2.2.1), (6, .int σ.2.2.2.2.1), (7, .int σ.2.2.2.2.2.1)] → W p l e (RM 0 0 0) s m args below meth c H locs 0 0 (MQ below (QG D B Y (some (.int z.1)) z.2 (isZ z.1)) args s 0 0 (AB B)) (F0 m 22 ls []))
    (fun rc hrec σ hf k_v1 z_v6 H locs ls hH hl => tb_X11_stand_22 C (fun v1 v3 v4 v5 v6 v7 w hr k_v1 z_v6 H locs ls hH hl => hrec (v1, v3, v4, v5, v6, v7, w) hr k_v1 z_v6 H locs ls hH hl)  k_v1 z_v6 hH hl hf) FU (v1, v3, v4, v5, v6, v7, w) hf k_v1 z_v6 H locs ls hH hl
set_option maxRecDepth 100000 in
set_option maxHeartbeats 4000000 in
theorem t_X11_stand_17 {D : va_G} {B : Nat} {Y : Nat → ClassId} {p : Program} {l : Launch} {e : Env} {s : State} {m : MethodId} {args : Array Value} {below : List Frame} {meth : Method} {c : Code} {z : (Int32 × Wd)} {H : Heap} {locs : List Loc} {ls : Array Slot} {w : Wd} {v1 : Nat} {v3 : Int32} {v4 : Int32} {v5 : Int32} {t0 : Int32} (C : CX D B Y p s m args meth c cX11_stand 8 RX11 (some .boolean))   (k_v1 : KD v1 = 20) (z_t0 : isZ t0) (hH : HS D B Y w s H locs) (hl : lv_has ls 8 [(0, .ref (B + 713)), (1, .ref (B + v1)), (3, .int v3), (4, .int v4), (5, .int v5)]) (hf : f_X11_stand_17 v1 v3 v4 v5 t0 w = some z) : W p l e (RM 0 0 0) s m args below meth c H locs 0 0 (MQ below (QG D B Y (some (.int z.1)) z.2 (isZ z.1)) args s 0 0 (AB B)) (F0 m 17 ls [.int t0]) := by
  have hx := C.1
  have hb := C.2.1
  unfold f_X11_stand_17 at hf
  refine lv_istore (lv' := [(6, .int t0), (0, .ref (B + 713)), (1, .ref (B + v1)), (3, .int v3), (4, .int v4), (5, .int v5)]) hx hb dX11_stand_17 hl (by decide) rfl (fun ls hl => ?_)
  refine lv_iconst (v := (0 : Int32)) hx hb dX11_stand_19 (by decide) ?_
  refine lv_istore (lv' := [(7, .int (0 : Int32)), (6, .int t0), (0, .ref (B + 713)), (1, .ref (B + v1)), (3, .int v3), (4, .int v4), (5, .int v5)]) hx hb dX11_stand_20 hl (by decide) rfl (fun ls hl => ?_)
  exact t_X11_stand_22 C k_v1 z_t0 hH (lv_sub hl [2, 3, 4, 5, 6, 1, 0] rfl) hf
set_option maxRecDepth 100000 in
set_option maxHeartbeats 4000000 in
theorem t_X11_stand_16 {D : va_G} {B : Nat} {Y : Nat → ClassId} {p : Program} {l : Launch} {e : Env} {s : State} {m : MethodId} {args : Array Value} {below : List Frame} {meth : Method} {c : Code} {z : (Int32 × Wd)} {H : Heap} {locs : List Loc} {ls : Array Slot} {w : Wd} {v1 : Nat} {v3 : Int32} {v4 : Int32} {v5 : Int32} (C : CX D B Y p s m args meth c cX11_stand 8 RX11 (some .boolean))   (k_v1 : KD v1 = 20)  (hH : HS D B Y w s H locs) (hl : lv_has ls 8 [(0, .ref (B + 713)), (1, .ref (B + v1)), (3, .int v3), (4, .int v4), (5, .int v5)]) (hf : f_X11_stand_16 v1 v3 v4 v5 w = some z) : W p l e (RM 0 0 0) s m args below meth c H locs 0 0 (MQ below (QG D B Y (some (.int z.1)) z.2 (isZ z.1)) args s 0 0 (AB B)) (F0 m 16 ls []) := by
  have hx := C.1
  have hb := C.2.1
  unfold f_X11_stand_16 at hf
  refine lv_iconst (v := (0 : Int32)) hx hb dX11_stand_16 (by decide) ?_
  exact t_X11_stand_17 C k_v1 isZ_0 hH (lv_sub hl [0, 1, 2, 3, 4] rfl) hf
set_option maxRecDepth 100000 in
set_option maxHeartbeats 4000000 in
theorem t_X11_stand_0 {D : va_G} {B : Nat} {Y : Nat → ClassId} {p : Program} {l : Launch} {e : Env} {s : State} {m : MethodId} {args : Array Value} {below : List Frame} {meth : Method} {c : Code} {z : (Int32 × Wd)} {H : Heap} {locs : List Loc} {ls : Array Slot} {w : Wd} {v1 : Nat} {v2 : Int32} {v3 : Int32} {v4 : Int32} {v5 : Int32} (C : CX D B Y p s m args meth c cX11_stand 8 RX11 (some .boolean))   (k_v1 : KD v1 = 20)  (hH : HS D B Y w s H locs) (hl : lv_has ls 8 [(0, .ref (B + 713)), (1, .ref (B + v1)), (2, .int v2), (3, .int v3), (4, .int v4), (5, .int v5)]) (hf : f_X11_stand v1 v2 v3 v4 v5 w = some z) : W p l e (RM 0 0 0) s m args below meth c H locs 0 0 (MQ below (QG D B Y (some (.int z.1)) z.2 (isZ z.1)) args s 0 0 (AB B)) (F0 m 0 ls []) := by
  have hx := C.1
  have hb := C.2.1
  unfold f_X11_stand at hf
  refine lv_iload_n hx hb dX11_stand_0 rfl (lv_at hl 3 rfl) ?_
  refine b_if_lt (tgt := 16) hx hb hf dX11_stand_1 (by decide) (fun hf => ?_) (fun hf => ?_)
  · exact t_X11_stand_16 C k_v1 hH (lv_sub hl [0, 1, 3, 4, 5] rfl) hf
  · refine lv_iload_n hx hb dX11_stand_4 rfl (lv_at hl 3 rfl) ?_
    refine lv_iload hx hb dX11_stand_5 (lv_at hl 5 rfl) ?_
    refine lv_iadd hx hb dX11_stand_7 ?_
    refine lv_iload_n hx hb dX11_stand_8 rfl (lv_at hl 2 rfl) ?_
    refine b_icmp_gt (tgt := 16) hx hb hf dX11_stand_9 (by decide) (fun hf => ?_) (fun hf => ?_)
    · exact t_X11_stand_16 C k_v1 hH (lv_sub hl [0, 1, 3, 4, 5] rfl) hf
    · refine lv_iconst (v := (1 : Int32)) hx hb dX11_stand_12 (by decide) ?_
      refine lv_goto (tgt := 17) hx hb dX11_stand_13 (by decide) ?_
      exact t_X11_stand_17 C k_v1 isZ_1 hH (lv_sub hl [0, 1, 3, 4, 5] rfl) hf
set_option maxRecDepth 100000 in
theorem c_X11_stand {l : Launch} {D : va_G} {B : Nat} {Y : Nat → ClassId} {v1 : Nat} {v2 : Int32} {v3 : Int32} {v4 : Int32} {v5 : Int32} {w : Wd} {r : Int32} {w1 : Wd} (k_v1 : KD v1 = 20)  (hf : f_X11_stand v1 v2 v3 v4 v5 w = some (r, w1)) : CM l D B Y yX11_stand cX11_stand 8 (some .boolean) 0 [.ref (B + 713), .ref (B + v1), .int v2, .int v3, .int v4, .int v5] w (some (.int r)) w1 (isZ r) :=
  CM_of (by decide +kernel) (Nat.le_of_ble_eq_true rfl) (fun p e s m args below meth c ls C hH hl => t_X11_stand_0 C k_v1 hH (lv_sub hl [0, 1, 2, 3, 4, 5] rfl) hf)
/-! LetterTablesModel.ruleFor -/
set_option maxRecDepth 100000 in
set_option maxHeartbeats 4000000 in
theorem t_X11_ruleFor_197 {D : va_G} {B : Nat} {Y : Nat → ClassId} {p : Program} {l : Launch} {e : Env} {s : State} {m : MethodId} {args : Array Value} {below : List Frame} {meth : Method} {c : Code} {z : (Int32 × Wd)} {H : Heap} {locs : List Loc} {ls : Array Slot} {w : Wd} {v1 : Int32} {v2 : Int32} {v3 : Int32} {v4 : Int32} {v5 : Int32} {t0 : Int32} (C : CX D B Y p s m args meth c cX11_ruleFor 8 RX11 (some .int))  {rc_3 : Int32 × Int32 × Int32 × Int32 × Wd → Option (Int32 × Wd)} (hr_3 : ∀ (v1 : Int32) (v2 : Int32) (v3 : Int32) (v4 : Int32) (w : Wd), rc_3 (v1, v2, v3, v4, w) = some z → isZ v3 → ∀ (H : Heap) (locs : List Loc) (ls : Array Slot), HS D B Y w s H locs → lv_has ls 8 [(0, .ref (B + 713)), (1, .int v1), (2, .int v2), (3, .int v3), (4, .int v4)] → W p l e (RM 1 0 0) s m args below meth c H locs 0 0 (MQ below (QG D B Y (some (.int z.1)) z.2 True) args s 0 0 (AB B)) (F0 m 3 ls []))   (z_v3 : isZ v3) (z_t0 : isZ t0) (hH : HS D B Y w s H locs) (hl : lv_has ls 8 [(0, .ref (B + 713)), (1, .int v1), (2, .int v2), (3, .int v3), (4, .int v4), (5, .int v5)]) (hf : f_X11_ruleFor_197 rc_3 v1 v2 v3 v4 v5 t0 w = some z) : W p l e (RM 1 0 0) s m args below meth c H locs 0 0 (MQ below (QG D B Y (some (.int z.1)) z.2 True) args s 0 0 (AB B)) (F0 m 197 ls [.int t0]) := by
  have hx := C.1
  have hb := C.2.1
  unfold f_X11_ruleFor_197 at hf
  refine lv_istore (lv' := [(7, .int t0), (0, .ref (B + 713)), (1, .int v1), (2, .int v2), (3, .int v3), (4, .int v4), (5, .int v5)]) hx hb dX11_ruleFor_197 hl (by decide) rfl (fun ls hl => ?_)
  refine lv_iload hx hb dX11_ruleFor_199 (lv_at hl 0 rfl) ?_
  refine b_if_eq (tgt := 207) hx hb hf dX11_ruleFor_201 (by decide) (fun hf => ?_) (fun hf => ?_)
  · refine b_let hf (fun x1 he hf => ?_)
    refine lv_iinc (v := x1) (lv' := [(4, .int x1), (7, .int t0), (0, .ref (B + 713)), (1, .int v1), (2, .int v2), (3, .int v3), (5, .int v5)]) hx hb dX11_ruleFor_207 hl (k := 5) rfl (by rw [← he]; rfl) (by decide) rfl (fun ls hl => ?_)
    refine lv_goto (tgt := 3) hx hb dX11_ruleFor_210 (by decide) ?_
    exact hr_3 v1 v2 v3 x1 w hf z_v3 _ _ _ hH (lv_sub hl [2, 3, 4, 5, 0] rfl)
  · refine lv_iload hx hb dX11_ruleFor_204 (lv_at hl 6 rfl) ?_
    cases hf
    exact q_reti C hH trivial dX11_ruleFor_206
set_option maxRecDepth 100000 in
set_option maxHeartbeats 4000000 in
theorem t_X11_ruleFor_196 {D : va_G} {B : Nat} {Y : Nat → ClassId} {p : Program} {l : Launch} {e : Env} {s : State} {m : MethodId} {args : Array Value} {below : List Frame} {meth : Method} {c : Code} {z : (Int32 × Wd)} {H : Heap} {locs : List Loc} {ls : Array Slot} {w : Wd} {v1 : Int32} {v2 : Int32} {v3 : Int32} {v4 : Int32} {v5 : Int32} (C : CX D B Y p s m args meth c cX11_ruleFor 8 RX11 (some .int))  {rc_3 : Int32 × Int32 × Int32 × Int32 × Wd → Option (Int32 × Wd)} (hr_3 : ∀ (v1 : Int32) (v2 : Int32) (v3 : Int32) (v4 : Int32) (w : Wd), rc_3 (v1, v2, v3, v4, w) = some z → isZ v3 → ∀ (H : Heap) (locs : List Loc) (ls : Array Slot), HS D B Y w s H locs → lv_has ls 8 [(0, .ref (B + 713)), (1, .int v1), (2, .int v2), (3, .int v3), (4, .int v4)] → W p l e (RM 1 0 0) s m args below meth c H locs 0 0 (MQ below (QG D B Y (some (.int z.1)) z.2 True) args s 0 0 (AB B)) (F0 m 3 ls []))   (z_v3 : isZ v3) (hH : HS D B Y w s H locs) (hl : lv_has ls 8 [(0, .ref (B + 713)), (1, .int v1), (2, .int v2), (3, .int v3), (4, .int v4), (5, .int v5)]) (hf : f_X11_ruleFor_196 rc_3 v1 v2 v3 v4 v5 w = some z) : W p l e (RM 1 0 0) s m args below meth c H locs 0 0 (MQ below (QG D B Y (some (.int z.1)) z.2 True) args s 0 0 (AB B)) (F0 m 196 ls []) := by
  have hx := C.1
  have hb := C.2.1
  unfold f_X11_ruleFor_196 at hf
  refine lv_iconst (v := (0 : Int32)) hx hb dX11_ruleFor_196 (by decide) ?_
  exact t_X11_ruleFor_197 C hr_3 z_v3 isZ_0 hH (lv_sub hl [0, 1, 2, 3, 4, 5] rfl) hf
set_option maxRecDepth 100000 in
set_option maxHeartbeats 4000000 in
theorem t_X11_ruleFor_110 {D : va_G} {B : Nat} {Y : Nat → ClassId} {p : Program} {l : Launch} {e : Env} {s : State} {m : MethodId} {args : Array Value} {below : List Frame} {meth : Method} {c : Code} {z : (Int32 × Wd)} {H : Heap} {locs : List Loc} {ls : Array Slot} {w : Wd} {v1 : Int32} {v2 : Int32} {v3 : Int32} {v4 : Int32} {v5 : Int32} {v6 : Int32} {t0 : Int32} (C : CX D B Y p s m args meth c cX11_ruleFor 8 RX11 (some .int))  {rc_3 : Int32 × Int32 × Int32 × Int32 × Wd → Option (Int32 × Wd)} (hr_3 : ∀ (v1 : Int32) (v2 : Int32) (v3 : Int32) (v4 : Int32) (w : Wd), rc_3 (v1, v2, v3, v4, w) = some z → isZ v3 → ∀ (H : Heap) (locs : List Loc) (ls : Array Slot), HS D B Y w s H locs → lv_has ls 8 [(0, .ref (B + 713)), (1, .int v1), (2, .int v2), (3, .int v3), (4, .int v4)] → W p l e (RM 1 0 0) s m args below meth c H locs 0 0 (MQ below (QG D B Y (some (.int z.1)) z.2 True) args s 0 0 (AB B)) (F0 m 3 ls []))   (z_v3 : isZ v3) (z_t0 : isZ t0) (hH : HS D B Y w s H locs) (hl : lv_has ls 8 [(0, .ref (B + 713)), (1, .int v1), (2, .int v2), (3, .int v3), (4, .int v4), (5, .int v5), (6, .int v6)]) (hf : f_X11_ruleFor_110 rc_3 v1 v2 v3 v4 v5 v6 t0 w = some z) : W p l e (RM 1 0 0) s m args below meth c H locs 0 0 (MQ below (QG D B Y (some (.int z.1)) z.2 True) args s 0 0 (AB B)) (F0 m 110 ls [.int t0]) := by
  have hx := C.1
  have hb := C.2.1
  unfold f_X11_ruleFor_110 at hf
  refine lv_istore (lv' := [(7, .int t0), (0, .ref (B + 713)), (1, .int v1), (2, .int v2), (3, .int v3), (4, .int v4), (5, .int v5), (6, .int v6)]) hx hb dX11_ruleFor_110 hl (by decide) rfl (fun ls hl => ?_)
  refine lv_iload hx hb dX11_ruleFor_112 (lv_at hl 0 rfl) ?_
  refine b_if_eq (tgt := 196) hx hb hf dX11_ruleFor_114 (by decide) (fun hf => ?_) (fun hf => ?_)
  · exact t_X11_ruleFor_196 C hr_3 z_v3 hH (lv_sub hl [1, 2, 3, 4, 5, 6] rfl) hf
  · refine lv_aload_n hx hb dX11_ruleFor_117 rfl (lv_at hl 1 rfl) ?_
    refine lv_aload_n hx hb dX11_ruleFor_118 rfl (lv_at hl 1 rfl) ?_
    refine fg_X11_92 C hH dX11_ruleFor_119 ?_
    refine lv_aload_n hx hb dX11_ruleFor_122 rfl (lv_at hl 1 rfl) ?_
    refine fg_X11_321 C hH dX11_ruleFor_123 ?_
    refine lv_aload_n hx hb dX11_ruleFor_126 rfl (lv_at hl 1 rfl) ?_
    refine fg_X11_321 C hH dX11_ruleFor_127 ?_
    refine lv_aload_n hx hb dX11_ruleFor_130 rfl (lv_at hl 1 rfl) ?_
    refine fg_X11_7 C hH dX11_ruleFor_131 ?_
    refine lv_iload hx hb dX11_ruleFor_134 (lv_at hl 6 rfl) ?_
    refine lv_iconst (v := (1 : Int32)) hx hb dX11_ruleFor_136 (by decide) ?_
    refine lv_iadd hx hb dX11_ruleFor_137 ?_
    refine g_iald C hH kc_714 hf dX11_ruleFor_138 (fun x1 hf => ?_)
    refine lv_isub hx hb dX11_ruleFor_139 ?_
    refine lv_iload hx hb dX11_ruleFor_140 (lv_at hl 6 rfl) ?_
    refine lv_iconst (v := (5 : Int32)) hx hb dX11_ruleFor_142 (by decide) ?_
    refine lv_iadd hx hb dX11_ruleFor_143 ?_
    refine lv_aload_n hx hb dX11_ruleFor_144 rfl (lv_at hl 1 rfl) ?_
    refine fg_X11_7 C hH dX11_ruleFor_145 ?_
    refine lv_iload hx hb dX11_ruleFor_148 (lv_at hl 6 rfl) ?_
    refine lv_iconst (v := (1 : Int32)) hx hb dX11_ruleFor_150 (by decide) ?_
    refine lv_iadd hx hb dX11_ruleFor_151 ?_
    refine g_iald C hH kc_714 hf dX11_ruleFor_152 (fun x2 hf => ?_)
    obtain ⟨x4, w3, hc, hf⟩ := bd_some hf
    refine q_callV1 (v := .int x4) (As := [.ref (B + 741), .int (w.1 713 39), .int ((w.1 713 39) - x1), .int (v5 + (5 : Int32)), .int x2]) C hH (ci := 11) rfl (by omega) gk_X11_317 yd_X11_stand (by omega) (by omega) kc_713 (c_X11_stand kc_741 hc) hl.1 rfl (Nat.le_of_ble_eq_true rfl) dX11_ruleFor_153 ⟨by decide, by decide⟩ (fun H locs hH z_x4 => ?_)
    refine b_if_eq (tgt := 196) hx hb hf dX11_ruleFor_156 (by decide) (fun hf => ?_) (fun hf => ?_)
    · exact t_X11_ruleFor_196 C hr_3 z_v3 hH (lv_sub hl [1, 2, 3, 4, 5, 6] rfl) hf
    · refine lv_aload_n hx hb dX11_ruleFor_159 rfl (lv_at hl 1 rfl) ?_
      refine lv_aload_n hx hb dX11_ruleFor_160 rfl (lv_at hl 1 rfl) ?_
      refine fg_X11_28 C hH dX11_ruleFor_161 ?_
      refine lv_aload_n hx hb dX11_ruleFor_164 rfl (lv_at hl 1 rfl) ?_
      refine fg_X11_158 C hH dX11_ruleFor_165 ?_
      refine lv_iload_n hx hb dX11_ruleFor_168 rfl (lv_at hl 3 rfl) ?_
      refine lv_iload hx hb dX11_ruleFor_169 (lv_at hl 7 rfl) ?_
      refine lv_iadd hx hb dX11_ruleFor_171 ?_
      refine lv_iload hx hb dX11_ruleFor_172 (lv_at hl 6 rfl) ?_
      refine lv_bipush (v := (10 : Int32)) hx hb dX11_ruleFor_174 (by decide) ?_
      refine lv_iadd hx hb dX11_ruleFor_176 ?_
      refine lv_aload_n hx hb dX11_ruleFor_177 rfl (lv_at hl 1 rfl) ?_
      refine fg_X11_7 C hH dX11_ruleFor_178 ?_
      refine lv_iload hx hb dX11_ruleFor_181 (lv_at hl 6 rfl) ?_
      refine lv_iconst (v := (3 : Int32)) hx hb dX11_ruleFor_183 (by decide) ?_
      refine lv_iadd hx hb dX11_ruleFor_184 ?_
      refine g_iald C hH kc_714 hf dX11_ruleFor_185 (fun x5 hf => ?_)
      obtain ⟨x7, w6, hc, hf⟩ := bd_some hf
      refine q_callV1 (v := .int x7) (As := [.ref (B + 720), .int (w3.1 713 11), .int (v2 + v6), .int (v5 + (10 : Int32)), .int x5]) C hH (ci := 11) rfl (by omega) gk_X11_317 yd_X11_stand (by omega) (by omega) kc_713 (c_X11_stand kc_720 hc) hl.1 rfl (Nat.le_of_ble_eq_true rfl) dX11_ruleFor_186 ⟨by decide, by decide⟩ (fun H locs hH z_x7 => ?_)
      refine b_if_eq (tgt := 196) hx hb hf dX11_ruleFor_189 (by decide) (fun hf => ?_) (fun hf => ?_)
      · exact t_X11_ruleFor_196 C hr_3 z_v3 hH (lv_sub hl [1, 2, 3, 4, 5, 6] rfl) hf
      · refine lv_iconst (v := (1 : Int32)) hx hb dX11_ruleFor_192 (by decide) ?_
        refine lv_goto (tgt := 197) hx hb dX11_ruleFor_193 (by decide) ?_
        exact t_X11_ruleFor_197 C hr_3 z_v3 isZ_1 hH (lv_sub hl [1, 2, 3, 4, 5, 6] rfl) hf
set_option maxRecDepth 100000 in
set_option maxHeartbeats 4000000 in
theorem t_X11_ruleFor_109 {D : va_G} {B : Nat} {Y : Nat → ClassId} {p : Program} {l : Launch} {e : Env} {s : State} {m : MethodId} {args : Array Value} {below : List Frame} {meth : Method} {c : Code} {z : (Int32 × Wd)} {H : Heap} {locs : List Loc} {ls : Array Slot} {w : Wd} {v1 : Int32} {v2 : Int32} {v3 : Int32} {v4 : Int32} {v5 : Int32} {v6 : Int32} (C : CX D B Y p s m args meth c cX11_ruleFor 8 RX11 (some .int))  {rc_3 : Int32 × Int32 × Int32 × Int32 × Wd → Option (Int32 × Wd)} (hr_3 : ∀ (v1 : Int32) (v2 : Int32) (v3 : Int32) (v4 : Int32) (w : Wd), rc_3 (v1, v2, v3, v4, w) = some z → isZ v3 → ∀ (H : Heap) (locs : List Loc) (ls : Array Slot), HS D B Y w s H locs → lv_has ls 8 [(0, .ref (B + 713)), (1, .int v1), (2, .int v2), (3, .int v3), (4, .int v4)] → W p l e (RM 1 0 0) s m args below meth c H locs 0 0 (MQ below (QG D B Y (some (.int z.1)) z.2 True) args s 0 0 (AB B)) (F0 m 3 ls []))   (z_v3 : isZ v3) (hH : HS D B Y w s H locs) (hl : lv_has ls 8 [(0, .ref (B + 713)), (1, .int v1), (2, .int v2), (3, .int v3), (4, .int v4), (5, .int v5), (6, .int v6)]) (hf : f_X11_ruleFor_109 rc_3 v1 v2 v3 v4 v5 v6 w = some z) : W p l e (RM 1 0 0) s m args below meth c H locs 0 0 (MQ below (QG D B Y (some (.int z.1)) z.2 True) args s 0 0 (AB B)) (F0 m 109 ls []) := by
  have hx := C.1
  have hb := C.2.1
  unfold f_X11_ruleFor_109 at hf
  refine lv_iconst (v := (0 : Int32)) hx hb dX11_ruleFor_109 (by decide) ?_
  exact t_X11_ruleFor_110 C hr_3 z_v3 isZ_0 hH (lv_sub hl [0, 1, 2, 3, 4, 5, 6] rfl) hf
set_option maxRecDepth 100000 in
set_option maxHeartbeats 4000000 in
theorem t_X11_ruleFor_97 {D : va_G} {B : Nat} {Y : Nat → ClassId} {p : Program} {l : Launch} {e : Env} {s : State} {m : MethodId} {args : Array Value} {below : List Frame} {meth : Method} {c : Code} {z : (Int32 × Wd)} {H : Heap} {locs : List Loc} {ls : Array Slot} {w : Wd} {v1 : Int32} {v2 : Int32} {v3 : Int32} {v4 : Int32} {v5 : Int32} {v6 : Int32} {t1 : Nat} {t2 : Int32} {t3 : Int32} {t4 : Int32} (C : CX D B Y p s m args meth c cX11_ruleFor 8 RX11 (some .int))  {rc_3 : Int32 × Int32 × Int32 × Int32 × Wd → Option (Int32 × Wd)} (hr_3 : ∀ (v1 : Int32) (v2 : Int32) (v3 : Int32) (v4 : Int32) (w : Wd), rc_3 (v1, v2, v3, v4, w) = some z → isZ v3 → ∀ (H : Heap) (locs : List Loc) (ls : Array Slot), HS D B Y w s H locs → lv_has ls 8 [(0, .ref (B + 713)), (1, .int v1), (2, .int v2), (3, .int v3), (4, .int v4)] → W p l e (RM 1 0 0) s m args below meth c H locs 0 0 (MQ below (QG D B Y (some (.int z.1)) z.2 True) args s 0 0 (AB B)) (F0 m 3 ls []))  (k_t1 : KD t1 = 20) (z_v3 : isZ v3) (hH : HS D B Y w s H locs) (hl : lv_has ls 8 [(0, .ref (B + 713)), (1, .int v1), (2, .int v2), (3, .int v3), (4, .int v4), (5, .int v5), (6, .int v6)]) (hf : f_X11_ruleFor_97 rc_3 v1 v2 v3 v4 v5 v6 t1 t2 t3 t4 w = some z) : W p l e (RM 1 0 0) s m args below meth c H locs 0 0 (MQ below (QG D B Y (some (.int z.1)) z.2 True) args s 0 0 (AB B)) (F0 m 97 ls [.int t4, .int t3, .int t2, .ref (B + t1), .ref (B + 713)]) := by
  have hx := C.1
  have hb := C.2.1
  unfold f_X11_ruleFor_97 at hf
  refine lv_iload hx hb dX11_ruleFor_97 (lv_at hl 6 rfl) ?_
  obtain ⟨x2, w1, hc, hf⟩ := bd_some hf
  refine q_callV1 (v := .int x2) (As := [.ref (B + t1), .int t2, .int t3, .int t4, .int v6]) C hH (ci := 11) rfl (by omega) gk_X11_317 yd_X11_stand (by omega) (by omega) kc_713 (c_X11_stand k_t1 hc) hl.1 rfl (Nat.le_of_ble_eq_true rfl) dX11_ruleFor_99 ⟨by decide, by decide⟩ (fun H locs hH z_x2 => ?_)
  refine b_if_eq (tgt := 109) hx hb hf dX11_ruleFor_102 (by decide) (fun hf => ?_) (fun hf => ?_)
  · exact t_X11_ruleFor_109 C hr_3 z_v3 hH (lv_sub hl [0, 1, 2, 3, 4, 5, 6] rfl) hf
  · refine lv_iconst (v := (1 : Int32)) hx hb dX11_ruleFor_105 (by decide) ?_
    refine lv_goto (tgt := 110) hx hb dX11_ruleFor_106 (by decide) ?_
    exact t_X11_ruleFor_110 C hr_3 z_v3 isZ_1 hH (lv_sub hl [0, 1, 2, 3, 4, 5, 6] rfl) hf
set_option maxRecDepth 100000 in
set_option maxHeartbeats 4000000 in
theorem t_X11_ruleFor_52 {D : va_G} {B : Nat} {Y : Nat → ClassId} {p : Program} {l : Launch} {e : Env} {s : State} {m : MethodId} {args : Array Value} {below : List Frame} {meth : Method} {c : Code} {z : (Int32 × Wd)} {H : Heap} {locs : List Loc} {ls : Array Slot} {w : Wd} {v1 : Int32} {v2 : Int32} {v3 : Int32} {v4 : Int32} {v5 : Int32} {t0 : Int32} (C : CX D B Y p s m args meth c cX11_ruleFor 8 RX11 (some .int))  {rc_3 : Int32 × Int32 × Int32 × Int32 × Wd → Option (Int32 × Wd)} (hr_3 : ∀ (v1 : Int32) (v2 : Int32) (v3 : Int32) (v4 : Int32) (w : Wd), rc_3 (v1, v2, v3, v4, w) = some z → isZ v3 → ∀ (H : Heap) (locs : List Loc) (ls : Array Slot), HS D B Y w s H locs → lv_has ls 8 [(0, .ref (B + 713)), (1, .int v1), (2, .int v2), (3, .int v3), (4, .int v4)] → W p l e (RM 1 0 0) s m args below meth c H locs 0 0 (MQ below (QG D B Y (some (.int z.1)) z.2 True) args s 0 0 (AB B)) (F0 m 3 ls []))   (z_v3 : isZ v3) (hH : HS D B Y w s H locs) (hl : lv_has ls 8 [(0, .ref (B + 713)), (1, .int v1), (2, .int v2), (3, .int v3), (4, .int v4), (5, .int v5)]) (hf : f_X11_ruleFor_52 rc_3 v1 v2 v3 v4 v5 t0 w = some z) : W p l e (RM 1 0 0) s m args below meth c H locs 0 0 (MQ below (QG D B Y (some (.int z.1)) z.2 True) args s 0 0 (AB B)) (F0 m 52 ls [.int t0]) := by
  have hx := C.1
  have hb := C.2.1
  unfold f_X11_ruleFor_52 at hf
  refine lv_istore (lv' := [(6, .int t0), (0, .ref (B + 713)), (1, .int v1), (2, .int v2), (3, .int v3), (4, .int v4), (5, .int v5)]) hx hb dX11_ruleFor_52 hl (by decide) rfl (fun ls hl => ?_)
  refine lv_aload_n hx hb dX11_ruleFor_54 rfl (lv_at hl 1 rfl) ?_
  refine fg_X11_7 C hH dX11_ruleFor_55 ?_
  refine lv_iload hx hb dX11_ruleFor_58 (lv_at hl 6 rfl) ?_
  refine g_iald C hH kc_714 hf dX11_ruleFor_60 (fun x1 hf => ?_)
  refine lv_iload_n hx hb dX11_ruleFor_61 rfl (lv_at hl 2 rfl) ?_
  refine b_icmp_ne (tgt := 109) hx hb hf dX11_ruleFor_62 (by decide) (fun hf => ?_) (fun hf => ?_)
  · exact t_X11_ruleFor_109 C hr_3 z_v3 hH (lv_sub hl [1, 2, 3, 4, 5, 6, 0] rfl) hf
  · refine lv_iload hx hb dX11_ruleFor_65 (lv_at hl 0 rfl) ?_
    refine b_if_le (tgt := 109) hx hb hf dX11_ruleFor_67 (by decide) (fun hf => ?_) (fun hf => ?_)
    · exact t_X11_ruleFor_109 C hr_3 z_v3 hH (lv_sub hl [1, 2, 3, 4, 5, 6, 0] rfl) hf
    · refine lv_aload_n hx hb dX11_ruleFor_70 rfl (lv_at hl 1 rfl) ?_
      refine lv_aload_n hx hb dX11_ruleFor_71 rfl (lv_at hl 1 rfl) ?_
      refine fg_X11_28 C hH dX11_ruleFor_72 ?_
      refine lv_aload_n hx hb dX11_ruleFor_75 rfl (lv_at hl 1 rfl) ?_
      refine fg_X11_158 C hH dX11_ruleFor_76 ?_
      refine lv_iload_n hx hb dX11_ruleFor_79 rfl (lv_at hl 3 rfl) ?_
      refine lv_iload_n hx hb dX11_ruleFor_80 rfl (lv_at hl 4 rfl) ?_
      refine b_if_eq (tgt := 92) hx hb hf dX11_ruleFor_81 (by decide) (fun hf => ?_) (fun hf => ?_)
      · refine lv_iload hx hb dX11_ruleFor_92 (lv_at hl 6 rfl) ?_
        refine lv_bipush (v := (7 : Int32)) hx hb dX11_ruleFor_94 (by decide) ?_
        refine lv_iadd hx hb dX11_ruleFor_96 ?_
        exact t_X11_ruleFor_97 C hr_3 kc_720 z_v3 hH (lv_sub hl [1, 2, 3, 4, 5, 6, 0] rfl) hf
      · refine lv_iload hx hb dX11_ruleFor_84 (lv_at hl 6 rfl) ?_
        refine lv_bipush (v := (12 : Int32)) hx hb dX11_ruleFor_86 (by decide) ?_
        refine lv_iadd hx hb dX11_ruleFor_88 ?_
        refine lv_goto (tgt := 97) hx hb dX11_ruleFor_89 (by decide) ?_
        exact t_X11_ruleFor_97 C hr_3 kc_720 z_v3 hH (lv_sub hl [1, 2, 3, 4, 5, 6, 0] rfl) hf
set_option maxRecDepth 100000 in
set_option maxHeartbeats 4000000 in
theorem tb_X11_ruleFor_3 {D : va_G} {B : Nat} {Y : Nat → ClassId} {p : Program} {l : Launch} {e : Env} {s : State} {m : MethodId} {args : Array Value} {below : List Frame} {meth : Method} {c : Code} {z : (Int32 × Wd)} {H : Heap} {locs : List Loc} {ls : Array Slot} {w : Wd} {v1 : Int32} {v2 : Int32} {v3 : Int32} {v4 : Int32} (C : CX D B Y p s m args meth c cX11_ruleFor 8 RX11 (some .int))  {rc_3 : Int32 × Int32 × Int32 × Int32 × Wd → Option (Int32 × Wd)} (hr_3 : ∀ (v1 : Int32) (v2 : Int32) (v3 : Int32) (v4 : Int32) (w : Wd), rc_3 (v1, v2, v3, v4, w) = some z → isZ v3 → ∀ (H : Heap) (locs : List Loc) (ls : Array Slot), HS D B Y w s H locs → lv_has ls 8 [(0, .ref (B + 713)), (1, .int v1), (2, .int v2), (3, .int v3), (4, .int v4)] → W p l e (RM 1 0 0) s m args below meth c H locs 0 0 (MQ below (QG D B Y (some (.int z.1)) z.2 True) args s 0 0 (AB B)) (F0 m 3 ls []))   (z_v3 : isZ v3) (hH : HS D B Y w s H locs) (hl : lv_has ls 8 [(0, .ref (B + 713)), (1, .int v1), (2, .int v2), (3, .int v3), (4, .int v4)]) (hf : g_X11_ruleFor_3 rc_3 v1 v2 v3 v4 w = some z) : W p l e (RM 1 0 0) s m args below meth c H locs 0 0 (MQ below (QG D B Y (some (.int z.1)) z.2 True) args s 0 0 (AB B)) (F0 m 3 ls []) := by
  have hx := C.1
  have hb := C.2.1
  unfold g_X11_ruleFor_3 at hf
  refine lv_iload hx hb dX11_ruleFor_3 (lv_at hl 4 rfl) ?_
  refine lv_aload_n hx hb dX11_ruleFor_5 rfl (lv_at hl 0 rfl) ?_
  refine fg_X11_7 C hH dX11_ruleFor_6 ?_
  refine lv_sipush (v := (1557 : Int32)) hx hb dX11_ruleFor_9 (by decide) ?_
  refine g_iald C hH kc_714 hf dX11_ruleFor_12 (fun x1 hf => ?_)
  refine b_icmp_ge (tgt := 213) hx hb hf dX11_ruleFor_13 (by decide) (fun hf => ?_) (fun hf => ?_)
  · refine lv_iconst (v := (-1 : Int32)) hx hb dX11_ruleFor_213 (by decide) ?_
    cases hf
    exact q_reti C hH trivial dX11_ruleFor_214
  · refine lv_sipush (v := (1558 : Int32)) hx hb dX11_ruleFor_16 (by decide) ?_
    refine lv_bipush (v := (15 : Int32)) hx hb dX11_ruleFor_19 (by decide) ?_
    refine lv_iload hx hb dX11_ruleFor_21 (lv_at hl 4 rfl) ?_
    refine lv_imul hx hb dX11_ruleFor_23 ?_
    refine lv_iadd hx hb dX11_ruleFor_24 ?_
    refine b_leti hf (fun x2 hf => ?_)
    refine lv_istore (lv' := [(5, .int x2), (0, .ref (B + 713)), (1, .int v1), (2, .int v2), (3, .int v3), (4, .int v4)]) hx hb dX11_ruleFor_25 hl (by decide) rfl (fun ls hl => ?_)
    refine lv_iload_n hx hb dX11_ruleFor_27 rfl (lv_at hl 4 rfl) ?_
    refine b_if_eq (tgt := 43) hx hb hf dX11_ruleFor_28 (by decide) (fun hf => ?_) (fun hf => ?_)
    · refine lv_aload_n hx hb dX11_ruleFor_43 rfl (lv_at hl 1 rfl) ?_
      refine fg_X11_7 C hH dX11_ruleFor_44 ?_
      refine lv_iload hx hb dX11_ruleFor_47 (lv_at hl 0 rfl) ?_
      refine lv_iconst (v := (2 : Int32)) hx hb dX11_ruleFor_49 (by decide) ?_
      refine lv_iadd hx hb dX11_ruleFor_50 ?_
      refine g_iald C hH kc_714 hf dX11_ruleFor_51 (fun x3 hf => ?_)
      exact t_X11_ruleFor_52 C hr_3 z_v3 hH (lv_sub hl [1, 2, 3, 4, 5, 0] rfl) hf
    · refine lv_aload_n hx hb dX11_ruleFor_31 rfl (lv_at hl 1 rfl) ?_
      refine fg_X11_7 C hH dX11_ruleFor_32 ?_
      refine lv_iload hx hb dX11_ruleFor_35 (lv_at hl 0 rfl) ?_
      refine lv_iconst (v := (4 : Int32)) hx hb dX11_ruleFor_37 (by decide) ?_
      refine lv_iadd hx hb dX11_ruleFor_38 ?_
      refine g_iald C hH kc_714 hf dX11_ruleFor_39 (fun x4 hf => ?_)
      refine lv_goto (tgt := 52) hx hb dX11_ruleFor_40 (by decide) ?_
      exact t_X11_ruleFor_52 C hr_3 z_v3 hH (lv_sub hl [1, 2, 3, 4, 5, 0] rfl) hf
set_option maxRecDepth 100000 in
set_option maxHeartbeats 4000000 in
theorem t_X11_ruleFor_3 {D : va_G} {B : Nat} {Y : Nat → ClassId} {p : Program} {l : Launch} {e : Env} {s : State} {m : MethodId} {args : Array Value} {below : List Frame} {meth : Method} {c : Code} {z : (Int32 × Wd)} {H : Heap} {locs : List Loc} {ls : Array Slot} {w : Wd} {v1 : Int32} {v2 : Int32} {v3 : Int32} {v4 : Int32} (C : CX D B Y p s m args meth c cX11_ruleFor 8 RX11 (some .int))    (z_v3 : isZ v3) (hH : HS D B Y w s H locs) (hl : lv_has ls 8 [(0, .ref (B + 713)), (1, .int v1), (2, .int v2), (3, .int v3), (4, .int v4)]) (hf : f_X11_ruleFor_3 v1 v2 v3 v4 w = some z) : W p l e (RM 1 0 0) s m args below meth c H locs 0 0 (MQ below (QG D B Y (some (.int z.1)) z.2 True) args s 0 0 (AB B)) (F0 m 3 ls []) := by
  exact loopN_ind (z := z) (body := fun rc σ => g_X11_ruleFor_3 rc  σ.1 σ.2.1 σ.2.2.1 σ.2.2.2.1 σ.2.2.2.2)
    (P := fun σ => isZ σ.2.2.1 → ∀ (H : Heap) (locs : List Loc) (ls : Array Slot), HS D B Y σ.2.2.2.2 s H locs → lv_has ls 8 [(0, .ref (B + 713)), (1, .int σ.1), (2, .int σ.2.1), (3, .int σ.2.2.1), (4, .int σ.2.2.2.1)] → W p l e (RM 1 0 0) s m args below meth c H locs 0 0 (MQ below (QG D B Y (some (.int z.1)) z.2 True) args s 0 0 (AB B)) (F0 m 3 ls []))
    (fun rc hrec σ hf z_v3 H locs ls hH hl => tb_X11_ruleFor_3 C (fun v1 v2 v3 v4 w hr z_v3 H locs ls hH hl => hrec (v1, v2, v3, v4, w) hr z_v3 H locs ls hH hl)  z_v3 hH hl hf) FU (v1, v2, v3, v4, w) hf z_v3 H locs ls hH hl
set_option maxRecDepth 100000 in
set_option maxHeartbeats 4000000 in
theorem t_X11_ruleFor_0 {D : va_G} {B : Nat} {Y : Nat → ClassId} {p : Program} {l : Launch} {e : Env} {s : State} {m : MethodId} {args : Array Value} {below : List Frame} {meth : Method} {c : Code} {z : (Int32 × Wd)} {H : Heap} {locs : List Loc} {ls : Array Slot} {w : Wd} {v1 : Int32} {v2 : Int32} {v3 : Int32} (C : CX D B Y p s m args meth c cX11_ruleFor 8 RX11 (some .int))    (z_v3 : isZ v3) (hH : HS D B Y w s H locs) (hl : lv_has ls 8 [(0, .ref (B + 713)), (1, .int v1), (2, .int v2), (3, .int v3)]) (hf : f_X11_ruleFor v1 v2 v3 w = some z) : W p l e (RM 1 0 0) s m args below meth c H locs 0 0 (MQ below (QG D B Y (some (.int z.1)) z.2 True) args s 0 0 (AB B)) (F0 m 0 ls []) := by
  have hx := C.1
  have hb := C.2.1
  unfold f_X11_ruleFor at hf
  refine lv_iconst (v := (0 : Int32)) hx hb dX11_ruleFor_0 (by decide) ?_
  refine lv_istore (lv' := [(4, .int (0 : Int32)), (0, .ref (B + 713)), (1, .int v1), (2, .int v2), (3, .int v3)]) hx hb dX11_ruleFor_1 hl (by decide) rfl (fun ls hl => ?_)
  exact t_X11_ruleFor_3 C z_v3 hH (lv_sub hl [1, 2, 3, 4, 0] rfl) hf
set_option maxRecDepth 100000 in
theorem c_X11_ruleFor {l : Launch} {D : va_G} {B : Nat} {Y : Nat → ClassId} {v1 : Int32} {v2 : Int32} {v3 : Int32} {w : Wd} {r : Int32} {w1 : Wd}  (z_v3 : isZ v3) (hf : f_X11_ruleFor v1 v2 v3 w = some (r, w1)) : CM l D B Y yX11_ruleFor cX11_ruleFor 8 (some .int) 1 [.ref (B + 713), .int v1, .int v2, .int v3] w (some (.int r)) w1 True :=
  CM_of (by decide +kernel) (Nat.le_of_ble_eq_true rfl) (fun p e s m args below meth c ls C hH hl => t_X11_ruleFor_0 C z_v3 hH (lv_sub hl [0, 1, 2, 3] rfl) hf)
/-! LetterTablesModel.passes -/
set_option maxRecDepth 100000 in
set_option maxHeartbeats 4000000 in
theorem tb_X11_passes_202 {D : va_G} {B : Nat} {Y : Nat → ClassId} {p : Program} {l : Launch} {e : Env} {s : State} {m : MethodId} {args : Array Value} {below : List Frame} {meth : Method} {c : Code} {z : (Int32 × Wd)} {H : Heap} {locs : List Loc} {ls : Array Slot} {w : Wd} {v4 : Int32} (C : CX D B Y p s m args meth c cX11_passes 7 RX11 (some .boolean))  {rc_202 : Int32 × Wd → Option (Int32 × Wd)} (hr_202 : ∀ (v4 : Int32) (w : Wd), rc_202 (v4, w) = some z → ∀ (H : Heap) (locs : List Loc) (ls : Array Slot), HS D B Y w s H locs → lv_has ls 7 [(0, .ref (B + 713)), (4, .int v4)] → W p l e (RM 2 0 0) s m args below meth c H locs 0 0 (MQ below (QG D B Y (some (.int z.1)) z.2 (isZ z.1)) args s 0 0 (AB B)) (F0 m 202 ls []))    (hH : HS D B Y w s H locs) (hl : lv_has ls 7 [(0, .ref (B + 713)), (4, .int v4)]) (hf : g_X11_passes_202 rc_202 v4 w = some z) : W p l e (RM 2 0 0) s m args below meth c H locs 0 0 (MQ below (QG D B Y (some (.int z.1)) z.2 (isZ z.1)) args s 0 0 (AB B)) (F0 m 202 ls []) := by
  have hx := C.1
  have hb := C.2.1
  unfold g_X11_passes_202 at hf
  refine lv_iload hx hb dX11_passes_202 (lv_at hl 1 rfl) ?_
  refine lv_aload_n hx hb dX11_passes_204 rfl (lv_at hl 0 rfl) ?_
  refine fg_X11_158 C hH dX11_passes_205 ?_
  refine b_icmp_ge (tgt := 231) hx hb hf dX11_passes_208 (by decide) (fun hf => ?_) (fun hf => ?_)
  · refine lv_iconst (v := (1 : Int32)) hx hb dX11_passes_231 (by decide) ?_
    cases hf
    exact q_retz C hH isZ_1 isZ_1 dX11_passes_232
  · refine lv_aload_n hx hb dX11_passes_211 rfl (lv_at hl 0 rfl) ?_
    refine fg_X11_28 C hH dX11_passes_212 ?_
    refine lv_iload hx hb dX11_passes_215 (lv_at hl 1 rfl) ?_
    refine lv_aload_n hx hb dX11_passes_217 rfl (lv_at hl 0 rfl) ?_
    refine fg_X11_92 C hH dX11_passes_218 ?_
    refine lv_iload hx hb dX11_passes_221 (lv_at hl 1 rfl) ?_
    refine g_iald C hH kc_741 hf dX11_passes_223 (fun x1 hf => ?_)
    refine g_iast C hH kc_720 hf dX11_passes_224 (fun w2 H locs hf hH => ?_)
    refine b_let hf (fun x3 he hf => ?_)
    refine lv_iinc (v := x3) (lv' := [(4, .int x3), (0, .ref (B + 713))]) hx hb dX11_passes_225 hl (k := 1) rfl (by rw [← he]; rfl) (by decide) rfl (fun ls hl => ?_)
    refine lv_goto (tgt := 202) hx hb dX11_passes_228 (by decide) ?_
    exact hr_202 x3 w2 hf _ _ _ hH (lv_sub hl [1, 0] rfl)
set_option maxRecDepth 100000 in
set_option maxHeartbeats 4000000 in
theorem t_X11_passes_202 {D : va_G} {B : Nat} {Y : Nat → ClassId} {p : Program} {l : Launch} {e : Env} {s : State} {m : MethodId} {args : Array Value} {below : List Frame} {meth : Method} {c : Code} {z : (Int32 × Wd)} {H : Heap} {locs : List Loc} {ls : Array Slot} {w : Wd} {v4 : Int32} (C : CX D B Y p s m args meth c cX11_passes 7 RX11 (some .boolean))     (hH : HS D B Y w s H locs) (hl : lv_has ls 7 [(0, .ref (B + 713)), (4, .int v4)]) (hf : f_X11_passes_202 v4 w = some z) : W p l e (RM 2 0 0) s m args below meth c H locs 0 0 (MQ below (QG D B Y (some (.int z.1)) z.2 (isZ z.1)) args s 0 0 (AB B)) (F0 m 202 ls []) := by
  exact loopN_ind (z := z) (body := fun rc σ => g_X11_passes_202 rc  σ.1 σ.2)
    (P := fun σ => ∀ (H : Heap) (locs : List Loc) (ls : Array Slot), HS D B Y σ.2 s H locs → lv_has ls 7 [(0, .ref (B + 713)), (4, .int σ.1)] → W p l e (RM 2 0 0) s m args below meth c H locs 0 0 (MQ below (QG D B Y (some (.int z.1)) z.2 (isZ z.1)) args s 0 0 (AB B)) (F0 m 202 ls []))
    (fun rc hrec σ hf  H locs ls hH hl => tb_X11_passes_202 C (fun v4 w hr  H locs ls hH hl => hrec (v4, w) hr  H locs ls hH hl)   hH hl hf) FU (v4, w) hf  H locs ls hH hl
set_option maxRecDepth 100000 in
set_option maxHeartbeats 4000000 in
theorem t_X11_passes_133 {D : va_G} {B : Nat} {Y : Nat → ClassId} {p : Program} {l : Launch} {e : Env} {s : State} {m : MethodId} {args : Array Value} {below : List Frame} {meth : Method} {c : Code} {z : (Int32 × Wd)} {H : Heap} {locs : List Loc} {ls : Array Slot} {w : Wd} {v1 : Int32} {v2 : Int32} {v3 : Int32} {v4 : Int32} {v5 : Int32} {v6 : Int32} {t0 : Nat} {t1 : Int32} {t2 : Int32} (C : CX D B Y p s m args meth c cX11_passes 7 RX11 (some .boolean))  {rc_78 : Int32 × Int32 × Int32 × Int32 × Int32 × Int32 × Wd → Option (Int32 × Wd)} (hr_78 : ∀ (v1 : Int32) (v2 : Int32) (v3 : Int32) (v4 : Int32) (v5 : Int32) (v6 : Int32) (w : Wd), rc_78 (v1, v2, v3, v4, v5, v6, w) = some z → isZ v2 → ∀ (H : Heap) (locs : List Loc) (ls : Array Slot), HS D B Y w s H locs → lv_has ls 7 [(0, .ref (B + 713)), (1, .int v1), (2, .int v2), (3, .int v3), (4, .int v4), (5, .int v5), (6, .int v6)] → W p l e (RM 2 0 0) s m args below meth c H locs 0 0 (MQ below (QG D B Y (some (.int z.1)) z.2 (isZ z.1)) args s 0 0 (AB B)) (F0 m 78 ls []))  (k_t0 : KD t0 = 20) (z_v2 : isZ v2) (hH : HS D B Y w s H locs) (hl : lv_has ls 7 [(0, .ref (B + 713)), (1, .int v1), (2, .int v2), (3, .int v3), (4, .int v4), (5, .int v5), (6, .int v6)]) (hf : f_X11_passes_133 rc_78 v1 v2 v3 v4 v5 v6 t0 t1 t2 w = some z) : W p l e (RM 2 0 0) s m args below meth c H locs 0 0 (MQ below (QG D B Y (some (.int z.1)) z.2 (isZ z.1)) args s 0 0 (AB B)) (F0 m 133 ls [.int t2, .int t1, .ref (B + t0)]) := by
  have hx := C.1
  have hb := C.2.1
  unfold f_X11_passes_133 at hf
  refine g_iast C hH k_t0 hf dX11_passes_133 (fun w1 H locs hf hH => ?_)
  refine lv_aload_n hx hb dX11_passes_134 rfl (lv_at hl 0 rfl) ?_
  refine lv_dup hx hb dX11_passes_135 rfl ?_
  refine fg_X11_321 C hH dX11_passes_136 ?_
  refine lv_iconst (v := (1 : Int32)) hx hb dX11_passes_139 (by decide) ?_
  refine lv_iadd hx hb dX11_passes_140 ?_
  refine fp_X11_321 C hH dX11_passes_141 (fun H locs hH => ?_)
  refine b_w hf hH (fun w2 hf hH => ?_)
  refine b_let hf (fun x3 he hf => ?_)
  refine lv_iinc (v := x3) (lv' := [(6, .int x3), (0, .ref (B + 713)), (1, .int v1), (2, .int v2), (3, .int v3), (4, .int v4), (5, .int v5)]) hx hb dX11_passes_144 hl (k := 6) rfl (by rw [← he]; rfl) (by decide) rfl (fun ls hl => ?_)
  refine lv_goto (tgt := 78) hx hb dX11_passes_147 (by decide) ?_
  exact hr_78 v1 v2 v3 v4 v5 x3 w2 hf z_v2 _ _ _ hH (lv_sub hl [1, 2, 3, 4, 5, 6, 0] rfl)
set_option maxRecDepth 100000 in
set_option maxHeartbeats 4000000 in
theorem t_X11_passes_129 {D : va_G} {B : Nat} {Y : Nat → ClassId} {p : Program} {l : Launch} {e : Env} {s : State} {m : MethodId} {args : Array Value} {below : List Frame} {meth : Method} {c : Code} {z : (Int32 × Wd)} {H : Heap} {locs : List Loc} {ls : Array Slot} {w : Wd} {v1 : Int32} {v2 : Int32} {v3 : Int32} {v4 : Int32} {v5 : Int32} {v6 : Int32} {t0 : Nat} {t1 : Int32} {t2 : Nat} {t3 : Int32} (C : CX D B Y p s m args meth c cX11_passes 7 RX11 (some .boolean))  {rc_78 : Int32 × Int32 × Int32 × Int32 × Int32 × Int32 × Wd → Option (Int32 × Wd)} (hr_78 : ∀ (v1 : Int32) (v2 : Int32) (v3 : Int32) (v4 : Int32) (v5 : Int32) (v6 : Int32) (w : Wd), rc_78 (v1, v2, v3, v4, v5, v6, w) = some z → isZ v2 → ∀ (H : Heap) (locs : List Loc) (ls : Array Slot), HS D B Y w s H locs → lv_has ls 7 [(0, .ref (B + 713)), (1, .int v1), (2, .int v2), (3, .int v3), (4, .int v4), (5, .int v5), (6, .int v6)] → W p l e (RM 2 0 0) s m args below meth c H locs 0 0 (MQ below (QG D B Y (some (.int z.1)) z.2 (isZ z.1)) args s 0 0 (AB B)) (F0 m 78 ls []))  (k_t0 : KD t0 = 20) (k_t2 : KD t2 = 20) (z_v2 : isZ v2) (hH : HS D B Y w s H locs) (hl : lv_has ls 7 [(0, .ref (B + 713)), (1, .int v1), (2, .int v2), (3, .int v3), (4, .int v4), (5, .int v5), (6, .int v6)]) (hf : f_X11_passes_129 rc_78 v1 v2 v3 v4 v5 v6 t0 t1 t2 t3 w = some z) : W p l e (RM 2 0 0) s m args below meth c H locs 0 0 (MQ below (QG D B Y (some (.int z.1)) z.2 (isZ z.1)) args s 0 0 (AB B)) (F0 m 129 ls [.int t3, .ref (B + t2), .int t1, .ref (B + t0)]) := by
  have hx := C.1
  have hb := C.2.1
  unfold f_X11_passes_129 at hf
  refine lv_iload hx hb dX11_passes_129 (lv_at hl 6 rfl) ?_
  refine lv_iadd hx hb dX11_passes_131 ?_
  refine g_iald C hH k_t2 hf dX11_passes_132 (fun x1 hf => ?_)
  exact t_X11_passes_133 C hr_78 k_t0 z_v2 hH (lv_sub hl [0, 1, 2, 3, 4, 5, 6] rfl) hf
set_option maxRecDepth 100000 in
set_option maxHeartbeats 4000000 in
theorem tb_X11_passes_78 {D : va_G} {B : Nat} {Y : Nat → ClassId} {p : Program} {l : Launch} {e : Env} {s : State} {m : MethodId} {args : Array Value} {below : List Frame} {meth : Method} {c : Code} {z : (Int32 × Wd)} {H : Heap} {locs : List Loc} {ls : Array Slot} {w : Wd} {v1 : Int32} {v2 : Int32} {v3 : Int32} {v4 : Int32} {v5 : Int32} {v6 : Int32} (C : CX D B Y p s m args meth c cX11_passes 7 RX11 (some .boolean))  {rc_78 : Int32 × Int32 × Int32 × Int32 × Int32 × Int32 × Wd → Option (Int32 × Wd)} (hr_78 : ∀ (v1 : Int32) (v2 : Int32) (v3 : Int32) (v4 : Int32) (v5 : Int32) (v6 : Int32) (w : Wd), rc_78 (v1, v2, v3, v4, v5, v6, w) = some z → isZ v2 → ∀ (H : Heap) (locs : List Loc) (ls : Array Slot), HS D B Y w s H locs → lv_has ls 7 [(0, .ref (B + 713)), (1, .int v1), (2, .int v2), (3, .int v3), (4, .int v4), (5, .int v5), (6, .int v6)] → W p l e (RM 2 0 0) s m args below meth c H locs 0 0 (MQ below (QG D B Y (some (.int z.1)) z.2 (isZ z.1)) args s 0 0 (AB B)) (F0 m 78 ls [])) {rc_7 : Int32 × Int32 × Int32 × Wd → Option (Int32 × Wd)} (hr_7 : ∀ (v1 : Int32) (v2 : Int32) (v3 : Int32) (w : Wd), rc_7 (v1, v2, v3, w) = some z → isZ v2 → ∀ (H : Heap) (locs : List Loc) (ls : Array Slot), HS D B Y w s H locs → lv_has ls 7 [(0, .ref (B + 713)), (1, .int v1), (2, .int v2), (3, .int v3)] → W p l e (RM 2 0 0) s m args below meth c H locs 0 0 (MQ below (QG D B Y (some (.int z.1)) z.2 (isZ z.1)) args s 0 0 (AB B)) (F0 m 7 ls []))   (z_v2 : isZ v2) (hH : HS D B Y w s H locs) (hl : lv_has ls 7 [(0, .ref (B + 713)), (1, .int v1), (2, .int v2), (3, .int v3), (4, .int v4), (5, .int v5), (6, .int v6)]) (hf : g_X11_passes_78 rc_78 rc_7 v1 v2 v3 v4 v5 v6 w = some z) : W p l e (RM 2 0 0) s m args below meth c H locs 0 0 (MQ below (QG D B Y (some (.int z.1)) z.2 (isZ z.1)) args s 0 0 (AB B)) (F0 m 78 ls []) := by
  have hx := C.1
  have hb := C.2.1
  unfold g_X11_passes_78 at hf
  refine lv_iload hx hb dX11_passes_78 (lv_at hl 6 rfl) ?_
  refine lv_iload hx hb dX11_passes_80 (lv_at hl 5 rfl) ?_
  refine b_icmp_ge (tgt := 150) hx hb hf dX11_passes_82 (by decide) (fun hf => ?_) (fun hf => ?_)
  · refine lv_iload_n hx hb dX11_passes_150 rfl (lv_at hl 3 rfl) ?_
    refine lv_iload hx hb dX11_passes_151 (lv_at hl 4 rfl) ?_
    refine lv_iconst (v := (-1 : Int32)) hx hb dX11_passes_153 (by decide) ?_
    refine b_icmp_ne (tgt := 161) hx hb hf dX11_passes_154 (by decide) (fun hf => ?_) (fun hf => ?_)
    · refine lv_iload_n hx hb dX11_passes_161 rfl (lv_at hl 2 rfl) ?_
      refine b_if_eq (tgt := 177) hx hb hf dX11_passes_162 (by decide) (fun hf => ?_) (fun hf => ?_)
      · refine lv_aload_n hx hb dX11_passes_177 rfl (lv_at hl 0 rfl) ?_
        refine fg_X11_7 C hH dX11_passes_178 ?_
        refine lv_iload hx hb dX11_passes_181 (lv_at hl 4 rfl) ?_
        refine lv_iconst (v := (2 : Int32)) hx hb dX11_passes_183 (by decide) ?_
        refine lv_iadd hx hb dX11_passes_184 ?_
        refine g_iald C hH kc_714 hf dX11_passes_185 (fun x1 hf => ?_)
        refine lv_iadd hx hb dX11_passes_186 ?_
        refine b_leti hf (fun x2 hf => ?_)
        refine lv_istore_n (lv' := [(3, .int x2), (0, .ref (B + 713)), (1, .int v1), (2, .int v2), (4, .int v4), (5, .int v5), (6, .int v6)]) hx hb dX11_passes_187 rfl hl (by decide) rfl (fun ls hl => ?_)
        refine lv_goto (tgt := 7) hx hb dX11_passes_188 (by decide) ?_
        exact hr_7 v1 v2 x2 w hf z_v2 _ _ _ hH (lv_sub hl [1, 2, 3, 0] rfl)
      · refine lv_aload_n hx hb dX11_passes_165 rfl (lv_at hl 0 rfl) ?_
        refine fg_X11_7 C hH dX11_passes_166 ?_
        refine lv_iload hx hb dX11_passes_169 (lv_at hl 4 rfl) ?_
        refine lv_iconst (v := (4 : Int32)) hx hb dX11_passes_171 (by decide) ?_
        refine lv_iadd hx hb dX11_passes_172 ?_
        refine g_iald C hH kc_714 hf dX11_passes_173 (fun x3 hf => ?_)
        refine lv_goto (tgt := 186) hx hb dX11_passes_174 (by decide) ?_
        refine lv_iadd hx hb dX11_passes_186 ?_
        refine b_leti hf (fun x4 hf => ?_)
        refine lv_istore_n (lv' := [(3, .int x4), (0, .ref (B + 713)), (1, .int v1), (2, .int v2), (4, .int v4), (5, .int v5), (6, .int v6)]) hx hb dX11_passes_187 rfl hl (by decide) rfl (fun ls hl => ?_)
        refine lv_goto (tgt := 7) hx hb dX11_passes_188 (by decide) ?_
        exact hr_7 v1 v2 x4 w hf z_v2 _ _ _ hH (lv_sub hl [1, 2, 3, 0] rfl)
    · refine lv_iconst (v := (1 : Int32)) hx hb dX11_passes_157 (by decide) ?_
      refine lv_goto (tgt := 186) hx hb dX11_passes_158 (by decide) ?_
      refine lv_iadd hx hb dX11_passes_186 ?_
      refine b_leti hf (fun x5 hf => ?_)
      refine lv_istore_n (lv' := [(3, .int x5), (0, .ref (B + 713)), (1, .int v1), (2, .int v2), (4, .int v4), (5, .int v5), (6, .int v6)]) hx hb dX11_passes_187 rfl hl (by decide) rfl (fun ls hl => ?_)
      refine lv_goto (tgt := 7) hx hb dX11_passes_188 (by decide) ?_
      exact hr_7 v1 v2 x5 w hf z_v2 _ _ _ hH (lv_sub hl [1, 2, 3, 0] rfl)
  · refine lv_aload_n hx hb dX11_passes_85 rfl (lv_at hl 0 rfl) ?_
    refine fg_X11_92 C hH dX11_passes_86 ?_
    refine lv_aload_n hx hb dX11_passes_89 rfl (lv_at hl 0 rfl) ?_
    refine fg_X11_321 C hH dX11_passes_90 ?_
    refine lv_iload hx hb dX11_passes_93 (lv_at hl 4 rfl) ?_
    refine lv_iconst (v := (-1 : Int32)) hx hb dX11_passes_95 (by decide) ?_
    refine b_icmp_ne (tgt := 108) hx hb hf dX11_passes_96 (by decide) (fun hf => ?_) (fun hf => ?_)
    · refine lv_aload_n hx hb dX11_passes_108 rfl (lv_at hl 0 rfl) ?_
      refine fg_X11_7 C hH dX11_passes_109 ?_
      refine lv_iload_n hx hb dX11_passes_112 rfl (lv_at hl 2 rfl) ?_
      refine b_if_eq (tgt := 124) hx hb hf dX11_passes_113 (by decide) (fun hf => ?_) (fun hf => ?_)
      · refine lv_iload hx hb dX11_passes_124 (lv_at hl 4 rfl) ?_
        refine lv_bipush (v := (12 : Int32)) hx hb dX11_passes_126 (by decide) ?_
        refine lv_iadd hx hb dX11_passes_128 ?_
        exact t_X11_passes_129 C hr_78 kc_741 kc_714 z_v2 hH (lv_sub hl [0, 1, 2, 3, 4, 5, 6] rfl) hf
      · refine lv_iload hx hb dX11_passes_116 (lv_at hl 4 rfl) ?_
        refine lv_bipush (v := (7 : Int32)) hx hb dX11_passes_118 (by decide) ?_
        refine lv_iadd hx hb dX11_passes_120 ?_
        refine lv_goto (tgt := 129) hx hb dX11_passes_121 (by decide) ?_
        exact t_X11_passes_129 C hr_78 kc_741 kc_714 z_v2 hH (lv_sub hl [0, 1, 2, 3, 4, 5, 6] rfl) hf
    · refine lv_aload_n hx hb dX11_passes_99 rfl (lv_at hl 0 rfl) ?_
      refine fg_X11_28 C hH dX11_passes_100 ?_
      refine lv_iload_n hx hb dX11_passes_103 rfl (lv_at hl 3 rfl) ?_
      refine g_iald C hH kc_720 hf dX11_passes_104 (fun x6 hf => ?_)
      refine lv_goto (tgt := 133) hx hb dX11_passes_105 (by decide) ?_
      exact t_X11_passes_133 C hr_78 kc_741 z_v2 hH (lv_sub hl [0, 1, 2, 3, 4, 5, 6] rfl) hf
set_option maxRecDepth 100000 in
set_option maxHeartbeats 4000000 in
theorem t_X11_passes_78 {D : va_G} {B : Nat} {Y : Nat → ClassId} {p : Program} {l : Launch} {e : Env} {s : State} {m : MethodId} {args : Array Value} {below : List Frame} {meth : Method} {c : Code} {z : (Int32 × Wd)} {H : Heap} {locs : List Loc} {ls : Array Slot} {w : Wd} {v1 : Int32} {v2 : Int32} {v3 : Int32} {v4 : Int32} {v5 : Int32} {v6 : Int32} (C : CX D B Y p s m args meth c cX11_passes 7 RX11 (some .boolean))  {rc_7 : Int32 × Int32 × Int32 × Wd → Option (Int32 × Wd)} (hr_7 : ∀ (v1 : Int32) (v2 : Int32) (v3 : Int32) (w : Wd), rc_7 (v1, v2, v3, w) = some z → isZ v2 → ∀ (H : Heap) (locs : List Loc) (ls : Array Slot), HS D B Y w s H locs → lv_has ls 7 [(0, .ref (B + 713)), (1, .int v1), (2, .int v2), (3, .int v3)] → W p l e (RM 2 0 0) s m args below meth c H locs 0 0 (MQ below (QG D B Y (some (.int z.1)) z.2 (isZ z.1)) args s 0 0 (AB B)) (F0 m 7 ls []))   (z_v2 : isZ v2) (hH : HS D B Y w s H locs) (hl : lv_has ls 7 [(0, .ref (B + 713)), (1, .int v1), (2, .int v2), (3, .int v3), (4, .int v4), (5, .int v5), (6, .int v6)]) (hf : f_X11_passes_78 rc_7 v1 v2 v3 v4 v5 v6 w = some z) : W p l e (RM 2 0 0) s m args below meth c H locs 0 0 (MQ below (QG D B Y (some (.int z.1)) z.2 (isZ z.1)) args s 0 0 (AB B)) (F0 m 78 ls []) := by
  exact loopN_ind (z := z) (body := fun rc σ => g_X11_passes_78 rc rc_7 σ.1 σ.2.1 σ.2.2.1 σ.2.2.2.1 σ.2.2.2.2.1 σ.2.2.2.2.2.1 σ.2.2.2.2.2.2)
    (P := fun σ => isZ σ.2.1 → ∀ (H : Heap) (locs : List Loc) (ls : Array Slot), HS D B Y σ.2.2.2.2.2.2 s H locs → lv_has ls 7 [(0, .ref (B + 713)), (1, .int σ.1), (2, .int σ.2.1), (3, .int σ.2.2.1), (4, .int σ.2.2.2.1), (5, .int σ.2.2.2.2.1), (6, .int σ.2.2.2.2.2.1)] → W p l e (RM 2 0 0) s m args below meth c H locs 0 0 (MQ below (QG D B Y (some (.int z.1)) z.2 (isZ z.1)) args s 0 0 (AB B)) (F0 m 78 ls []))
    (fun rc hrec σ hf z_v2 H locs ls hH hl => tb_X11_passes_78 C (fun v1 v2 v3 v4 v5 v6 w hr z_v2 H locs ls hH hl => hrec (v1, v2, v3, v4, v5, v6, w) hr z_v2 H locs ls hH hl) hr_7 z_v2 hH hl hf) FU (v1, v2, v3, v4, v5, v6, w) hf z_v2 H locs ls hH hl
set_option maxRecDepth 100000 in
set_option maxHeartbeats 4000000 in
theorem t_X11_passes_59 {D : va_G} {B : Nat} {Y : Nat → ClassId} {p : Program} {l : Launch} {e : Env} {s : State} {m : MethodId} {args : Array Value} {below : List Frame} {meth : Method} {c : Code} {z : (Int32 × Wd)} {H : Heap} {locs : List Loc} {ls : Array Slot} {w : Wd} {v1 : Int32} {v2 : Int32} {v3 : Int32} {v4 : Int32} {t0 : Int32} (C : CX D B Y p s m args meth c cX11_passes 7 RX11 (some .boolean))  {rc_7 : Int32 × Int32 × Int32 × Wd → Option (Int32 × Wd)} (hr_7 : ∀ (v1 : Int32) (v2 : Int32) (v3 : Int32) (w : Wd), rc_7 (v1, v2, v3, w) = some z → isZ v2 → ∀ (H : Heap) (locs : List Loc) (ls : Array Slot), HS D B Y w s H locs → lv_has ls 7 [(0, .ref (B + 713)), (1, .int v1), (2, .int v2), (3, .int v3)] → W p l e (RM 2 0 0) s m args below meth c H locs 0 0 (MQ below (QG D B Y (some (.int z.1)) z.2 (isZ z.1)) args s 0 0 (AB B)) (F0 m 7 ls []))   (z_v2 : isZ v2) (hH : HS D B Y w s H locs) (hl : lv_has ls 7 [(0, .ref (B + 713)), (1, .int v1), (2, .int v2), (3, .int v3), (4, .int v4)]) (hf : f_X11_passes_59 rc_7 v1 v2 v3 v4 t0 w = some z) : W p l e (RM 2 0 0) s m args below meth c H locs 0 0 (MQ below (QG D B Y (some (.int z.1)) z.2 (isZ z.1)) args s 0 0 (AB B)) (F0 m 59 ls [.int t0]) := by
  have hx := C.1
  have hb := C.2.1
  unfold f_X11_passes_59 at hf
  refine lv_istore (lv' := [(5, .int t0), (0, .ref (B + 713)), (1, .int v1), (2, .int v2), (3, .int v3), (4, .int v4)]) hx hb dX11_passes_59 hl (by decide) rfl (fun ls hl => ?_)
  refine lv_aload_n hx hb dX11_passes_61 rfl (lv_at hl 1 rfl) ?_
  refine fg_X11_321 C hH dX11_passes_62 ?_
  refine lv_iload hx hb dX11_passes_65 (lv_at hl 0 rfl) ?_
  refine lv_iadd hx hb dX11_passes_67 ?_
  refine lv_bipush (v := (40 : Int32)) hx hb dX11_passes_68 (by decide) ?_
  refine b_icmp_le (tgt := 75) hx hb hf dX11_passes_70 (by decide) (fun hf => ?_) (fun hf => ?_)
  · refine lv_iconst (v := (0 : Int32)) hx hb dX11_passes_75 (by decide) ?_
    refine lv_istore (lv' := [(6, .int (0 : Int32)), (5, .int t0), (0, .ref (B + 713)), (1, .int v1), (2, .int v2), (3, .int v3), (4, .int v4)]) hx hb dX11_passes_76 hl (by decide) rfl (fun ls hl => ?_)
    exact t_X11_passes_78 C hr_7 z_v2 hH (lv_sub hl [2, 3, 4, 5, 6, 1, 0] rfl) hf
  · refine lv_iconst (v := (0 : Int32)) hx hb dX11_passes_73 (by decide) ?_
    cases hf
    exact q_retz C hH isZ_0 isZ_0 dX11_passes_74
set_option maxRecDepth 100000 in
set_option maxHeartbeats 4000000 in
theorem tb_X11_passes_7 {D : va_G} {B : Nat} {Y : Nat → ClassId} {p : Program} {l : Launch} {e : Env} {s : State} {m : MethodId} {args : Array Value} {below : List Frame} {meth : Method} {c : Code} {z : (Int32 × Wd)} {H : Heap} {locs : List Loc} {ls : Array Slot} {w : Wd} {v1 : Int32} {v2 : Int32} {v3 : Int32} (C : CX D B Y p s m args meth c cX11_passes 7 RX11 (some .boolean))  {rc_7 : Int32 × Int32 × Int32 × Wd → Option (Int32 × Wd)} (hr_7 : ∀ (v1 : Int32) (v2 : Int32) (v3 : Int32) (w : Wd), rc_7 (v1, v2, v3, w) = some z → isZ v2 → ∀ (H : Heap) (locs : List Loc) (ls : Array Slot), HS D B Y w s H locs → lv_has ls 7 [(0, .ref (B + 713)), (1, .int v1), (2, .int v2), (3, .int v3)] → W p l e (RM 2 0 0) s m args below meth c H locs 0 0 (MQ below (QG D B Y (some (.int z.1)) z.2 (isZ z.1)) args s 0 0 (AB B)) (F0 m 7 ls []))   (z_v2 : isZ v2) (hH : HS D B Y w s H locs) (hl : lv_has ls 7 [(0, .ref (B + 713)), (1, .int v1), (2, .int v2), (3, .int v3)]) (hf : g_X11_passes_7 rc_7 v1 v2 v3 w = some z) : W p l e (RM 2 0 0) s m args below meth c H locs 0 0 (MQ below (QG D B Y (some (.int z.1)) z.2 (isZ z.1)) args s 0 0 (AB B)) (F0 m 7 ls []) := by
  have hx := C.1
  have hb := C.2.1
  unfold g_X11_passes_7 at hf
  refine lv_iload_n hx hb dX11_passes_7 rfl (lv_at hl 3 rfl) ?_
  refine lv_aload_n hx hb dX11_passes_8 rfl (lv_at hl 0 rfl) ?_
  refine fg_X11_158 C hH dX11_passes_9 ?_
  refine b_icmp_ge (tgt := 191) hx hb hf dX11_passes_12 (by decide) (fun hf => ?_) (fun hf => ?_)
  · refine lv_aload_n hx hb dX11_passes_191 rfl (lv_at hl 0 rfl) ?_
    refine lv_aload_n hx hb dX11_passes_192 rfl (lv_at hl 0 rfl) ?_
    refine fg_X11_321 C hH dX11_passes_193 ?_
    refine fp_X11_158 C hH dX11_passes_196 (fun H locs hH => ?_)
    refine b_w hf hH (fun w1 hf hH => ?_)
    refine lv_iconst (v := (0 : Int32)) hx hb dX11_passes_199 (by decide) ?_
    refine lv_istore (lv' := [(4, .int (0 : Int32)), (0, .ref (B + 713)), (1, .int v1), (2, .int v2), (3, .int v3)]) hx hb dX11_passes_200 hl (by decide) rfl (fun ls hl => ?_)
    exact t_X11_passes_202 C hH (lv_sub hl [1, 0] rfl) hf
  · refine lv_aload_n hx hb dX11_passes_15 rfl (lv_at hl 0 rfl) ?_
    refine lv_iload_n hx hb dX11_passes_16 rfl (lv_at hl 1 rfl) ?_
    refine lv_iload_n hx hb dX11_passes_17 rfl (lv_at hl 3 rfl) ?_
    refine lv_iload_n hx hb dX11_passes_18 rfl (lv_at hl 2 rfl) ?_
    obtain ⟨x3, w2, hc, hf⟩ := bd_some hf
    refine q_callV1 (v := .int x3) (As := [.int v1, .int v3, .int v2]) C hH (ci := 11) rfl (by omega) gk_X11_324 yd_X11_ruleFor (by omega) (by omega) kc_713 (c_X11_ruleFor z_v2 hc) hl.1 rfl (Nat.le_of_ble_eq_true rfl) dX11_passes_19 ⟨by decide, by decide⟩ (fun H locs hH hP => ?_)
    refine lv_istore (lv' := [(4, .int x3), (0, .ref (B + 713)), (1, .int v1), (2, .int v2), (3, .int v3)]) hx hb dX11_passes_22 hl (by decide) rfl (fun ls hl => ?_)
    refine lv_iload hx hb dX11_passes_24 (lv_at hl 0 rfl) ?_
    refine lv_iconst (v := (-1 : Int32)) hx hb dX11_passes_26 (by decide) ?_
    refine b_icmp_ne (tgt := 34) hx hb hf dX11_passes_27 (by decide) (fun hf => ?_) (fun hf => ?_)
    · refine lv_iload_n hx hb dX11_passes_34 rfl (lv_at hl 3 rfl) ?_
      refine b_if_eq (tgt := 50) hx hb hf dX11_passes_35 (by decide) (fun hf => ?_) (fun hf => ?_)
      · refine lv_aload_n hx hb dX11_passes_50 rfl (lv_at hl 1 rfl) ?_
        refine fg_X11_7 C hH dX11_passes_51 ?_
        refine lv_iload hx hb dX11_passes_54 (lv_at hl 0 rfl) ?_
        refine lv_iconst (v := (4 : Int32)) hx hb dX11_passes_56 (by decide) ?_
        refine lv_iadd hx hb dX11_passes_57 ?_
        refine g_iald C hH kc_714 hf dX11_passes_58 (fun x4 hf => ?_)
        exact t_X11_passes_59 C hr_7 z_v2 hH (lv_sub hl [1, 2, 3, 4, 0] rfl) hf
      · refine lv_aload_n hx hb dX11_passes_38 rfl (lv_at hl 1 rfl) ?_
        refine fg_X11_7 C hH dX11_passes_39 ?_
        refine lv_iload hx hb dX11_passes_42 (lv_at hl 0 rfl) ?_
        refine lv_iconst (v := (2 : Int32)) hx hb dX11_passes_44 (by decide) ?_
        refine lv_iadd hx hb dX11_passes_45 ?_
        refine g_iald C hH kc_714 hf dX11_passes_46 (fun x5 hf => ?_)
        refine lv_goto (tgt := 59) hx hb dX11_passes_47 (by decide) ?_
        exact t_X11_passes_59 C hr_7 z_v2 hH (lv_sub hl [1, 2, 3, 4, 0] rfl) hf
    · refine lv_iconst (v := (1 : Int32)) hx hb dX11_passes_30 (by decide) ?_
      refine lv_goto (tgt := 59) hx hb dX11_passes_31 (by decide) ?_
      exact t_X11_passes_59 C hr_7 z_v2 hH (lv_sub hl [1, 2, 3, 4, 0] rfl) hf
set_option maxRecDepth 100000 in
set_option maxHeartbeats 4000000 in
theorem t_X11_passes_7 {D : va_G} {B : Nat} {Y : Nat → ClassId} {p : Program} {l : Launch} {e : Env} {s : State} {m : MethodId} {args : Array Value} {below : List Frame} {meth : Method} {c : Code} {z : (Int32 × Wd)} {H : Heap} {locs : List Loc} {ls : Array Slot} {w : Wd} {v1 : Int32} {v2 : Int32} {v3 : Int32} (C : CX D B Y p s m args meth c cX11_passes 7 RX11 (some .boolean))    (z_v2 : isZ v2) (hH : HS D B Y w s H locs) (hl : lv_has ls 7 [(0, .ref (B + 713)), (1, .int v1), (2, .int v2), (3, .int v3)]) (hf : f_X11_passes_7 v1 v2 v3 w = some z) : W p l e (RM 2 0 0) s m args below meth c H locs 0 0 (MQ below (QG D B Y (some (.int z.1)) z.2 (isZ z.1)) args s 0 0 (AB B)) (F0 m 7 ls []) := by
  exact loopN_ind (z := z) (body := fun rc σ => g_X11_passes_7 rc  σ.1 σ.2.1 σ.2.2.1 σ.2.2.2)
    (P := fun σ => isZ σ.2.1 → ∀ (H : Heap) (locs : List Loc) (ls : Array Slot), HS D B Y σ.2.2.2 s H locs → lv_has ls 7 [(0, .ref (B + 713)), (1, .int σ.1), (2, .int σ.2.1), (3, .int σ.2.2.1)] → W p l e (RM 2 0 0) s m args below meth c H locs 0 0 (MQ below (QG D B Y (some (.int z.1)) z.2 (isZ z.1)) args s 0 0 (AB B)) (F0 m 7 ls []))
    (fun rc hrec σ hf z_v2 H locs ls hH hl => tb_X11_passes_7 C (fun v1 v2 v3 w hr z_v2 H locs ls hH hl => hrec (v1, v2, v3, w) hr z_v2 H locs ls hH hl)  z_v2 hH hl hf) FU (v1, v2, v3, w) hf z_v2 H locs ls hH hl
set_option maxRecDepth 100000 in
set_option maxHeartbeats 4000000 in
theorem t_X11_passes_0 {D : va_G} {B : Nat} {Y : Nat → ClassId} {p : Program} {l : Launch} {e : Env} {s : State} {m : MethodId} {args : Array Value} {below : List Frame} {meth : Method} {c : Code} {z : (Int32 × Wd)} {H : Heap} {locs : List Loc} {ls : Array Slot} {w : Wd} {v1 : Int32} {v2 : Int32} (C : CX D B Y p s m args meth c cX11_passes 7 RX11 (some .boolean))    (z_v2 : isZ v2) (hH : HS D B Y w s H locs) (hl : lv_has ls 7 [(0, .ref (B + 713)), (1, .int v1), (2, .int v2)]) (hf : f_X11_passes v1 v2 w = some z) : W p l e (RM 2 0 0) s m args below meth c H locs 0 0 (MQ below (QG D B Y (some (.int z.1)) z.2 (isZ z.1)) args s 0 0 (AB B)) (F0 m 0 ls []) := by
  have hx := C.1
  have hb := C.2.1
  unfold f_X11_passes at hf
  refine lv_iconst (v := (0 : Int32)) hx hb dX11_passes_0 (by decide) ?_
  refine lv_istore_n (lv' := [(3, .int (0 : Int32)), (0, .ref (B + 713)), (1, .int v1), (2, .int v2)]) hx hb dX11_passes_1 rfl hl (by decide) rfl (fun ls hl => ?_)
  refine lv_aload_n hx hb dX11_passes_2 rfl (lv_at hl 1 rfl) ?_
  refine lv_iconst (v := (0 : Int32)) hx hb dX11_passes_3 (by decide) ?_
  refine fp_X11_321 C hH dX11_passes_4 (fun H locs hH => ?_)
  refine b_w hf hH (fun w1 hf hH => ?_)
  exact t_X11_passes_7 C z_v2 hH (lv_sub hl [1, 2, 3, 0] rfl) hf
set_option maxRecDepth 100000 in
theorem c_X11_passes {l : Launch} {D : va_G} {B : Nat} {Y : Nat → ClassId} {v1 : Int32} {v2 : Int32} {w : Wd} {r : Int32} {w1 : Wd}  (z_v2 : isZ v2) (hf : f_X11_passes v1 v2 w = some (r, w1)) : CM l D B Y yX11_passes cX11_passes 7 (some .boolean) 2 [.ref (B + 713), .int v1, .int v2] w (some (.int r)) w1 (isZ r) :=
  CM_of (by decide +kernel) (Nat.le_of_ble_eq_true rfl) (fun p e s m args below meth c ls C hH hl => t_X11_passes_0 C z_v2 hH (lv_sub hl [0, 1, 2] rfl) hf)
/-! LetterTablesModel.transliterated -/
set_option maxRecDepth 100000 in
set_option maxHeartbeats 4000000 in
theorem t_X11_transliterated_39 {D : va_G} {B : Nat} {Y : Nat → ClassId} {p : Program} {l : Launch} {e : Env} {s : State} {m : MethodId} {args : Array Value} {below : List Frame} {meth : Method} {c : Code} {z : (Int32 × Wd)} {H : Heap} {locs : List Loc} {ls : Array Slot} {w : Wd} {v2 : Int32} {t1 : Int32} (C : CX D B Y p s m args meth c cX11_transliterated 3 RX11 (some .boolean))    (z_v2 : isZ v2) (z_t1 : isZ t1) (hH : HS D B Y w s H locs) (hl : lv_has ls 3 [(2, .int v2)]) (hf : f_X11_transliterated_39 v2 t1 w = some z) : W p l e (RM 3 0 0) s m args below meth c H locs 0 0 (MQ below (QG D B Y (some (.int z.1)) z.2 (isZ z.1)) args s 0 0 (AB B)) (F0 m 39 ls [.int t1, .ref (B + 713)]) := by
  have hx := C.1
  have hb := C.2.1
  unfold f_X11_transliterated_39 at hf
  refine lv_iload_n hx hb dX11_transliterated_39 rfl (lv_at hl 0 rfl) ?_
  obtain ⟨x2, w1, hc, hf⟩ := bd_some hf
  refine q_callV1 (v := .int x2) (As := [.int t1, .int v2]) C hH (ci := 11) rfl (by omega) gk_X11_327 yd_X11_passes (by omega) (by omega) kc_713 (c_X11_passes z_v2 hc) hl.1 rfl (Nat.le_of_ble_eq_true rfl) dX11_transliterated_40 ⟨by decide, by decide⟩ (fun H locs hH z_x2 => ?_)
  refine b_if_eq (tgt := 50) hx hb hf dX11_transliterated_43 (by decide) (fun hf => ?_) (fun hf => ?_)
  · refine lv_iconst (v := (0 : Int32)) hx hb dX11_transliterated_50 (by decide) ?_
    cases hf
    exact q_retz C hH isZ_0 isZ_0 dX11_transliterated_51
  · refine lv_iconst (v := (1 : Int32)) hx hb dX11_transliterated_46 (by decide) ?_
    refine lv_goto (tgt := 51) hx hb dX11_transliterated_47 (by decide) ?_
    cases hf
    exact q_retz C hH isZ_1 isZ_1 dX11_transliterated_51
set_option maxRecDepth 100000 in
set_option maxHeartbeats 4000000 in
theorem t_X11_transliterated_22 {D : va_G} {B : Nat} {Y : Nat → ClassId} {p : Program} {l : Launch} {e : Env} {s : State} {m : MethodId} {args : Array Value} {below : List Frame} {meth : Method} {c : Code} {z : (Int32 × Wd)} {H : Heap} {locs : List Loc} {ls : Array Slot} {w : Wd} {v2 : Int32} {t1 : Int32} (C : CX D B Y p s m args meth c cX11_transliterated 3 RX11 (some .boolean))    (z_v2 : isZ v2) (z_t1 : isZ t1) (hH : HS D B Y w s H locs) (hl : lv_has ls 3 [(0, .ref (B + 713)), (2, .int v2)]) (hf : f_X11_transliterated_22 v2 t1 w = some z) : W p l e (RM 3 0 0) s m args below meth c H locs 0 0 (MQ below (QG D B Y (some (.int z.1)) z.2 (isZ z.1)) args s 0 0 (AB B)) (F0 m 22 ls [.int t1, .ref (B + 713)]) := by
  have hx := C.1
  have hb := C.2.1
  unfold f_X11_transliterated_22 at hf
  refine lv_iload_n hx hb dX11_transliterated_22 rfl (lv_at hl 1 rfl) ?_
  obtain ⟨x2, w1, hc, hf⟩ := bd_some hf
  refine q_callV1 (v := .int x2) (As := [.int t1, .int v2]) C hH (ci := 11) rfl (by omega) gk_X11_327 yd_X11_passes (by omega) (by omega) kc_713 (c_X11_passes z_v2 hc) hl.1 rfl (Nat.le_of_ble_eq_true rfl) dX11_transliterated_23 ⟨by decide, by decide⟩ (fun H locs hH z_x2 => ?_)
  refine b_if_eq (tgt := 50) hx hb hf dX11_transliterated_26 (by decide) (fun hf => ?_) (fun hf => ?_)
  · refine lv_iconst (v := (0 : Int32)) hx hb dX11_transliterated_50 (by decide) ?_
    cases hf
    exact q_retz C hH isZ_0 isZ_0 dX11_transliterated_51
  · refine lv_aload_n hx hb dX11_transliterated_29 rfl (lv_at hl 0 rfl) ?_
    refine lv_iload_n hx hb dX11_transliterated_30 rfl (lv_at hl 1 rfl) ?_
    refine b_if_eq (tgt := 38) hx hb hf dX11_transliterated_31 (by decide) (fun hf => ?_) (fun hf => ?_)
    · refine lv_iconst (v := (1 : Int32)) hx hb dX11_transliterated_38 (by decide) ?_
      exact t_X11_transliterated_39 C z_v2 isZ_1 hH (lv_sub hl [1] rfl) hf
    · refine lv_iconst (v := (0 : Int32)) hx hb dX11_transliterated_34 (by decide) ?_
      refine lv_goto (tgt := 39) hx hb dX11_transliterated_35 (by decide) ?_
      exact t_X11_transliterated_39 C z_v2 isZ_0 hH (lv_sub hl [1] rfl) hf
set_option maxRecDepth 100000 in
set_option maxHeartbeats 4000000 in
theorem t_X11_transliterated_0 {D : va_G} {B : Nat} {Y : Nat → ClassId} {p : Program} {l : Launch} {e : Env} {s : State} {m : MethodId} {args : Array Value} {below : List Frame} {meth : Method} {c : Code} {z : (Int32 × Wd)} {H : Heap} {locs : List Loc} {ls : Array Slot} {w : Wd} {v1 : Int32} {v2 : Int32} (C : CX D B Y p s m args meth c cX11_transliterated 3 RX11 (some .boolean))    (z_v2 : isZ v2) (hH : HS D B Y w s H locs) (hl : lv_has ls 3 [(0, .ref (B + 713)), (1, .int v1), (2, .int v2)]) (hf : f_X11_transliterated v1 v2 w = some z) : W p l e (RM 3 0 0) s m args below meth c H locs 0 0 (MQ below (QG D B Y (some (.int z.1)) z.2 (isZ z.1)) args s 0 0 (AB B)) (F0 m 0 ls []) := by
  have hx := C.1
  have hb := C.2.1
  unfold f_X11_transliterated at hf
  refine lv_aload_n hx hb dX11_transliterated_0 rfl (lv_at hl 0 rfl) ?_
  refine lv_iload_n hx hb dX11_transliterated_1 rfl (lv_at hl 1 rfl) ?_
  refine lv_iconst (v := (0 : Int32)) hx hb dX11_transliterated_2 (by decide) ?_
  refine lv_aload_n hx hb dX11_transliterated_3 rfl (lv_at hl 0 rfl) ?_
  refine fg_X11_19 C hH dX11_transliterated_4 ?_
  refine lv_iload_n hx hb dX11_transliterated_7 rfl (lv_at hl 1 rfl) ?_
  refine g_iald C hH kc_717 hf dX11_transliterated_8 (fun x1 hf => ?_)
  obtain ⟨u, w2, hc, hf⟩ := bd_some hf
  refine q_callV0 (As := [.int v1, .int (0 : Int32), .int x1]) C hH (ci := 11) rfl (by omega) gk_X11_184 yd_X11_loads (by omega) (by omega) kc_713 (c_X11_loads hc) hl.1 rfl (Nat.le_of_ble_eq_true rfl) dX11_transliterated_9 ⟨by decide, by decide⟩ (fun H locs hH hP => ?_)
  refine lv_aload_n hx hb dX11_transliterated_12 rfl (lv_at hl 0 rfl) ?_
  refine lv_iload_n hx hb dX11_transliterated_13 rfl (lv_at hl 2 rfl) ?_
  refine b_if_eq (tgt := 21) hx hb hf dX11_transliterated_14 (by decide) (fun hf => ?_) (fun hf => ?_)
  · refine lv_iconst (v := (0 : Int32)) hx hb dX11_transliterated_21 (by decide) ?_
    exact t_X11_transliterated_22 C z_v2 isZ_0 hH (lv_sub hl [0, 2] rfl) hf
  · refine lv_iconst (v := (1 : Int32)) hx hb dX11_transliterated_17 (by decide) ?_
    refine lv_goto (tgt := 22) hx hb dX11_transliterated_18 (by decide) ?_
    exact t_X11_transliterated_22 C z_v2 isZ_1 hH (lv_sub hl [0, 2] rfl) hf
set_option maxRecDepth 100000 in
theorem c_X11_transliterated {l : Launch} {D : va_G} {B : Nat} {Y : Nat → ClassId} {v1 : Int32} {v2 : Int32} {w : Wd} {r : Int32} {w1 : Wd}  (z_v2 : isZ v2) (hf : f_X11_transliterated v1 v2 w = some (r, w1)) : CM l D B Y yX11_transliterated cX11_transliterated 3 (some .boolean) 3 [.ref (B + 713), .int v1, .int v2] w (some (.int r)) w1 (isZ r) :=
  CM_of (by decide +kernel) (Nat.le_of_ble_eq_true rfl) (fun p e s m args below meth c ls C hH hl => t_X11_transliterated_0 C z_v2 hH (lv_sub hl [0, 1, 2] rfl) hf)
/-! LetterTablesModel.transliterate -/
set_option maxRecDepth 100000 in
set_option maxHeartbeats 4000000 in
theorem tb_X11_transliterate_83 {D : va_G} {B : Nat} {Y : Nat → ClassId} {p : Program} {l : Launch} {e : Env} {s : State} {m : MethodId} {args : Array Value} {below : List Frame} {meth : Method} {c : Code} {z : (Int32 × Wd)} {H : Heap} {locs : List Loc} {ls : Array Slot} {w : Wd} {v2 : Int32} {v6 : Int32} (C : CX D B Y p s m args meth c cX11_transliterate 7 RX11 (some .int))  {rc_83 : Int32 × Int32 × Wd → Option (Int32 × Wd)} (hr_83 : ∀ (v2 : Int32) (v6 : Int32) (w : Wd), rc_83 (v2, v6, w) = some z → ∀ (H : Heap) (locs : List Loc) (ls : Array Slot), HS D B Y w s H locs → lv_has ls 7 [(0, .ref (B + 713)), (2, .int v2), (6, .int v6)] → W p l e (RM 4 0 0) s m args below meth c H locs 0 0 (MQ below (QG D B Y (some (.int z.1)) z.2 True) args s 0 0 (AB B)) (F0 m 83 ls []))    (hH : HS D B Y w s H locs) (hl : lv_has ls 7 [(0, .ref (B + 713)), (2, .int v2), (6, .int v6)]) (hf : g_X11_transliterate_83 rc_83 v2 v6 w = some z) : W p l e (RM 4 0 0) s m args below meth c H locs 0 0 (MQ below (QG D B Y (some (.int z.1)) z.2 True) args s 0 0 (AB B)) (F0 m 83 ls []) := by
  have hx := C.1
  have hb := C.2.1
  unfold g_X11_transliterate_83 at hf
  refine lv_iload hx hb dX11_transliterate_83 (lv_at hl 2 rfl) ?_
  refine lv_aload_n hx hb dX11_transliterate_85 rfl (lv_at hl 0 rfl) ?_
  refine fg_X11_158 C hH dX11_transliterate_86 ?_
  refine b_icmp_ge (tgt := 117) hx hb hf dX11_transliterate_89 (by decide) (fun hf => ?_) (fun hf => ?_)
  · refine lv_aload_n hx hb dX11_transliterate_117 rfl (lv_at hl 0 rfl) ?_
    refine fg_X11_158 C hH dX11_transliterate_118 ?_
    cases hf
    exact q_reti C hH trivial dX11_transliterate_121
  · refine lv_aload_n hx hb dX11_transliterate_92 rfl (lv_at hl 0 rfl) ?_
    refine fg_X11_16 C hH dX11_transliterate_93 ?_
    refine lv_bipush (v := (40 : Int32)) hx hb dX11_transliterate_96 (by decide) ?_
    refine lv_iload_n hx hb dX11_transliterate_98 rfl (lv_at hl 1 rfl) ?_
    refine lv_imul hx hb dX11_transliterate_99 ?_
    refine lv_iload hx hb dX11_transliterate_100 (lv_at hl 2 rfl) ?_
    refine lv_iadd hx hb dX11_transliterate_102 ?_
    refine lv_aload_n hx hb dX11_transliterate_103 rfl (lv_at hl 0 rfl) ?_
    refine fg_X11_28 C hH dX11_transliterate_104 ?_
    refine lv_iload hx hb dX11_transliterate_107 (lv_at hl 2 rfl) ?_
    refine g_iald C hH kc_720 hf dX11_transliterate_109 (fun x1 hf => ?_)
    refine g_iast C hH kc_716 hf dX11_transliterate_110 (fun w2 H locs hf hH => ?_)
    refine b_let hf (fun x3 he hf => ?_)
    refine lv_iinc (v := x3) (lv' := [(6, .int x3), (0, .ref (B + 713)), (2, .int v2)]) hx hb dX11_transliterate_111 hl (k := 2) rfl (by rw [← he]; rfl) (by decide) rfl (fun ls hl => ?_)
    refine lv_goto (tgt := 83) hx hb dX11_transliterate_114 (by decide) ?_
    exact hr_83 v2 x3 w2 hf _ _ _ hH (lv_sub hl [1, 2, 0] rfl)
set_option maxRecDepth 100000 in
set_option maxHeartbeats 4000000 in
theorem t_X11_transliterate_83 {D : va_G} {B : Nat} {Y : Nat → ClassId} {p : Program} {l : Launch} {e : Env} {s : State} {m : MethodId} {args : Array Value} {below : List Frame} {meth : Method} {c : Code} {z : (Int32 × Wd)} {H : Heap} {locs : List Loc} {ls : Array Slot} {w : Wd} {v2 : Int32} {v6 : Int32} (C : CX D B Y p s m args meth c cX11_transliterate 7 RX11 (some .int))     (hH : HS D B Y w s H locs) (hl : lv_has ls 7 [(0, .ref (B + 713)), (2, .int v2), (6, .int v6)]) (hf : f_X11_transliterate_83 v2 v6 w = some z) : W p l e (RM 4 0 0) s m args below meth c H locs 0 0 (MQ below (QG D B Y (some (.int z.1)) z.2 True) args s 0 0 (AB B)) (F0 m 83 ls []) := by
  exact loopN_ind (z := z) (body := fun rc σ => g_X11_transliterate_83 rc  σ.1 σ.2.1 σ.2.2)
    (P := fun σ => ∀ (H : Heap) (locs : List Loc) (ls : Array Slot), HS D B Y σ.2.2 s H locs → lv_has ls 7 [(0, .ref (B + 713)), (2, .int σ.1), (6, .int σ.2.1)] → W p l e (RM 4 0 0) s m args below meth c H locs 0 0 (MQ below (QG D B Y (some (.int z.1)) z.2 True) args s 0 0 (AB B)) (F0 m 83 ls []))
    (fun rc hrec σ hf  H locs ls hH hl => tb_X11_transliterate_83 C (fun v2 v6 w hr  H locs ls hH hl => hrec (v2, v6, w) hr  H locs ls hH hl)   hH hl hf) FU (v2, v6, w) hf  H locs ls hH hl
set_option maxRecDepth 100000 in
set_option maxHeartbeats 4000000 in
theorem t_X11_transliterate_62 {D : va_G} {B : Nat} {Y : Nat → ClassId} {p : Program} {l : Launch} {e : Env} {s : State} {m : MethodId} {args : Array Value} {below : List Frame} {meth : Method} {c : Code} {z : (Int32 × Wd)} {H : Heap} {locs : List Loc} {ls : Array Slot} {w : Wd} {v2 : Int32} {t1 : Int32} (C : CX D B Y p s m args meth c cX11_transliterate 7 RX11 (some .int))     (hH : HS D B Y w s H locs) (hl : lv_has ls 7 [(0, .ref (B + 713)), (2, .int v2)]) (hf : f_X11_transliterate_62 v2 t1 w = some z) : W p l e (RM 4 0 0) s m args below meth c H locs 0 0 (MQ below (QG D B Y (some (.int z.1)) z.2 True) args s 0 0 (AB B)) (F0 m 62 ls [.int t1, .ref (B + 713)]) := by
  have hx := C.1
  have hb := C.2.1
  unfold f_X11_transliterate_62 at hf
  obtain ⟨x2, w1, hc, hf⟩ := bd_some hf
  refine q_callV1 (v := .int x2) (As := [.int t1]) C hH (ci := 11) rfl (by omega) gk_X11_118 yd_X11_holds (by omega) (by omega) kc_713 (c_X11_holds hc) hl.1 rfl (Nat.le_of_ble_eq_true rfl) dX11_transliterate_62 ⟨by decide, by decide⟩ (fun H locs hH z_x2 => ?_)
  refine b_if_ne (tgt := 70) hx hb hf dX11_transliterate_65 (by decide) (fun hf => ?_) (fun hf => ?_)
  · refine lv_aload_n hx hb dX11_transliterate_70 rfl (lv_at hl 0 rfl) ?_
    refine fg_X11_19 C hH dX11_transliterate_71 ?_
    refine lv_iload_n hx hb dX11_transliterate_74 rfl (lv_at hl 1 rfl) ?_
    refine lv_aload_n hx hb dX11_transliterate_75 rfl (lv_at hl 0 rfl) ?_
    refine fg_X11_158 C hH dX11_transliterate_76 ?_
    refine g_iast C hH kc_717 hf dX11_transliterate_79 (fun w3 H locs hf hH => ?_)
    refine lv_iconst (v := (0 : Int32)) hx hb dX11_transliterate_80 (by decide) ?_
    refine lv_istore (lv' := [(6, .int (0 : Int32)), (0, .ref (B + 713)), (2, .int v2)]) hx hb dX11_transliterate_81 hl (by decide) rfl (fun ls hl => ?_)
    exact t_X11_transliterate_83 C hH (lv_sub hl [1, 2, 0] rfl) hf
  · refine lv_iconst (v := (0 : Int32)) hx hb dX11_transliterate_68 (by decide) ?_
    cases hf
    exact q_reti C hH trivial dX11_transliterate_69
set_option maxRecDepth 100000 in
set_option maxHeartbeats 4000000 in
theorem t_X11_transliterate_40 {D : va_G} {B : Nat} {Y : Nat → ClassId} {p : Program} {l : Launch} {e : Env} {s : State} {m : MethodId} {args : Array Value} {below : List Frame} {meth : Method} {c : Code} {z : (Int32 × Wd)} {H : Heap} {locs : List Loc} {ls : Array Slot} {w : Wd} {v2 : Int32} {v4 : Int32} {t0 : Int32} (C : CX D B Y p s m args meth c cX11_transliterate 7 RX11 (some .int))    (z_v4 : isZ v4) (z_t0 : isZ t0) (hH : HS D B Y w s H locs) (hl : lv_has ls 7 [(0, .ref (B + 713)), (2, .int v2), (4, .int v4)]) (hf : f_X11_transliterate_40 v2 v4 t0 w = some z) : W p l e (RM 4 0 0) s m args below meth c H locs 0 0 (MQ below (QG D B Y (some (.int z.1)) z.2 True) args s 0 0 (AB B)) (F0 m 40 ls [.int t0]) := by
  have hx := C.1
  have hb := C.2.1
  unfold f_X11_transliterate_40 at hf
  refine lv_istore (lv' := [(5, .int t0), (0, .ref (B + 713)), (2, .int v2), (4, .int v4)]) hx hb dX11_transliterate_40 hl (by decide) rfl (fun ls hl => ?_)
  refine lv_aload_n hx hb dX11_transliterate_42 rfl (lv_at hl 1 rfl) ?_
  refine lv_iload hx hb dX11_transliterate_43 (lv_at hl 3 rfl) ?_
  refine b_if_ne (tgt := 52) hx hb hf dX11_transliterate_45 (by decide) (fun hf => ?_) (fun hf => ?_)
  · refine lv_iload hx hb dX11_transliterate_52 (lv_at hl 0 rfl) ?_
    refine b_if_eq (tgt := 61) hx hb hf dX11_transliterate_54 (by decide) (fun hf => ?_) (fun hf => ?_)
    · refine lv_iconst (v := (2 : Int32)) hx hb dX11_transliterate_61 (by decide) ?_
      exact t_X11_transliterate_62 C hH (lv_sub hl [1, 2] rfl) hf
    · refine lv_iconst (v := (0 : Int32)) hx hb dX11_transliterate_57 (by decide) ?_
      refine lv_goto (tgt := 62) hx hb dX11_transliterate_58 (by decide) ?_
      exact t_X11_transliterate_62 C hH (lv_sub hl [1, 2] rfl) hf
  · refine lv_iconst (v := (1 : Int32)) hx hb dX11_transliterate_48 (by decide) ?_
    refine lv_goto (tgt := 62) hx hb dX11_transliterate_49 (by decide) ?_
    exact t_X11_transliterate_62 C hH (lv_sub hl [1, 2] rfl) hf
set_option maxRecDepth 100000 in
set_option maxHeartbeats 4000000 in
theorem t_X11_transliterate_39 {D : va_G} {B : Nat} {Y : Nat → ClassId} {p : Program} {l : Launch} {e : Env} {s : State} {m : MethodId} {args : Array Value} {below : List Frame} {meth : Method} {c : Code} {z : (Int32 × Wd)} {H : Heap} {locs : List Loc} {ls : Array Slot} {w : Wd} {v2 : Int32} {v4 : Int32} (C : CX D B Y p s m args meth c cX11_transliterate 7 RX11 (some .int))    (z_v4 : isZ v4) (hH : HS D B Y w s H locs) (hl : lv_has ls 7 [(0, .ref (B + 713)), (2, .int v2), (4, .int v4)]) (hf : f_X11_transliterate_39 v2 v4 w = some z) : W p l e (RM 4 0 0) s m args below meth c H locs 0 0 (MQ below (QG D B Y (some (.int z.1)) z.2 True) args s 0 0 (AB B)) (F0 m 39 ls []) := by
  have hx := C.1
  have hb := C.2.1
  unfold f_X11_transliterate_39 at hf
  refine lv_iconst (v := (0 : Int32)) hx hb dX11_transliterate_39 (by decide) ?_
  exact t_X11_transliterate_40 C z_v4 isZ_0 hH (lv_sub hl [0, 1, 2] rfl) hf
set_option maxRecDepth 100000 in
set_option maxHeartbeats 4000000 in
theorem t_X11_transliterate_19 {D : va_G} {B : Nat} {Y : Nat → ClassId} {p : Program} {l : Launch} {e : Env} {s : State} {m : MethodId} {args : Array Value} {below : List Frame} {meth : Method} {c : Code} {z : (Int32 × Wd)} {H : Heap} {locs : List Loc} {ls : Array Slot} {w : Wd} {v1 : Int32} {v2 : Int32} {v3 : Int32} {t0 : Int32} (C : CX D B Y p s m args meth c cX11_transliterate 7 RX11 (some .int))    (z_v3 : isZ v3) (z_t0 : isZ t0) (hH : HS D B Y w s H locs) (hl : lv_has ls 7 [(0, .ref (B + 713)), (1, .int v1), (2, .int v2), (3, .int v3)]) (hf : f_X11_transliterate_19 v1 v2 v3 t0 w = some z) : W p l e (RM 4 0 0) s m args below meth c H locs 0 0 (MQ below (QG D B Y (some (.int z.1)) z.2 True) args s 0 0 (AB B)) (F0 m 19 ls [.int t0]) := by
  have hx := C.1
  have hb := C.2.1
  unfold f_X11_transliterate_19 at hf
  refine lv_istore (lv' := [(4, .int t0), (0, .ref (B + 713)), (1, .int v1), (2, .int v2), (3, .int v3)]) hx hb dX11_transliterate_19 hl (by decide) rfl (fun ls hl => ?_)
  refine lv_iload hx hb dX11_transliterate_21 (lv_at hl 0 rfl) ?_
  refine b_if_eq (tgt := 39) hx hb hf dX11_transliterate_23 (by decide) (fun hf => ?_) (fun hf => ?_)
  · exact t_X11_transliterate_39 C z_t0 hH (lv_sub hl [1, 3, 0] rfl) hf
  · refine lv_aload_n hx hb dX11_transliterate_26 rfl (lv_at hl 1 rfl) ?_
    refine lv_iload_n hx hb dX11_transliterate_27 rfl (lv_at hl 2 rfl) ?_
    refine lv_iload_n hx hb dX11_transliterate_28 rfl (lv_at hl 4 rfl) ?_
    obtain ⟨x2, w1, hc, hf⟩ := bd_some hf
    refine q_callV1 (v := .int x2) (As := [.int v1, .int v3]) C hH (ci := 11) rfl (by omega) gk_X11_331 yd_X11_transliterated (by omega) (by omega) kc_713 (c_X11_transliterated z_v3 hc) hl.1 rfl (Nat.le_of_ble_eq_true rfl) dX11_transliterate_29 ⟨by decide, by decide⟩ (fun H locs hH z_x2 => ?_)
    refine b_if_eq (tgt := 39) hx hb hf dX11_transliterate_32 (by decide) (fun hf => ?_) (fun hf => ?_)
    · exact t_X11_transliterate_39 C z_t0 hH (lv_sub hl [1, 3, 0] rfl) hf
    · refine lv_iconst (v := (1 : Int32)) hx hb dX11_transliterate_35 (by decide) ?_
      refine lv_goto (tgt := 40) hx hb dX11_transliterate_36 (by decide) ?_
      exact t_X11_transliterate_40 C z_t0 isZ_1 hH (lv_sub hl [1, 3, 0] rfl) hf
set_option maxRecDepth 100000 in
set_option maxHeartbeats 4000000 in
theorem t_X11_transliterate_18 {D : va_G} {B : Nat} {Y : Nat → ClassId} {p : Program} {l : Launch} {e : Env} {s : State} {m : MethodId} {args : Array Value} {below : List Frame} {meth : Method} {c : Code} {z : (Int32 × Wd)} {H : Heap} {locs : List Loc} {ls : Array Slot} {w : Wd} {v1 : Int32} {v2 : Int32} {v3 : Int32} (C : CX D B Y p s m args meth c cX11_transliterate 7 RX11 (some .int))    (z_v3 : isZ v3) (hH : HS D B Y w s H locs) (hl : lv_has ls 7 [(0, .ref (B + 713)), (1, .int v1), (2, .int v2), (3, .int v3)]) (hf : f_X11_transliterate_18 v1 v2 v3 w = some z) : W p l e (RM 4 0 0) s m args below meth c H locs 0 0 (MQ below (QG D B Y (some (.int z.1)) z.2 True) args s 0 0 (AB B)) (F0 m 18 ls []) := by
  have hx := C.1
  have hb := C.2.1
  unfold f_X11_transliterate_18 at hf
  refine lv_iconst (v := (0 : Int32)) hx hb dX11_transliterate_18 (by decide) ?_
  exact t_X11_transliterate_19 C z_v3 isZ_0 hH (lv_sub hl [0, 1, 2, 3] rfl) hf
set_option maxRecDepth 100000 in
set_option maxHeartbeats 4000000 in
theorem t_X11_transliterate_0 {D : va_G} {B : Nat} {Y : Nat → ClassId} {p : Program} {l : Launch} {e : Env} {s : State} {m : MethodId} {args : Array Value} {below : List Frame} {meth : Method} {c : Code} {z : (Int32 × Wd)} {H : Heap} {locs : List Loc} {ls : Array Slot} {w : Wd} {v1 : Int32} {v2 : Int32} {v3 : Int32} (C : CX D B Y p s m args meth c cX11_transliterate 7 RX11 (some .int))    (z_v3 : isZ v3) (hH : HS D B Y w s H locs) (hl : lv_has ls 7 [(0, .ref (B + 713)), (1, .int v1), (2, .int v2), (3, .int v3)]) (hf : f_X11_transliterate v1 v2 v3 w = some z) : W p l e (RM 4 0 0) s m args below meth c H locs 0 0 (MQ below (QG D B Y (some (.int z.1)) z.2 True) args s 0 0 (AB B)) (F0 m 0 ls []) := by
  have hx := C.1
  have hb := C.2.1
  unfold f_X11_transliterate at hf
  refine lv_iload_n hx hb dX11_transliterate_0 rfl (lv_at hl 1 rfl) ?_
  obtain ⟨x2, w1, hc, hf⟩ := bd_some hf
  refine q_callS1 (v := .int x2) (As := [.int v1]) C hH gk_X11_145 yd_X11_isSlot (by omega) (by omega) (c_X11_isSlot hc) hl.1 rfl (Nat.le_of_ble_eq_true rfl) dX11_transliterate_1 ⟨by decide, by decide⟩ (fun H locs hH z_x2 => ?_)
  refine b_if_eq (tgt := 18) hx hb hf dX11_transliterate_4 (by decide) (fun hf => ?_) (fun hf => ?_)
  · exact t_X11_transliterate_18 C z_v3 hH (lv_sub hl [0, 1, 2, 3] rfl) hf
  · refine lv_iload_n hx hb dX11_transliterate_7 rfl (lv_at hl 2 rfl) ?_
    obtain ⟨x4, w3, hc, hf⟩ := bd_some hf
    refine q_callS1 (v := .int x4) (As := [.int v2]) C hH gk_X11_145 yd_X11_isSlot (by omega) (by omega) (c_X11_isSlot hc) hl.1 rfl (Nat.le_of_ble_eq_true rfl) dX11_transliterate_8 ⟨by decide, by decide⟩ (fun H locs hH z_x4 => ?_)
    refine b_if_eq (tgt := 18) hx hb hf dX11_transliterate_11 (by decide) (fun hf => ?_) (fun hf => ?_)
    · exact t_X11_transliterate_18 C z_v3 hH (lv_sub hl [0, 1, 2, 3] rfl) hf
    · refine lv_iconst (v := (1 : Int32)) hx hb dX11_transliterate_14 (by decide) ?_
      refine lv_goto (tgt := 19) hx hb dX11_transliterate_15 (by decide) ?_
      exact t_X11_transliterate_19 C z_v3 isZ_1 hH (lv_sub hl [0, 1, 2, 3] rfl) hf
set_option maxRecDepth 100000 in
theorem c_X11_transliterate {l : Launch} {D : va_G} {B : Nat} {Y : Nat → ClassId} {v1 : Int32} {v2 : Int32} {v3 : Int32} {w : Wd} {r : Int32} {w1 : Wd}  (z_v3 : isZ v3) (hf : f_X11_transliterate v1 v2 v3 w = some (r, w1)) : CM l D B Y yX11_transliterate cX11_transliterate 7 (some .int) 4 [.ref (B + 713), .int v1, .int v2, .int v3] w (some (.int r)) w1 True :=
  CM_of (by decide +kernel) (Nat.le_of_ble_eq_true rfl) (fun p e s m args below meth c ls C hH hl => t_X11_transliterate_0 C z_v3 hH (lv_sub hl [0, 1, 2, 3] rfl) hf)
/-! LetterTablesModel.classFor -/
set_option maxRecDepth 100000 in
set_option maxHeartbeats 4000000 in
theorem t_X11_classFor_83 {D : va_G} {B : Nat} {Y : Nat → ClassId} {p : Program} {l : Launch} {e : Env} {s : State} {m : MethodId} {args : Array Value} {below : List Frame} {meth : Method} {c : Code} {z : (Int32 × Wd)} {H : Heap} {locs : List Loc} {ls : Array Slot} {w : Wd} {v1 : Int32} {v2 : Int32} {v3 : Int32} {v4 : Int32} {t0 : Int32} (C : CX D B Y p s m args meth c cX11_classFor 6 RX11 (some .int))  {rc_2 : Int32 × Int32 × Int32 × Wd → Option (Int32 × Wd)} (hr_2 : ∀ (v1 : Int32) (v2 : Int32) (v3 : Int32) (w : Wd), rc_2 (v1, v2, v3, w) = some z → ∀ (H : Heap) (locs : List Loc) (ls : Array Slot), HS D B Y w s H locs → lv_has ls 6 [(0, .ref (B + 713)), (1, .int v1), (2, .int v2), (3, .int v3)] → W p l e (RM 1 0 0) s m args below meth c H locs 0 0 (MQ below (QG D B Y (some (.int z.1)) z.2 True) args s 0 0 (AB B)) (F0 m 2 ls []))   (z_t0 : isZ t0) (hH : HS D B Y w s H locs) (hl : lv_has ls 6 [(0, .ref (B + 713)), (1, .int v1), (2, .int v2), (3, .int v3), (4, .int v4)]) (hf : f_X11_classFor_83 rc_2 v1 v2 v3 v4 t0 w = some z) : W p l e (RM 1 0 0) s m args below meth c H locs 0 0 (MQ below (QG D B Y (some (.int z.1)) z.2 True) args s 0 0 (AB B)) (F0 m 83 ls [.int t0]) := by
  have hx := C.1
  have hb := C.2.1
  unfold f_X11_classFor_83 at hf
  refine lv_istore (lv' := [(5, .int t0), (0, .ref (B + 713)), (1, .int v1), (2, .int v2), (3, .int v3), (4, .int v4)]) hx hb dX11_classFor_83 hl (by decide) rfl (fun ls hl => ?_)
  refine lv_iload_n hx hb dX11_classFor_85 rfl (lv_at hl 3 rfl) ?_
  refine lv_aload_n hx hb dX11_classFor_86 rfl (lv_at hl 1 rfl) ?_
  refine fg_X11_7 C hH dX11_classFor_87 ?_
  refine lv_iload hx hb dX11_classFor_90 (lv_at hl 5 rfl) ?_
  refine lv_iconst (v := (1 : Int32)) hx hb dX11_classFor_92 (by decide) ?_
  refine lv_iadd hx hb dX11_classFor_93 ?_
  refine g_iald C hH kc_714 hf dX11_classFor_94 (fun x1 hf => ?_)
  refine g_irem hx hb hf dX11_classFor_95 (fun hf => ?_)
  refine lv_aload_n hx hb dX11_classFor_96 rfl (lv_at hl 1 rfl) ?_
  refine fg_X11_7 C hH dX11_classFor_97 ?_
  refine lv_iload hx hb dX11_classFor_100 (lv_at hl 5 rfl) ?_
  refine lv_iconst (v := (2 : Int32)) hx hb dX11_classFor_102 (by decide) ?_
  refine lv_iadd hx hb dX11_classFor_103 ?_
  refine g_iald C hH kc_714 hf dX11_classFor_104 (fun x2 hf => ?_)
  refine lv_aload_n hx hb dX11_classFor_105 rfl (lv_at hl 1 rfl) ?_
  refine fg_X11_7 C hH dX11_classFor_106 ?_
  refine lv_iload hx hb dX11_classFor_109 (lv_at hl 5 rfl) ?_
  refine lv_iconst (v := (3 : Int32)) hx hb dX11_classFor_111 (by decide) ?_
  refine lv_iadd hx hb dX11_classFor_112 ?_
  refine g_iald C hH kc_714 hf dX11_classFor_113 (fun x3 hf => ?_)
  obtain ⟨x5, w4, hc, hf⟩ := bd_some hf
  refine q_callS1 (v := .int x5) (As := [.int (v2 - v2 / x1 * x1), .int x2, .int x3]) C hH gk_X11_111 yd_X11_in (by omega) (by omega) (c_X11_in hc) hl.1 rfl (Nat.le_of_ble_eq_true rfl) dX11_classFor_114 ⟨by decide, by decide⟩ (fun H locs hH z_x5 => ?_)
  refine b_if_eq (tgt := 133) hx hb hf dX11_classFor_117 (by decide) (fun hf => ?_) (fun hf => ?_)
  · refine b_let hf (fun x6 he hf => ?_)
    refine lv_iinc (v := x6) (lv' := [(3, .int x6), (5, .int t0), (0, .ref (B + 713)), (1, .int v1), (2, .int v2), (4, .int v4)]) hx hb dX11_classFor_133 hl (k := 4) rfl (by rw [← he]; rfl) (by decide) rfl (fun ls hl => ?_)
    refine lv_goto (tgt := 2) hx hb dX11_classFor_136 (by decide) ?_
    exact hr_2 v1 v2 x6 w4 hf _ _ _ hH (lv_sub hl [2, 3, 4, 0] rfl)
  · refine lv_iload hx hb dX11_classFor_120 (lv_at hl 0 rfl) ?_
    refine b_if_ne (tgt := 133) hx hb hf dX11_classFor_122 (by decide) (fun hf => ?_) (fun hf => ?_)
    · refine b_let hf (fun x7 he hf => ?_)
      refine lv_iinc (v := x7) (lv' := [(3, .int x7), (5, .int t0), (0, .ref (B + 713)), (1, .int v1), (2, .int v2), (4, .int v4)]) hx hb dX11_classFor_133 hl (k := 4) rfl (by rw [← he]; rfl) (by decide) rfl (fun ls hl => ?_)
      refine lv_goto (tgt := 2) hx hb dX11_classFor_136 (by decide) ?_
      exact hr_2 v1 v2 x7 w4 hf _ _ _ hH (lv_sub hl [2, 3, 4, 0] rfl)
    · refine lv_aload_n hx hb dX11_classFor_125 rfl (lv_at hl 1 rfl) ?_
      refine fg_X11_7 C hH dX11_classFor_126 ?_
      refine lv_iload hx hb dX11_classFor_129 (lv_at hl 5 rfl) ?_
      refine g_iald C hH kc_714 hf dX11_classFor_131 (fun x8 hf => ?_)
      cases hf
      exact q_reti C hH trivial dX11_classFor_132
set_option maxRecDepth 100000 in
set_option maxHeartbeats 4000000 in
theorem t_X11_classFor_82 {D : va_G} {B : Nat} {Y : Nat → ClassId} {p : Program} {l : Launch} {e : Env} {s : State} {m : MethodId} {args : Array Value} {below : List Frame} {meth : Method} {c : Code} {z : (Int32 × Wd)} {H : Heap} {locs : List Loc} {ls : Array Slot} {w : Wd} {v1 : Int32} {v2 : Int32} {v3 : Int32} {v4 : Int32} (C : CX D B Y p s m args meth c cX11_classFor 6 RX11 (some .int))  {rc_2 : Int32 × Int32 × Int32 × Wd → Option (Int32 × Wd)} (hr_2 : ∀ (v1 : Int32) (v2 : Int32) (v3 : Int32) (w : Wd), rc_2 (v1, v2, v3, w) = some z → ∀ (H : Heap) (locs : List Loc) (ls : Array Slot), HS D B Y w s H locs → lv_has ls 6 [(0, .ref (B + 713)), (1, .int v1), (2, .int v2), (3, .int v3)] → W p l e (RM 1 0 0) s m args below meth c H locs 0 0 (MQ below (QG D B Y (some (.int z.1)) z.2 True) args s 0 0 (AB B)) (F0 m 2 ls []))    (hH : HS D B Y w s H locs) (hl : lv_has ls 6 [(0, .ref (B + 713)), (1, .int v1), (2, .int v2), (3, .int v3), (4, .int v4)]) (hf : f_X11_classFor_82 rc_2 v1 v2 v3 v4 w = some z) : W p l e (RM 1 0 0) s m args below meth c H locs 0 0 (MQ below (QG D B Y (some (.int z.1)) z.2 True) args s 0 0 (AB B)) (F0 m 82 ls []) := by
  have hx := C.1
  have hb := C.2.1
  unfold f_X11_classFor_82 at hf
  refine lv_iconst (v := (0 : Int32)) hx hb dX11_classFor_82 (by decide) ?_
  exact t_X11_classFor_83 C hr_2 isZ_0 hH (lv_sub hl [0, 1, 2, 3, 4] rfl) hf
set_option maxRecDepth 100000 in
set_option maxHeartbeats 4000000 in
theorem tb_X11_classFor_2 {D : va_G} {B : Nat} {Y : Nat → ClassId} {p : Program} {l : Launch} {e : Env} {s : State} {m : MethodId} {args : Array Value} {below : List Frame} {meth : Method} {c : Code} {z : (Int32 × Wd)} {H : Heap} {locs : List Loc} {ls : Array Slot} {w : Wd} {v1 : Int32} {v2 : Int32} {v3 : Int32} (C : CX D B Y p s m args meth c cX11_classFor 6 RX11 (some .int))  {rc_2 : Int32 × Int32 × Int32 × Wd → Option (Int32 × Wd)} (hr_2 : ∀ (v1 : Int32) (v2 : Int32) (v3 : Int32) (w : Wd), rc_2 (v1, v2, v3, w) = some z → ∀ (H : Heap) (locs : List Loc) (ls : Array Slot), HS D B Y w s H locs → lv_has ls 6 [(0, .ref (B + 713)), (1, .int v1), (2, .int v2), (3, .int v3)] → W p l e (RM 1 0 0) s m args below meth c H locs 0 0 (MQ below (QG D B Y (some (.int z.1)) z.2 True) args s 0 0 (AB B)) (F0 m 2 ls []))    (hH : HS D B Y w s H locs) (hl : lv_has ls 6 [(0, .ref (B + 713)), (1, .int v1), (2, .int v2), (3, .int v3)]) (hf : g_X11_classFor_2 rc_2 v1 v2 v3 w = some z) : W p l e (RM 1 0 0) s m args below meth c H locs 0 0 (MQ below (QG D B Y (some (.int z.1)) z.2 True) args s 0 0 (AB B)) (F0 m 2 ls []) := by
  have hx := C.1
  have hb := C.2.1
  unfold g_X11_classFor_2 at hf
  refine lv_iload_n hx hb dX11_classFor_2 rfl (lv_at hl 3 rfl) ?_
  refine lv_aload_n hx hb dX11_classFor_3 rfl (lv_at hl 0 rfl) ?_
  refine fg_X11_7 C hH dX11_classFor_4 ?_
  refine lv_sipush (v := (1678 : Int32)) hx hb dX11_classFor_7 (by decide) ?_
  refine lv_iload_n hx hb dX11_classFor_10 rfl (lv_at hl 1 rfl) ?_
  refine lv_iadd hx hb dX11_classFor_11 ?_
  refine g_iald C hH kc_714 hf dX11_classFor_12 (fun x1 hf => ?_)
  refine b_icmp_ge (tgt := 139) hx hb hf dX11_classFor_13 (by decide) (fun hf => ?_) (fun hf => ?_)
  · refine lv_iconst (v := (-1 : Int32)) hx hb dX11_classFor_139 (by decide) ?_
    cases hf
    exact q_reti C hH trivial dX11_classFor_140
  · refine lv_sipush (v := (1680 : Int32)) hx hb dX11_classFor_16 (by decide) ?_
    refine lv_bipush (v := (7 : Int32)) hx hb dX11_classFor_19 (by decide) ?_
    refine lv_iconst (v := (4 : Int32)) hx hb dX11_classFor_21 (by decide) ?_
    refine lv_iload_n hx hb dX11_classFor_22 rfl (lv_at hl 1 rfl) ?_
    refine lv_imul hx hb dX11_classFor_23 ?_
    refine lv_iload_n hx hb dX11_classFor_24 rfl (lv_at hl 3 rfl) ?_
    refine lv_iadd hx hb dX11_classFor_25 ?_
    refine lv_imul hx hb dX11_classFor_26 ?_
    refine lv_iadd hx hb dX11_classFor_27 ?_
    refine b_leti hf (fun x2 hf => ?_)
    refine lv_istore (lv' := [(4, .int x2), (0, .ref (B + 713)), (1, .int v1), (2, .int v2), (3, .int v3)]) hx hb dX11_classFor_28 hl (by decide) rfl (fun ls hl => ?_)
    refine lv_aload_n hx hb dX11_classFor_30 rfl (lv_at hl 1 rfl) ?_
    refine fg_X11_7 C hH dX11_classFor_31 ?_
    refine lv_iload hx hb dX11_classFor_34 (lv_at hl 0 rfl) ?_
    refine lv_iconst (v := (4 : Int32)) hx hb dX11_classFor_36 (by decide) ?_
    refine lv_iadd hx hb dX11_classFor_37 ?_
    refine g_iald C hH kc_714 hf dX11_classFor_38 (fun x3 hf => ?_)
    refine b_if_le (tgt := 82) hx hb hf dX11_classFor_39 (by decide) (fun hf => ?_) (fun hf => ?_)
    · exact t_X11_classFor_82 C hr_2 hH (lv_sub hl [1, 2, 3, 4, 0] rfl) hf
    · refine lv_iload_n hx hb dX11_classFor_42 rfl (lv_at hl 3 rfl) ?_
      refine lv_aload_n hx hb dX11_classFor_43 rfl (lv_at hl 1 rfl) ?_
      refine fg_X11_7 C hH dX11_classFor_44 ?_
      refine lv_iload hx hb dX11_classFor_47 (lv_at hl 0 rfl) ?_
      refine lv_iconst (v := (4 : Int32)) hx hb dX11_classFor_49 (by decide) ?_
      refine lv_iadd hx hb dX11_classFor_50 ?_
      refine g_iald C hH kc_714 hf dX11_classFor_51 (fun x4 hf => ?_)
      refine g_irem hx hb hf dX11_classFor_52 (fun hf => ?_)
      refine lv_aload_n hx hb dX11_classFor_53 rfl (lv_at hl 1 rfl) ?_
      refine fg_X11_7 C hH dX11_classFor_54 ?_
      refine lv_iload hx hb dX11_classFor_57 (lv_at hl 0 rfl) ?_
      refine lv_iconst (v := (5 : Int32)) hx hb dX11_classFor_59 (by decide) ?_
      refine lv_iadd hx hb dX11_classFor_60 ?_
      refine g_iald C hH kc_714 hf dX11_classFor_61 (fun x5 hf => ?_)
      refine lv_aload_n hx hb dX11_classFor_62 rfl (lv_at hl 1 rfl) ?_
      refine fg_X11_7 C hH dX11_classFor_63 ?_
      refine lv_iload hx hb dX11_classFor_66 (lv_at hl 0 rfl) ?_
      refine lv_bipush (v := (6 : Int32)) hx hb dX11_classFor_68 (by decide) ?_
      refine lv_iadd hx hb dX11_classFor_70 ?_
      refine g_iald C hH kc_714 hf dX11_classFor_71 (fun x6 hf => ?_)
      obtain ⟨x8, w7, hc, hf⟩ := bd_some hf
      refine q_callS1 (v := .int x8) (As := [.int (v2 - v2 / x4 * x4), .int x5, .int x6]) C hH gk_X11_111 yd_X11_in (by omega) (by omega) (c_X11_in hc) hl.1 rfl (Nat.le_of_ble_eq_true rfl) dX11_classFor_72 ⟨by decide, by decide⟩ (fun H locs hH z_x8 => ?_)
      refine b_if_eq (tgt := 82) hx hb hf dX11_classFor_75 (by decide) (fun hf => ?_) (fun hf => ?_)
      · exact t_X11_classFor_82 C hr_2 hH (lv_sub hl [1, 2, 3, 4, 0] rfl) hf
      · refine lv_iconst (v := (1 : Int32)) hx hb dX11_classFor_78 (by decide) ?_
        refine lv_goto (tgt := 83) hx hb dX11_classFor_79 (by decide) ?_
        exact t_X11_classFor_83 C hr_2 isZ_1 hH (lv_sub hl [1, 2, 3, 4, 0] rfl) hf
set_option maxRecDepth 100000 in
set_option maxHeartbeats 4000000 in
theorem t_X11_classFor_2 {D : va_G} {B : Nat} {Y : Nat → ClassId} {p : Program} {l : Launch} {e : Env} {s : State} {m : MethodId} {args : Array Value} {below : List Frame} {meth : Method} {c : Code} {z : (Int32 × Wd)} {H : Heap} {locs : List Loc} {ls : Array Slot} {w : Wd} {v1 : Int32} {v2 : Int32} {v3 : Int32} (C : CX D B Y p s m args meth c cX11_classFor 6 RX11 (some .int))     (hH : HS D B Y w s H locs) (hl : lv_has ls 6 [(0, .ref (B + 713)), (1, .int v1), (2, .int v2), (3, .int v3)]) (hf : f_X11_classFor_2 v1 v2 v3 w = some z) : W p l e (RM 1 0 0) s m args below meth c H locs 0 0 (MQ below (QG D B Y (some (.int z.1)) z.2 True) args s 0 0 (AB B)) (F0 m 2 ls []) := by
  exact loopN_ind (z := z) (body := fun rc σ => g_X11_classFor_2 rc  σ.1 σ.2.1 σ.2.2.1 σ.2.2.2)
    (P := fun σ => ∀ (H : Heap) (locs : List Loc) (ls : Array Slot), HS D B Y σ.2.2.2 s H locs → lv_has ls 6 [(0, .ref (B + 713)), (1, .int σ.1), (2, .int σ.2.1), (3, .int σ.2.2.1)] → W p l e (RM 1 0 0) s m args below meth c H locs 0 0 (MQ below (QG D B Y (some (.int z.1)) z.2 True) args s 0 0 (AB B)) (F0 m 2 ls []))
    (fun rc hrec σ hf  H locs ls hH hl => tb_X11_classFor_2 C (fun v1 v2 v3 w hr  H locs ls hH hl => hrec (v1, v2, v3, w) hr  H locs ls hH hl)   hH hl hf) FU (v1, v2, v3, w) hf  H locs ls hH hl
set_option maxRecDepth 100000 in
set_option maxHeartbeats 4000000 in
theorem t_X11_classFor_0 {D : va_G} {B : Nat} {Y : Nat → ClassId} {p : Program} {l : Launch} {e : Env} {s : State} {m : MethodId} {args : Array Value} {below : List Frame} {meth : Method} {c : Code} {z : (Int32 × Wd)} {H : Heap} {locs : List Loc} {ls : Array Slot} {w : Wd} {v1 : Int32} {v2 : Int32} (C : CX D B Y p s m args meth c cX11_classFor 6 RX11 (some .int))     (hH : HS D B Y w s H locs) (hl : lv_has ls 6 [(0, .ref (B + 713)), (1, .int v1), (2, .int v2)]) (hf : f_X11_classFor v1 v2 w = some z) : W p l e (RM 1 0 0) s m args below meth c H locs 0 0 (MQ below (QG D B Y (some (.int z.1)) z.2 True) args s 0 0 (AB B)) (F0 m 0 ls []) := by
  have hx := C.1
  have hb := C.2.1
  unfold f_X11_classFor at hf
  refine lv_iconst (v := (0 : Int32)) hx hb dX11_classFor_0 (by decide) ?_
  refine lv_istore_n (lv' := [(3, .int (0 : Int32)), (0, .ref (B + 713)), (1, .int v1), (2, .int v2)]) hx hb dX11_classFor_1 rfl hl (by decide) rfl (fun ls hl => ?_)
  exact t_X11_classFor_2 C hH (lv_sub hl [1, 2, 3, 0] rfl) hf
set_option maxRecDepth 100000 in
theorem c_X11_classFor {l : Launch} {D : va_G} {B : Nat} {Y : Nat → ClassId} {v1 : Int32} {v2 : Int32} {w : Wd} {r : Int32} {w1 : Wd}   (hf : f_X11_classFor v1 v2 w = some (r, w1)) : CM l D B Y yX11_classFor cX11_classFor 6 (some .int) 1 [.ref (B + 713), .int v1, .int v2] w (some (.int r)) w1 True :=
  CM_of (by decide +kernel) (Nat.le_of_ble_eq_true rfl) (fun p e s m args below meth c ls C hH hl => t_X11_classFor_0 C  hH (lv_sub hl [0, 1, 2] rfl) hf)
/-! LetterTablesModel.classOf -/
set_option maxRecDepth 100000 in
set_option maxHeartbeats 4000000 in
theorem t_X11_classOf_28 {D : va_G} {B : Nat} {Y : Nat → ClassId} {p : Program} {l : Launch} {e : Env} {s : State} {m : MethodId} {args : Array Value} {below : List Frame} {meth : Method} {c : Code} {z : (Int32 × Wd)} {H : Heap} {locs : List Loc} {ls : Array Slot} {w : Wd} {v1 : Int32} {v2 : Int32} {t1 : Int32} (C : CX D B Y p s m args meth c cX11_classOf 3 RX11 (some .int))     (hH : HS D B Y w s H locs) (hl : lv_has ls 3 [(0, .ref (B + 713)), (1, .int v1), (2, .int v2)]) (hf : f_X11_classOf_28 v1 v2 t1 w = some z) : W p l e (RM 2 0 0) s m args below meth c H locs 0 0 (MQ below (QG D B Y (some (.int z.1)) z.2 True) args s 0 0 (AB B)) (F0 m 28 ls [.int t1, .ref (B + 713)]) := by
  have hx := C.1
  have hb := C.2.1
  unfold f_X11_classOf_28 at hf
  obtain ⟨x2, w1, hc, hf⟩ := bd_some hf
  refine q_callV1 (v := .int x2) (As := [.int t1]) C hH (ci := 11) rfl (by omega) gk_X11_118 yd_X11_holds (by omega) (by omega) kc_713 (c_X11_holds hc) hl.1 rfl (Nat.le_of_ble_eq_true rfl) dX11_classOf_28 ⟨by decide, by decide⟩ (fun H locs hH z_x2 => ?_)
  refine b_if_eq (tgt := 43) hx hb hf dX11_classOf_31 (by decide) (fun hf => ?_) (fun hf => ?_)
  · refine lv_iconst (v := (0 : Int32)) hx hb dX11_classOf_43 (by decide) ?_
    cases hf
    exact q_reti C hH trivial dX11_classOf_44
  · refine lv_aload_n hx hb dX11_classOf_34 rfl (lv_at hl 0 rfl) ?_
    refine lv_iload_n hx hb dX11_classOf_35 rfl (lv_at hl 1 rfl) ?_
    refine lv_iload_n hx hb dX11_classOf_36 rfl (lv_at hl 2 rfl) ?_
    obtain ⟨x4, w3, hc, hf⟩ := bd_some hf
    refine q_callV1 (v := .int x4) (As := [.int v1, .int v2]) C hH (ci := 11) rfl (by omega) gk_X11_335 yd_X11_classFor (by omega) (by omega) kc_713 (c_X11_classFor hc) hl.1 rfl (Nat.le_of_ble_eq_true rfl) dX11_classOf_37 ⟨by decide, by decide⟩ (fun H locs hH hP => ?_)
    refine lv_goto (tgt := 44) hx hb dX11_classOf_40 (by decide) ?_
    cases hf
    exact q_reti C hH trivial dX11_classOf_44
set_option maxRecDepth 100000 in
set_option maxHeartbeats 4000000 in
theorem t_X11_classOf_0 {D : va_G} {B : Nat} {Y : Nat → ClassId} {p : Program} {l : Launch} {e : Env} {s : State} {m : MethodId} {args : Array Value} {below : List Frame} {meth : Method} {c : Code} {z : (Int32 × Wd)} {H : Heap} {locs : List Loc} {ls : Array Slot} {w : Wd} {v1 : Int32} {v2 : Int32} (C : CX D B Y p s m args meth c cX11_classOf 3 RX11 (some .int))     (hH : HS D B Y w s H locs) (hl : lv_has ls 3 [(0, .ref (B + 713)), (1, .int v1), (2, .int v2)]) (hf : f_X11_classOf v1 v2 w = some z) : W p l e (RM 2 0 0) s m args below meth c H locs 0 0 (MQ below (QG D B Y (some (.int z.1)) z.2 True) args s 0 0 (AB B)) (F0 m 0 ls []) := by
  have hx := C.1
  have hb := C.2.1
  unfold f_X11_classOf at hf
  refine lv_aload_n hx hb dX11_classOf_0 rfl (lv_at hl 0 rfl) ?_
  refine lv_iload_n hx hb dX11_classOf_1 rfl (lv_at hl 1 rfl) ?_
  obtain ⟨x2, w1, hc, hf⟩ := bd_some hf
  refine q_callS1 (v := .int x2) (As := [.int v1]) C hH gk_X11_131 yd_X11_isLanguage (by omega) (by omega) (c_X11_isLanguage hc) hl.1 rfl (Nat.le_of_ble_eq_true rfl) dX11_classOf_2 ⟨by decide, by decide⟩ (fun H locs hH z_x2 => ?_)
  refine b_if_ne (tgt := 12) hx hb hf dX11_classOf_5 (by decide) (fun hf => ?_) (fun hf => ?_)
  · refine lv_iload_n hx hb dX11_classOf_12 rfl (lv_at hl 2 rfl) ?_
    refine lv_iconst (v := (0 : Int32)) hx hb dX11_classOf_13 (by decide) ?_
    refine lv_ldcw (v := (999999 : Int32)) hx hb C.2.2.2.1 (C.2.2.2.2.1 _ wd_1956) dX11_classOf_14 ?_
    obtain ⟨x4, w3, hc, hf⟩ := bd_some hf
    refine q_callS1 (v := .int x4) (As := [.int v2, .int (0 : Int32), .int (999999 : Int32)]) C hH gk_X11_111 yd_X11_in (by omega) (by omega) (c_X11_in hc) hl.1 rfl (Nat.le_of_ble_eq_true rfl) dX11_classOf_17 ⟨by decide, by decide⟩ (fun H locs hH z_x4 => ?_)
    refine b_if_eq (tgt := 27) hx hb hf dX11_classOf_20 (by decide) (fun hf => ?_) (fun hf => ?_)
    · refine lv_iconst (v := (2 : Int32)) hx hb dX11_classOf_27 (by decide) ?_
      exact t_X11_classOf_28 C hH (lv_sub hl [0, 1, 2] rfl) hf
    · refine lv_iconst (v := (0 : Int32)) hx hb dX11_classOf_23 (by decide) ?_
      refine lv_goto (tgt := 28) hx hb dX11_classOf_24 (by decide) ?_
      exact t_X11_classOf_28 C hH (lv_sub hl [0, 1, 2] rfl) hf
  · refine lv_iconst (v := (1 : Int32)) hx hb dX11_classOf_8 (by decide) ?_
    refine lv_goto (tgt := 28) hx hb dX11_classOf_9 (by decide) ?_
    exact t_X11_classOf_28 C hH (lv_sub hl [0, 1, 2] rfl) hf
set_option maxRecDepth 100000 in
theorem c_X11_classOf {l : Launch} {D : va_G} {B : Nat} {Y : Nat → ClassId} {v1 : Int32} {v2 : Int32} {w : Wd} {r : Int32} {w1 : Wd}   (hf : f_X11_classOf v1 v2 w = some (r, w1)) : CM l D B Y yX11_classOf cX11_classOf 3 (some .int) 2 [.ref (B + 713), .int v1, .int v2] w (some (.int r)) w1 True :=
  CM_of (by decide +kernel) (Nat.le_of_ble_eq_true rfl) (fun p e s m args below meth c ls C hH hl => t_X11_classOf_0 C  hH (lv_sub hl [0, 1, 2] rfl) hf)
/-! LetterTablesModel.puts -/
set_option maxRecDepth 100000 in
set_option maxHeartbeats 4000000 in
theorem t_X11_puts_0 {D : va_G} {B : Nat} {Y : Nat → ClassId} {p : Program} {l : Launch} {e : Env} {s : State} {m : MethodId} {args : Array Value} {below : List Frame} {meth : Method} {c : Code} {z : (Unit × Wd)} {H : Heap} {locs : List Loc} {ls : Array Slot} {w : Wd} {v1 : Int32} (C : CX D B Y p s m args meth c cX11_puts 2 RX11 none)     (hH : HS D B Y w s H locs) (hl : lv_has ls 2 [(0, .ref (B + 713)), (1, .int v1)]) (hf : f_X11_puts v1 w = some z) : W p l e (RM 0 0 0) s m args below meth c H locs 0 0 (MQ below (QG D B Y none z.2 True) args s 0 0 (AB B)) (F0 m 0 ls []) := by
  have hx := C.1
  have hb := C.2.1
  unfold f_X11_puts at hf
  refine lv_aload_n hx hb dX11_puts_0 rfl (lv_at hl 0 rfl) ?_
  refine fg_X11_338 C hH dX11_puts_1 ?_
  refine lv_sipush (v := (200 : Int32)) hx hb dX11_puts_4 (by decide) ?_
  refine b_icmp_ge (tgt := 30) hx hb hf dX11_puts_7 (by decide) (fun hf => ?_) (fun hf => ?_)
  · cases hf
    exact q_retv C hH trivial dX11_puts_30
  · refine lv_aload_n hx hb dX11_puts_10 rfl (lv_at hl 0 rfl) ?_
    refine fg_X11_25 C hH dX11_puts_11 ?_
    refine lv_aload_n hx hb dX11_puts_14 rfl (lv_at hl 0 rfl) ?_
    refine fg_X11_338 C hH dX11_puts_15 ?_
    refine lv_iload_n hx hb dX11_puts_18 rfl (lv_at hl 1 rfl) ?_
    refine g_iast C hH kc_719 hf dX11_puts_19 (fun w1 H locs hf hH => ?_)
    refine lv_aload_n hx hb dX11_puts_20 rfl (lv_at hl 0 rfl) ?_
    refine lv_dup hx hb dX11_puts_21 rfl ?_
    refine fg_X11_338 C hH dX11_puts_22 ?_
    refine lv_iconst (v := (1 : Int32)) hx hb dX11_puts_25 (by decide) ?_
    refine lv_iadd hx hb dX11_puts_26 ?_
    refine fp_X11_338 C hH dX11_puts_27 (fun H locs hH => ?_)
    refine b_w hf hH (fun w2 hf hH => ?_)
    cases hf
    exact q_retv C hH trivial dX11_puts_30
set_option maxRecDepth 100000 in
theorem c_X11_puts {l : Launch} {D : va_G} {B : Nat} {Y : Nat → ClassId} {v1 : Int32} {w : Wd} {r : Unit} {w1 : Wd}   (hf : f_X11_puts v1 w = some (r, w1)) : CM l D B Y yX11_puts cX11_puts 2 none 0 [.ref (B + 713), .int v1] w none w1 True :=
  CM_of (by decide +kernel) (Nat.le_of_ble_eq_true rfl) (fun p e s m args below meth c ls C hH hl => t_X11_puts_0 C  hH (lv_sub hl [0, 1] rfl) hf)
/-! LetterTablesModel.putsNumber -/
set_option maxRecDepth 100000 in
set_option maxHeartbeats 4000000 in
theorem tb_X11_putsNumber_18 {D : va_G} {B : Nat} {Y : Nat → ClassId} {p : Program} {l : Launch} {e : Env} {s : State} {m : MethodId} {args : Array Value} {below : List Frame} {meth : Method} {c : Code} {z : (Unit × Wd)} {H : Heap} {locs : List Loc} {ls : Array Slot} {w : Wd} {v1 : Int32} {v2 : Int32} (C : CX D B Y p s m args meth c cX11_putsNumber 3 RX11 none)  {rc_18 : Int32 × Int32 × Wd → Option (Unit × Wd)} (hr_18 : ∀ (v1 : Int32) (v2 : Int32) (w : Wd), rc_18 (v1, v2, w) = some z → ∀ (H : Heap) (locs : List Loc) (ls : Array Slot), HS D B Y w s H locs → lv_has ls 3 [(0, .ref (B + 713)), (1, .int v1), (2, .int v2)] → W p l e (RM 1 0 0) s m args below meth c H locs 0 0 (MQ below (QG D B Y none z.2 True) args s 0 0 (AB B)) (F0 m 18 ls []))    (hH : HS D B Y w s H locs) (hl : lv_has ls 3 [(0, .ref (B + 713)), (1, .int v1), (2, .int v2)]) (hf : g_X11_putsNumber_18 rc_18 v1 v2 w = some z) : W p l e (RM 1 0 0) s m args below meth c H locs 0 0 (MQ below (QG D B Y none z.2 True) args s 0 0 (AB B)) (F0 m 18 ls []) := by
  have hx := C.1
  have hb := C.2.1
  unfold g_X11_putsNumber_18 at hf
  refine lv_iload_n hx hb dX11_putsNumber_18 rfl (lv_at hl 2 rfl) ?_
  refine b_if_le (tgt := 43) hx hb hf dX11_putsNumber_19 (by decide) (fun hf => ?_) (fun hf => ?_)
  · cases hf
    exact q_retv C hH trivial dX11_putsNumber_43
  · refine lv_aload_n hx hb dX11_putsNumber_22 rfl (lv_at hl 0 rfl) ?_
    refine lv_bipush (v := (48 : Int32)) hx hb dX11_putsNumber_23 (by decide) ?_
    refine lv_iload_n hx hb dX11_putsNumber_25 rfl (lv_at hl 1 rfl) ?_
    refine lv_iload_n hx hb dX11_putsNumber_26 rfl (lv_at hl 2 rfl) ?_
    refine g_idiv hx hb hf dX11_putsNumber_27 (fun hf => ?_)
    refine lv_bipush (v := (10 : Int32)) hx hb dX11_putsNumber_28 (by decide) ?_
    refine lv_irem hx hb dX11_putsNumber_30 (by decide) ?_
    refine lv_iadd hx hb dX11_putsNumber_31 ?_
    obtain ⟨u, w1, hc, hf⟩ := bd_some hf
    refine q_callV0 (As := [.int ((48 : Int32) + ((v1 / v2) - (v1 / v2) / (10 : Int32) * (10 : Int32)))]) C hH (ci := 11) rfl (by omega) gk_X11_341 yd_X11_puts (by omega) (by omega) kc_713 (c_X11_puts hc) hl.1 rfl (Nat.le_of_ble_eq_true rfl) dX11_putsNumber_32 ⟨by decide, by decide⟩ (fun H locs hH hP => ?_)
    refine lv_iload_n hx hb dX11_putsNumber_35 rfl (lv_at hl 2 rfl) ?_
    refine lv_bipush (v := (10 : Int32)) hx hb dX11_putsNumber_36 (by decide) ?_
    refine lv_idiv hx hb dX11_putsNumber_38 (by decide) ?_
    refine b_leti hf (fun x2 hf => ?_)
    refine lv_istore_n (lv' := [(2, .int x2), (0, .ref (B + 713)), (1, .int v1)]) hx hb dX11_putsNumber_39 rfl hl (by decide) rfl (fun ls hl => ?_)
    refine lv_goto (tgt := 18) hx hb dX11_putsNumber_40 (by decide) ?_
    exact hr_18 v1 x2 w1 hf _ _ _ hH (lv_sub hl [1, 2, 0] rfl)
set_option maxRecDepth 100000 in
set_option maxHeartbeats 4000000 in
theorem t_X11_putsNumber_18 {D : va_G} {B : Nat} {Y : Nat → ClassId} {p : Program} {l : Launch} {e : Env} {s : State} {m : MethodId} {args : Array Value} {below : List Frame} {meth : Method} {c : Code} {z : (Unit × Wd)} {H : Heap} {locs : List Loc} {ls : Array Slot} {w : Wd} {v1 : Int32} {v2 : Int32} (C : CX D B Y p s m args meth c cX11_putsNumber 3 RX11 none)     (hH : HS D B Y w s H locs) (hl : lv_has ls 3 [(0, .ref (B + 713)), (1, .int v1), (2, .int v2)]) (hf : f_X11_putsNumber_18 v1 v2 w = some z) : W p l e (RM 1 0 0) s m args below meth c H locs 0 0 (MQ below (QG D B Y none z.2 True) args s 0 0 (AB B)) (F0 m 18 ls []) := by
  exact loopN_ind (z := z) (body := fun rc σ => g_X11_putsNumber_18 rc  σ.1 σ.2.1 σ.2.2)
    (P := fun σ => ∀ (H : Heap) (locs : List Loc) (ls : Array Slot), HS D B Y σ.2.2 s H locs → lv_has ls 3 [(0, .ref (B + 713)), (1, .int σ.1), (2, .int σ.2.1)] → W p l e (RM 1 0 0) s m args below meth c H locs 0 0 (MQ below (QG D B Y none z.2 True) args s 0 0 (AB B)) (F0 m 18 ls []))
    (fun rc hrec σ hf  H locs ls hH hl => tb_X11_putsNumber_18 C (fun v1 v2 w hr  H locs ls hH hl => hrec (v1, v2, w) hr  H locs ls hH hl)   hH hl hf) FU (v1, v2, w) hf  H locs ls hH hl
set_option maxRecDepth 100000 in
set_option maxHeartbeats 4000000 in
theorem tb_X11_putsNumber_2 {D : va_G} {B : Nat} {Y : Nat → ClassId} {p : Program} {l : Launch} {e : Env} {s : State} {m : MethodId} {args : Array Value} {below : List Frame} {meth : Method} {c : Code} {z : (Unit × Wd)} {H : Heap} {locs : List Loc} {ls : Array Slot} {w : Wd} {v1 : Int32} {v2 : Int32} (C : CX D B Y p s m args meth c cX11_putsNumber 3 RX11 none)  {rc_2 : Int32 × Int32 × Wd → Option (Unit × Wd)} (hr_2 : ∀ (v1 : Int32) (v2 : Int32) (w : Wd), rc_2 (v1, v2, w) = some z → ∀ (H : Heap) (locs : List Loc) (ls : Array Slot), HS D B Y w s H locs → lv_has ls 3 [(0, .ref (B + 713)), (1, .int v1), (2, .int v2)] → W p l e (RM 1 0 0) s m args below meth c H locs 0 0 (MQ below (QG D B Y none z.2 True) args s 0 0 (AB B)) (F0 m 2 ls []))    (hH : HS D B Y w s H locs) (hl : lv_has ls 3 [(0, .ref (B + 713)), (1, .int v1), (2, .int v2)]) (hf : g_X11_putsNumber_2 rc_2 v1 v2 w = some z) : W p l e (RM 1 0 0) s m args below meth c H locs 0 0 (MQ below (QG D B Y none z.2 True) args s 0 0 (AB B)) (F0 m 2 ls []) := by
  have hx := C.1
  have hb := C.2.1
  unfold g_X11_putsNumber_2 at hf
  refine lv_iload_n hx hb dX11_putsNumber_2 rfl (lv_at hl 1 rfl) ?_
  refine lv_iload_n hx hb dX11_putsNumber_3 rfl (lv_at hl 2 rfl) ?_
  refine g_idiv hx hb hf dX11_putsNumber_4 (fun hf => ?_)
  refine lv_bipush (v := (9 : Int32)) hx hb dX11_putsNumber_5 (by decide) ?_
  refine b_icmp_le (tgt := 18) hx hb hf dX11_putsNumber_7 (by decide) (fun hf => ?_) (fun hf => ?_)
  · exact t_X11_putsNumber_18 C hH (lv_sub hl [0, 1, 2] rfl) hf
  · refine lv_iload_n hx hb dX11_putsNumber_10 rfl (lv_at hl 2 rfl) ?_
    refine lv_bipush (v := (10 : Int32)) hx hb dX11_putsNumber_11 (by decide) ?_
    refine lv_imul hx hb dX11_putsNumber_13 ?_
    refine b_leti hf (fun x1 hf => ?_)
    refine lv_istore_n (lv' := [(2, .int x1), (0, .ref (B + 713)), (1, .int v1)]) hx hb dX11_putsNumber_14 rfl hl (by decide) rfl (fun ls hl => ?_)
    refine lv_goto (tgt := 2) hx hb dX11_putsNumber_15 (by decide) ?_
    exact hr_2 v1 x1 w hf _ _ _ hH (lv_sub hl [1, 2, 0] rfl)
set_option maxRecDepth 100000 in
set_option maxHeartbeats 4000000 in
theorem t_X11_putsNumber_2 {D : va_G} {B : Nat} {Y : Nat → ClassId} {p : Program} {l : Launch} {e : Env} {s : State} {m : MethodId} {args : Array Value} {below : List Frame} {meth : Method} {c : Code} {z : (Unit × Wd)} {H : Heap} {locs : List Loc} {ls : Array Slot} {w : Wd} {v1 : Int32} {v2 : Int32} (C : CX D B Y p s m args meth c cX11_putsNumber 3 RX11 none)     (hH : HS D B Y w s H locs) (hl : lv_has ls 3 [(0, .ref (B + 713)), (1, .int v1), (2, .int v2)]) (hf : f_X11_putsNumber_2 v1 v2 w = some z) : W p l e (RM 1 0 0) s m args below meth c H locs 0 0 (MQ below (QG D B Y none z.2 True) args s 0 0 (AB B)) (F0 m 2 ls []) := by
  exact loopN_ind (z := z) (body := fun rc σ => g_X11_putsNumber_2 rc  σ.1 σ.2.1 σ.2.2)
    (P := fun σ => ∀ (H : Heap) (locs : List Loc) (ls : Array Slot), HS D B Y σ.2.2 s H locs → lv_has ls 3 [(0, .ref (B + 713)), (1, .int σ.1), (2, .int σ.2.1)] → W p l e (RM 1 0 0) s m args below meth c H locs 0 0 (MQ below (QG D B Y none z.2 True) args s 0 0 (AB B)) (F0 m 2 ls []))
    (fun rc hrec σ hf  H locs ls hH hl => tb_X11_putsNumber_2 C (fun v1 v2 w hr  H locs ls hH hl => hrec (v1, v2, w) hr  H locs ls hH hl)   hH hl hf) FU (v1, v2, w) hf  H locs ls hH hl
set_option maxRecDepth 100000 in
set_option maxHeartbeats 4000000 in
theorem t_X11_putsNumber_0 {D : va_G} {B : Nat} {Y : Nat → ClassId} {p : Program} {l : Launch} {e : Env} {s : State} {m : MethodId} {args : Array Value} {below : List Frame} {meth : Method} {c : Code} {z : (Unit × Wd)} {H : Heap} {locs : List Loc} {ls : Array Slot} {w : Wd} {v1 : Int32} (C : CX D B Y p s m args meth c cX11_putsNumber 3 RX11 none)     (hH : HS D B Y w s H locs) (hl : lv_has ls 3 [(0, .ref (B + 713)), (1, .int v1)]) (hf : f_X11_putsNumber v1 w = some z) : W p l e (RM 1 0 0) s m args below meth c H locs 0 0 (MQ below (QG D B Y none z.2 True) args s 0 0 (AB B)) (F0 m 0 ls []) := by
  have hx := C.1
  have hb := C.2.1
  unfold f_X11_putsNumber at hf
  refine lv_iconst (v := (1 : Int32)) hx hb dX11_putsNumber_0 (by decide) ?_
  refine lv_istore_n (lv' := [(2, .int (1 : Int32)), (0, .ref (B + 713)), (1, .int v1)]) hx hb dX11_putsNumber_1 rfl hl (by decide) rfl (fun ls hl => ?_)
  exact t_X11_putsNumber_2 C hH (lv_sub hl [1, 2, 0] rfl) hf
set_option maxRecDepth 100000 in
theorem c_X11_putsNumber {l : Launch} {D : va_G} {B : Nat} {Y : Nat → ClassId} {v1 : Int32} {w : Wd} {r : Unit} {w1 : Wd}   (hf : f_X11_putsNumber v1 w = some (r, w1)) : CM l D B Y yX11_putsNumber cX11_putsNumber 3 none 1 [.ref (B + 713), .int v1] w none w1 True :=
  CM_of (by decide +kernel) (Nat.le_of_ble_eq_true rfl) (fun p e s m args below meth c ls C hH hl => t_X11_putsNumber_0 C  hH (lv_sub hl [0, 1] rfl) hf)
/-! LetterTablesModel.readsCase -/
set_option maxRecDepth 100000 in
set_option maxHeartbeats 4000000 in
theorem t_X11_readsCase_233 {D : va_G} {B : Nat} {Y : Nat → ClassId} {p : Program} {l : Launch} {e : Env} {s : State} {m : MethodId} {args : Array Value} {below : List Frame} {meth : Method} {c : Code} {z : (Int32 × Wd)} {H : Heap} {locs : List Loc} {ls : Array Slot} {w : Wd} {t0 : Int32} (C : CX D B Y p s m args meth c cX11_readsCase 8 RX11 (some .boolean))    (z_t0 : isZ t0) (hH : HS D B Y w s H locs) (hl : lv_has ls 8 [(0, .ref (B + 713))]) (hf : f_X11_readsCase_233 t0 w = some z) : W p l e (RM 2 0 0) s m args below meth c H locs 0 0 (MQ below (QG D B Y (some (.int z.1)) z.2 (isZ z.1)) args s 0 0 (AB B)) (F0 m 233 ls [.int t0]) := by
  have hx := C.1
  have hb := C.2.1
  unfold f_X11_readsCase_233 at hf
  refine lv_istore (lv' := [(4, .int t0), (0, .ref (B + 713))]) hx hb dX11_readsCase_233 hl (by decide) rfl (fun ls hl => ?_)
  refine lv_aload_n hx hb dX11_readsCase_235 rfl (lv_at hl 1 rfl) ?_
  refine lv_dup hx hb dX11_readsCase_236 rfl ?_
  refine fg_X11_285 C hH dX11_readsCase_237 ?_
  refine lv_iconst (v := (1 : Int32)) hx hb dX11_readsCase_240 (by decide) ?_
  refine lv_iadd hx hb dX11_readsCase_241 ?_
  refine fp_X11_285 C hH dX11_readsCase_242 (fun H locs hH => ?_)
  refine b_w hf hH (fun w1 hf hH => ?_)
  refine lv_iload hx hb dX11_readsCase_245 (lv_at hl 0 rfl) ?_
  cases hf
  exact q_retz C hH z_t0 z_t0 dX11_readsCase_247
set_option maxRecDepth 100000 in
set_option maxHeartbeats 4000000 in
theorem t_X11_readsCase_232 {D : va_G} {B : Nat} {Y : Nat → ClassId} {p : Program} {l : Launch} {e : Env} {s : State} {m : MethodId} {args : Array Value} {below : List Frame} {meth : Method} {c : Code} {z : (Int32 × Wd)} {H : Heap} {locs : List Loc} {ls : Array Slot} {w : Wd}  (C : CX D B Y p s m args meth c cX11_readsCase 8 RX11 (some .boolean))     (hH : HS D B Y w s H locs) (hl : lv_has ls 8 [(0, .ref (B + 713))]) (hf : f_X11_readsCase_232 w = some z) : W p l e (RM 2 0 0) s m args below meth c H locs 0 0 (MQ below (QG D B Y (some (.int z.1)) z.2 (isZ z.1)) args s 0 0 (AB B)) (F0 m 232 ls []) := by
  have hx := C.1
  have hb := C.2.1
  unfold f_X11_readsCase_232 at hf
  refine lv_iconst (v := (0 : Int32)) hx hb dX11_readsCase_232 (by decide) ?_
  exact t_X11_readsCase_233 C isZ_0 hH (lv_sub hl [0] rfl) hf
set_option maxRecDepth 100000 in
set_option maxHeartbeats 4000000 in
theorem t_X11_readsCase_213 {D : va_G} {B : Nat} {Y : Nat → ClassId} {p : Program} {l : Launch} {e : Env} {s : State} {m : MethodId} {args : Array Value} {below : List Frame} {meth : Method} {c : Code} {z : (Int32 × Wd)} {H : Heap} {locs : List Loc} {ls : Array Slot} {w : Wd} {v4 : Int32} {t0 : Nat} {t1 : Int32} {t2 : Int32} (C : CX D B Y p s m args meth c cX11_readsCase 8 RX11 (some .boolean))   (k_t0 : KD t0 = 21) (z_v4 : isZ v4) (z_t2 : isZ t2) (hH : HS D B Y w s H locs) (hl : lv_has ls 8 [(0, .ref (B + 713)), (4, .int v4)]) (hf : f_X11_readsCase_213 v4 t0 t1 t2 w = some z) : W p l e (RM 2 0 0) s m args below meth c H locs 0 0 (MQ below (QG D B Y (some (.int z.1)) z.2 (isZ z.1)) args s 0 0 (AB B)) (F0 m 213 ls [.int t2, .int t1, .ref (B + t0)]) := by
  have hx := C.1
  have hb := C.2.1
  unfold f_X11_readsCase_213 at hf
  refine g_zast C hH k_t0 z_t2 hf dX11_readsCase_213 (fun w1 H locs hf hH => ?_)
  refine lv_iload hx hb dX11_readsCase_214 (lv_at hl 1 rfl) ?_
  refine b_if_eq (tgt := 232) hx hb hf dX11_readsCase_216 (by decide) (fun hf => ?_) (fun hf => ?_)
  · exact t_X11_readsCase_232 C hH (lv_sub hl [0] rfl) hf
  · refine lv_aload_n hx hb dX11_readsCase_219 rfl (lv_at hl 0 rfl) ?_
    obtain ⟨x3, w2, hc, hf⟩ := bd_some hf
    refine q_callV1 (v := .int x3) (As := []) C hH (ci := 11) rfl (by omega) gk_X11_288 yd_X11_taping (by omega) (by omega) kc_713 (c_X11_taping hc) hl.1 rfl (Nat.le_of_ble_eq_true rfl) dX11_readsCase_220 ⟨by decide, by decide⟩ (fun H locs hH hP => ?_)
    refine lv_bipush (v := (61 : Int32)) hx hb dX11_readsCase_223 (by decide) ?_
    refine b_icmp_ne (tgt := 232) hx hb hf dX11_readsCase_225 (by decide) (fun hf => ?_) (fun hf => ?_)
    · exact t_X11_readsCase_232 C hH (lv_sub hl [0] rfl) hf
    · refine lv_iconst (v := (1 : Int32)) hx hb dX11_readsCase_228 (by decide) ?_
      refine lv_goto (tgt := 233) hx hb dX11_readsCase_229 (by decide) ?_
      exact t_X11_readsCase_233 C isZ_1 hH (lv_sub hl [0] rfl) hf
set_option maxRecDepth 100000 in
set_option maxHeartbeats 4000000 in
theorem t_X11_readsCase_188 {D : va_G} {B : Nat} {Y : Nat → ClassId} {p : Program} {l : Launch} {e : Env} {s : State} {m : MethodId} {args : Array Value} {below : List Frame} {meth : Method} {c : Code} {z : (Int32 × Wd)} {H : Heap} {locs : List Loc} {ls : Array Slot} {w : Wd} {v2 : Int32} {v4 : Int32} {v7 : Int32} {t0 : Nat} {t1 : Int32} {t2 : Int32} (C : CX D B Y p s m args meth c cX11_readsCase 8 RX11 (some .boolean))   (k_t0 : KD t0 = 21) (z_v4 : isZ v4) (z_v7 : isZ v7) (z_t2 : isZ t2) (hH : HS D B Y w s H locs) (hl : lv_has ls 8 [(0, .ref (B + 713)), (2, .int v2), (4, .int v4), (7, .int v7)]) (hf : f_X11_readsCase_188 v2 v4 v7 t0 t1 t2 w = some z) : W p l e (RM 2 0 0) s m args below meth c H locs 0 0 (MQ below (QG D B Y (some (.int z.1)) z.2 (isZ z.1)) args s 0 0 (AB B)) (F0 m 188 ls [.int t2, .int t1, .ref (B + t0)]) := by
  have hx := C.1
  have hb := C.2.1
  unfold f_X11_readsCase_188 at hf
  refine g_zast C hH k_t0 z_t2 hf dX11_readsCase_188 (fun w1 H locs hf hH => ?_)
  refine lv_aload_n hx hb dX11_readsCase_189 rfl (lv_at hl 0 rfl) ?_
  refine fg_X11_98 C hH dX11_readsCase_190 ?_
  refine lv_iload_n hx hb dX11_readsCase_193 rfl (lv_at hl 1 rfl) ?_
  refine lv_aload_n hx hb dX11_readsCase_194 rfl (lv_at hl 0 rfl) ?_
  refine fg_X11_98 C hH dX11_readsCase_195 ?_
  refine lv_iload_n hx hb dX11_readsCase_198 rfl (lv_at hl 1 rfl) ?_
  refine g_zald C hH kc_743 hf dX11_readsCase_199 (fun x2 hf => ?_)
  refine b_if_ne (tgt := 208) hx hb hf dX11_readsCase_200 (by decide) (fun hf => ?_) (fun hf => ?_)
  · refine lv_iconst (v := (1 : Int32)) hx hb dX11_readsCase_208 (by decide) ?_
    refine lv_goto (tgt := 213) hx hb dX11_readsCase_209 (by decide) ?_
    exact t_X11_readsCase_213 C kc_743 z_v4 isZ_1 hH (lv_sub hl [0, 2] rfl) hf
  · refine lv_iload hx hb dX11_readsCase_203 (lv_at hl 3 rfl) ?_
    refine b_if_eq (tgt := 212) hx hb hf dX11_readsCase_205 (by decide) (fun hf => ?_) (fun hf => ?_)
    · refine lv_iconst (v := (0 : Int32)) hx hb dX11_readsCase_212 (by decide) ?_
      exact t_X11_readsCase_213 C kc_743 z_v4 isZ_0 hH (lv_sub hl [0, 2] rfl) hf
    · refine lv_iconst (v := (1 : Int32)) hx hb dX11_readsCase_208 (by decide) ?_
      refine lv_goto (tgt := 213) hx hb dX11_readsCase_209 (by decide) ?_
      exact t_X11_readsCase_213 C kc_743 z_v4 isZ_1 hH (lv_sub hl [0, 2] rfl) hf
set_option maxRecDepth 100000 in
set_option maxHeartbeats 4000000 in
theorem t_X11_readsCase_187 {D : va_G} {B : Nat} {Y : Nat → ClassId} {p : Program} {l : Launch} {e : Env} {s : State} {m : MethodId} {args : Array Value} {below : List Frame} {meth : Method} {c : Code} {z : (Int32 × Wd)} {H : Heap} {locs : List Loc} {ls : Array Slot} {w : Wd} {v2 : Int32} {v4 : Int32} {v7 : Int32} {t0 : Nat} {t1 : Int32} (C : CX D B Y p s m args meth c cX11_readsCase 8 RX11 (some .boolean))   (k_t0 : KD t0 = 21) (z_v4 : isZ v4) (z_v7 : isZ v7) (hH : HS D B Y w s H locs) (hl : lv_has ls 8 [(0, .ref (B + 713)), (2, .int v2), (4, .int v4), (7, .int v7)]) (hf : f_X11_readsCase_187 v2 v4 v7 t0 t1 w = some z) : W p l e (RM 2 0 0) s m args below meth c H locs 0 0 (MQ below (QG D B Y (some (.int z.1)) z.2 (isZ z.1)) args s 0 0 (AB B)) (F0 m 187 ls [.int t1, .ref (B + t0)]) := by
  have hx := C.1
  have hb := C.2.1
  unfold f_X11_readsCase_187 at hf
  refine lv_iconst (v := (0 : Int32)) hx hb dX11_readsCase_187 (by decide) ?_
  exact t_X11_readsCase_188 C k_t0 z_v4 z_v7 isZ_0 hH (lv_sub hl [0, 1, 2, 3] rfl) hf
set_option maxRecDepth 100000 in
set_option maxHeartbeats 4000000 in
theorem t_X11_readsCase_164 {D : va_G} {B : Nat} {Y : Nat → ClassId} {p : Program} {l : Launch} {e : Env} {s : State} {m : MethodId} {args : Array Value} {below : List Frame} {meth : Method} {c : Code} {z : (Int32 × Wd)} {H : Heap} {locs : List Loc} {ls : Array Slot} {w : Wd} {v2 : Int32} {v4 : Int32} {v7 : Int32} (C : CX D B Y p s m args meth c cX11_readsCase 8 RX11 (some .boolean))    (z_v4 : isZ v4) (z_v7 : isZ v7) (hH : HS D B Y w s H locs) (hl : lv_has ls 8 [(0, .ref (B + 713)), (2, .int v2), (4, .int v4), (7, .int v7)]) (hf : f_X11_readsCase_164 v2 v4 v7 w = some z) : W p l e (RM 2 0 0) s m args below meth c H locs 0 0 (MQ below (QG D B Y (some (.int z.1)) z.2 (isZ z.1)) args s 0 0 (AB B)) (F0 m 164 ls []) := by
  have hx := C.1
  have hb := C.2.1
  unfold f_X11_readsCase_164 at hf
  refine lv_aload_n hx hb dX11_readsCase_164 rfl (lv_at hl 0 rfl) ?_
  refine fg_X11_101 C hH dX11_readsCase_165 ?_
  refine lv_iload_n hx hb dX11_readsCase_168 rfl (lv_at hl 1 rfl) ?_
  refine lv_iload hx hb dX11_readsCase_169 (lv_at hl 3 rfl) ?_
  refine b_if_eq (tgt := 187) hx hb hf dX11_readsCase_171 (by decide) (fun hf => ?_) (fun hf => ?_)
  · exact t_X11_readsCase_187 C kc_744 z_v4 z_v7 hH (lv_sub hl [0, 1, 2, 3] rfl) hf
  · refine lv_aload_n hx hb dX11_readsCase_174 rfl (lv_at hl 0 rfl) ?_
    refine fg_X11_98 C hH dX11_readsCase_175 ?_
    refine lv_iload_n hx hb dX11_readsCase_178 rfl (lv_at hl 1 rfl) ?_
    refine g_zald C hH kc_743 hf dX11_readsCase_179 (fun x1 hf => ?_)
    refine b_if_ne (tgt := 187) hx hb hf dX11_readsCase_180 (by decide) (fun hf => ?_) (fun hf => ?_)
    · exact t_X11_readsCase_187 C kc_744 z_v4 z_v7 hH (lv_sub hl [0, 1, 2, 3] rfl) hf
    · refine lv_iconst (v := (1 : Int32)) hx hb dX11_readsCase_183 (by decide) ?_
      refine lv_goto (tgt := 188) hx hb dX11_readsCase_184 (by decide) ?_
      exact t_X11_readsCase_188 C kc_744 z_v4 z_v7 isZ_1 hH (lv_sub hl [0, 1, 2, 3] rfl) hf
set_option maxRecDepth 100000 in
set_option maxHeartbeats 4000000 in
theorem t_X11_readsCase_152 {D : va_G} {B : Nat} {Y : Nat → ClassId} {p : Program} {l : Launch} {e : Env} {s : State} {m : MethodId} {args : Array Value} {below : List Frame} {meth : Method} {c : Code} {z : (Int32 × Wd)} {H : Heap} {locs : List Loc} {ls : Array Slot} {w : Wd} {v2 : Int32} {v4 : Int32} {t0 : Int32} (C : CX D B Y p s m args meth c cX11_readsCase 8 RX11 (some .boolean))    (z_v4 : isZ v4) (z_t0 : isZ t0) (hH : HS D B Y w s H locs) (hl : lv_has ls 8 [(0, .ref (B + 713)), (2, .int v2), (4, .int v4)]) (hf : f_X11_readsCase_152 v2 v4 t0 w = some z) : W p l e (RM 2 0 0) s m args below meth c H locs 0 0 (MQ below (QG D B Y (some (.int z.1)) z.2 (isZ z.1)) args s 0 0 (AB B)) (F0 m 152 ls [.int t0]) := by
  have hx := C.1
  have hb := C.2.1
  unfold f_X11_readsCase_152 at hf
  refine lv_istore (lv' := [(7, .int t0), (0, .ref (B + 713)), (2, .int v2), (4, .int v4)]) hx hb dX11_readsCase_152 hl (by decide) rfl (fun ls hl => ?_)
  refine lv_aload_n hx hb dX11_readsCase_154 rfl (lv_at hl 1 rfl) ?_
  refine lv_dup hx hb dX11_readsCase_155 rfl ?_
  refine fg_X11_285 C hH dX11_readsCase_156 ?_
  refine lv_iconst (v := (1 : Int32)) hx hb dX11_readsCase_159 (by decide) ?_
  refine lv_iadd hx hb dX11_readsCase_160 ?_
  refine fp_X11_285 C hH dX11_readsCase_161 (fun H locs hH => ?_)
  refine b_w hf hH (fun w1 hf hH => ?_)
  exact t_X11_readsCase_164 C z_v4 z_t0 hH (lv_sub hl [1, 2, 3, 0] rfl) hf
set_option maxRecDepth 100000 in
set_option maxHeartbeats 4000000 in
theorem t_X11_readsCase_114 {D : va_G} {B : Nat} {Y : Nat → ClassId} {p : Program} {l : Launch} {e : Env} {s : State} {m : MethodId} {args : Array Value} {below : List Frame} {meth : Method} {c : Code} {z : (Int32 × Wd)} {H : Heap} {locs : List Loc} {ls : Array Slot} {w : Wd} {v2 : Int32} {v3 : Int32} {v4 : Int32} {v5 : Int32} {t0 : Int32} (C : CX D B Y p s m args meth c cX11_readsCase 8 RX11 (some .boolean))    (z_v4 : isZ v4) (z_t0 : isZ t0) (hH : HS D B Y w s H locs) (hl : lv_has ls 8 [(0, .ref (B + 713)), (2, .int v2), (3, .int v3), (4, .int v4), (5, .int v5)]) (hf : f_X11_readsCase_114 v2 v3 v4 v5 t0 w = some z) : W p l e (RM 2 0 0) s m args below meth c H locs 0 0 (MQ below (QG D B Y (some (.int z.1)) z.2 (isZ z.1)) args s 0 0 (AB B)) (F0 m 114 ls [.int t0]) := by
  have hx := C.1
  have hb := C.2.1
  unfold f_X11_readsCase_114 at hf
  refine lv_istore (lv' := [(7, .int t0), (0, .ref (B + 713)), (2, .int v2), (3, .int v3), (4, .int v4), (5, .int v5)]) hx hb dX11_readsCase_114 hl (by decide) rfl (fun ls hl => ?_)
  refine lv_iload_n hx hb dX11_readsCase_116 rfl (lv_at hl 3 rfl) ?_
  refine lv_bipush (v := (35 : Int32)) hx hb dX11_readsCase_117 (by decide) ?_
  refine b_icmp_ne (tgt := 164) hx hb hf dX11_readsCase_119 (by decide) (fun hf => ?_) (fun hf => ?_)
  · exact t_X11_readsCase_164 C z_v4 z_t0 hH (lv_sub hl [1, 2, 4, 0] rfl) hf
  · refine lv_aload_n hx hb dX11_readsCase_122 rfl (lv_at hl 1 rfl) ?_
    obtain ⟨x2, w1, hc, hf⟩ := bd_some hf
    refine q_callV1 (v := .int x2) (As := []) C hH (ci := 11) rfl (by omega) gk_X11_288 yd_X11_taping (by omega) (by omega) kc_713 (c_X11_taping hc) hl.1 rfl (Nat.le_of_ble_eq_true rfl) dX11_readsCase_123 ⟨by decide, by decide⟩ (fun H locs hH hP => ?_)
    refine lv_bipush (v := (48 : Int32)) hx hb dX11_readsCase_126 (by decide) ?_
    refine lv_bipush (v := (51 : Int32)) hx hb dX11_readsCase_128 (by decide) ?_
    obtain ⟨x4, w3, hc, hf⟩ := bd_some hf
    refine q_callS1 (v := .int x4) (As := [.int x2, .int (48 : Int32), .int (51 : Int32)]) C hH gk_X11_111 yd_X11_in (by omega) (by omega) (c_X11_in hc) hl.1 rfl (Nat.le_of_ble_eq_true rfl) dX11_readsCase_130 ⟨by decide, by decide⟩ (fun H locs hH z_x4 => ?_)
    refine lv_istore (lv' := [(4, .int x4), (7, .int t0), (0, .ref (B + 713)), (2, .int v2), (3, .int v3), (5, .int v5)]) hx hb dX11_readsCase_133 hl (by decide) rfl (fun ls hl => ?_)
    refine lv_iload hx hb dX11_readsCase_135 (lv_at hl 5 rfl) ?_
    refine lv_aload_n hx hb dX11_readsCase_137 rfl (lv_at hl 2 rfl) ?_
    obtain ⟨x6, w5, hc, hf⟩ := bd_some hf
    refine q_callV1 (v := .int x6) (As := []) C hH (ci := 11) rfl (by omega) gk_X11_288 yd_X11_taping (by omega) (by omega) kc_713 (c_X11_taping hc) hl.1 rfl (Nat.le_of_ble_eq_true rfl) dX11_readsCase_138 ⟨by decide, by decide⟩ (fun H locs hH hP => ?_)
    refine lv_bipush (v := (48 : Int32)) hx hb dX11_readsCase_141 (by decide) ?_
    refine lv_isub hx hb dX11_readsCase_143 ?_
    refine b_icmp_ne (tgt := 151) hx hb hf dX11_readsCase_144 (by decide) (fun hf => ?_) (fun hf => ?_)
    · refine lv_iconst (v := (0 : Int32)) hx hb dX11_readsCase_151 (by decide) ?_
      exact t_X11_readsCase_152 C z_x4 isZ_0 hH (lv_sub hl [2, 3, 0] rfl) hf
    · refine lv_iconst (v := (1 : Int32)) hx hb dX11_readsCase_147 (by decide) ?_
      refine lv_goto (tgt := 152) hx hb dX11_readsCase_148 (by decide) ?_
      exact t_X11_readsCase_152 C z_x4 isZ_1 hH (lv_sub hl [2, 3, 0] rfl) hf
set_option maxRecDepth 100000 in
set_option maxHeartbeats 4000000 in
theorem t_X11_readsCase_113 {D : va_G} {B : Nat} {Y : Nat → ClassId} {p : Program} {l : Launch} {e : Env} {s : State} {m : MethodId} {args : Array Value} {below : List Frame} {meth : Method} {c : Code} {z : (Int32 × Wd)} {H : Heap} {locs : List Loc} {ls : Array Slot} {w : Wd} {v2 : Int32} {v3 : Int32} {v4 : Int32} {v5 : Int32} (C : CX D B Y p s m args meth c cX11_readsCase 8 RX11 (some .boolean))    (z_v4 : isZ v4) (hH : HS D B Y w s H locs) (hl : lv_has ls 8 [(0, .ref (B + 713)), (2, .int v2), (3, .int v3), (4, .int v4), (5, .int v5)]) (hf : f_X11_readsCase_113 v2 v3 v4 v5 w = some z) : W p l e (RM 2 0 0) s m args below meth c H locs 0 0 (MQ below (QG D B Y (some (.int z.1)) z.2 (isZ z.1)) args s 0 0 (AB B)) (F0 m 113 ls []) := by
  have hx := C.1
  have hb := C.2.1
  unfold f_X11_readsCase_113 at hf
  refine lv_iconst (v := (0 : Int32)) hx hb dX11_readsCase_113 (by decide) ?_
  exact t_X11_readsCase_114 C z_v4 isZ_0 hH (lv_sub hl [0, 1, 2, 3, 4] rfl) hf
set_option maxRecDepth 100000 in
set_option maxHeartbeats 4000000 in
theorem t_X11_readsCase_97 {D : va_G} {B : Nat} {Y : Nat → ClassId} {p : Program} {l : Launch} {e : Env} {s : State} {m : MethodId} {args : Array Value} {below : List Frame} {meth : Method} {c : Code} {z : (Int32 × Wd)} {H : Heap} {locs : List Loc} {ls : Array Slot} {w : Wd} {v2 : Int32} {v3 : Int32} {v4 : Int32} {v5 : Int32} {v6 : Int32} (C : CX D B Y p s m args meth c cX11_readsCase 8 RX11 (some .boolean))    (z_v4 : isZ v4) (hH : HS D B Y w s H locs) (hl : lv_has ls 8 [(0, .ref (B + 713)), (2, .int v2), (3, .int v3), (4, .int v4), (5, .int v5), (6, .int v6)]) (hf : f_X11_readsCase_97 v2 v3 v4 v5 v6 w = some z) : W p l e (RM 2 0 0) s m args below meth c H locs 0 0 (MQ below (QG D B Y (some (.int z.1)) z.2 (isZ z.1)) args s 0 0 (AB B)) (F0 m 97 ls []) := by
  have hx := C.1
  have hb := C.2.1
  unfold f_X11_readsCase_97 at hf
  refine lv_iload_n hx hb dX11_readsCase_97 rfl (lv_at hl 2 rfl) ?_
  refine lv_bipush (v := (109 : Int32)) hx hb dX11_readsCase_98 (by decide) ?_
  refine b_icmp_ne (tgt := 113) hx hb hf dX11_readsCase_100 (by decide) (fun hf => ?_) (fun hf => ?_)
  · exact t_X11_readsCase_113 C z_v4 hH (lv_sub hl [0, 1, 2, 3, 4] rfl) hf
  · refine lv_iload hx hb dX11_readsCase_103 (lv_at hl 5 rfl) ?_
    refine lv_iconst (v := (2 : Int32)) hx hb dX11_readsCase_105 (by decide) ?_
    refine b_icmp_ne (tgt := 113) hx hb hf dX11_readsCase_106 (by decide) (fun hf => ?_) (fun hf => ?_)
    · exact t_X11_readsCase_113 C z_v4 hH (lv_sub hl [0, 1, 2, 3, 4] rfl) hf
    · refine lv_iconst (v := (1 : Int32)) hx hb dX11_readsCase_109 (by decide) ?_
      refine lv_goto (tgt := 114) hx hb dX11_readsCase_110 (by decide) ?_
      exact t_X11_readsCase_114 C z_v4 isZ_1 hH (lv_sub hl [0, 1, 2, 3, 4] rfl) hf
set_option maxRecDepth 100000 in
set_option maxHeartbeats 4000000 in
theorem t_X11_readsCase_85 {D : va_G} {B : Nat} {Y : Nat → ClassId} {p : Program} {l : Launch} {e : Env} {s : State} {m : MethodId} {args : Array Value} {below : List Frame} {meth : Method} {c : Code} {z : (Int32 × Wd)} {H : Heap} {locs : List Loc} {ls : Array Slot} {w : Wd} {v2 : Int32} {v3 : Int32} {v4 : Int32} {v5 : Int32} {v6 : Int32} (C : CX D B Y p s m args meth c cX11_readsCase 8 RX11 (some .boolean))    (z_v4 : isZ v4) (hH : HS D B Y w s H locs) (hl : lv_has ls 8 [(0, .ref (B + 713)), (2, .int v2), (3, .int v3), (4, .int v4), (5, .int v5), (6, .int v6)]) (hf : f_X11_readsCase_85 v2 v3 v4 v5 v6 w = some z) : W p l e (RM 2 0 0) s m args below meth c H locs 0 0 (MQ below (QG D B Y (some (.int z.1)) z.2 (isZ z.1)) args s 0 0 (AB B)) (F0 m 85 ls []) := by
  have hx := C.1
  have hb := C.2.1
  unfold f_X11_readsCase_85 at hf
  refine lv_iload_n hx hb dX11_readsCase_85 rfl (lv_at hl 2 rfl) ?_
  refine lv_bipush (v := (102 : Int32)) hx hb dX11_readsCase_86 (by decide) ?_
  refine b_icmp_ne (tgt := 97) hx hb hf dX11_readsCase_88 (by decide) (fun hf => ?_) (fun hf => ?_)
  · exact t_X11_readsCase_97 C z_v4 hH (lv_sub hl [0, 1, 2, 3, 4, 5] rfl) hf
  · refine lv_iload hx hb dX11_readsCase_91 (lv_at hl 5 rfl) ?_
    refine lv_iconst (v := (1 : Int32)) hx hb dX11_readsCase_93 (by decide) ?_
    refine b_icmp_eq (tgt := 109) hx hb hf dX11_readsCase_94 (by decide) (fun hf => ?_) (fun hf => ?_)
    · refine lv_iconst (v := (1 : Int32)) hx hb dX11_readsCase_109 (by decide) ?_
      refine lv_goto (tgt := 114) hx hb dX11_readsCase_110 (by decide) ?_
      exact t_X11_readsCase_114 C z_v4 isZ_1 hH (lv_sub hl [0, 1, 2, 3, 4] rfl) hf
    · exact t_X11_readsCase_97 C z_v4 hH (lv_sub hl [0, 1, 2, 3, 4, 5] rfl) hf
set_option maxRecDepth 100000 in
set_option maxHeartbeats 4000000 in
theorem t_X11_readsCase_44 {D : va_G} {B : Nat} {Y : Nat → ClassId} {p : Program} {l : Launch} {e : Env} {s : State} {m : MethodId} {args : Array Value} {below : List Frame} {meth : Method} {c : Code} {z : (Int32 × Wd)} {H : Heap} {locs : List Loc} {ls : Array Slot} {w : Wd} {v1 : Int32} {v2 : Int32} {v3 : Int32} {t0 : Int32} (C : CX D B Y p s m args meth c cX11_readsCase 8 RX11 (some .boolean))    (z_t0 : isZ t0) (hH : HS D B Y w s H locs) (hl : lv_has ls 8 [(0, .ref (B + 713)), (1, .int v1), (2, .int v2), (3, .int v3)]) (hf : f_X11_readsCase_44 v1 v2 v3 t0 w = some z) : W p l e (RM 2 0 0) s m args below meth c H locs 0 0 (MQ below (QG D B Y (some (.int z.1)) z.2 (isZ z.1)) args s 0 0 (AB B)) (F0 m 44 ls [.int t0]) := by
  have hx := C.1
  have hb := C.2.1
  unfold f_X11_readsCase_44 at hf
  refine lv_istore (lv' := [(4, .int t0), (0, .ref (B + 713)), (1, .int v1), (2, .int v2), (3, .int v3)]) hx hb dX11_readsCase_44 hl (by decide) rfl (fun ls hl => ?_)
  refine lv_aload_n hx hb dX11_readsCase_46 rfl (lv_at hl 1 rfl) ?_
  refine fg_X11_104 C hH dX11_readsCase_47 ?_
  refine lv_aload_n hx hb dX11_readsCase_50 rfl (lv_at hl 1 rfl) ?_
  refine fg_X11_95 C hH dX11_readsCase_51 ?_
  refine lv_iload_n hx hb dX11_readsCase_54 rfl (lv_at hl 3 rfl) ?_
  refine g_iald C hH kc_742 hf dX11_readsCase_55 (fun x1 hf => ?_)
  refine g_iald C hH kc_745 hf dX11_readsCase_56 (fun x2 hf => ?_)
  refine lv_istore (lv' := [(5, .int x2), (4, .int t0), (0, .ref (B + 713)), (1, .int v1), (2, .int v2), (3, .int v3)]) hx hb dX11_readsCase_57 hl (by decide) rfl (fun ls hl => ?_)
  refine lv_aload_n hx hb dX11_readsCase_59 rfl (lv_at hl 2 rfl) ?_
  refine lv_iload_n hx hb dX11_readsCase_60 rfl (lv_at hl 3 rfl) ?_
  refine lv_iload hx hb dX11_readsCase_61 (lv_at hl 0 rfl) ?_
  obtain ⟨x4, w3, hc, hf⟩ := bd_some hf
  refine q_callV1 (v := .int x4) (As := [.int v1, .int x2]) C hH (ci := 11) rfl (by omega) gk_X11_335 yd_X11_classFor (by omega) (by omega) kc_713 (c_X11_classFor hc) hl.1 rfl (Nat.le_of_ble_eq_true rfl) dX11_readsCase_63 ⟨by decide, by decide⟩ (fun H locs hH hP => ?_)
  refine lv_istore (lv' := [(6, .int x4), (5, .int x2), (4, .int t0), (0, .ref (B + 713)), (1, .int v1), (2, .int v2), (3, .int v3)]) hx hb dX11_readsCase_66 hl (by decide) rfl (fun ls hl => ?_)
  refine lv_iload_n hx hb dX11_readsCase_68 rfl (lv_at hl 6 rfl) ?_
  refine lv_bipush (v := (120 : Int32)) hx hb dX11_readsCase_69 (by decide) ?_
  refine b_icmp_eq (tgt := 109) hx hb hf dX11_readsCase_71 (by decide) (fun hf => ?_) (fun hf => ?_)
  · refine lv_iconst (v := (1 : Int32)) hx hb dX11_readsCase_109 (by decide) ?_
    refine lv_goto (tgt := 114) hx hb dX11_readsCase_110 (by decide) ?_
    exact t_X11_readsCase_114 C z_t0 isZ_1 hH (lv_sub hl [3, 5, 6, 2, 1] rfl) hf
  · refine lv_iload_n hx hb dX11_readsCase_74 rfl (lv_at hl 6 rfl) ?_
    refine lv_bipush (v := (111 : Int32)) hx hb dX11_readsCase_75 (by decide) ?_
    refine b_icmp_ne (tgt := 85) hx hb hf dX11_readsCase_77 (by decide) (fun hf => ?_) (fun hf => ?_)
    · exact t_X11_readsCase_85 C z_t0 hH (lv_sub hl [3, 5, 6, 2, 1, 0] rfl) hf
    · refine lv_iload hx hb dX11_readsCase_80 (lv_at hl 0 rfl) ?_
      refine b_if_eq (tgt := 109) hx hb hf dX11_readsCase_82 (by decide) (fun hf => ?_) (fun hf => ?_)
      · refine lv_iconst (v := (1 : Int32)) hx hb dX11_readsCase_109 (by decide) ?_
        refine lv_goto (tgt := 114) hx hb dX11_readsCase_110 (by decide) ?_
        exact t_X11_readsCase_114 C z_t0 isZ_1 hH (lv_sub hl [3, 5, 6, 2, 1] rfl) hf
      · exact t_X11_readsCase_85 C z_t0 hH (lv_sub hl [3, 5, 6, 2, 1, 0] rfl) hf
set_option maxRecDepth 100000 in
set_option maxHeartbeats 4000000 in
theorem t_X11_readsCase_0 {D : va_G} {B : Nat} {Y : Nat → ClassId} {p : Program} {l : Launch} {e : Env} {s : State} {m : MethodId} {args : Array Value} {below : List Frame} {meth : Method} {c : Code} {z : (Int32 × Wd)} {H : Heap} {locs : List Loc} {ls : Array Slot} {w : Wd} {v1 : Int32} {v2 : Int32} (C : CX D B Y p s m args meth c cX11_readsCase 8 RX11 (some .boolean))     (hH : HS D B Y w s H locs) (hl : lv_has ls 8 [(0, .ref (B + 713)), (1, .int v1), (2, .int v2)]) (hf : f_X11_readsCase v1 v2 w = some z) : W p l e (RM 2 0 0) s m args below meth c H locs 0 0 (MQ below (QG D B Y (some (.int z.1)) z.2 (isZ z.1)) args s 0 0 (AB B)) (F0 m 0 ls []) := by
  have hx := C.1
  have hb := C.2.1
  unfold f_X11_readsCase at hf
  refine lv_aload_n hx hb dX11_readsCase_0 rfl (lv_at hl 0 rfl) ?_
  obtain ⟨x2, w1, hc, hf⟩ := bd_some hf
  refine q_callV1 (v := .int x2) (As := []) C hH (ci := 11) rfl (by omega) gk_X11_288 yd_X11_taping (by omega) (by omega) kc_713 (c_X11_taping hc) hl.1 rfl (Nat.le_of_ble_eq_true rfl) dX11_readsCase_1 ⟨by decide, by decide⟩ (fun H locs hH hP => ?_)
  refine lv_istore_n (lv' := [(3, .int x2), (0, .ref (B + 713)), (1, .int v1), (2, .int v2)]) hx hb dX11_readsCase_4 rfl hl (by decide) rfl (fun ls hl => ?_)
  refine lv_aload_n hx hb dX11_readsCase_5 rfl (lv_at hl 1 rfl) ?_
  refine lv_dup hx hb dX11_readsCase_6 rfl ?_
  refine fg_X11_285 C hH dX11_readsCase_7 ?_
  refine lv_iconst (v := (1 : Int32)) hx hb dX11_readsCase_10 (by decide) ?_
  refine lv_iadd hx hb dX11_readsCase_11 ?_
  refine fp_X11_285 C hH dX11_readsCase_12 (fun H locs hH => ?_)
  refine b_w hf hH (fun w3 hf hH => ?_)
  refine lv_iload_n hx hb dX11_readsCase_15 rfl (lv_at hl 0 rfl) ?_
  refine lv_bipush (v := (111 : Int32)) hx hb dX11_readsCase_16 (by decide) ?_
  refine b_icmp_eq (tgt := 39) hx hb hf dX11_readsCase_18 (by decide) (fun hf => ?_) (fun hf => ?_)
  · refine lv_iconst (v := (1 : Int32)) hx hb dX11_readsCase_39 (by decide) ?_
    refine lv_goto (tgt := 44) hx hb dX11_readsCase_40 (by decide) ?_
    exact t_X11_readsCase_44 C isZ_1 hH (lv_sub hl [1, 2, 3, 0] rfl) hf
  · refine lv_iload_n hx hb dX11_readsCase_21 rfl (lv_at hl 0 rfl) ?_
    refine lv_bipush (v := (102 : Int32)) hx hb dX11_readsCase_22 (by decide) ?_
    refine b_icmp_eq (tgt := 39) hx hb hf dX11_readsCase_24 (by decide) (fun hf => ?_) (fun hf => ?_)
    · refine lv_iconst (v := (1 : Int32)) hx hb dX11_readsCase_39 (by decide) ?_
      refine lv_goto (tgt := 44) hx hb dX11_readsCase_40 (by decide) ?_
      exact t_X11_readsCase_44 C isZ_1 hH (lv_sub hl [1, 2, 3, 0] rfl) hf
    · refine lv_iload_n hx hb dX11_readsCase_27 rfl (lv_at hl 0 rfl) ?_
      refine lv_bipush (v := (109 : Int32)) hx hb dX11_readsCase_28 (by decide) ?_
      refine b_icmp_eq (tgt := 39) hx hb hf dX11_readsCase_30 (by decide) (fun hf => ?_) (fun hf => ?_)
      · refine lv_iconst (v := (1 : Int32)) hx hb dX11_readsCase_39 (by decide) ?_
        refine lv_goto (tgt := 44) hx hb dX11_readsCase_40 (by decide) ?_
        exact t_X11_readsCase_44 C isZ_1 hH (lv_sub hl [1, 2, 3, 0] rfl) hf
      · refine lv_iload_n hx hb dX11_readsCase_33 rfl (lv_at hl 0 rfl) ?_
        refine lv_bipush (v := (120 : Int32)) hx hb dX11_readsCase_34 (by decide) ?_
        refine b_icmp_ne (tgt := 43) hx hb hf dX11_readsCase_36 (by decide) (fun hf => ?_) (fun hf => ?_)
        · refine lv_iconst (v := (0 : Int32)) hx hb dX11_readsCase_43 (by decide) ?_
          exact t_X11_readsCase_44 C isZ_0 hH (lv_sub hl [1, 2, 3, 0] rfl) hf
        · refine lv_iconst (v := (1 : Int32)) hx hb dX11_readsCase_39 (by decide) ?_
          refine lv_goto (tgt := 44) hx hb dX11_readsCase_40 (by decide) ?_
          exact t_X11_readsCase_44 C isZ_1 hH (lv_sub hl [1, 2, 3, 0] rfl) hf
set_option maxRecDepth 100000 in
theorem c_X11_readsCase {l : Launch} {D : va_G} {B : Nat} {Y : Nat → ClassId} {v1 : Int32} {v2 : Int32} {w : Wd} {r : Int32} {w1 : Wd}   (hf : f_X11_readsCase v1 v2 w = some (r, w1)) : CM l D B Y yX11_readsCase cX11_readsCase 8 (some .boolean) 2 [.ref (B + 713), .int v1, .int v2] w (some (.int r)) w1 (isZ r) :=
  CM_of (by decide +kernel) (Nat.le_of_ble_eq_true rfl) (fun p e s m args below meth c ls C hH hl => t_X11_readsCase_0 C  hH (lv_sub hl [0, 1, 2] rfl) hf)
/-! LetterTablesModel.isHeard -/
set_option maxRecDepth 100000 in
set_option maxHeartbeats 4000000 in
theorem t_X11_isHeard_26 {D : va_G} {B : Nat} {Y : Nat → ClassId} {p : Program} {l : Launch} {e : Env} {s : State} {m : MethodId} {args : Array Value} {below : List Frame} {meth : Method} {c : Code} {z : (Int32 × Wd)} {H : Heap} {locs : List Loc} {ls : Array Slot} {w : Wd} {v1 : Int32} {v3 : Int32} (C : CX D B Y p s m args meth c cX11_isHeard 4 RX11 (some .boolean))  {rc_4 : Int32 × Int32 × Int32 × Wd → Option (Int32 × Wd)} (hr_4 : ∀ (v1 : Int32) (v2 : Int32) (v3 : Int32) (w : Wd), rc_4 (v1, v2, v3, w) = some z → isZ v2 → ∀ (H : Heap) (locs : List Loc) (ls : Array Slot), HS D B Y w s H locs → lv_has ls 4 [(0, .ref (B + 713)), (1, .int v1), (2, .int v2), (3, .int v3)] → W p l e (RM 0 0 0) s m args below meth c H locs 0 0 (MQ below (QG D B Y (some (.int z.1)) z.2 (isZ z.1)) args s 0 0 (AB B)) (F0 m 4 ls []))    (hH : HS D B Y w s H locs) (hl : lv_has ls 4 [(0, .ref (B + 713)), (1, .int v1), (3, .int v3)]) (hf : f_X11_isHeard_26 rc_4 v1 v3 w = some z) : W p l e (RM 0 0 0) s m args below meth c H locs 0 0 (MQ below (QG D B Y (some (.int z.1)) z.2 (isZ z.1)) args s 0 0 (AB B)) (F0 m 26 ls []) := by
  have hx := C.1
  have hb := C.2.1
  unfold f_X11_isHeard_26 at hf
  refine lv_iconst (v := (0 : Int32)) hx hb dX11_isHeard_26 (by decide) ?_
  refine lv_istore_n (lv' := [(2, .int (0 : Int32)), (0, .ref (B + 713)), (1, .int v1), (3, .int v3)]) hx hb dX11_isHeard_27 rfl hl (by decide) rfl (fun ls hl => ?_)
  refine b_let hf (fun x1 he hf => ?_)
  refine lv_iinc (v := x1) (lv' := [(3, .int x1), (2, .int (0 : Int32)), (0, .ref (B + 713)), (1, .int v1)]) hx hb dX11_isHeard_28 hl (k := 3) rfl (by rw [← he]; rfl) (by decide) rfl (fun ls hl => ?_)
  refine lv_goto (tgt := 4) hx hb dX11_isHeard_31 (by decide) ?_
  exact hr_4 v1 (0 : Int32) x1 w hf isZ_0 _ _ _ hH (lv_sub hl [2, 3, 1, 0] rfl)
set_option maxRecDepth 100000 in
set_option maxHeartbeats 4000000 in
theorem tb_X11_isHeard_4 {D : va_G} {B : Nat} {Y : Nat → ClassId} {p : Program} {l : Launch} {e : Env} {s : State} {m : MethodId} {args : Array Value} {below : List Frame} {meth : Method} {c : Code} {z : (Int32 × Wd)} {H : Heap} {locs : List Loc} {ls : Array Slot} {w : Wd} {v1 : Int32} {v2 : Int32} {v3 : Int32} (C : CX D B Y p s m args meth c cX11_isHeard 4 RX11 (some .boolean))  {rc_4 : Int32 × Int32 × Int32 × Wd → Option (Int32 × Wd)} (hr_4 : ∀ (v1 : Int32) (v2 : Int32) (v3 : Int32) (w : Wd), rc_4 (v1, v2, v3, w) = some z → isZ v2 → ∀ (H : Heap) (locs : List Loc) (ls : Array Slot), HS D B Y w s H locs → lv_has ls 4 [(0, .ref (B + 713)), (1, .int v1), (2, .int v2), (3, .int v3)] → W p l e (RM 0 0 0) s m args below meth c H locs 0 0 (MQ below (QG D B Y (some (.int z.1)) z.2 (isZ z.1)) args s 0 0 (AB B)) (F0 m 4 ls []))   (z_v2 : isZ v2) (hH : HS D B Y w s H locs) (hl : lv_has ls 4 [(0, .ref (B + 713)), (1, .int v1), (2, .int v2), (3, .int v3)]) (hf : g_X11_isHeard_4 rc_4 v1 v2 v3 w = some z) : W p l e (RM 0 0 0) s m args below meth c H locs 0 0 (MQ below (QG D B Y (some (.int z.1)) z.2 (isZ z.1)) args s 0 0 (AB B)) (F0 m 4 ls []) := by
  have hx := C.1
  have hb := C.2.1
  unfold g_X11_isHeard_4 at hf
  refine lv_iload_n hx hb dX11_isHeard_4 rfl (lv_at hl 3 rfl) ?_
  refine lv_iload_n hx hb dX11_isHeard_5 rfl (lv_at hl 1 rfl) ?_
  refine b_icmp_gt (tgt := 34) hx hb hf dX11_isHeard_6 (by decide) (fun hf => ?_) (fun hf => ?_)
  · refine lv_iload_n hx hb dX11_isHeard_34 rfl (lv_at hl 2 rfl) ?_
    cases hf
    exact q_retz C hH z_v2 z_v2 dX11_isHeard_35
  · refine lv_iload_n hx hb dX11_isHeard_9 rfl (lv_at hl 2 rfl) ?_
    refine b_if_eq (tgt := 26) hx hb hf dX11_isHeard_10 (by decide) (fun hf => ?_) (fun hf => ?_)
    · exact t_X11_isHeard_26 C hr_4 hH (lv_sub hl [0, 1, 3] rfl) hf
    · refine lv_aload_n hx hb dX11_isHeard_13 rfl (lv_at hl 0 rfl) ?_
      refine fg_X11_101 C hH dX11_isHeard_14 ?_
      refine lv_iload_n hx hb dX11_isHeard_17 rfl (lv_at hl 3 rfl) ?_
      refine g_zald C hH kc_744 hf dX11_isHeard_18 (fun x1 hf => ?_)
      refine b_if_eq (tgt := 26) hx hb hf dX11_isHeard_19 (by decide) (fun hf => ?_) (fun hf => ?_)
      · exact t_X11_isHeard_26 C hr_4 hH (lv_sub hl [0, 1, 3] rfl) hf
      · refine lv_iconst (v := (1 : Int32)) hx hb dX11_isHeard_22 (by decide) ?_
        refine lv_goto (tgt := 27) hx hb dX11_isHeard_23 (by decide) ?_
        refine lv_istore_n (lv' := [(2, .int (1 : Int32)), (0, .ref (B + 713)), (1, .int v1), (3, .int v3)]) hx hb dX11_isHeard_27 rfl hl (by decide) rfl (fun ls hl => ?_)
        refine b_let hf (fun x2 he hf => ?_)
        refine lv_iinc (v := x2) (lv' := [(3, .int x2), (2, .int (1 : Int32)), (0, .ref (B + 713)), (1, .int v1)]) hx hb dX11_isHeard_28 hl (k := 3) rfl (by rw [← he]; rfl) (by decide) rfl (fun ls hl => ?_)
        refine lv_goto (tgt := 4) hx hb dX11_isHeard_31 (by decide) ?_
        exact hr_4 v1 (1 : Int32) x2 w hf isZ_1 _ _ _ hH (lv_sub hl [2, 3, 1, 0] rfl)
set_option maxRecDepth 100000 in
set_option maxHeartbeats 4000000 in
theorem t_X11_isHeard_4 {D : va_G} {B : Nat} {Y : Nat → ClassId} {p : Program} {l : Launch} {e : Env} {s : State} {m : MethodId} {args : Array Value} {below : List Frame} {meth : Method} {c : Code} {z : (Int32 × Wd)} {H : Heap} {locs : List Loc} {ls : Array Slot} {w : Wd} {v1 : Int32} {v2 : Int32} {v3 : Int32} (C : CX D B Y p s m args meth c cX11_isHeard 4 RX11 (some .boolean))    (z_v2 : isZ v2) (hH : HS D B Y w s H locs) (hl : lv_has ls 4 [(0, .ref (B + 713)), (1, .int v1), (2, .int v2), (3, .int v3)]) (hf : f_X11_isHeard_4 v1 v2 v3 w = some z) : W p l e (RM 0 0 0) s m args below meth c H locs 0 0 (MQ below (QG D B Y (some (.int z.1)) z.2 (isZ z.1)) args s 0 0 (AB B)) (F0 m 4 ls []) := by
  exact loopN_ind (z := z) (body := fun rc σ => g_X11_isHeard_4 rc  σ.1 σ.2.1 σ.2.2.1 σ.2.2.2)
    (P := fun σ => isZ σ.2.1 → ∀ (H : Heap) (locs : List Loc) (ls : Array Slot), HS D B Y σ.2.2.2 s H locs → lv_has ls 4 [(0, .ref (B + 713)), (1, .int σ.1), (2, .int σ.2.1), (3, .int σ.2.2.1)] → W p l e (RM 0 0 0) s m args below meth c H locs 0 0 (MQ below (QG D B Y (some (.int z.1)) z.2 (isZ z.1)) args s 0 0 (AB B)) (F0 m 4 ls []))
    (fun rc hrec σ hf z_v2 H locs ls hH hl => tb_X11_isHeard_4 C (fun v1 v2 v3 w hr z_v2 H locs ls hH hl => hrec (v1, v2, v3, w) hr z_v2 H locs ls hH hl)  z_v2 hH hl hf) FU (v1, v2, v3, w) hf z_v2 H locs ls hH hl
set_option maxRecDepth 100000 in
set_option maxHeartbeats 4000000 in
theorem t_X11_isHeard_0 {D : va_G} {B : Nat} {Y : Nat → ClassId} {p : Program} {l : Launch} {e : Env} {s : State} {m : MethodId} {args : Array Value} {below : List Frame} {meth : Method} {c : Code} {z : (Int32 × Wd)} {H : Heap} {locs : List Loc} {ls : Array Slot} {w : Wd} {v1 : Int32} (C : CX D B Y p s m args meth c cX11_isHeard 4 RX11 (some .boolean))     (hH : HS D B Y w s H locs) (hl : lv_has ls 4 [(0, .ref (B + 713)), (1, .int v1)]) (hf : f_X11_isHeard v1 w = some z) : W p l e (RM 0 0 0) s m args below meth c H locs 0 0 (MQ below (QG D B Y (some (.int z.1)) z.2 (isZ z.1)) args s 0 0 (AB B)) (F0 m 0 ls []) := by
  have hx := C.1
  have hb := C.2.1
  unfold f_X11_isHeard at hf
  refine lv_iconst (v := (1 : Int32)) hx hb dX11_isHeard_0 (by decide) ?_
  refine lv_istore_n (lv' := [(2, .int (1 : Int32)), (0, .ref (B + 713)), (1, .int v1)]) hx hb dX11_isHeard_1 rfl hl (by decide) rfl (fun ls hl => ?_)
  refine lv_iconst (v := (1 : Int32)) hx hb dX11_isHeard_2 (by decide) ?_
  refine lv_istore_n (lv' := [(3, .int (1 : Int32)), (2, .int (1 : Int32)), (0, .ref (B + 713)), (1, .int v1)]) hx hb dX11_isHeard_3 rfl hl (by decide) rfl (fun ls hl => ?_)
  exact t_X11_isHeard_4 C isZ_1 hH (lv_sub hl [2, 3, 1, 0] rfl) hf
set_option maxRecDepth 100000 in
theorem c_X11_isHeard {l : Launch} {D : va_G} {B : Nat} {Y : Nat → ClassId} {v1 : Int32} {w : Wd} {r : Int32} {w1 : Wd}   (hf : f_X11_isHeard v1 w = some (r, w1)) : CM l D B Y yX11_isHeard cX11_isHeard 4 (some .boolean) 0 [.ref (B + 713), .int v1] w (some (.int r)) w1 (isZ r) :=
  CM_of (by decide +kernel) (Nat.le_of_ble_eq_true rfl) (fun p e s m args below meth c ls C hH hl => t_X11_isHeard_0 C  hH (lv_sub hl [0, 1] rfl) hf)
