set_option maxRecDepth 100000 in
set_option maxHeartbeats 4000000 in
theorem tb_L_areSame_24 {D : va_G} {B : Nat} {Y : Nat → ClassId} {p : Program} {l : Launch} {e : Env} {s : State} {m : MethodId} {args : Array Value} {below : List Frame} {meth : Method} {c : Code} {z : ((Nat ⊕ Int32) × Wd)} {H : Heap} {locs : List Loc} {ls : Array Slot} {w : Wd} {v1 : Int32} {v2 : Int32} {v3 : Int32} {v4 : Int32} (C : CX D B Y p s m args meth c cL_areSame 5 RL (some .boolean)) (hxt : ∀ x ∈ c.exceptionTable.toList, False) (htr : l.stackTraces = false)  {rc_24 : Int32 × Int32 × Int32 × Int32 × Wd → Option ((Nat ⊕ Int32) × Wd)} (hr_24 : ∀ (v1 : Int32) (v2 : Int32) (v3 : Int32) (v4 : Int32) (w : Wd), rc_24 (v1, v2, v3, v4, w) = some z → isZ v3 → ∀ (H : Heap) (locs : List Loc) (ls : Array Slot), HS D B Y w s H locs → lv_has ls 5 [(0, .ref (B + 0)), (1, .int v1), (2, .int v2), (3, .int v3), (4, .int v4)] → W p l e (RM 2 (xv (zoI z.1)) (6 * xv (zoI z.1))) s m args below meth c H locs 0 0 (vx_MQ below (QX D B Y (zoI z.1) z.2 (pZ z.1)) (XX D B Y (zoI z.1) z.2) args s (xv (zoI z.1)) (6 * xv (zoI z.1)) (AB B)) (F0 m 24 ls []))   (z_v3 : isZ v3) (hH : HS D B Y w s H locs) (hl : lv_has ls 5 [(0, .ref (B + 0)), (1, .int v1), (2, .int v2), (3, .int v3), (4, .int v4)]) (hf : g_L_areSame_24 rc_24 v1 v2 v3 v4 w = some z) : W p l e (RM 2 (xv (zoI z.1)) (6 * xv (zoI z.1))) s m args below meth c H locs 0 0 (vx_MQ below (QX D B Y (zoI z.1) z.2 (pZ z.1)) (XX D B Y (zoI z.1) z.2) args s (xv (zoI z.1)) (6 * xv (zoI z.1)) (AB B)) (F0 m 24 ls []) := by
  have hx := C.1
  have hb := C.2.1
  unfold g_L_areSame_24 at hf
  refine lv_iload hx hb dL_areSame_24 (lv_at hl 4 rfl) ?_
  refine lv_aload_n hx hb dL_areSame_26 rfl (lv_at hl 0 rfl) ?_
  refine lv_iload_n hx hb dL_areSame_27 rfl (lv_at hl 1 rfl) ?_
  refine lv_iconst (v := (-1 : Int32)) hx hb dL_areSame_28 (by decide) ?_
  rcases bdx_some hf with ⟨k, w1, hc, rfl⟩ | ⟨x2, w1, hc, hf⟩
  · exact q_xrunX (k0 := k) (q_xV (As := [.int v1, .int (-1 : Int32)]) C hH (ci := 10) rfl (by omega) gk_L_112 yd_X10_at (by omega) (by omega) kc_0 (c_X10_at (r := .inl k) htr hc) hl.1 rfl (Nat.le_of_ble_eq_true rfl) dL_areSame_29 (xv_le rfl)) hH (fun H locs ce q hH h1 h2 h3 => q_out C hH hxt h1 h2 h3 (xv_1 rfl) (xv_6 rfl))
  refine q_xrun (ov := some (.int x2)) (q_xV (As := [.int v1, .int (-1 : Int32)]) C hH (ci := 10) rfl (by omega) gk_L_112 yd_X10_at (by omega) (by omega) kc_0 (c_X10_at (r := .inr x2) htr hc) hl.1 rfl (Nat.le_of_ble_eq_true rfl) dL_areSame_29 (xv_0 rfl xv_00)) hH (fun H locs hH hP => ?_)
  refine b_icmp_ge (tgt := 68) hx hb hf dL_areSame_32 (by decide) (fun hf => ?_) (fun hf => ?_)
  · refine lv_iload_n hx hb dL_areSame_68 rfl (lv_at hl 3 rfl) ?_
    cases hf
    exact q_x0 rfl (q_retz C hH z_v3 z_v3 dL_areSame_69)
  · refine lv_iload_n hx hb dL_areSame_35 rfl (lv_at hl 3 rfl) ?_
    refine b_if_eq (tgt := 68) hx hb hf dL_areSame_36 (by decide) (fun hf => ?_) (fun hf => ?_)
    · refine lv_iload_n hx hb dL_areSame_68 rfl (lv_at hl 3 rfl) ?_
      cases hf
      exact q_x0 rfl (q_retz C hH z_v3 z_v3 dL_areSame_69)
    · refine lv_aload_n hx hb dL_areSame_39 rfl (lv_at hl 0 rfl) ?_
      refine lv_iload_n hx hb dL_areSame_40 rfl (lv_at hl 1 rfl) ?_
      refine lv_iload hx hb dL_areSame_41 (lv_at hl 4 rfl) ?_
      rcases bdx_some hf with ⟨k, w3, hc, rfl⟩ | ⟨x4, w3, hc, hf⟩
      · exact q_xrunX (k0 := k) (q_xV (As := [.int v1, .int v4]) C hH (ci := 10) rfl (by omega) gk_L_112 yd_X10_at (by omega) (by omega) kc_0 (c_X10_at (r := .inl k) htr hc) hl.1 rfl (Nat.le_of_ble_eq_true rfl) dL_areSame_43 (xv_le rfl)) hH (fun H locs ce q hH h1 h2 h3 => q_out C hH hxt h1 h2 h3 (xv_1 rfl) (xv_6 rfl))
      refine q_xrun (ov := some (.int x4)) (q_xV (As := [.int v1, .int v4]) C hH (ci := 10) rfl (by omega) gk_L_112 yd_X10_at (by omega) (by omega) kc_0 (c_X10_at (r := .inr x4) htr hc) hl.1 rfl (Nat.le_of_ble_eq_true rfl) dL_areSame_43 (xv_0 rfl xv_00)) hH (fun H locs hH hP => ?_)
      refine lv_aload_n hx hb dL_areSame_46 rfl (lv_at hl 0 rfl) ?_
      refine lv_iload_n hx hb dL_areSame_47 rfl (lv_at hl 2 rfl) ?_
      refine lv_iload hx hb dL_areSame_48 (lv_at hl 4 rfl) ?_
      rcases bdx_some hf with ⟨k, w5, hc, rfl⟩ | ⟨x6, w5, hc, hf⟩
      · exact q_xrunX (k0 := k) (q_xV (As := [.int v2, .int v4]) C hH (ci := 10) rfl (by omega) gk_L_112 yd_X10_at (by omega) (by omega) kc_0 (c_X10_at (r := .inl k) htr hc) hl.1 rfl (Nat.le_of_ble_eq_true rfl) dL_areSame_50 (xv_le rfl)) hH (fun H locs ce q hH h1 h2 h3 => q_out C hH hxt h1 h2 h3 (xv_1 rfl) (xv_6 rfl))
      refine q_xrun (ov := some (.int x6)) (q_xV (As := [.int v2, .int v4]) C hH (ci := 10) rfl (by omega) gk_L_112 yd_X10_at (by omega) (by omega) kc_0 (c_X10_at (r := .inr x6) htr hc) hl.1 rfl (Nat.le_of_ble_eq_true rfl) dL_areSame_50 (xv_0 rfl xv_00)) hH (fun H locs hH hP => ?_)
      refine b_icmp_ne (tgt := 60) hx hb hf dL_areSame_53 (by decide) (fun hf => ?_) (fun hf => ?_)
      · refine lv_iconst (v := (0 : Int32)) hx hb dL_areSame_60 (by decide) ?_
        refine lv_istore_n (lv' := [(3, .int (0 : Int32)), (0, .ref (B + 0)), (1, .int v1), (2, .int v2), (4, .int v4)]) hx hb dL_areSame_61 rfl hl (by decide) rfl (fun ls hl => ?_)
        refine b_let hf (fun x7 he hf => ?_)
        refine lv_iinc (v := x7) (lv' := [(4, .int x7), (3, .int (0 : Int32)), (0, .ref (B + 0)), (1, .int v1), (2, .int v2)]) hx hb dL_areSame_62 hl (k := 4) rfl (by rw [← he]; rfl) (by decide) rfl (fun ls hl => ?_)
        refine lv_goto (tgt := 24) hx hb dL_areSame_65 (by decide) ?_
        exact hr_24 v1 v2 (0 : Int32) x7 w5 hf isZ_0 _ _ _ hH (lv_sub hl [2, 3, 4, 1, 0] rfl)
      · refine lv_iconst (v := (1 : Int32)) hx hb dL_areSame_56 (by decide) ?_
        refine lv_goto (tgt := 61) hx hb dL_areSame_57 (by decide) ?_
        refine lv_istore_n (lv' := [(3, .int (1 : Int32)), (0, .ref (B + 0)), (1, .int v1), (2, .int v2), (4, .int v4)]) hx hb dL_areSame_61 rfl hl (by decide) rfl (fun ls hl => ?_)
        refine b_let hf (fun x8 he hf => ?_)
        refine lv_iinc (v := x8) (lv' := [(4, .int x8), (3, .int (1 : Int32)), (0, .ref (B + 0)), (1, .int v1), (2, .int v2)]) hx hb dL_areSame_62 hl (k := 4) rfl (by rw [← he]; rfl) (by decide) rfl (fun ls hl => ?_)
        refine lv_goto (tgt := 24) hx hb dL_areSame_65 (by decide) ?_
        exact hr_24 v1 v2 (1 : Int32) x8 w5 hf isZ_1 _ _ _ hH (lv_sub hl [2, 3, 4, 1, 0] rfl)
set_option maxRecDepth 100000 in
set_option maxHeartbeats 4000000 in
theorem t_L_areSame_24 {D : va_G} {B : Nat} {Y : Nat → ClassId} {p : Program} {l : Launch} {e : Env} {s : State} {m : MethodId} {args : Array Value} {below : List Frame} {meth : Method} {c : Code} {z : ((Nat ⊕ Int32) × Wd)} {H : Heap} {locs : List Loc} {ls : Array Slot} {w : Wd} {v1 : Int32} {v2 : Int32} {v3 : Int32} {v4 : Int32} (C : CX D B Y p s m args meth c cL_areSame 5 RL (some .boolean)) (hxt : ∀ x ∈ c.exceptionTable.toList, False) (htr : l.stackTraces = false)    (z_v3 : isZ v3) (hH : HS D B Y w s H locs) (hl : lv_has ls 5 [(0, .ref (B + 0)), (1, .int v1), (2, .int v2), (3, .int v3), (4, .int v4)]) (hf : f_L_areSame_24 v1 v2 v3 v4 w = some z) : W p l e (RM 2 (xv (zoI z.1)) (6 * xv (zoI z.1))) s m args below meth c H locs 0 0 (vx_MQ below (QX D B Y (zoI z.1) z.2 (pZ z.1)) (XX D B Y (zoI z.1) z.2) args s (xv (zoI z.1)) (6 * xv (zoI z.1)) (AB B)) (F0 m 24 ls []) := by
  exact loopN_ind (z := z) (body := fun rc σ => g_L_areSame_24 rc  σ.1 σ.2.1 σ.2.2.1 σ.2.2.2.1 σ.2.2.2.2)
    (P := fun σ => isZ σ.2.2.1 → ∀ (H : Heap) (locs : List Loc) (ls : Array Slot), HS D B Y σ.2.2.2.2 s H locs → lv_has ls 5 [(0, .ref (B + 0)), (1, .int σ.1), (2, .int σ.2.1), (3, .int σ.2.2.1), (4, .int σ.2.2.2.1)] → W p l e (RM 2 (xv (zoI z.1)) (6 * xv (zoI z.1))) s m args below meth c H locs 0 0 (vx_MQ below (QX D B Y (zoI z.1) z.2 (pZ z.1)) (XX D B Y (zoI z.1) z.2) args s (xv (zoI z.1)) (6 * xv (zoI z.1)) (AB B)) (F0 m 24 ls []))
    (fun rc hrec σ hf z_v3 H locs ls hH hl => tb_L_areSame_24 C hxt htr (fun v1 v2 v3 v4 w hr z_v3 H locs ls hH hl => hrec (v1, v2, v3, v4, w) hr z_v3 H locs ls hH hl)  z_v3 hH hl hf) FU (v1, v2, v3, v4, w) hf z_v3 H locs ls hH hl
set_option maxRecDepth 100000 in
set_option maxHeartbeats 4000000 in
theorem t_L_areSame_20 {D : va_G} {B : Nat} {Y : Nat → ClassId} {p : Program} {l : Launch} {e : Env} {s : State} {m : MethodId} {args : Array Value} {below : List Frame} {meth : Method} {c : Code} {z : ((Nat ⊕ Int32) × Wd)} {H : Heap} {locs : List Loc} {ls : Array Slot} {w : Wd} {v1 : Int32} {v2 : Int32} {t0 : Int32} (C : CX D B Y p s m args meth c cL_areSame 5 RL (some .boolean)) (hxt : ∀ x ∈ c.exceptionTable.toList, False) (htr : l.stackTraces = false)    (z_t0 : isZ t0) (hH : HS D B Y w s H locs) (hl : lv_has ls 5 [(0, .ref (B + 0)), (1, .int v1), (2, .int v2)]) (hf : f_L_areSame_20 v1 v2 t0 w = some z) : W p l e (RM 2 (xv (zoI z.1)) (6 * xv (zoI z.1))) s m args below meth c H locs 0 0 (vx_MQ below (QX D B Y (zoI z.1) z.2 (pZ z.1)) (XX D B Y (zoI z.1) z.2) args s (xv (zoI z.1)) (6 * xv (zoI z.1)) (AB B)) (F0 m 20 ls [.int t0]) := by
  have hx := C.1
  have hb := C.2.1
  unfold f_L_areSame_20 at hf
  refine lv_istore_n (lv' := [(3, .int t0), (0, .ref (B + 0)), (1, .int v1), (2, .int v2)]) hx hb dL_areSame_20 rfl hl (by decide) rfl (fun ls hl => ?_)
  refine lv_iconst (v := (0 : Int32)) hx hb dL_areSame_21 (by decide) ?_
  refine lv_istore (lv' := [(4, .int (0 : Int32)), (3, .int t0), (0, .ref (B + 0)), (1, .int v1), (2, .int v2)]) hx hb dL_areSame_22 hl (by decide) rfl (fun ls hl => ?_)
  exact t_L_areSame_24 C hxt htr z_t0 hH (lv_sub hl [2, 3, 4, 1, 0] rfl) hf
set_option maxRecDepth 100000 in
set_option maxHeartbeats 4000000 in
theorem t_L_areSame_0 {D : va_G} {B : Nat} {Y : Nat → ClassId} {p : Program} {l : Launch} {e : Env} {s : State} {m : MethodId} {args : Array Value} {below : List Frame} {meth : Method} {c : Code} {z : ((Nat ⊕ Int32) × Wd)} {H : Heap} {locs : List Loc} {ls : Array Slot} {w : Wd} {v1 : Int32} {v2 : Int32} (C : CX D B Y p s m args meth c cL_areSame 5 RL (some .boolean)) (hxt : ∀ x ∈ c.exceptionTable.toList, False) (htr : l.stackTraces = false)     (hH : HS D B Y w s H locs) (hl : lv_has ls 5 [(0, .ref (B + 0)), (1, .int v1), (2, .int v2)]) (hf : f_L_areSame v1 v2 w = some z) : W p l e (RM 2 (xv (zoI z.1)) (6 * xv (zoI z.1))) s m args below meth c H locs 0 0 (vx_MQ below (QX D B Y (zoI z.1) z.2 (pZ z.1)) (XX D B Y (zoI z.1) z.2) args s (xv (zoI z.1)) (6 * xv (zoI z.1)) (AB B)) (F0 m 0 ls []) := by
  have hx := C.1
  have hb := C.2.1
  unfold f_L_areSame at hf
  refine lv_aload_n hx hb dL_areSame_0 rfl (lv_at hl 0 rfl) ?_
  refine lv_iload_n hx hb dL_areSame_1 rfl (lv_at hl 1 rfl) ?_
  refine lv_iconst (v := (-1 : Int32)) hx hb dL_areSame_2 (by decide) ?_
  rcases bdx_some hf with ⟨k, w1, hc, rfl⟩ | ⟨x2, w1, hc, hf⟩
  · exact q_xrunX (k0 := k) (q_xV (As := [.int v1, .int (-1 : Int32)]) C hH (ci := 10) rfl (by omega) gk_L_112 yd_X10_at (by omega) (by omega) kc_0 (c_X10_at (r := .inl k) htr hc) hl.1 rfl (Nat.le_of_ble_eq_true rfl) dL_areSame_3 (xv_le rfl)) hH (fun H locs ce q hH h1 h2 h3 => q_out C hH hxt h1 h2 h3 (xv_1 rfl) (xv_6 rfl))
  refine q_xrun (ov := some (.int x2)) (q_xV (As := [.int v1, .int (-1 : Int32)]) C hH (ci := 10) rfl (by omega) gk_L_112 yd_X10_at (by omega) (by omega) kc_0 (c_X10_at (r := .inr x2) htr hc) hl.1 rfl (Nat.le_of_ble_eq_true rfl) dL_areSame_3 (xv_0 rfl xv_00)) hH (fun H locs hH hP => ?_)
  refine lv_aload_n hx hb dL_areSame_6 rfl (lv_at hl 0 rfl) ?_
  refine lv_iload_n hx hb dL_areSame_7 rfl (lv_at hl 2 rfl) ?_
  refine lv_iconst (v := (-1 : Int32)) hx hb dL_areSame_8 (by decide) ?_
  rcases bdx_some hf with ⟨k, w3, hc, rfl⟩ | ⟨x4, w3, hc, hf⟩
  · exact q_xrunX (k0 := k) (q_xV (As := [.int v2, .int (-1 : Int32)]) C hH (ci := 10) rfl (by omega) gk_L_112 yd_X10_at (by omega) (by omega) kc_0 (c_X10_at (r := .inl k) htr hc) hl.1 rfl (Nat.le_of_ble_eq_true rfl) dL_areSame_9 (xv_le rfl)) hH (fun H locs ce q hH h1 h2 h3 => q_out C hH hxt h1 h2 h3 (xv_1 rfl) (xv_6 rfl))
  refine q_xrun (ov := some (.int x4)) (q_xV (As := [.int v2, .int (-1 : Int32)]) C hH (ci := 10) rfl (by omega) gk_L_112 yd_X10_at (by omega) (by omega) kc_0 (c_X10_at (r := .inr x4) htr hc) hl.1 rfl (Nat.le_of_ble_eq_true rfl) dL_areSame_9 (xv_0 rfl xv_00)) hH (fun H locs hH hP => ?_)
  refine b_icmp_ne (tgt := 19) hx hb hf dL_areSame_12 (by decide) (fun hf => ?_) (fun hf => ?_)
  · refine lv_iconst (v := (0 : Int32)) hx hb dL_areSame_19 (by decide) ?_
    exact t_L_areSame_20 C hxt htr isZ_0 hH (lv_sub hl [0, 1, 2] rfl) hf
  · refine lv_iconst (v := (1 : Int32)) hx hb dL_areSame_15 (by decide) ?_
    refine lv_goto (tgt := 20) hx hb dL_areSame_16 (by decide) ?_
    exact t_L_areSame_20 C hxt htr isZ_1 hH (lv_sub hl [0, 1, 2] rfl) hf
set_option maxRecDepth 100000 in
theorem c_L_areSame {l : Launch} {D : va_G} {B : Nat} {Y : Nat → ClassId} {v1 : Int32} {v2 : Int32} {w : Wd} {r : (Nat ⊕ Int32)} {w1 : Wd} (htr : l.stackTraces = false)   (hf : f_L_areSame v1 v2 w = some (r, w1)) : XM l D B Y yL_areSame cL_areSame 5 (some .boolean) 2 [.ref (B + 0), .int v1, .int v2] w (zoI r) w1 (pZ r) :=
  XM_of (by decide +kernel) (Nat.le_of_ble_eq_true rfl) (fun p e s m args below meth c ls C hxt hH hl => t_L_areSame_0 C hxt htr  hH (lv_sub hl [0, 1, 2] rfl) hf)
set_option maxRecDepth 100000 in
set_option maxHeartbeats 4000000 in
theorem t_L_areFormsSo_148 {D : va_G} {B : Nat} {Y : Nat → ClassId} {p : Program} {l : Launch} {e : Env} {s : State} {m : MethodId} {args : Array Value} {below : List Frame} {meth : Method} {c : Code} {z : ((Nat ⊕ Int32) × Wd)} {H : Heap} {locs : List Loc} {ls : Array Slot} {w : Wd} {v1 : Int32} {t0 : Int32} (C : CX D B Y p s m args meth c cL_areFormsSo 6 RL (some .boolean)) (hxt : ∀ x ∈ c.exceptionTable.toList, False) (htr : l.stackTraces = false)    (z_t0 : isZ t0) (hH : HS D B Y w s H locs) (hl : lv_has ls 6 [(0, .ref (B + 0)), (1, .int v1)]) (hf : f_L_areFormsSo_148 v1 t0 w = some z) : W p l e (RM 34 8 (6 * 8)) s m args below meth c H locs 6 (6 * 6) (vx_MQ below (QX D B Y (zoI z.1) z.2 (pZ z.1)) (XX D B Y (zoI z.1) z.2) args s 8 (6 * 8) (AB B)) (F0 m 148 ls [.int t0]) := by
  have hx := C.1
  have hb := C.2.1
  unfold f_L_areFormsSo_148 at hf
  refine lv_istore_n (lv' := [(3, .int t0), (0, .ref (B + 0)), (1, .int v1)]) hx hb dL_areFormsSo_148 rfl hl (by decide) rfl (fun ls hl => ?_)
  refine lv_iload_n hx hb dL_areFormsSo_149 rfl (lv_at hl 0 rfl) ?_
  refine b_if_eq (tgt := 181) hx hb hf dL_areFormsSo_150 (by decide) (fun hf => ?_) (fun hf => ?_)
  · refine lv_iconst (v := (0 : Int32)) hx hb dL_areFormsSo_181 (by decide) ?_
    cases hf
    exact q_x (W.widen (k := 8) (n := 6 * 8) (by decide) (by decide) (q_retz C hH isZ_0 isZ_0 dL_areFormsSo_182))
  · refine lv_aload_n hx hb dL_areFormsSo_153 rfl (lv_at hl 1 rfl) ?_
    refine lv_bipush (v := (19 : Int32)) hx hb dL_areFormsSo_154 (by decide) ?_
    refine lv_iconst (v := (0 : Int32)) hx hb dL_areFormsSo_156 (by decide) ?_
    refine lv_iload_n hx hb dL_areFormsSo_157 rfl (lv_at hl 2 rfl) ?_
    refine lv_iload_n hx hb dL_areFormsSo_158 rfl (lv_at hl 2 rfl) ?_
    obtain ⟨x2, w1, hc, hf⟩ := bd_some hf
    refine q_callLW (As := [.ref (B + 0), .int (19 : Int32), .int (0 : Int32), .int v1, .int v1]) C hH (k := x2) (goodSW wd_431 wd_432 wd_49 wd_433) yd_L_does (c_L_does htr hc) (by exact Nat.le_of_ble_eq_true rfl) (by exact Nat.le_of_ble_eq_true rfl) hl.1 rfl (Nat.le_of_ble_eq_true rfl) dL_areFormsSo_159 ⟨by exact Nat.le_of_ble_eq_true rfl, by exact Nat.le_of_ble_eq_true rfl⟩ (fun H locs hH => ?_)
    refine b_if_ne (tgt := 181) hx hb hf dL_areFormsSo_162 (by decide) (fun hf => ?_) (fun hf => ?_)
    · refine lv_iconst (v := (0 : Int32)) hx hb dL_areFormsSo_181 (by decide) ?_
      cases hf
      exact q_x (W.widen (k := 8) (n := 6 * 8) (by decide) (by decide) (q_retz C hH isZ_0 isZ_0 dL_areFormsSo_182))
    · refine lv_aload_n hx hb dL_areFormsSo_165 rfl (lv_at hl 1 rfl) ?_
      refine lv_bipush (v := (13 : Int32)) hx hb dL_areFormsSo_166 (by decide) ?_
      refine lv_iload_n hx hb dL_areFormsSo_168 rfl (lv_at hl 2 rfl) ?_
      refine lv_iload_n hx hb dL_areFormsSo_169 rfl (lv_at hl 2 rfl) ?_
      refine lv_iconst (v := (0 : Int32)) hx hb dL_areFormsSo_170 (by decide) ?_
      obtain ⟨x4, w3, hc, hf⟩ := bd_some hf
      refine q_callLW (As := [.ref (B + 0), .int (13 : Int32), .int v1, .int v1, .int (0 : Int32)]) C hH (k := x4) (goodSW wd_431 wd_432 wd_49 wd_433) yd_L_does (c_L_does htr hc) (by exact Nat.le_of_ble_eq_true rfl) (by exact Nat.le_of_ble_eq_true rfl) hl.1 rfl (Nat.le_of_ble_eq_true rfl) dL_areFormsSo_171 ⟨by exact Nat.le_of_ble_eq_true rfl, by exact Nat.le_of_ble_eq_true rfl⟩ (fun H locs hH => ?_)
      refine b_if_eq (tgt := 181) hx hb hf dL_areFormsSo_174 (by decide) (fun hf => ?_) (fun hf => ?_)
      · refine lv_iconst (v := (0 : Int32)) hx hb dL_areFormsSo_181 (by decide) ?_
        cases hf
        exact q_x (W.widen (k := 8) (n := 6 * 8) (by decide) (by decide) (q_retz C hH isZ_0 isZ_0 dL_areFormsSo_182))
      · refine lv_iconst (v := (1 : Int32)) hx hb dL_areFormsSo_177 (by decide) ?_
        refine lv_goto (tgt := 182) hx hb dL_areFormsSo_178 (by decide) ?_
        cases hf
        exact q_x (W.widen (k := 8) (n := 6 * 8) (by decide) (by decide) (q_retz C hH isZ_1 isZ_1 dL_areFormsSo_182))
set_option maxRecDepth 100000 in
set_option maxHeartbeats 4000000 in
theorem t_L_areFormsSo_147 {D : va_G} {B : Nat} {Y : Nat → ClassId} {p : Program} {l : Launch} {e : Env} {s : State} {m : MethodId} {args : Array Value} {below : List Frame} {meth : Method} {c : Code} {z : ((Nat ⊕ Int32) × Wd)} {H : Heap} {locs : List Loc} {ls : Array Slot} {w : Wd} {v1 : Int32} (C : CX D B Y p s m args meth c cL_areFormsSo 6 RL (some .boolean)) (hxt : ∀ x ∈ c.exceptionTable.toList, False) (htr : l.stackTraces = false)     (hH : HS D B Y w s H locs) (hl : lv_has ls 6 [(0, .ref (B + 0)), (1, .int v1)]) (hf : f_L_areFormsSo_147 v1 w = some z) : W p l e (RM 34 8 (6 * 8)) s m args below meth c H locs 6 (6 * 6) (vx_MQ below (QX D B Y (zoI z.1) z.2 (pZ z.1)) (XX D B Y (zoI z.1) z.2) args s 8 (6 * 8) (AB B)) (F0 m 147 ls []) := by
  have hx := C.1
  have hb := C.2.1
  unfold f_L_areFormsSo_147 at hf
  refine lv_iconst (v := (0 : Int32)) hx hb dL_areFormsSo_147 (by decide) ?_
  exact t_L_areFormsSo_148 C hxt htr isZ_0 hH (lv_sub hl [0, 1] rfl) hf
set_option maxRecDepth 100000 in
set_option maxHeartbeats 4000000 in
theorem t_L_areFormsSo_99 {D : va_G} {B : Nat} {Y : Nat → ClassId} {p : Program} {l : Launch} {e : Env} {s : State} {m : MethodId} {args : Array Value} {below : List Frame} {meth : Method} {c : Code} {z : ((Nat ⊕ Int32) × Wd)} {H : Heap} {locs : List Loc} {ls : Array Slot} {w : Wd} {v1 : Int32} {t0 : Int32} (C : CX D B Y p s m args meth c cL_areFormsSo 6 RL (some .boolean)) (hxt : ∀ x ∈ c.exceptionTable.toList, False) (htr : l.stackTraces = false)    (z_t0 : isZ t0) (hH : HS D B Y w s H locs) (hl : lv_has ls 6 [(0, .ref (B + 0)), (1, .int v1)]) (hf : f_L_areFormsSo_99 v1 t0 w = some z) : W p l e (RM 34 8 (6 * 8)) s m args below meth c H locs 4 (6 * 4) (vx_MQ below (QX D B Y (zoI z.1) z.2 (pZ z.1)) (XX D B Y (zoI z.1) z.2) args s 8 (6 * 8) (AB B)) (F0 m 99 ls [.int t0]) := by
  have hx := C.1
  have hb := C.2.1
  unfold f_L_areFormsSo_99 at hf
  refine lv_istore_n (lv' := [(3, .int t0), (0, .ref (B + 0)), (1, .int v1)]) hx hb dL_areFormsSo_99 rfl hl (by decide) rfl (fun ls hl => ?_)
  refine lv_aload_n hx hb dL_areFormsSo_100 rfl (lv_at hl 1 rfl) ?_
  refine lv_bipush (v := (12 : Int32)) hx hb dL_areFormsSo_101 (by decide) ?_
  refine lv_iload_n hx hb dL_areFormsSo_103 rfl (lv_at hl 2 rfl) ?_
  refine lv_iconst (v := (2 : Int32)) hx hb dL_areFormsSo_104 (by decide) ?_
  refine lv_iconst (v := (4 : Int32)) hx hb dL_areFormsSo_105 (by decide) ?_
  obtain ⟨x2, w1, hc, hf⟩ := bd_some hf
  refine q_callLW (As := [.ref (B + 0), .int (12 : Int32), .int v1, .int (2 : Int32), .int (4 : Int32)]) C hH (k := x2) (goodSW wd_431 wd_432 wd_49 wd_433) yd_L_does (c_L_does htr hc) (by exact Nat.le_of_ble_eq_true rfl) (by exact Nat.le_of_ble_eq_true rfl) hl.1 rfl (Nat.le_of_ble_eq_true rfl) dL_areFormsSo_106 ⟨by exact Nat.le_of_ble_eq_true rfl, by exact Nat.le_of_ble_eq_true rfl⟩ (fun H locs hH => ?_)
  refine lv_istore (lv' := [(5, .int x2), (3, .int t0), (0, .ref (B + 0)), (1, .int v1)]) hx hb dL_areFormsSo_109 hl (by decide) rfl (fun ls hl => ?_)
  refine lv_iload_n hx hb dL_areFormsSo_111 rfl (lv_at hl 1 rfl) ?_
  refine b_if_eq (tgt := 147) hx hb hf dL_areFormsSo_112 (by decide) (fun hf => ?_) (fun hf => ?_)
  · refine W.widen (k := 6) (n := 6 * 6) (by decide) (by decide) ?_
    exact t_L_areFormsSo_147 C hxt htr hH (lv_sub hl [2, 3] rfl) hf
  · refine lv_iload hx hb dL_areFormsSo_115 (lv_at hl 0 rfl) ?_
    refine b_if_lt (tgt := 143) hx hb hf dL_areFormsSo_117 (by decide) (fun hf => ?_) (fun hf => ?_)
    · refine lv_iconst (v := (1 : Int32)) hx hb dL_areFormsSo_143 (by decide) ?_
      refine lv_goto (tgt := 148) hx hb dL_areFormsSo_144 (by decide) ?_
      refine W.widen (k := 6) (n := 6 * 6) (by decide) (by decide) ?_
      exact t_L_areFormsSo_148 C hxt htr isZ_1 hH (lv_sub hl [2, 3] rfl) hf
    · refine lv_aload_n hx hb dL_areFormsSo_120 rfl (lv_at hl 2 rfl) ?_
      refine lv_bipush (v := (12 : Int32)) hx hb dL_areFormsSo_121 (by decide) ?_
      refine lv_iconst (v := (4 : Int32)) hx hb dL_areFormsSo_123 (by decide) ?_
      refine lv_iconst (v := (0 : Int32)) hx hb dL_areFormsSo_124 (by decide) ?_
      refine lv_iconst (v := (5 : Int32)) hx hb dL_areFormsSo_125 (by decide) ?_
      obtain ⟨x4, w3, hc, hf⟩ := bd_some hf
      refine q_callLW (As := [.ref (B + 0), .int (12 : Int32), .int (4 : Int32), .int (0 : Int32), .int (5 : Int32)]) C hH (k := x4) (goodSW wd_431 wd_432 wd_49 wd_433) yd_L_does (c_L_does htr hc) (by exact Nat.le_of_ble_eq_true rfl) (by exact Nat.le_of_ble_eq_true rfl) hl.1 rfl (Nat.le_of_ble_eq_true rfl) dL_areFormsSo_126 ⟨by exact Nat.le_of_ble_eq_true rfl, by exact Nat.le_of_ble_eq_true rfl⟩ (fun H locs hH => ?_)
      refine lv_iload hx hb dL_areFormsSo_129 (lv_at hl 0 rfl) ?_
      refine b_icmp_ne (tgt := 147) hx hb hf dL_areFormsSo_131 (by decide) (fun hf => ?_) (fun hf => ?_)
      · exact t_L_areFormsSo_147 C hxt htr hH (lv_sub hl [2, 3] rfl) hf
      · refine lv_aload_n hx hb dL_areFormsSo_134 rfl (lv_at hl 2 rfl) ?_
        refine lv_iconst (v := (4 : Int32)) hx hb dL_areFormsSo_135 (by decide) ?_
        refine lv_iconst (v := (5 : Int32)) hx hb dL_areFormsSo_136 (by decide) ?_
        rcases bdx_some hf with ⟨k, w5, hc, rfl⟩ | ⟨x6, w5, hc, hf⟩
        · exact q_xrunX (k0 := k) (q_xS (As := [.ref (B + 0), .int (4 : Int32), .int (5 : Int32)]) C hH gk_L_181 yd_L_areSame (by omega) (by omega) (c_L_areSame (r := .inl k) htr hc) hl.1 rfl (Nat.le_of_ble_eq_true rfl) dL_areFormsSo_137 (xw_n rfl (by decide) (by decide))) hH (fun H locs ce q hH h1 h2 h3 => q_out C hH hxt h1 h2 h3 (by exact Nat.le_of_ble_eq_true rfl) (by exact Nat.le_of_ble_eq_true rfl))
        refine q_xrun (ov := some (.int x6)) (q_xS (As := [.ref (B + 0), .int (4 : Int32), .int (5 : Int32)]) C hH gk_L_181 yd_L_areSame (by omega) (by omega) (c_L_areSame (r := .inr x6) htr hc) hl.1 rfl (Nat.le_of_ble_eq_true rfl) dL_areFormsSo_137 (xv_0 rfl ⟨by decide, by decide⟩)) hH (fun H locs hH z_x6 => ?_)
        refine b_if_eq (tgt := 147) hx hb hf dL_areFormsSo_140 (by decide) (fun hf => ?_) (fun hf => ?_)
        · exact t_L_areFormsSo_147 C hxt htr hH (lv_sub hl [2, 3] rfl) hf
        · refine lv_iconst (v := (1 : Int32)) hx hb dL_areFormsSo_143 (by decide) ?_
          refine lv_goto (tgt := 148) hx hb dL_areFormsSo_144 (by decide) ?_
          exact t_L_areFormsSo_148 C hxt htr isZ_1 hH (lv_sub hl [2, 3] rfl) hf
set_option maxRecDepth 100000 in
set_option maxHeartbeats 4000000 in
theorem t_L_areFormsSo_98 {D : va_G} {B : Nat} {Y : Nat → ClassId} {p : Program} {l : Launch} {e : Env} {s : State} {m : MethodId} {args : Array Value} {below : List Frame} {meth : Method} {c : Code} {z : ((Nat ⊕ Int32) × Wd)} {H : Heap} {locs : List Loc} {ls : Array Slot} {w : Wd} {v1 : Int32} (C : CX D B Y p s m args meth c cL_areFormsSo 6 RL (some .boolean)) (hxt : ∀ x ∈ c.exceptionTable.toList, False) (htr : l.stackTraces = false)     (hH : HS D B Y w s H locs) (hl : lv_has ls 6 [(0, .ref (B + 0)), (1, .int v1)]) (hf : f_L_areFormsSo_98 v1 w = some z) : W p l e (RM 34 8 (6 * 8)) s m args below meth c H locs 4 (6 * 4) (vx_MQ below (QX D B Y (zoI z.1) z.2 (pZ z.1)) (XX D B Y (zoI z.1) z.2) args s 8 (6 * 8) (AB B)) (F0 m 98 ls []) := by
  have hx := C.1
  have hb := C.2.1
  unfold f_L_areFormsSo_98 at hf
  refine lv_iconst (v := (0 : Int32)) hx hb dL_areFormsSo_98 (by decide) ?_
  exact t_L_areFormsSo_99 C hxt htr isZ_0 hH (lv_sub hl [0, 1] rfl) hf
set_option maxRecDepth 100000 in
set_option maxHeartbeats 4000000 in
theorem t_L_areFormsSo_53 {D : va_G} {B : Nat} {Y : Nat → ClassId} {p : Program} {l : Launch} {e : Env} {s : State} {m : MethodId} {args : Array Value} {below : List Frame} {meth : Method} {c : Code} {z : ((Nat ⊕ Int32) × Wd)} {H : Heap} {locs : List Loc} {ls : Array Slot} {w : Wd} {v1 : Int32} {v2 : Int32} {t0 : Int32} (C : CX D B Y p s m args meth c cL_areFormsSo 6 RL (some .boolean)) (hxt : ∀ x ∈ c.exceptionTable.toList, False) (htr : l.stackTraces = false)    (z_t0 : isZ t0) (hH : HS D B Y w s H locs) (hl : lv_has ls 6 [(0, .ref (B + 0)), (1, .int v1), (2, .int v2)]) (hf : f_L_areFormsSo_53 v1 v2 t0 w = some z) : W p l e (RM 34 8 (6 * 8)) s m args below meth c H locs 2 (6 * 2) (vx_MQ below (QX D B Y (zoI z.1) z.2 (pZ z.1)) (XX D B Y (zoI z.1) z.2) args s 8 (6 * 8) (AB B)) (F0 m 53 ls [.int t0]) := by
  have hx := C.1
  have hb := C.2.1
  unfold f_L_areFormsSo_53 at hf
  refine lv_istore_n (lv' := [(3, .int t0), (0, .ref (B + 0)), (1, .int v1), (2, .int v2)]) hx hb dL_areFormsSo_53 rfl hl (by decide) rfl (fun ls hl => ?_)
  refine lv_aload_n hx hb dL_areFormsSo_54 rfl (lv_at hl 1 rfl) ?_
  refine lv_bipush (v := (12 : Int32)) hx hb dL_areFormsSo_55 (by decide) ?_
  refine lv_iload_n hx hb dL_areFormsSo_57 rfl (lv_at hl 2 rfl) ?_
  refine lv_iconst (v := (1 : Int32)) hx hb dL_areFormsSo_58 (by decide) ?_
  refine lv_iconst (v := (5 : Int32)) hx hb dL_areFormsSo_59 (by decide) ?_
  obtain ⟨x2, w1, hc, hf⟩ := bd_some hf
  refine q_callLW (As := [.ref (B + 0), .int (12 : Int32), .int v1, .int (1 : Int32), .int (5 : Int32)]) C hH (k := x2) (goodSW wd_431 wd_432 wd_49 wd_433) yd_L_does (c_L_does htr hc) (by exact Nat.le_of_ble_eq_true rfl) (by exact Nat.le_of_ble_eq_true rfl) hl.1 rfl (Nat.le_of_ble_eq_true rfl) dL_areFormsSo_60 ⟨by exact Nat.le_of_ble_eq_true rfl, by exact Nat.le_of_ble_eq_true rfl⟩ (fun H locs hH => ?_)
  refine lv_istore (lv' := [(4, .int x2), (3, .int t0), (0, .ref (B + 0)), (1, .int v1), (2, .int v2)]) hx hb dL_areFormsSo_63 hl (by decide) rfl (fun ls hl => ?_)
  refine lv_iload_n hx hb dL_areFormsSo_65 rfl (lv_at hl 1 rfl) ?_
  refine b_if_eq (tgt := 98) hx hb hf dL_areFormsSo_66 (by decide) (fun hf => ?_) (fun hf => ?_)
  · refine W.widen (k := 4) (n := 6 * 4) (by decide) (by decide) ?_
    exact t_L_areFormsSo_98 C hxt htr hH (lv_sub hl [2, 3] rfl) hf
  · refine lv_iload hx hb dL_areFormsSo_69 (lv_at hl 0 rfl) ?_
    refine b_if_lt (tgt := 98) hx hb hf dL_areFormsSo_71 (by decide) (fun hf => ?_) (fun hf => ?_)
    · refine W.widen (k := 4) (n := 6 * 4) (by decide) (by decide) ?_
      exact t_L_areFormsSo_98 C hxt htr hH (lv_sub hl [2, 3] rfl) hf
    · refine lv_iload hx hb dL_areFormsSo_74 (lv_at hl 0 rfl) ?_
      refine lv_iload_n hx hb dL_areFormsSo_76 rfl (lv_at hl 4 rfl) ?_
      refine b_icmp_gt (tgt := 98) hx hb hf dL_areFormsSo_77 (by decide) (fun hf => ?_) (fun hf => ?_)
      · refine W.widen (k := 4) (n := 6 * 4) (by decide) (by decide) ?_
        exact t_L_areFormsSo_98 C hxt htr hH (lv_sub hl [2, 3] rfl) hf
      · refine lv_aload_n hx hb dL_areFormsSo_80 rfl (lv_at hl 2 rfl) ?_
        refine lv_bipush (v := (12 : Int32)) hx hb dL_areFormsSo_81 (by decide) ?_
        refine lv_iconst (v := (4 : Int32)) hx hb dL_areFormsSo_83 (by decide) ?_
        refine lv_iconst (v := (1 : Int32)) hx hb dL_areFormsSo_84 (by decide) ?_
        refine lv_iconst (v := (5 : Int32)) hx hb dL_areFormsSo_85 (by decide) ?_
        obtain ⟨x4, w3, hc, hf⟩ := bd_some hf
        refine q_callLW (As := [.ref (B + 0), .int (12 : Int32), .int (4 : Int32), .int (1 : Int32), .int (5 : Int32)]) C hH (k := x4) (goodSW wd_431 wd_432 wd_49 wd_433) yd_L_does (c_L_does htr hc) (by exact Nat.le_of_ble_eq_true rfl) (by exact Nat.le_of_ble_eq_true rfl) hl.1 rfl (Nat.le_of_ble_eq_true rfl) dL_areFormsSo_86 ⟨by exact Nat.le_of_ble_eq_true rfl, by exact Nat.le_of_ble_eq_true rfl⟩ (fun H locs hH => ?_)
        refine lv_iload hx hb dL_areFormsSo_89 (lv_at hl 0 rfl) ?_
        refine b_icmp_ne (tgt := 98) hx hb hf dL_areFormsSo_91 (by decide) (fun hf => ?_) (fun hf => ?_)
        · exact t_L_areFormsSo_98 C hxt htr hH (lv_sub hl [2, 3] rfl) hf
        · refine lv_iconst (v := (1 : Int32)) hx hb dL_areFormsSo_94 (by decide) ?_
          refine lv_goto (tgt := 99) hx hb dL_areFormsSo_95 (by decide) ?_
          exact t_L_areFormsSo_99 C hxt htr isZ_1 hH (lv_sub hl [2, 3] rfl) hf
set_option maxRecDepth 100000 in
set_option maxHeartbeats 4000000 in
theorem t_L_areFormsSo_52 {D : va_G} {B : Nat} {Y : Nat → ClassId} {p : Program} {l : Launch} {e : Env} {s : State} {m : MethodId} {args : Array Value} {below : List Frame} {meth : Method} {c : Code} {z : ((Nat ⊕ Int32) × Wd)} {H : Heap} {locs : List Loc} {ls : Array Slot} {w : Wd} {v1 : Int32} {v2 : Int32} (C : CX D B Y p s m args meth c cL_areFormsSo 6 RL (some .boolean)) (hxt : ∀ x ∈ c.exceptionTable.toList, False) (htr : l.stackTraces = false)     (hH : HS D B Y w s H locs) (hl : lv_has ls 6 [(0, .ref (B + 0)), (1, .int v1), (2, .int v2)]) (hf : f_L_areFormsSo_52 v1 v2 w = some z) : W p l e (RM 34 8 (6 * 8)) s m args below meth c H locs 2 (6 * 2) (vx_MQ below (QX D B Y (zoI z.1) z.2 (pZ z.1)) (XX D B Y (zoI z.1) z.2) args s 8 (6 * 8) (AB B)) (F0 m 52 ls []) := by
  have hx := C.1
  have hb := C.2.1
  unfold f_L_areFormsSo_52 at hf
  refine lv_iconst (v := (0 : Int32)) hx hb dL_areFormsSo_52 (by decide) ?_
  exact t_L_areFormsSo_53 C hxt htr isZ_0 hH (lv_sub hl [0, 1, 2] rfl) hf
set_option maxRecDepth 100000 in
set_option maxHeartbeats 4000000 in
theorem t_L_areFormsSo_0 {D : va_G} {B : Nat} {Y : Nat → ClassId} {p : Program} {l : Launch} {e : Env} {s : State} {m : MethodId} {args : Array Value} {below : List Frame} {meth : Method} {c : Code} {z : ((Nat ⊕ Int32) × Wd)} {H : Heap} {locs : List Loc} {ls : Array Slot} {w : Wd} {v1 : Int32} (C : CX D B Y p s m args meth c cL_areFormsSo 6 RL (some .boolean)) (hxt : ∀ x ∈ c.exceptionTable.toList, False) (htr : l.stackTraces = false)     (hH : HS D B Y w s H locs) (hl : lv_has ls 6 [(0, .ref (B + 0)), (1, .int v1)]) (hf : f_L_areFormsSo v1 w = some z) : W p l e (RM 34 8 (6 * 8)) s m args below meth c H locs 0 0 (vx_MQ below (QX D B Y (zoI z.1) z.2 (pZ z.1)) (XX D B Y (zoI z.1) z.2) args s 8 (6 * 8) (AB B)) (F0 m 0 ls []) := by
  have hx := C.1
  have hb := C.2.1
  unfold f_L_areFormsSo at hf
  refine lv_aload_n hx hb dL_areFormsSo_0 rfl (lv_at hl 0 rfl) ?_
  refine lv_bipush (v := (12 : Int32)) hx hb dL_areFormsSo_1 (by decide) ?_
  refine lv_iload_n hx hb dL_areFormsSo_3 rfl (lv_at hl 1 rfl) ?_
  refine lv_iconst (v := (0 : Int32)) hx hb dL_areFormsSo_4 (by decide) ?_
  refine lv_iconst (v := (4 : Int32)) hx hb dL_areFormsSo_5 (by decide) ?_
  obtain ⟨x2, w1, hc, hf⟩ := bd_some hf
  refine q_callLW (As := [.ref (B + 0), .int (12 : Int32), .int v1, .int (0 : Int32), .int (4 : Int32)]) C hH (k := x2) (goodSW wd_431 wd_432 wd_49 wd_433) yd_L_does (c_L_does htr hc) (by exact Nat.le_of_ble_eq_true rfl) (by exact Nat.le_of_ble_eq_true rfl) hl.1 rfl (Nat.le_of_ble_eq_true rfl) dL_areFormsSo_6 ⟨by exact Nat.le_of_ble_eq_true rfl, by exact Nat.le_of_ble_eq_true rfl⟩ (fun H locs hH => ?_)
  refine lv_istore_n (lv' := [(2, .int x2), (0, .ref (B + 0)), (1, .int v1)]) hx hb dL_areFormsSo_9 rfl hl (by decide) rfl (fun ls hl => ?_)
  refine lv_iload_n hx hb dL_areFormsSo_10 rfl (lv_at hl 0 rfl) ?_
  refine b_if_ge (tgt := 16) hx hb hf dL_areFormsSo_11 (by decide) (fun hf => ?_) (fun hf => ?_)
  · refine lv_aload_n hx hb dL_areFormsSo_16 rfl (lv_at hl 1 rfl) ?_
    refine lv_bipush (v := (12 : Int32)) hx hb dL_areFormsSo_17 (by decide) ?_
    refine lv_iconst (v := (4 : Int32)) hx hb dL_areFormsSo_19 (by decide) ?_
    refine lv_iconst (v := (0 : Int32)) hx hb dL_areFormsSo_20 (by decide) ?_
    refine lv_iconst (v := (5 : Int32)) hx hb dL_areFormsSo_21 (by decide) ?_
    obtain ⟨x4, w3, hc, hf⟩ := bd_some hf
    refine q_callLW (As := [.ref (B + 0), .int (12 : Int32), .int (4 : Int32), .int (0 : Int32), .int (5 : Int32)]) C hH (k := x4) (goodSW wd_431 wd_432 wd_49 wd_433) yd_L_does (c_L_does htr hc) (by exact Nat.le_of_ble_eq_true rfl) (by exact Nat.le_of_ble_eq_true rfl) hl.1 rfl (Nat.le_of_ble_eq_true rfl) dL_areFormsSo_22 ⟨by exact Nat.le_of_ble_eq_true rfl, by exact Nat.le_of_ble_eq_true rfl⟩ (fun H locs hH => ?_)
    refine lv_iload_n hx hb dL_areFormsSo_25 rfl (lv_at hl 0 rfl) ?_
    refine b_icmp_ne (tgt := 52) hx hb hf dL_areFormsSo_26 (by decide) (fun hf => ?_) (fun hf => ?_)
    · exact t_L_areFormsSo_52 C hxt htr hH (lv_sub hl [1, 2, 0] rfl) hf
    · refine lv_aload_n hx hb dL_areFormsSo_29 rfl (lv_at hl 1 rfl) ?_
      refine lv_iconst (v := (4 : Int32)) hx hb dL_areFormsSo_30 (by decide) ?_
      refine lv_iconst (v := (-1 : Int32)) hx hb dL_areFormsSo_31 (by decide) ?_
      rcases bdx_some hf with ⟨k, w5, hc, rfl⟩ | ⟨x6, w5, hc, hf⟩
      · exact q_xrunX (k0 := k) (q_xV (As := [.int (4 : Int32), .int (-1 : Int32)]) C hH (ci := 10) rfl (by omega) gk_L_112 yd_X10_at (by omega) (by omega) kc_0 (c_X10_at (r := .inl k) htr hc) hl.1 rfl (Nat.le_of_ble_eq_true rfl) dL_areFormsSo_32 (xw_n rfl (by decide) (by decide))) hH (fun H locs ce q hH h1 h2 h3 => q_out C hH hxt h1 h2 h3 (by exact Nat.le_of_ble_eq_true rfl) (by exact Nat.le_of_ble_eq_true rfl))
      refine q_xrun (ov := some (.int x6)) (q_xV (As := [.int (4 : Int32), .int (-1 : Int32)]) C hH (ci := 10) rfl (by omega) gk_L_112 yd_X10_at (by omega) (by omega) kc_0 (c_X10_at (r := .inr x6) htr hc) hl.1 rfl (Nat.le_of_ble_eq_true rfl) dL_areFormsSo_32 (xv_0 rfl ⟨by decide, by decide⟩)) hH (fun H locs hH hP => ?_)
      refine lv_iload_n hx hb dL_areFormsSo_35 rfl (lv_at hl 0 rfl) ?_
      refine b_icmp_ne (tgt := 52) hx hb hf dL_areFormsSo_36 (by decide) (fun hf => ?_) (fun hf => ?_)
      · exact t_L_areFormsSo_52 C hxt htr hH (lv_sub hl [1, 2, 0] rfl) hf
      · refine lv_aload_n hx hb dL_areFormsSo_39 rfl (lv_at hl 1 rfl) ?_
        refine lv_iconst (v := (4 : Int32)) hx hb dL_areFormsSo_40 (by decide) ?_
        refine lv_iconst (v := (5 : Int32)) hx hb dL_areFormsSo_41 (by decide) ?_
        rcases bdx_some hf with ⟨k, w7, hc, rfl⟩ | ⟨x8, w7, hc, hf⟩
        · exact q_xrunX (k0 := k) (q_xS (As := [.ref (B + 0), .int (4 : Int32), .int (5 : Int32)]) C hH gk_L_181 yd_L_areSame (by omega) (by omega) (c_L_areSame (r := .inl k) htr hc) hl.1 rfl (Nat.le_of_ble_eq_true rfl) dL_areFormsSo_42 (xw_n rfl (by decide) (by decide))) hH (fun H locs ce q hH h1 h2 h3 => q_out C hH hxt h1 h2 h3 (by exact Nat.le_of_ble_eq_true rfl) (by exact Nat.le_of_ble_eq_true rfl))
        refine q_xrun (ov := some (.int x8)) (q_xS (As := [.ref (B + 0), .int (4 : Int32), .int (5 : Int32)]) C hH gk_L_181 yd_L_areSame (by omega) (by omega) (c_L_areSame (r := .inr x8) htr hc) hl.1 rfl (Nat.le_of_ble_eq_true rfl) dL_areFormsSo_42 (xv_0 rfl ⟨by decide, by decide⟩)) hH (fun H locs hH z_x8 => ?_)
        refine b_if_eq (tgt := 52) hx hb hf dL_areFormsSo_45 (by decide) (fun hf => ?_) (fun hf => ?_)
        · exact t_L_areFormsSo_52 C hxt htr hH (lv_sub hl [1, 2, 0] rfl) hf
        · refine lv_iconst (v := (1 : Int32)) hx hb dL_areFormsSo_48 (by decide) ?_
          refine lv_goto (tgt := 53) hx hb dL_areFormsSo_49 (by decide) ?_
          exact t_L_areFormsSo_53 C hxt htr isZ_1 hH (lv_sub hl [1, 2, 0] rfl) hf
  · refine lv_iconst (v := (1 : Int32)) hx hb dL_areFormsSo_14 (by decide) ?_
    cases hf
    exact q_x (W.widen (k := 8) (n := 6 * 8) (by decide) (by decide) (q_retz C hH isZ_1 isZ_1 dL_areFormsSo_15))
set_option maxRecDepth 100000 in
theorem c_L_areFormsSo {l : Launch} {D : va_G} {B : Nat} {Y : Nat → ClassId} {v1 : Int32} {w : Wd} {r : (Nat ⊕ Int32)} {w1 : Wd} (htr : l.stackTraces = false)   (hf : f_L_areFormsSo v1 w = some (r, w1)) : XK l D B Y yL_areFormsSo cL_areFormsSo 6 (some .boolean) 34 8 [.ref (B + 0), .int v1] w (zoI r) w1 (pZ r) :=
  XK_of (by decide +kernel) (Nat.le_of_ble_eq_true rfl) (fun p e s m args below meth c ls C hxt hH hl => t_L_areFormsSo_0 C hxt htr  hH (lv_sub hl [0, 1] rfl) hf)
set_option maxRecDepth 100000 in
set_option maxHeartbeats 4000000 in
theorem t_L_isShownSo_248 {D : va_G} {B : Nat} {Y : Nat → ClassId} {p : Program} {l : Launch} {e : Env} {s : State} {m : MethodId} {args : Array Value} {below : List Frame} {meth : Method} {c : Code} {z : ((Nat ⊕ Int32) × Wd)} {H : Heap} {locs : List Loc} {ls : Array Slot} {w : Wd} {v1 : Int32} {v2 : Int32} {v3 : Int32} {v4 : Int32} {v8 : Int32} {t0 : Int32} {t1 : Int32} (C : CX D B Y p s m args meth c cL_isShownSo 13 RL (some .boolean)) (hxt : ∀ x ∈ c.exceptionTable.toList, False) (htr : l.stackTraces = false)  {rc_131 : Int32 × Int32 × Int32 × Int32 × Int32 × Int32 × Wd → Option ((Nat ⊕ Int32) × Wd)} (hr_131 : ∀ (v1 : Int32) (v2 : Int32) (v3 : Int32) (v4 : Int32) (v7 : Int32) (v8 : Int32) (w : Wd), rc_131 (v1, v2, v3, v4, v7, v8, w) = some z → isZ v7 → ∀ (H : Heap) (locs : List Loc) (ls : Array Slot), HS D B Y w s H locs → lv_has ls 13 [(0, .ref (B + 0)), (1, .int v1), (2, .int v2), (3, .int v3), (4, .int v4), (7, .int v7), (8, .int v8)] → W p l e (RM 7 (xv (zoI z.1)) (6 * xv (zoI z.1))) s m args below meth c H locs 0 0 (vx_MQ below (QX D B Y (zoI z.1) z.2 (pZ z.1)) (XX D B Y (zoI z.1) z.2) args s (xv (zoI z.1)) (6 * xv (zoI z.1)) (AB B)) (F0 m 131 ls []))   (z_t0 : isZ t0) (z_t1 : isZ t1) (hH : HS D B Y w s H locs) (hl : lv_has ls 13 [(0, .ref (B + 0)), (1, .int v1), (2, .int v2), (3, .int v3), (4, .int v4), (8, .int v8)]) (hf : f_L_isShownSo_248 rc_131 v1 v2 v3 v4 v8 t0 t1 w = some z) : W p l e (RM 7 (xv (zoI z.1)) (6 * xv (zoI z.1))) s m args below meth c H locs 0 0 (vx_MQ below (QX D B Y (zoI z.1) z.2 (pZ z.1)) (XX D B Y (zoI z.1) z.2) args s (xv (zoI z.1)) (6 * xv (zoI z.1)) (AB B)) (F0 m 248 ls [.int t1, .int t0]) := by
  have hx := C.1
  have hb := C.2.1
  unfold f_L_isShownSo_248 at hf
  refine b_icmp_ne (tgt := 255) hx hb hf dL_isShownSo_248 (by decide) (fun hf => ?_) (fun hf => ?_)
  · refine lv_iconst (v := (0 : Int32)) hx hb dL_isShownSo_255 (by decide) ?_
    refine lv_istore (lv' := [(7, .int (0 : Int32)), (0, .ref (B + 0)), (1, .int v1), (2, .int v2), (3, .int v3), (4, .int v4), (8, .int v8)]) hx hb dL_isShownSo_256 hl (by decide) rfl (fun ls hl => ?_)
    refine b_let hf (fun x1 he hf => ?_)
    refine lv_iinc (v := x1) (lv' := [(8, .int x1), (7, .int (0 : Int32)), (0, .ref (B + 0)), (1, .int v1), (2, .int v2), (3, .int v3), (4, .int v4)]) hx hb dL_isShownSo_258 hl (k := 6) rfl (by rw [← he]; rfl) (by decide) rfl (fun ls hl => ?_)
    refine lv_goto (tgt := 131) hx hb dL_isShownSo_261 (by decide) ?_
    exact hr_131 v1 v2 v3 v4 (0 : Int32) x1 w hf isZ_0 _ _ _ hH (lv_sub hl [2, 3, 4, 5, 6, 1, 0] rfl)
  · refine lv_iconst (v := (1 : Int32)) hx hb dL_isShownSo_251 (by decide) ?_
    refine lv_goto (tgt := 256) hx hb dL_isShownSo_252 (by decide) ?_
    refine lv_istore (lv' := [(7, .int (1 : Int32)), (0, .ref (B + 0)), (1, .int v1), (2, .int v2), (3, .int v3), (4, .int v4), (8, .int v8)]) hx hb dL_isShownSo_256 hl (by decide) rfl (fun ls hl => ?_)
    refine b_let hf (fun x2 he hf => ?_)
    refine lv_iinc (v := x2) (lv' := [(8, .int x2), (7, .int (1 : Int32)), (0, .ref (B + 0)), (1, .int v1), (2, .int v2), (3, .int v3), (4, .int v4)]) hx hb dL_isShownSo_258 hl (k := 6) rfl (by rw [← he]; rfl) (by decide) rfl (fun ls hl => ?_)
    refine lv_goto (tgt := 131) hx hb dL_isShownSo_261 (by decide) ?_
    exact hr_131 v1 v2 v3 v4 (1 : Int32) x2 w hf isZ_1 _ _ _ hH (lv_sub hl [2, 3, 4, 5, 6, 1, 0] rfl)
set_option maxRecDepth 100000 in
set_option maxHeartbeats 4000000 in
theorem t_L_isShownSo_236 {D : va_G} {B : Nat} {Y : Nat → ClassId} {p : Program} {l : Launch} {e : Env} {s : State} {m : MethodId} {args : Array Value} {below : List Frame} {meth : Method} {c : Code} {z : ((Nat ⊕ Int32) × Wd)} {H : Heap} {locs : List Loc} {ls : Array Slot} {w : Wd} {v1 : Int32} {v2 : Int32} {v3 : Int32} {v4 : Int32} {v8 : Int32} {v12 : Int32} {t0 : Int32} (C : CX D B Y p s m args meth c cL_isShownSo 13 RL (some .boolean)) (hxt : ∀ x ∈ c.exceptionTable.toList, False) (htr : l.stackTraces = false)  {rc_131 : Int32 × Int32 × Int32 × Int32 × Int32 × Int32 × Wd → Option ((Nat ⊕ Int32) × Wd)} (hr_131 : ∀ (v1 : Int32) (v2 : Int32) (v3 : Int32) (v4 : Int32) (v7 : Int32) (v8 : Int32) (w : Wd), rc_131 (v1, v2, v3, v4, v7, v8, w) = some z → isZ v7 → ∀ (H : Heap) (locs : List Loc) (ls : Array Slot), HS D B Y w s H locs → lv_has ls 13 [(0, .ref (B + 0)), (1, .int v1), (2, .int v2), (3, .int v3), (4, .int v4), (7, .int v7), (8, .int v8)] → W p l e (RM 7 (xv (zoI z.1)) (6 * xv (zoI z.1))) s m args below meth c H locs 0 0 (vx_MQ below (QX D B Y (zoI z.1) z.2 (pZ z.1)) (XX D B Y (zoI z.1) z.2) args s (xv (zoI z.1)) (6 * xv (zoI z.1)) (AB B)) (F0 m 131 ls []))   (z_t0 : isZ t0) (hH : HS D B Y w s H locs) (hl : lv_has ls 13 [(0, .ref (B + 0)), (1, .int v1), (2, .int v2), (3, .int v3), (4, .int v4), (8, .int v8), (12, .int v12)]) (hf : f_L_isShownSo_236 rc_131 v1 v2 v3 v4 v8 v12 t0 w = some z) : W p l e (RM 7 (xv (zoI z.1)) (6 * xv (zoI z.1))) s m args below meth c H locs 0 0 (vx_MQ below (QX D B Y (zoI z.1) z.2 (pZ z.1)) (XX D B Y (zoI z.1) z.2) args s (xv (zoI z.1)) (6 * xv (zoI z.1)) (AB B)) (F0 m 236 ls [.int t0]) := by
  have hx := C.1
  have hb := C.2.1
  unfold f_L_isShownSo_236 at hf
  refine lv_iload hx hb dL_isShownSo_236 (lv_at hl 6 rfl) ?_
  refine lv_iconst (v := (2 : Int32)) hx hb dL_isShownSo_238 (by decide) ?_
  refine lv_irem hx hb dL_isShownSo_239 (by decide) ?_
  refine b_if_ne (tgt := 247) hx hb hf dL_isShownSo_240 (by decide) (fun hf => ?_) (fun hf => ?_)
  · refine lv_iconst (v := (0 : Int32)) hx hb dL_isShownSo_247 (by decide) ?_
    exact t_L_isShownSo_248 C hxt htr hr_131 z_t0 isZ_0 hH (lv_sub hl [0, 1, 2, 3, 4, 5] rfl) hf
  · refine lv_iconst (v := (1 : Int32)) hx hb dL_isShownSo_243 (by decide) ?_
    refine lv_goto (tgt := 248) hx hb dL_isShownSo_244 (by decide) ?_
    exact t_L_isShownSo_248 C hxt htr hr_131 z_t0 isZ_1 hH (lv_sub hl [0, 1, 2, 3, 4, 5] rfl) hf
set_option maxRecDepth 100000 in
set_option maxHeartbeats 4000000 in
theorem t_L_isShownSo_194 {D : va_G} {B : Nat} {Y : Nat → ClassId} {p : Program} {l : Launch} {e : Env} {s : State} {m : MethodId} {args : Array Value} {below : List Frame} {meth : Method} {c : Code} {z : ((Nat ⊕ Int32) × Wd)} {H : Heap} {locs : List Loc} {ls : Array Slot} {w : Wd} {v1 : Int32} {v2 : Int32} {v3 : Int32} {v4 : Int32} {v8 : Int32} {v9 : Int32} {v10 : Int32} {t0 : Int32} (C : CX D B Y p s m args meth c cL_isShownSo 13 RL (some .boolean)) (hxt : ∀ x ∈ c.exceptionTable.toList, False) (htr : l.stackTraces = false)  {rc_131 : Int32 × Int32 × Int32 × Int32 × Int32 × Int32 × Wd → Option ((Nat ⊕ Int32) × Wd)} (hr_131 : ∀ (v1 : Int32) (v2 : Int32) (v3 : Int32) (v4 : Int32) (v7 : Int32) (v8 : Int32) (w : Wd), rc_131 (v1, v2, v3, v4, v7, v8, w) = some z → isZ v7 → ∀ (H : Heap) (locs : List Loc) (ls : Array Slot), HS D B Y w s H locs → lv_has ls 13 [(0, .ref (B + 0)), (1, .int v1), (2, .int v2), (3, .int v3), (4, .int v4), (7, .int v7), (8, .int v8)] → W p l e (RM 7 (xv (zoI z.1)) (6 * xv (zoI z.1))) s m args below meth c H locs 0 0 (vx_MQ below (QX D B Y (zoI z.1) z.2 (pZ z.1)) (XX D B Y (zoI z.1) z.2) args s (xv (zoI z.1)) (6 * xv (zoI z.1)) (AB B)) (F0 m 131 ls []))   (z_t0 : isZ t0) (hH : HS D B Y w s H locs) (hl : lv_has ls 13 [(0, .ref (B + 0)), (1, .int v1), (2, .int v2), (3, .int v3), (4, .int v4), (8, .int v8), (9, .int v9), (10, .int v10)]) (hf : f_L_isShownSo_194 rc_131 v1 v2 v3 v4 v8 v9 v10 t0 w = some z) : W p l e (RM 7 (xv (zoI z.1)) (6 * xv (zoI z.1))) s m args below meth c H locs 0 0 (vx_MQ below (QX D B Y (zoI z.1) z.2 (pZ z.1)) (XX D B Y (zoI z.1) z.2) args s (xv (zoI z.1)) (6 * xv (zoI z.1)) (AB B)) (F0 m 194 ls [.int t0]) := by
  have hx := C.1
  have hb := C.2.1
  unfold f_L_isShownSo_194 at hf
  refine lv_istore (lv' := [(11, .int t0), (0, .ref (B + 0)), (1, .int v1), (2, .int v2), (3, .int v3), (4, .int v4), (8, .int v8), (9, .int v9), (10, .int v10)]) hx hb dL_isShownSo_194 hl (by decide) rfl (fun ls hl => ?_)
  refine lv_aload_n hx hb dL_isShownSo_196 rfl (lv_at hl 1 rfl) ?_
  refine lv_iload_n hx hb dL_isShownSo_197 rfl (lv_at hl 2 rfl) ?_
  refine lv_iload hx hb dL_isShownSo_198 (lv_at hl 7 rfl) ?_
  refine lv_iload_n hx hb dL_isShownSo_200 rfl (lv_at hl 3 rfl) ?_
  rcases bdx_some hf with ⟨k, w1, hc, rfl⟩ | ⟨x2, w1, hc, hf⟩
  · exact q_xrunX (k0 := k) (q_xV (As := [.int v1, .int v9, .int v2]) C hH (ci := 10) rfl (by omega) gk_L_17 yd_X10_level (by omega) (by omega) kc_0 (c_X10_level (r := .inl k) htr hc) hl.1 rfl (Nat.le_of_ble_eq_true rfl) dL_isShownSo_201 (xv_le rfl)) hH (fun H locs ce q hH h1 h2 h3 => q_out C hH hxt h1 h2 h3 (xv_1 rfl) (xv_6 rfl))
  refine q_xrun (ov := some (.int x2)) (q_xV (As := [.int v1, .int v9, .int v2]) C hH (ci := 10) rfl (by omega) gk_L_17 yd_X10_level (by omega) (by omega) kc_0 (c_X10_level (r := .inr x2) htr hc) hl.1 rfl (Nat.le_of_ble_eq_true rfl) dL_isShownSo_201 (xv_0 rfl xv_00)) hH (fun H locs hH hP => ?_)
  refine lv_istore (lv' := [(12, .int x2), (11, .int t0), (0, .ref (B + 0)), (1, .int v1), (2, .int v2), (3, .int v3), (4, .int v4), (8, .int v8), (9, .int v9), (10, .int v10)]) hx hb dL_isShownSo_204 hl (by decide) rfl (fun ls hl => ?_)
  refine lv_iload hx hb dL_isShownSo_206 (lv_at hl 1 rfl) ?_
  refine b_if_eq (tgt := 251) hx hb hf dL_isShownSo_208 (by decide) (fun hf => ?_) (fun hf => ?_)
  · refine lv_iconst (v := (1 : Int32)) hx hb dL_isShownSo_251 (by decide) ?_
    refine lv_goto (tgt := 256) hx hb dL_isShownSo_252 (by decide) ?_
    refine lv_istore (lv' := [(7, .int (1 : Int32)), (12, .int x2), (11, .int t0), (0, .ref (B + 0)), (1, .int v1), (2, .int v2), (3, .int v3), (4, .int v4), (8, .int v8), (9, .int v9), (10, .int v10)]) hx hb dL_isShownSo_256 hl (by decide) rfl (fun ls hl => ?_)
    refine b_let hf (fun x3 he hf => ?_)
    refine lv_iinc (v := x3) (lv' := [(8, .int x3), (7, .int (1 : Int32)), (12, .int x2), (11, .int t0), (0, .ref (B + 0)), (1, .int v1), (2, .int v2), (3, .int v3), (4, .int v4), (9, .int v9), (10, .int v10)]) hx hb dL_isShownSo_258 hl (k := 8) rfl (by rw [← he]; rfl) (by decide) rfl (fun ls hl => ?_)
    refine lv_goto (tgt := 131) hx hb dL_isShownSo_261 (by decide) ?_
    exact hr_131 v1 v2 v3 v4 (1 : Int32) x3 w1 hf isZ_1 _ _ _ hH (lv_sub hl [4, 5, 6, 7, 8, 1, 0] rfl)
  · refine lv_iload hx hb dL_isShownSo_211 (lv_at hl 0 rfl) ?_
    refine lv_aload_n hx hb dL_isShownSo_213 rfl (lv_at hl 2 rfl) ?_
    refine lv_iload_n hx hb dL_isShownSo_214 rfl (lv_at hl 3 rfl) ?_
    refine lv_iload hx hb dL_isShownSo_215 (lv_at hl 9 rfl) ?_
    refine lv_iload_n hx hb dL_isShownSo_217 rfl (lv_at hl 4 rfl) ?_
    rcases bdx_some hf with ⟨k, w4, hc, rfl⟩ | ⟨x5, w4, hc, hf⟩
    · exact q_xrunX (k0 := k) (q_xV (As := [.int v1, .int v10, .int v2]) C hH (ci := 10) rfl (by omega) gk_L_17 yd_X10_level (by omega) (by omega) kc_0 (c_X10_level (r := .inl k) htr hc) hl.1 rfl (Nat.le_of_ble_eq_true rfl) dL_isShownSo_218 (xv_le rfl)) hH (fun H locs ce q hH h1 h2 h3 => q_out C hH hxt h1 h2 h3 (xv_1 rfl) (xv_6 rfl))
    refine q_xrun (ov := some (.int x5)) (q_xV (As := [.int v1, .int v10, .int v2]) C hH (ci := 10) rfl (by omega) gk_L_17 yd_X10_level (by omega) (by omega) kc_0 (c_X10_level (r := .inr x5) htr hc) hl.1 rfl (Nat.le_of_ble_eq_true rfl) dL_isShownSo_218 (xv_0 rfl xv_00)) hH (fun H locs hH hP => ?_)
    refine b_icmp_ne (tgt := 251) hx hb hf dL_isShownSo_221 (by decide) (fun hf => ?_) (fun hf => ?_)
    · refine lv_iconst (v := (1 : Int32)) hx hb dL_isShownSo_251 (by decide) ?_
      refine lv_goto (tgt := 256) hx hb dL_isShownSo_252 (by decide) ?_
      refine lv_istore (lv' := [(7, .int (1 : Int32)), (12, .int x2), (11, .int t0), (0, .ref (B + 0)), (1, .int v1), (2, .int v2), (3, .int v3), (4, .int v4), (8, .int v8), (9, .int v9), (10, .int v10)]) hx hb dL_isShownSo_256 hl (by decide) rfl (fun ls hl => ?_)
      refine b_let hf (fun x6 he hf => ?_)
      refine lv_iinc (v := x6) (lv' := [(8, .int x6), (7, .int (1 : Int32)), (12, .int x2), (11, .int t0), (0, .ref (B + 0)), (1, .int v1), (2, .int v2), (3, .int v3), (4, .int v4), (9, .int v9), (10, .int v10)]) hx hb dL_isShownSo_258 hl (k := 8) rfl (by rw [← he]; rfl) (by decide) rfl (fun ls hl => ?_)
      refine lv_goto (tgt := 131) hx hb dL_isShownSo_261 (by decide) ?_
      exact hr_131 v1 v2 v3 v4 (1 : Int32) x6 w4 hf isZ_1 _ _ _ hH (lv_sub hl [4, 5, 6, 7, 8, 1, 0] rfl)
    · refine lv_iload hx hb dL_isShownSo_224 (lv_at hl 9 rfl) ?_
      refine lv_iload hx hb dL_isShownSo_226 (lv_at hl 8 rfl) ?_
      refine b_icmp_le (tgt := 235) hx hb hf dL_isShownSo_228 (by decide) (fun hf => ?_) (fun hf => ?_)
      · refine lv_iconst (v := (0 : Int32)) hx hb dL_isShownSo_235 (by decide) ?_
        exact t_L_isShownSo_236 C hxt htr hr_131 isZ_0 hH (lv_sub hl [2, 3, 4, 5, 6, 7, 0] rfl) hf
      · refine lv_iconst (v := (1 : Int32)) hx hb dL_isShownSo_231 (by decide) ?_
        refine lv_goto (tgt := 236) hx hb dL_isShownSo_232 (by decide) ?_
        exact t_L_isShownSo_236 C hxt htr hr_131 isZ_1 hH (lv_sub hl [2, 3, 4, 5, 6, 7, 0] rfl) hf
set_option maxRecDepth 100000 in
set_option maxHeartbeats 4000000 in
theorem tb_L_isShownSo_131 {D : va_G} {B : Nat} {Y : Nat → ClassId} {p : Program} {l : Launch} {e : Env} {s : State} {m : MethodId} {args : Array Value} {below : List Frame} {meth : Method} {c : Code} {z : ((Nat ⊕ Int32) × Wd)} {H : Heap} {locs : List Loc} {ls : Array Slot} {w : Wd} {v1 : Int32} {v2 : Int32} {v3 : Int32} {v4 : Int32} {v7 : Int32} {v8 : Int32} (C : CX D B Y p s m args meth c cL_isShownSo 13 RL (some .boolean)) (hxt : ∀ x ∈ c.exceptionTable.toList, False) (htr : l.stackTraces = false)  {rc_131 : Int32 × Int32 × Int32 × Int32 × Int32 × Int32 × Wd → Option ((Nat ⊕ Int32) × Wd)} (hr_131 : ∀ (v1 : Int32) (v2 : Int32) (v3 : Int32) (v4 : Int32) (v7 : Int32) (v8 : Int32) (w : Wd), rc_131 (v1, v2, v3, v4, v7, v8, w) = some z → isZ v7 → ∀ (H : Heap) (locs : List Loc) (ls : Array Slot), HS D B Y w s H locs → lv_has ls 13 [(0, .ref (B + 0)), (1, .int v1), (2, .int v2), (3, .int v3), (4, .int v4), (7, .int v7), (8, .int v8)] → W p l e (RM 7 (xv (zoI z.1)) (6 * xv (zoI z.1))) s m args below meth c H locs 0 0 (vx_MQ below (QX D B Y (zoI z.1) z.2 (pZ z.1)) (XX D B Y (zoI z.1) z.2) args s (xv (zoI z.1)) (6 * xv (zoI z.1)) (AB B)) (F0 m 131 ls []))   (z_v7 : isZ v7) (hH : HS D B Y w s H locs) (hl : lv_has ls 13 [(0, .ref (B + 0)), (1, .int v1), (2, .int v2), (3, .int v3), (4, .int v4), (7, .int v7), (8, .int v8)]) (hf : g_L_isShownSo_131 rc_131 v1 v2 v3 v4 v7 v8 w = some z) : W p l e (RM 7 (xv (zoI z.1)) (6 * xv (zoI z.1))) s m args below meth c H locs 0 0 (vx_MQ below (QX D B Y (zoI z.1) z.2 (pZ z.1)) (XX D B Y (zoI z.1) z.2) args s (xv (zoI z.1)) (6 * xv (zoI z.1)) (AB B)) (F0 m 131 ls []) := by
  have hx := C.1
  have hb := C.2.1
  unfold g_L_isShownSo_131 at hf
  refine lv_iload hx hb dL_isShownSo_131 (lv_at hl 6 rfl) ?_
  refine lv_iload hx hb dL_isShownSo_133 (lv_at hl 4 rfl) ?_
  refine b_icmp_ge (tgt := 264) hx hb hf dL_isShownSo_135 (by decide) (fun hf => ?_) (fun hf => ?_)
  · refine lv_iload hx hb dL_isShownSo_264 (lv_at hl 5 rfl) ?_
    cases hf
    exact q_x0 rfl (q_retz C hH z_v7 z_v7 dL_isShownSo_266)
  · refine lv_iload hx hb dL_isShownSo_138 (lv_at hl 5 rfl) ?_
    refine b_if_eq (tgt := 264) hx hb hf dL_isShownSo_140 (by decide) (fun hf => ?_) (fun hf => ?_)
    · refine lv_iload hx hb dL_isShownSo_264 (lv_at hl 5 rfl) ?_
      cases hf
      exact q_x0 rfl (q_retz C hH z_v7 z_v7 dL_isShownSo_266)
    · refine lv_iload_n hx hb dL_isShownSo_143 rfl (lv_at hl 3 rfl) ?_
      refine lv_bipush (v := (9 : Int32)) hx hb dL_isShownSo_144 (by decide) ?_
      refine b_icmp_ge (tgt := 264) hx hb hf dL_isShownSo_146 (by decide) (fun hf => ?_) (fun hf => ?_)
      · refine lv_iload hx hb dL_isShownSo_264 (lv_at hl 5 rfl) ?_
        cases hf
        exact q_x0 rfl (q_retz C hH z_v7 z_v7 dL_isShownSo_266)
      · refine lv_aload_n hx hb dL_isShownSo_149 rfl (lv_at hl 0 rfl) ?_
        refine lv_iload_n hx hb dL_isShownSo_150 rfl (lv_at hl 1 rfl) ?_
        refine lv_iload hx hb dL_isShownSo_151 (lv_at hl 6 rfl) ?_
        refine lv_iconst (v := (1 : Int32)) hx hb dL_isShownSo_153 (by decide) ?_
        refine lv_isub hx hb dL_isShownSo_154 ?_
        refine lv_iload_n hx hb dL_isShownSo_155 rfl (lv_at hl 2 rfl) ?_
        rcases bdx_some hf with ⟨k, w1, hc, rfl⟩ | ⟨x2, w1, hc, hf⟩
        · exact q_xrunX (k0 := k) (q_xV (As := [.int v1, .int (v8 - (1 : Int32)), .int v2]) C hH (ci := 10) rfl (by omega) gk_L_23 yd_X10_shown (by omega) (by omega) kc_0 (c_X10_shown (r := .inl k) htr hc) hl.1 rfl (Nat.le_of_ble_eq_true rfl) dL_isShownSo_156 (xv_le rfl)) hH (fun H locs ce q hH h1 h2 h3 => q_out C hH hxt h1 h2 h3 (xv_1 rfl) (xv_6 rfl))
        refine q_xrun (ov := some (.int x2)) (q_xV (As := [.int v1, .int (v8 - (1 : Int32)), .int v2]) C hH (ci := 10) rfl (by omega) gk_L_23 yd_X10_shown (by omega) (by omega) kc_0 (c_X10_shown (r := .inr x2) htr hc) hl.1 rfl (Nat.le_of_ble_eq_true rfl) dL_isShownSo_156 (xv_0 rfl xv_00)) hH (fun H locs hH hP => ?_)
        refine lv_istore (lv' := [(9, .int x2), (0, .ref (B + 0)), (1, .int v1), (2, .int v2), (3, .int v3), (4, .int v4), (7, .int v7), (8, .int v8)]) hx hb dL_isShownSo_159 hl (by decide) rfl (fun ls hl => ?_)
        refine lv_aload_n hx hb dL_isShownSo_161 rfl (lv_at hl 1 rfl) ?_
        refine lv_iload_n hx hb dL_isShownSo_162 rfl (lv_at hl 2 rfl) ?_
        refine lv_iload hx hb dL_isShownSo_163 (lv_at hl 7 rfl) ?_
        refine lv_iload_n hx hb dL_isShownSo_165 rfl (lv_at hl 3 rfl) ?_
        rcases bdx_some hf with ⟨k, w3, hc, rfl⟩ | ⟨x4, w3, hc, hf⟩
        · exact q_xrunX (k0 := k) (q_xV (As := [.int v1, .int v8, .int v2]) C hH (ci := 10) rfl (by omega) gk_L_23 yd_X10_shown (by omega) (by omega) kc_0 (c_X10_shown (r := .inl k) htr hc) hl.1 rfl (Nat.le_of_ble_eq_true rfl) dL_isShownSo_166 (xv_le rfl)) hH (fun H locs ce q hH h1 h2 h3 => q_out C hH hxt h1 h2 h3 (xv_1 rfl) (xv_6 rfl))
        refine q_xrun (ov := some (.int x4)) (q_xV (As := [.int v1, .int v8, .int v2]) C hH (ci := 10) rfl (by omega) gk_L_23 yd_X10_shown (by omega) (by omega) kc_0 (c_X10_shown (r := .inr x4) htr hc) hl.1 rfl (Nat.le_of_ble_eq_true rfl) dL_isShownSo_166 (xv_0 rfl xv_00)) hH (fun H locs hH hP => ?_)
        refine lv_istore (lv' := [(10, .int x4), (9, .int x2), (0, .ref (B + 0)), (1, .int v1), (2, .int v2), (3, .int v3), (4, .int v4), (7, .int v7), (8, .int v8)]) hx hb dL_isShownSo_169 hl (by decide) rfl (fun ls hl => ?_)
        refine lv_iload hx hb dL_isShownSo_171 (lv_at hl 1 rfl) ?_
        refine lv_iload hx hb dL_isShownSo_173 (lv_at hl 0 rfl) ?_
        refine lv_isub hx hb dL_isShownSo_175 ?_
        refine lv_iconst (v := (1 : Int32)) hx hb dL_isShownSo_176 (by decide) ?_
        refine b_icmp_eq (tgt := 189) hx hb hf dL_isShownSo_177 (by decide) (fun hf => ?_) (fun hf => ?_)
        · refine lv_iconst (v := (1 : Int32)) hx hb dL_isShownSo_189 (by decide) ?_
          refine lv_goto (tgt := 194) hx hb dL_isShownSo_190 (by decide) ?_
          exact t_L_isShownSo_194 C hxt htr hr_131 isZ_1 hH (lv_sub hl [2, 3, 4, 5, 6, 8, 1, 0] rfl) hf
        · refine lv_iload hx hb dL_isShownSo_180 (lv_at hl 0 rfl) ?_
          refine lv_iload hx hb dL_isShownSo_182 (lv_at hl 1 rfl) ?_
          refine lv_isub hx hb dL_isShownSo_184 ?_
          refine lv_iconst (v := (1 : Int32)) hx hb dL_isShownSo_185 (by decide) ?_
          refine b_icmp_ne (tgt := 193) hx hb hf dL_isShownSo_186 (by decide) (fun hf => ?_) (fun hf => ?_)
          · refine lv_iconst (v := (0 : Int32)) hx hb dL_isShownSo_193 (by decide) ?_
            exact t_L_isShownSo_194 C hxt htr hr_131 isZ_0 hH (lv_sub hl [2, 3, 4, 5, 6, 8, 1, 0] rfl) hf
          · refine lv_iconst (v := (1 : Int32)) hx hb dL_isShownSo_189 (by decide) ?_
            refine lv_goto (tgt := 194) hx hb dL_isShownSo_190 (by decide) ?_
            exact t_L_isShownSo_194 C hxt htr hr_131 isZ_1 hH (lv_sub hl [2, 3, 4, 5, 6, 8, 1, 0] rfl) hf
set_option maxRecDepth 100000 in
set_option maxHeartbeats 4000000 in
theorem t_L_isShownSo_131 {D : va_G} {B : Nat} {Y : Nat → ClassId} {p : Program} {l : Launch} {e : Env} {s : State} {m : MethodId} {args : Array Value} {below : List Frame} {meth : Method} {c : Code} {z : ((Nat ⊕ Int32) × Wd)} {H : Heap} {locs : List Loc} {ls : Array Slot} {w : Wd} {v1 : Int32} {v2 : Int32} {v3 : Int32} {v4 : Int32} {v7 : Int32} {v8 : Int32} (C : CX D B Y p s m args meth c cL_isShownSo 13 RL (some .boolean)) (hxt : ∀ x ∈ c.exceptionTable.toList, False) (htr : l.stackTraces = false)    (z_v7 : isZ v7) (hH : HS D B Y w s H locs) (hl : lv_has ls 13 [(0, .ref (B + 0)), (1, .int v1), (2, .int v2), (3, .int v3), (4, .int v4), (7, .int v7), (8, .int v8)]) (hf : f_L_isShownSo_131 v1 v2 v3 v4 v7 v8 w = some z) : W p l e (RM 7 (xv (zoI z.1)) (6 * xv (zoI z.1))) s m args below meth c H locs 0 0 (vx_MQ below (QX D B Y (zoI z.1) z.2 (pZ z.1)) (XX D B Y (zoI z.1) z.2) args s (xv (zoI z.1)) (6 * xv (zoI z.1)) (AB B)) (F0 m 131 ls []) := by
  exact loopN_ind (z := z) (body := fun rc σ => g_L_isShownSo_131 rc  σ.1 σ.2.1 σ.2.2.1 σ.2.2.2.1 σ.2.2.2.2.1 σ.2.2.2.2.2.1 σ.2.2.2.2.2.2)
    (P := fun σ => isZ σ.2.2.2.2.1 → ∀ (H : Heap) (locs : List Loc) (ls : Array Slot), HS D B Y σ.2.2.2.2.2.2 s H locs → lv_has ls 13 [(0, .ref (B + 0)), (1, .int σ.1), (2, .int σ.2.1), (3, .int σ.2.2.1), (4, .int σ.2.2.2.1), (7, .int σ.2.2.2.2.1), (8, .int σ.2.2.2.2.2.1)] → W p l e (RM 7 (xv (zoI z.1)) (6 * xv (zoI z.1))) s m args below meth c H locs 0 0 (vx_MQ below (QX D B Y (zoI z.1) z.2 (pZ z.1)) (XX D B Y (zoI z.1) z.2) args s (xv (zoI z.1)) (6 * xv (zoI z.1)) (AB B)) (F0 m 131 ls []))
    (fun rc hrec σ hf z_v7 H locs ls hH hl => tb_L_isShownSo_131 C hxt htr (fun v1 v2 v3 v4 v7 v8 w hr z_v7 H locs ls hH hl => hrec (v1, v2, v3, v4, v7, v8, w) hr z_v7 H locs ls hH hl)  z_v7 hH hl hf) FU (v1, v2, v3, v4, v7, v8, w) hf z_v7 H locs ls hH hl
set_option maxRecDepth 100000 in
set_option maxHeartbeats 4000000 in
theorem t_L_isShownSo_128 {D : va_G} {B : Nat} {Y : Nat → ClassId} {p : Program} {l : Launch} {e : Env} {s : State} {m : MethodId} {args : Array Value} {below : List Frame} {meth : Method} {c : Code} {z : ((Nat ⊕ Int32) × Wd)} {H : Heap} {locs : List Loc} {ls : Array Slot} {w : Wd} {v1 : Int32} {v2 : Int32} {v3 : Int32} {v4 : Int32} {v7 : Int32} (C : CX D B Y p s m args meth c cL_isShownSo 13 RL (some .boolean)) (hxt : ∀ x ∈ c.exceptionTable.toList, False) (htr : l.stackTraces = false)    (z_v7 : isZ v7) (hH : HS D B Y w s H locs) (hl : lv_has ls 13 [(0, .ref (B + 0)), (1, .int v1), (2, .int v2), (3, .int v3), (4, .int v4), (7, .int v7)]) (hf : f_L_isShownSo_128 v1 v2 v3 v4 v7 w = some z) : W p l e (RM 7 (xv (zoI z.1)) (6 * xv (zoI z.1))) s m args below meth c H locs 0 0 (vx_MQ below (QX D B Y (zoI z.1) z.2 (pZ z.1)) (XX D B Y (zoI z.1) z.2) args s (xv (zoI z.1)) (6 * xv (zoI z.1)) (AB B)) (F0 m 128 ls []) := by
  have hx := C.1
  have hb := C.2.1
  unfold f_L_isShownSo_128 at hf
  refine lv_iconst (v := (1 : Int32)) hx hb dL_isShownSo_128 (by decide) ?_
  refine lv_istore (lv' := [(8, .int (1 : Int32)), (0, .ref (B + 0)), (1, .int v1), (2, .int v2), (3, .int v3), (4, .int v4), (7, .int v7)]) hx hb dL_isShownSo_129 hl (by decide) rfl (fun ls hl => ?_)
  exact t_L_isShownSo_131 C hxt htr z_v7 hH (lv_sub hl [1, 2, 3, 4, 5, 6, 0] rfl) hf
set_option maxRecDepth 100000 in
set_option maxHeartbeats 4000000 in
theorem t_L_isShownSo_111 {D : va_G} {B : Nat} {Y : Nat → ClassId} {p : Program} {l : Launch} {e : Env} {s : State} {m : MethodId} {args : Array Value} {below : List Frame} {meth : Method} {c : Code} {z : ((Nat ⊕ Int32) × Wd)} {H : Heap} {locs : List Loc} {ls : Array Slot} {w : Wd} {v1 : Int32} {v2 : Int32} {v3 : Int32} {v4 : Int32} {v5 : Int64} {v8 : Int32} {v9 : Int32} {t0 : Int32} (C : CX D B Y p s m args meth c cL_isShownSo 13 RL (some .boolean)) (hxt : ∀ x ∈ c.exceptionTable.toList, False) (htr : l.stackTraces = false)  {rc_30 : Int32 × Int32 × Int32 × Int32 × Int64 × Int32 × Int32 × Wd → Option ((Nat ⊕ Int32) × Wd)} (hr_30 : ∀ (v1 : Int32) (v2 : Int32) (v3 : Int32) (v4 : Int32) (v5 : Int64) (v7 : Int32) (v8 : Int32) (w : Wd), rc_30 (v1, v2, v3, v4, v5, v7, v8, w) = some z → isZ v7 → ∀ (H : Heap) (locs : List Loc) (ls : Array Slot), HS D B Y w s H locs → lv_has ls 13 [(0, .ref (B + 0)), (1, .int v1), (2, .int v2), (3, .int v3), (4, .int v4), (5, .long v5), (7, .int v7), (8, .int v8)] → W p l e (RM 7 (xv (zoI z.1)) (6 * xv (zoI z.1))) s m args below meth c H locs 0 0 (vx_MQ below (QX D B Y (zoI z.1) z.2 (pZ z.1)) (XX D B Y (zoI z.1) z.2) args s (xv (zoI z.1)) (6 * xv (zoI z.1)) (AB B)) (F0 m 30 ls []))   (z_t0 : isZ t0) (hH : HS D B Y w s H locs) (hl : lv_has ls 13 [(0, .ref (B + 0)), (1, .int v1), (2, .int v2), (3, .int v3), (4, .int v4), (5, .long v5), (8, .int v8), (9, .int v9)]) (hf : f_L_isShownSo_111 rc_30 v1 v2 v3 v4 v5 v8 v9 t0 w = some z) : W p l e (RM 7 (xv (zoI z.1)) (6 * xv (zoI z.1))) s m args below meth c H locs 0 0 (vx_MQ below (QX D B Y (zoI z.1) z.2 (pZ z.1)) (XX D B Y (zoI z.1) z.2) args s (xv (zoI z.1)) (6 * xv (zoI z.1)) (AB B)) (F0 m 111 ls [.int t0]) := by
  have hx := C.1
  have hb := C.2.1
  unfold f_L_isShownSo_111 at hf
  refine lv_istore (lv' := [(7, .int t0), (0, .ref (B + 0)), (1, .int v1), (2, .int v2), (3, .int v3), (4, .int v4), (5, .long v5), (8, .int v8), (9, .int v9)]) hx hb dL_isShownSo_111 hl (by decide) rfl (fun ls hl => ?_)
  refine lv_lload hx hb dL_isShownSo_113 (lv_at hl 6 rfl) ?_
  refine lv_lconst (v := (1 : Int64)) hx hb dL_isShownSo_115 (by decide) ?_
  refine lv_iload hx hb dL_isShownSo_116 (lv_at hl 8 rfl) ?_
  refine lv_lshl (v := (1 : Int64) <<< (v9.toInt64 &&& 63)) hx hb dL_isShownSo_118 rfl ?_
  refine lv_lor hx hb dL_isShownSo_119 ?_
  refine b_letl hf (fun y1 hf => ?_)
  refine lv_lstore (lv' := [(5, .long y1), (7, .int t0), (0, .ref (B + 0)), (1, .int v1), (2, .int v2), (3, .int v3), (4, .int v4), (8, .int v8), (9, .int v9)]) hx hb dL_isShownSo_120 hl (by decide) rfl (fun ls hl => ?_)
  refine b_let hf (fun x2 he hf => ?_)
  refine lv_iinc (v := x2) (lv' := [(8, .int x2), (5, .long y1), (7, .int t0), (0, .ref (B + 0)), (1, .int v1), (2, .int v2), (3, .int v3), (4, .int v4), (9, .int v9)]) hx hb dL_isShownSo_122 hl (k := 7) rfl (by rw [← he]; rfl) (by decide) rfl (fun ls hl => ?_)
  refine lv_goto (tgt := 30) hx hb dL_isShownSo_125 (by decide) ?_
  exact hr_30 v1 v2 v3 v4 y1 t0 x2 w hf z_t0 _ _ _ hH (lv_sub hl [3, 4, 5, 6, 7, 1, 2, 0] rfl)
set_option maxRecDepth 100000 in
set_option maxHeartbeats 4000000 in
theorem t_L_isShownSo_110 {D : va_G} {B : Nat} {Y : Nat → ClassId} {p : Program} {l : Launch} {e : Env} {s : State} {m : MethodId} {args : Array Value} {below : List Frame} {meth : Method} {c : Code} {z : ((Nat ⊕ Int32) × Wd)} {H : Heap} {locs : List Loc} {ls : Array Slot} {w : Wd} {v1 : Int32} {v2 : Int32} {v3 : Int32} {v4 : Int32} {v5 : Int64} {v8 : Int32} {v9 : Int32} (C : CX D B Y p s m args meth c cL_isShownSo 13 RL (some .boolean)) (hxt : ∀ x ∈ c.exceptionTable.toList, False) (htr : l.stackTraces = false)  {rc_30 : Int32 × Int32 × Int32 × Int32 × Int64 × Int32 × Int32 × Wd → Option ((Nat ⊕ Int32) × Wd)} (hr_30 : ∀ (v1 : Int32) (v2 : Int32) (v3 : Int32) (v4 : Int32) (v5 : Int64) (v7 : Int32) (v8 : Int32) (w : Wd), rc_30 (v1, v2, v3, v4, v5, v7, v8, w) = some z → isZ v7 → ∀ (H : Heap) (locs : List Loc) (ls : Array Slot), HS D B Y w s H locs → lv_has ls 13 [(0, .ref (B + 0)), (1, .int v1), (2, .int v2), (3, .int v3), (4, .int v4), (5, .long v5), (7, .int v7), (8, .int v8)] → W p l e (RM 7 (xv (zoI z.1)) (6 * xv (zoI z.1))) s m args below meth c H locs 0 0 (vx_MQ below (QX D B Y (zoI z.1) z.2 (pZ z.1)) (XX D B Y (zoI z.1) z.2) args s (xv (zoI z.1)) (6 * xv (zoI z.1)) (AB B)) (F0 m 30 ls []))    (hH : HS D B Y w s H locs) (hl : lv_has ls 13 [(0, .ref (B + 0)), (1, .int v1), (2, .int v2), (3, .int v3), (4, .int v4), (5, .long v5), (8, .int v8), (9, .int v9)]) (hf : f_L_isShownSo_110 rc_30 v1 v2 v3 v4 v5 v8 v9 w = some z) : W p l e (RM 7 (xv (zoI z.1)) (6 * xv (zoI z.1))) s m args below meth c H locs 0 0 (vx_MQ below (QX D B Y (zoI z.1) z.2 (pZ z.1)) (XX D B Y (zoI z.1) z.2) args s (xv (zoI z.1)) (6 * xv (zoI z.1)) (AB B)) (F0 m 110 ls []) := by
  have hx := C.1
  have hb := C.2.1
  unfold f_L_isShownSo_110 at hf
  refine lv_iconst (v := (0 : Int32)) hx hb dL_isShownSo_110 (by decide) ?_
  exact t_L_isShownSo_111 C hxt htr hr_30 isZ_0 hH (lv_sub hl [0, 1, 2, 3, 4, 5, 6, 7] rfl) hf
set_option maxRecDepth 100000 in
set_option maxHeartbeats 4000000 in
theorem t_L_isShownSo_90 {D : va_G} {B : Nat} {Y : Nat → ClassId} {p : Program} {l : Launch} {e : Env} {s : State} {m : MethodId} {args : Array Value} {below : List Frame} {meth : Method} {c : Code} {z : ((Nat ⊕ Int32) × Wd)} {H : Heap} {locs : List Loc} {ls : Array Slot} {w : Wd} {v1 : Int32} {v2 : Int32} {v3 : Int32} {v4 : Int32} {v5 : Int64} {v8 : Int32} {v9 : Int32} {t0 : Int32} {t1 : Int32} (C : CX D B Y p s m args meth c cL_isShownSo 13 RL (some .boolean)) (hxt : ∀ x ∈ c.exceptionTable.toList, False) (htr : l.stackTraces = false)  {rc_30 : Int32 × Int32 × Int32 × Int32 × Int64 × Int32 × Int32 × Wd → Option ((Nat ⊕ Int32) × Wd)} (hr_30 : ∀ (v1 : Int32) (v2 : Int32) (v3 : Int32) (v4 : Int32) (v5 : Int64) (v7 : Int32) (v8 : Int32) (w : Wd), rc_30 (v1, v2, v3, v4, v5, v7, v8, w) = some z → isZ v7 → ∀ (H : Heap) (locs : List Loc) (ls : Array Slot), HS D B Y w s H locs → lv_has ls 13 [(0, .ref (B + 0)), (1, .int v1), (2, .int v2), (3, .int v3), (4, .int v4), (5, .long v5), (7, .int v7), (8, .int v8)] → W p l e (RM 7 (xv (zoI z.1)) (6 * xv (zoI z.1))) s m args below meth c H locs 0 0 (vx_MQ below (QX D B Y (zoI z.1) z.2 (pZ z.1)) (XX D B Y (zoI z.1) z.2) args s (xv (zoI z.1)) (6 * xv (zoI z.1)) (AB B)) (F0 m 30 ls []))    (hH : HS D B Y w s H locs) (hl : lv_has ls 13 [(0, .ref (B + 0)), (1, .int v1), (2, .int v2), (3, .int v3), (4, .int v4), (5, .long v5), (8, .int v8), (9, .int v9)]) (hf : f_L_isShownSo_90 rc_30 v1 v2 v3 v4 v5 v8 v9 t0 t1 w = some z) : W p l e (RM 7 (xv (zoI z.1)) (6 * xv (zoI z.1))) s m args below meth c H locs 0 0 (vx_MQ below (QX D B Y (zoI z.1) z.2 (pZ z.1)) (XX D B Y (zoI z.1) z.2) args s (xv (zoI z.1)) (6 * xv (zoI z.1)) (AB B)) (F0 m 90 ls [.int t1, .int t0]) := by
  have hx := C.1
  have hb := C.2.1
  unfold f_L_isShownSo_90 at hf
  refine b_icmp_lt (tgt := 110) hx hb hf dL_isShownSo_90 (by decide) (fun hf => ?_) (fun hf => ?_)
  · exact t_L_isShownSo_110 C hxt htr hr_30 hH (lv_sub hl [0, 1, 2, 3, 4, 5, 6, 7] rfl) hf
  · refine lv_aload_n hx hb dL_isShownSo_93 rfl (lv_at hl 0 rfl) ?_
    refine lv_iload_n hx hb dL_isShownSo_94 rfl (lv_at hl 1 rfl) ?_
    refine lv_iload hx hb dL_isShownSo_95 (lv_at hl 7 rfl) ?_
    refine lv_iload_n hx hb dL_isShownSo_97 rfl (lv_at hl 2 rfl) ?_
    rcases bdx_some hf with ⟨k, w1, hc, rfl⟩ | ⟨x2, w1, hc, hf⟩
    · exact q_xrunX (k0 := k) (q_xV (As := [.int v1, .int v9, .int v2]) C hH (ci := 10) rfl (by omega) gk_L_17 yd_X10_level (by omega) (by omega) kc_0 (c_X10_level (r := .inl k) htr hc) hl.1 rfl (Nat.le_of_ble_eq_true rfl) dL_isShownSo_98 (xv_le rfl)) hH (fun H locs ce q hH h1 h2 h3 => q_out C hH hxt h1 h2 h3 (xv_1 rfl) (xv_6 rfl))
    refine q_xrun (ov := some (.int x2)) (q_xV (As := [.int v1, .int v9, .int v2]) C hH (ci := 10) rfl (by omega) gk_L_17 yd_X10_level (by omega) (by omega) kc_0 (c_X10_level (r := .inr x2) htr hc) hl.1 rfl (Nat.le_of_ble_eq_true rfl) dL_isShownSo_98 (xv_0 rfl xv_00)) hH (fun H locs hH hP => ?_)
    refine lv_bipush (v := (11 : Int32)) hx hb dL_isShownSo_101 (by decide) ?_
    refine b_icmp_ge (tgt := 110) hx hb hf dL_isShownSo_103 (by decide) (fun hf => ?_) (fun hf => ?_)
    · exact t_L_isShownSo_110 C hxt htr hr_30 hH (lv_sub hl [0, 1, 2, 3, 4, 5, 6, 7] rfl) hf
    · refine lv_iconst (v := (1 : Int32)) hx hb dL_isShownSo_106 (by decide) ?_
      refine lv_goto (tgt := 111) hx hb dL_isShownSo_107 (by decide) ?_
      exact t_L_isShownSo_111 C hxt htr hr_30 isZ_1 hH (lv_sub hl [0, 1, 2, 3, 4, 5, 6, 7] rfl) hf
set_option maxRecDepth 100000 in
set_option maxHeartbeats 4000000 in
theorem tb_L_isShownSo_30 {D : va_G} {B : Nat} {Y : Nat → ClassId} {p : Program} {l : Launch} {e : Env} {s : State} {m : MethodId} {args : Array Value} {below : List Frame} {meth : Method} {c : Code} {z : ((Nat ⊕ Int32) × Wd)} {H : Heap} {locs : List Loc} {ls : Array Slot} {w : Wd} {v1 : Int32} {v2 : Int32} {v3 : Int32} {v4 : Int32} {v5 : Int64} {v7 : Int32} {v8 : Int32} (C : CX D B Y p s m args meth c cL_isShownSo 13 RL (some .boolean)) (hxt : ∀ x ∈ c.exceptionTable.toList, False) (htr : l.stackTraces = false)  {rc_30 : Int32 × Int32 × Int32 × Int32 × Int64 × Int32 × Int32 × Wd → Option ((Nat ⊕ Int32) × Wd)} (hr_30 : ∀ (v1 : Int32) (v2 : Int32) (v3 : Int32) (v4 : Int32) (v5 : Int64) (v7 : Int32) (v8 : Int32) (w : Wd), rc_30 (v1, v2, v3, v4, v5, v7, v8, w) = some z → isZ v7 → ∀ (H : Heap) (locs : List Loc) (ls : Array Slot), HS D B Y w s H locs → lv_has ls 13 [(0, .ref (B + 0)), (1, .int v1), (2, .int v2), (3, .int v3), (4, .int v4), (5, .long v5), (7, .int v7), (8, .int v8)] → W p l e (RM 7 (xv (zoI z.1)) (6 * xv (zoI z.1))) s m args below meth c H locs 0 0 (vx_MQ below (QX D B Y (zoI z.1) z.2 (pZ z.1)) (XX D B Y (zoI z.1) z.2) args s (xv (zoI z.1)) (6 * xv (zoI z.1)) (AB B)) (F0 m 30 ls []))   (z_v7 : isZ v7) (hH : HS D B Y w s H locs) (hl : lv_has ls 13 [(0, .ref (B + 0)), (1, .int v1), (2, .int v2), (3, .int v3), (4, .int v4), (5, .long v5), (7, .int v7), (8, .int v8)]) (hf : g_L_isShownSo_30 rc_30 v1 v2 v3 v4 v5 v7 v8 w = some z) : W p l e (RM 7 (xv (zoI z.1)) (6 * xv (zoI z.1))) s m args below meth c H locs 0 0 (vx_MQ below (QX D B Y (zoI z.1) z.2 (pZ z.1)) (XX D B Y (zoI z.1) z.2) args s (xv (zoI z.1)) (6 * xv (zoI z.1)) (AB B)) (F0 m 30 ls []) := by
  have hx := C.1
  have hb := C.2.1
  unfold g_L_isShownSo_30 at hf
  refine lv_iload hx hb dL_isShownSo_30 (lv_at hl 7 rfl) ?_
  refine lv_iload_n hx hb dL_isShownSo_32 rfl (lv_at hl 3 rfl) ?_
  refine b_icmp_ge (tgt := 128) hx hb hf dL_isShownSo_33 (by decide) (fun hf => ?_) (fun hf => ?_)
  · exact t_L_isShownSo_128 C hxt htr z_v7 hH (lv_sub hl [0, 1, 2, 3, 4, 6] rfl) hf
  · refine lv_iload hx hb dL_isShownSo_36 (lv_at hl 6 rfl) ?_
    refine b_if_eq (tgt := 128) hx hb hf dL_isShownSo_38 (by decide) (fun hf => ?_) (fun hf => ?_)
    · exact t_L_isShownSo_128 C hxt htr z_v7 hH (lv_sub hl [0, 1, 2, 3, 4, 6] rfl) hf
    · refine lv_iload_n hx hb dL_isShownSo_41 rfl (lv_at hl 3 rfl) ?_
      refine lv_bipush (v := (9 : Int32)) hx hb dL_isShownSo_42 (by decide) ?_
      refine b_icmp_ge (tgt := 128) hx hb hf dL_isShownSo_44 (by decide) (fun hf => ?_) (fun hf => ?_)
      · exact t_L_isShownSo_128 C hxt htr z_v7 hH (lv_sub hl [0, 1, 2, 3, 4, 6] rfl) hf
      · refine lv_aload_n hx hb dL_isShownSo_47 rfl (lv_at hl 0 rfl) ?_
        refine lv_iload_n hx hb dL_isShownSo_48 rfl (lv_at hl 1 rfl) ?_
        refine lv_iload hx hb dL_isShownSo_49 (lv_at hl 7 rfl) ?_
        refine lv_iload_n hx hb dL_isShownSo_51 rfl (lv_at hl 2 rfl) ?_
        rcases bdx_some hf with ⟨k, w1, hc, rfl⟩ | ⟨x2, w1, hc, hf⟩
        · exact q_xrunX (k0 := k) (q_xV (As := [.int v1, .int v8, .int v2]) C hH (ci := 10) rfl (by omega) gk_L_23 yd_X10_shown (by omega) (by omega) kc_0 (c_X10_shown (r := .inl k) htr hc) hl.1 rfl (Nat.le_of_ble_eq_true rfl) dL_isShownSo_52 (xv_le rfl)) hH (fun H locs ce q hH h1 h2 h3 => q_out C hH hxt h1 h2 h3 (xv_1 rfl) (xv_6 rfl))
        refine q_xrun (ov := some (.int x2)) (q_xV (As := [.int v1, .int v8, .int v2]) C hH (ci := 10) rfl (by omega) gk_L_23 yd_X10_shown (by omega) (by omega) kc_0 (c_X10_shown (r := .inr x2) htr hc) hl.1 rfl (Nat.le_of_ble_eq_true rfl) dL_isShownSo_52 (xv_0 rfl xv_00)) hH (fun H locs hH hP => ?_)
        refine lv_istore (lv' := [(9, .int x2), (0, .ref (B + 0)), (1, .int v1), (2, .int v2), (3, .int v3), (4, .int v4), (5, .long v5), (7, .int v7), (8, .int v8)]) hx hb dL_isShownSo_55 hl (by decide) rfl (fun ls hl => ?_)
        refine lv_lload hx hb dL_isShownSo_57 (lv_at hl 6 rfl) ?_
        refine lv_iload hx hb dL_isShownSo_59 (lv_at hl 0 rfl) ?_
        refine lv_lshr (v := v5 >>> (x2.toInt64 &&& 63)) hx hb dL_isShownSo_61 rfl ?_
        refine lv_lconst (v := (1 : Int64)) hx hb dL_isShownSo_62 (by decide) ?_
        refine lv_land hx hb dL_isShownSo_63 ?_
        refine lv_lconst (v := (0 : Int64)) hx hb dL_isShownSo_64 (by decide) ?_
        refine W.lcmp hx hb dL_isShownSo_65 ?_
        refine b_if_ne (tgt := 110) hx hb hf dL_isShownSo_66 (by decide) (fun hf => ?_) (fun hf => ?_)
        · exact t_L_isShownSo_110 C hxt htr hr_30 hH (lv_sub hl [1, 2, 3, 4, 5, 6, 8, 0] rfl) hf
        · refine lv_aload_n hx hb dL_isShownSo_69 rfl (lv_at hl 1 rfl) ?_
          refine lv_iload_n hx hb dL_isShownSo_70 rfl (lv_at hl 2 rfl) ?_
          refine lv_iload hx hb dL_isShownSo_71 (lv_at hl 0 rfl) ?_
          refine lv_iload_n hx hb dL_isShownSo_73 rfl (lv_at hl 3 rfl) ?_
          rcases bdx_some hf with ⟨k, w3, hc, rfl⟩ | ⟨x4, w3, hc, hf⟩
          · exact q_xrunX (k0 := k) (q_xV (As := [.int v1, .int x2, .int v2]) C hH (ci := 10) rfl (by omega) gk_L_17 yd_X10_level (by omega) (by omega) kc_0 (c_X10_level (r := .inl k) htr hc) hl.1 rfl (Nat.le_of_ble_eq_true rfl) dL_isShownSo_74 (xv_le rfl)) hH (fun H locs ce q hH h1 h2 h3 => q_out C hH hxt h1 h2 h3 (xv_1 rfl) (xv_6 rfl))
          refine q_xrun (ov := some (.int x4)) (q_xV (As := [.int v1, .int x2, .int v2]) C hH (ci := 10) rfl (by omega) gk_L_17 yd_X10_level (by omega) (by omega) kc_0 (c_X10_level (r := .inr x4) htr hc) hl.1 rfl (Nat.le_of_ble_eq_true rfl) dL_isShownSo_74 (xv_0 rfl xv_00)) hH (fun H locs hH hP => ?_)
          refine lv_iload_n hx hb dL_isShownSo_77 rfl (lv_at hl 3 rfl) ?_
          refine b_if_ge (tgt := 89) hx hb hf dL_isShownSo_78 (by decide) (fun hf => ?_) (fun hf => ?_)
          · refine lv_iload_n hx hb dL_isShownSo_89 rfl (lv_at hl 3 rfl) ?_
            exact t_L_isShownSo_90 C hxt htr hr_30 hH (lv_sub hl [1, 2, 3, 4, 5, 6, 8, 0] rfl) hf
          · refine lv_aload_n hx hb dL_isShownSo_81 rfl (lv_at hl 1 rfl) ?_
            refine lv_iload_n hx hb dL_isShownSo_82 rfl (lv_at hl 2 rfl) ?_
            rcases bdx_some hf with ⟨k, w5, hc, rfl⟩ | ⟨x6, w5, hc, hf⟩
            · exact q_xrunX (k0 := k) (q_xV (As := [.int v1]) C hH (ci := 10) rfl (by omega) gk_L_122 yd_X10_base (by omega) (by omega) kc_0 (c_X10_base (r := .inl k) htr hc) hl.1 rfl (Nat.le_of_ble_eq_true rfl) dL_isShownSo_83 (xv_le rfl)) hH (fun H locs ce q hH h1 h2 h3 => q_out C hH hxt h1 h2 h3 (xv_1 rfl) (xv_6 rfl))
            refine q_xrun (ov := some (.int x6)) (q_xV (As := [.int v1]) C hH (ci := 10) rfl (by omega) gk_L_122 yd_X10_base (by omega) (by omega) kc_0 (c_X10_base (r := .inr x6) htr hc) hl.1 rfl (Nat.le_of_ble_eq_true rfl) dL_isShownSo_83 (xv_0 rfl xv_00)) hH (fun H locs hH hP => ?_)
            refine lv_goto (tgt := 90) hx hb dL_isShownSo_86 (by decide) ?_
            exact t_L_isShownSo_90 C hxt htr hr_30 hH (lv_sub hl [1, 2, 3, 4, 5, 6, 8, 0] rfl) hf
set_option maxRecDepth 100000 in
set_option maxHeartbeats 4000000 in
theorem t_L_isShownSo_30 {D : va_G} {B : Nat} {Y : Nat → ClassId} {p : Program} {l : Launch} {e : Env} {s : State} {m : MethodId} {args : Array Value} {below : List Frame} {meth : Method} {c : Code} {z : ((Nat ⊕ Int32) × Wd)} {H : Heap} {locs : List Loc} {ls : Array Slot} {w : Wd} {v1 : Int32} {v2 : Int32} {v3 : Int32} {v4 : Int32} {v5 : Int64} {v7 : Int32} {v8 : Int32} (C : CX D B Y p s m args meth c cL_isShownSo 13 RL (some .boolean)) (hxt : ∀ x ∈ c.exceptionTable.toList, False) (htr : l.stackTraces = false)    (z_v7 : isZ v7) (hH : HS D B Y w s H locs) (hl : lv_has ls 13 [(0, .ref (B + 0)), (1, .int v1), (2, .int v2), (3, .int v3), (4, .int v4), (5, .long v5), (7, .int v7), (8, .int v8)]) (hf : f_L_isShownSo_30 v1 v2 v3 v4 v5 v7 v8 w = some z) : W p l e (RM 7 (xv (zoI z.1)) (6 * xv (zoI z.1))) s m args below meth c H locs 0 0 (vx_MQ below (QX D B Y (zoI z.1) z.2 (pZ z.1)) (XX D B Y (zoI z.1) z.2) args s (xv (zoI z.1)) (6 * xv (zoI z.1)) (AB B)) (F0 m 30 ls []) := by
  exact loopN_ind (z := z) (body := fun rc σ => g_L_isShownSo_30 rc  σ.1 σ.2.1 σ.2.2.1 σ.2.2.2.1 σ.2.2.2.2.1 σ.2.2.2.2.2.1 σ.2.2.2.2.2.2.1 σ.2.2.2.2.2.2.2)
    (P := fun σ => isZ σ.2.2.2.2.2.1 → ∀ (H : Heap) (locs : List Loc) (ls : Array Slot), HS D B Y σ.2.2.2.2.2.2.2 s H locs → lv_has ls 13 [(0, .ref (B + 0)), (1, .int σ.1), (2, .int σ.2.1), (3, .int σ.2.2.1), (4, .int σ.2.2.2.1), (5, .long σ.2.2.2.2.1), (7, .int σ.2.2.2.2.2.1), (8, .int σ.2.2.2.2.2.2.1)] → W p l e (RM 7 (xv (zoI z.1)) (6 * xv (zoI z.1))) s m args below meth c H locs 0 0 (vx_MQ below (QX D B Y (zoI z.1) z.2 (pZ z.1)) (XX D B Y (zoI z.1) z.2) args s (xv (zoI z.1)) (6 * xv (zoI z.1)) (AB B)) (F0 m 30 ls []))
    (fun rc hrec σ hf z_v7 H locs ls hH hl => tb_L_isShownSo_30 C hxt htr (fun v1 v2 v3 v4 v5 v7 v8 w hr z_v7 H locs ls hH hl => hrec (v1, v2, v3, v4, v5, v7, v8, w) hr z_v7 H locs ls hH hl)  z_v7 hH hl hf) FU (v1, v2, v3, v4, v5, v7, v8, w) hf z_v7 H locs ls hH hl
set_option maxRecDepth 100000 in
set_option maxHeartbeats 4000000 in
theorem t_L_isShownSo_19 {D : va_G} {B : Nat} {Y : Nat → ClassId} {p : Program} {l : Launch} {e : Env} {s : State} {m : MethodId} {args : Array Value} {below : List Frame} {meth : Method} {c : Code} {z : ((Nat ⊕ Int32) × Wd)} {H : Heap} {locs : List Loc} {ls : Array Slot} {w : Wd} {v1 : Int32} {v2 : Int32} {v3 : Int32} {t0 : Int32} (C : CX D B Y p s m args meth c cL_isShownSo 13 RL (some .boolean)) (hxt : ∀ x ∈ c.exceptionTable.toList, False) (htr : l.stackTraces = false)     (hH : HS D B Y w s H locs) (hl : lv_has ls 13 [(0, .ref (B + 0)), (1, .int v1), (2, .int v2), (3, .int v3)]) (hf : f_L_isShownSo_19 v1 v2 v3 t0 w = some z) : W p l e (RM 7 (xv (zoI z.1)) (6 * xv (zoI z.1))) s m args below meth c H locs 0 0 (vx_MQ below (QX D B Y (zoI z.1) z.2 (pZ z.1)) (XX D B Y (zoI z.1) z.2) args s (xv (zoI z.1)) (6 * xv (zoI z.1)) (AB B)) (F0 m 19 ls [.int t0]) := by
  have hx := C.1
  have hb := C.2.1
  unfold f_L_isShownSo_19 at hf
  refine lv_istore (lv' := [(4, .int t0), (0, .ref (B + 0)), (1, .int v1), (2, .int v2), (3, .int v3)]) hx hb dL_isShownSo_19 hl (by decide) rfl (fun ls hl => ?_)
  refine lv_lconst (v := (0 : Int64)) hx hb dL_isShownSo_21 (by decide) ?_
  refine lv_lstore (lv' := [(5, .long (0 : Int64)), (4, .int t0), (0, .ref (B + 0)), (1, .int v1), (2, .int v2), (3, .int v3)]) hx hb dL_isShownSo_22 hl (by decide) rfl (fun ls hl => ?_)
  refine lv_iconst (v := (1 : Int32)) hx hb dL_isShownSo_24 (by decide) ?_
  refine lv_istore (lv' := [(7, .int (1 : Int32)), (5, .long (0 : Int64)), (4, .int t0), (0, .ref (B + 0)), (1, .int v1), (2, .int v2), (3, .int v3)]) hx hb dL_isShownSo_25 hl (by decide) rfl (fun ls hl => ?_)
  refine lv_iconst (v := (0 : Int32)) hx hb dL_isShownSo_27 (by decide) ?_
  refine lv_istore (lv' := [(8, .int (0 : Int32)), (7, .int (1 : Int32)), (5, .long (0 : Int64)), (4, .int t0), (0, .ref (B + 0)), (1, .int v1), (2, .int v2), (3, .int v3)]) hx hb dL_isShownSo_28 hl (by decide) rfl (fun ls hl => ?_)
  exact t_L_isShownSo_30 C hxt htr isZ_1 hH (lv_sub hl [4, 5, 6, 7, 3, 2, 1, 0] rfl) hf
set_option maxRecDepth 100000 in
set_option maxHeartbeats 4000000 in
theorem t_L_isShownSo_0 {D : va_G} {B : Nat} {Y : Nat → ClassId} {p : Program} {l : Launch} {e : Env} {s : State} {m : MethodId} {args : Array Value} {below : List Frame} {meth : Method} {c : Code} {z : ((Nat ⊕ Int32) × Wd)} {H : Heap} {locs : List Loc} {ls : Array Slot} {w : Wd} {v1 : Int32} {v2 : Int32} (C : CX D B Y p s m args meth c cL_isShownSo 13 RL (some .boolean)) (hxt : ∀ x ∈ c.exceptionTable.toList, False) (htr : l.stackTraces = false)     (hH : HS D B Y w s H locs) (hl : lv_has ls 13 [(0, .ref (B + 0)), (1, .int v1), (2, .int v2)]) (hf : f_L_isShownSo v1 v2 w = some z) : W p l e (RM 7 (xv (zoI z.1)) (6 * xv (zoI z.1))) s m args below meth c H locs 0 0 (vx_MQ below (QX D B Y (zoI z.1) z.2 (pZ z.1)) (XX D B Y (zoI z.1) z.2) args s (xv (zoI z.1)) (6 * xv (zoI z.1)) (AB B)) (F0 m 0 ls []) := by
  have hx := C.1
  have hb := C.2.1
  unfold f_L_isShownSo at hf
  refine lv_aload_n hx hb dL_isShownSo_0 rfl (lv_at hl 0 rfl) ?_
  refine lv_iload_n hx hb dL_isShownSo_1 rfl (lv_at hl 1 rfl) ?_
  refine lv_iconst (v := (-1 : Int32)) hx hb dL_isShownSo_2 (by decide) ?_
  rcases bdx_some hf with ⟨k, w1, hc, rfl⟩ | ⟨x2, w1, hc, hf⟩
  · exact q_xrunX (k0 := k) (q_xV (As := [.int v1, .int (-1 : Int32)]) C hH (ci := 10) rfl (by omega) gk_L_112 yd_X10_at (by omega) (by omega) kc_0 (c_X10_at (r := .inl k) htr hc) hl.1 rfl (Nat.le_of_ble_eq_true rfl) dL_isShownSo_3 (xv_le rfl)) hH (fun H locs ce q hH h1 h2 h3 => q_out C hH hxt h1 h2 h3 (xv_1 rfl) (xv_6 rfl))
  refine q_xrun (ov := some (.int x2)) (q_xV (As := [.int v1, .int (-1 : Int32)]) C hH (ci := 10) rfl (by omega) gk_L_112 yd_X10_at (by omega) (by omega) kc_0 (c_X10_at (r := .inr x2) htr hc) hl.1 rfl (Nat.le_of_ble_eq_true rfl) dL_isShownSo_3 (xv_0 rfl xv_00)) hH (fun H locs hH hP => ?_)
  refine lv_istore_n (lv' := [(3, .int x2), (0, .ref (B + 0)), (1, .int v1), (2, .int v2)]) hx hb dL_isShownSo_6 rfl hl (by decide) rfl (fun ls hl => ?_)
  refine lv_iload_n hx hb dL_isShownSo_7 rfl (lv_at hl 0 rfl) ?_
  refine lv_bipush (v := (8 : Int32)) hx hb dL_isShownSo_8 (by decide) ?_
  refine b_icmp_ge (tgt := 17) hx hb hf dL_isShownSo_10 (by decide) (fun hf => ?_) (fun hf => ?_)
  · refine lv_bipush (v := (8 : Int32)) hx hb dL_isShownSo_17 (by decide) ?_
    exact t_L_isShownSo_19 C hxt htr hH (lv_sub hl [1, 2, 3, 0] rfl) hf
  · refine lv_iload_n hx hb dL_isShownSo_13 rfl (lv_at hl 0 rfl) ?_
    refine lv_goto (tgt := 19) hx hb dL_isShownSo_14 (by decide) ?_
    exact t_L_isShownSo_19 C hxt htr hH (lv_sub hl [1, 2, 3, 0] rfl) hf
set_option maxRecDepth 100000 in
theorem c_L_isShownSo {l : Launch} {D : va_G} {B : Nat} {Y : Nat → ClassId} {v1 : Int32} {v2 : Int32} {w : Wd} {r : (Nat ⊕ Int32)} {w1 : Wd} (htr : l.stackTraces = false)   (hf : f_L_isShownSo v1 v2 w = some (r, w1)) : XM l D B Y yL_isShownSo cL_isShownSo 13 (some .boolean) 7 [.ref (B + 0), .int v1, .int v2] w (zoI r) w1 (pZ r) :=
  XM_of (by decide +kernel) (Nat.le_of_ble_eq_true rfl) (fun p e s m args below meth c ls C hxt hH hl => t_L_isShownSo_0 C hxt htr  hH (lv_sub hl [0, 1, 2] rfl) hf)
set_option maxRecDepth 100000 in
set_option maxHeartbeats 4000000 in
theorem tb_L_areBreaksSo_167 {D : va_G} {B : Nat} {Y : Nat → ClassId} {p : Program} {l : Launch} {e : Env} {s : State} {m : MethodId} {args : Array Value} {below : List Frame} {meth : Method} {c : Code} {z : ((Nat ⊕ Int32) × Wd)} {H : Heap} {locs : List Loc} {ls : Array Slot} {w : Wd} {v2 : Int32} {v3 : Int64} {v9 : Int32} {v11 : Int32} {v12 : Int32} {v13 : Int32} (C : CX D B Y p s m args meth c cL_areBreaksSo 14 RL (some .boolean)) (hxt : ∀ x ∈ c.exceptionTable.toList, False) (htr : l.stackTraces = false)  {rc_167 : Int32 × Int64 × Int32 × Int32 × Int32 × Int32 × Wd → Option ((Nat ⊕ Int32) × Wd)} (hr_167 : ∀ (v2 : Int32) (v3 : Int64) (v9 : Int32) (v11 : Int32) (v12 : Int32) (v13 : Int32) (w : Wd), rc_167 (v2, v3, v9, v11, v12, v13, w) = some z → isZ v9 → ∀ (H : Heap) (locs : List Loc) (ls : Array Slot), HS D B Y w s H locs → lv_has ls 14 [(2, .int v2), (3, .long v3), (9, .int v9), (11, .int v11), (12, .int v12), (13, .int v13)] → W p l e (RM 8 (xv (zoI z.1)) (6 * xv (zoI z.1))) s m args below meth c H locs 0 0 (vx_MQ below (QX D B Y (zoI z.1) z.2 (pZ z.1)) (XX D B Y (zoI z.1) z.2) args s (xv (zoI z.1)) (6 * xv (zoI z.1)) (AB B)) (F0 m 167 ls []))   (z_v9 : isZ v9) (hH : HS D B Y w s H locs) (hl : lv_has ls 14 [(2, .int v2), (3, .long v3), (9, .int v9), (11, .int v11), (12, .int v12), (13, .int v13)]) (hf : g_L_areBreaksSo_167 rc_167 v2 v3 v9 v11 v12 v13 w = some z) : W p l e (RM 8 (xv (zoI z.1)) (6 * xv (zoI z.1))) s m args below meth c H locs 0 0 (vx_MQ below (QX D B Y (zoI z.1) z.2 (pZ z.1)) (XX D B Y (zoI z.1) z.2) args s (xv (zoI z.1)) (6 * xv (zoI z.1)) (AB B)) (F0 m 167 ls []) := by
  have hx := C.1
  have hb := C.2.1
  unfold g_L_areBreaksSo_167 at hf
  refine lv_iload hx hb dL_areBreaksSo_167 (lv_at hl 5 rfl) ?_
  refine lv_iload_n hx hb dL_areBreaksSo_169 rfl (lv_at hl 0 rfl) ?_
  refine b_icmp_ge (tgt := 191) hx hb hf dL_areBreaksSo_170 (by decide) (fun hf => ?_) (fun hf => ?_)
  · refine lv_iload hx hb dL_areBreaksSo_191 (lv_at hl 2 rfl) ?_
    refine b_if_eq (tgt := 213) hx hb hf dL_areBreaksSo_193 (by decide) (fun hf => ?_) (fun hf => ?_)
    · refine lv_iconst (v := (0 : Int32)) hx hb dL_areBreaksSo_213 (by decide) ?_
      cases hf
      exact q_x0 rfl (q_retz C hH isZ_0 isZ_0 dL_areBreaksSo_214)
    · refine lv_iload_n hx hb dL_areBreaksSo_196 rfl (lv_at hl 0 rfl) ?_
      refine b_if_eq (tgt := 209) hx hb hf dL_areBreaksSo_197 (by decide) (fun hf => ?_) (fun hf => ?_)
      · refine lv_iconst (v := (1 : Int32)) hx hb dL_areBreaksSo_209 (by decide) ?_
        refine lv_goto (tgt := 214) hx hb dL_areBreaksSo_210 (by decide) ?_
        cases hf
        exact q_x0 rfl (q_retz C hH isZ_1 isZ_1 dL_areBreaksSo_214)
      · refine lv_iload hx hb dL_areBreaksSo_200 (lv_at hl 3 rfl) ?_
        refine lv_iload hx hb dL_areBreaksSo_202 (lv_at hl 4 rfl) ?_
        refine lv_iconst (v := (1 : Int32)) hx hb dL_areBreaksSo_204 (by decide) ?_
        refine lv_iadd hx hb dL_areBreaksSo_205 ?_
        refine b_icmp_ne (tgt := 213) hx hb hf dL_areBreaksSo_206 (by decide) (fun hf => ?_) (fun hf => ?_)
        · refine lv_iconst (v := (0 : Int32)) hx hb dL_areBreaksSo_213 (by decide) ?_
          cases hf
          exact q_x0 rfl (q_retz C hH isZ_0 isZ_0 dL_areBreaksSo_214)
        · refine lv_iconst (v := (1 : Int32)) hx hb dL_areBreaksSo_209 (by decide) ?_
          refine lv_goto (tgt := 214) hx hb dL_areBreaksSo_210 (by decide) ?_
          cases hf
          exact q_x0 rfl (q_retz C hH isZ_1 isZ_1 dL_areBreaksSo_214)
  · refine lv_iload hx hb dL_areBreaksSo_173 (lv_at hl 4 rfl) ?_
    refine lv_lload_n hx hb dL_areBreaksSo_175 rfl (lv_at hl 1 rfl) ?_
    refine lv_iload hx hb dL_areBreaksSo_176 (lv_at hl 5 rfl) ?_
    refine lv_lshr (v := v3 >>> (v13.toInt64 &&& 63)) hx hb dL_areBreaksSo_178 rfl ?_
    refine lv_lconst (v := (1 : Int64)) hx hb dL_areBreaksSo_179 (by decide) ?_
    refine lv_land hx hb dL_areBreaksSo_180 ?_
    refine lv_l2i (v := ((v3 >>> (v13.toInt64 &&& 63)) &&& (1 : Int64)).toInt32) hx hb dL_areBreaksSo_181 rfl ?_
    refine lv_iadd hx hb dL_areBreaksSo_182 ?_
    refine b_leti hf (fun x1 hf => ?_)
    refine lv_istore (lv' := [(12, .int x1), (2, .int v2), (3, .long v3), (9, .int v9), (11, .int v11), (13, .int v13)]) hx hb dL_areBreaksSo_183 hl (by decide) rfl (fun ls hl => ?_)
    refine b_let hf (fun x2 he hf => ?_)
    refine lv_iinc (v := x2) (lv' := [(13, .int x2), (12, .int x1), (2, .int v2), (3, .long v3), (9, .int v9), (11, .int v11)]) hx hb dL_areBreaksSo_185 hl (k := 5) rfl (by rw [← he]; rfl) (by decide) rfl (fun ls hl => ?_)
    refine lv_goto (tgt := 167) hx hb dL_areBreaksSo_188 (by decide) ?_
    exact hr_167 v2 v3 v9 v11 x1 x2 w hf z_v9 _ _ _ hH (lv_sub hl [2, 3, 4, 5, 1, 0] rfl)
set_option maxRecDepth 100000 in
set_option maxHeartbeats 4000000 in
theorem t_L_areBreaksSo_167 {D : va_G} {B : Nat} {Y : Nat → ClassId} {p : Program} {l : Launch} {e : Env} {s : State} {m : MethodId} {args : Array Value} {below : List Frame} {meth : Method} {c : Code} {z : ((Nat ⊕ Int32) × Wd)} {H : Heap} {locs : List Loc} {ls : Array Slot} {w : Wd} {v2 : Int32} {v3 : Int64} {v9 : Int32} {v11 : Int32} {v12 : Int32} {v13 : Int32} (C : CX D B Y p s m args meth c cL_areBreaksSo 14 RL (some .boolean)) (hxt : ∀ x ∈ c.exceptionTable.toList, False) (htr : l.stackTraces = false)    (z_v9 : isZ v9) (hH : HS D B Y w s H locs) (hl : lv_has ls 14 [(2, .int v2), (3, .long v3), (9, .int v9), (11, .int v11), (12, .int v12), (13, .int v13)]) (hf : f_L_areBreaksSo_167 v2 v3 v9 v11 v12 v13 w = some z) : W p l e (RM 8 (xv (zoI z.1)) (6 * xv (zoI z.1))) s m args below meth c H locs 0 0 (vx_MQ below (QX D B Y (zoI z.1) z.2 (pZ z.1)) (XX D B Y (zoI z.1) z.2) args s (xv (zoI z.1)) (6 * xv (zoI z.1)) (AB B)) (F0 m 167 ls []) := by
  exact loopN_ind (z := z) (body := fun rc σ => g_L_areBreaksSo_167 rc  σ.1 σ.2.1 σ.2.2.1 σ.2.2.2.1 σ.2.2.2.2.1 σ.2.2.2.2.2.1 σ.2.2.2.2.2.2)
    (P := fun σ => isZ σ.2.2.1 → ∀ (H : Heap) (locs : List Loc) (ls : Array Slot), HS D B Y σ.2.2.2.2.2.2 s H locs → lv_has ls 14 [(2, .int σ.1), (3, .long σ.2.1), (9, .int σ.2.2.1), (11, .int σ.2.2.2.1), (12, .int σ.2.2.2.2.1), (13, .int σ.2.2.2.2.2.1)] → W p l e (RM 8 (xv (zoI z.1)) (6 * xv (zoI z.1))) s m args below meth c H locs 0 0 (vx_MQ below (QX D B Y (zoI z.1) z.2 (pZ z.1)) (XX D B Y (zoI z.1) z.2) args s (xv (zoI z.1)) (6 * xv (zoI z.1)) (AB B)) (F0 m 167 ls []))
    (fun rc hrec σ hf z_v9 H locs ls hH hl => tb_L_areBreaksSo_167 C hxt htr (fun v2 v3 v9 v11 v12 v13 w hr z_v9 H locs ls hH hl => hrec (v2, v3, v9, v11, v12, v13, w) hr z_v9 H locs ls hH hl)  z_v9 hH hl hf) FU (v2, v3, v9, v11, v12, v13, w) hf z_v9 H locs ls hH hl
set_option maxRecDepth 100000 in
set_option maxHeartbeats 4000000 in
theorem t_L_areBreaksSo_161 {D : va_G} {B : Nat} {Y : Nat → ClassId} {p : Program} {l : Launch} {e : Env} {s : State} {m : MethodId} {args : Array Value} {below : List Frame} {meth : Method} {c : Code} {z : ((Nat ⊕ Int32) × Wd)} {H : Heap} {locs : List Loc} {ls : Array Slot} {w : Wd} {v2 : Int32} {v3 : Int64} {v9 : Int32} {v11 : Int32} (C : CX D B Y p s m args meth c cL_areBreaksSo 14 RL (some .boolean)) (hxt : ∀ x ∈ c.exceptionTable.toList, False) (htr : l.stackTraces = false)    (z_v9 : isZ v9) (hH : HS D B Y w s H locs) (hl : lv_has ls 14 [(2, .int v2), (3, .long v3), (9, .int v9), (11, .int v11)]) (hf : f_L_areBreaksSo_161 v2 v3 v9 v11 w = some z) : W p l e (RM 8 (xv (zoI z.1)) (6 * xv (zoI z.1))) s m args below meth c H locs 0 0 (vx_MQ below (QX D B Y (zoI z.1) z.2 (pZ z.1)) (XX D B Y (zoI z.1) z.2) args s (xv (zoI z.1)) (6 * xv (zoI z.1)) (AB B)) (F0 m 161 ls []) := by
  have hx := C.1
  have hb := C.2.1
  unfold f_L_areBreaksSo_161 at hf
  refine lv_iconst (v := (0 : Int32)) hx hb dL_areBreaksSo_161 (by decide) ?_
  refine lv_istore (lv' := [(12, .int (0 : Int32)), (2, .int v2), (3, .long v3), (9, .int v9), (11, .int v11)]) hx hb dL_areBreaksSo_162 hl (by decide) rfl (fun ls hl => ?_)
  refine lv_iconst (v := (1 : Int32)) hx hb dL_areBreaksSo_164 (by decide) ?_
  refine lv_istore (lv' := [(13, .int (1 : Int32)), (12, .int (0 : Int32)), (2, .int v2), (3, .long v3), (9, .int v9), (11, .int v11)]) hx hb dL_areBreaksSo_165 hl (by decide) rfl (fun ls hl => ?_)
  exact t_L_areBreaksSo_167 C hxt htr z_v9 hH (lv_sub hl [2, 3, 4, 5, 1, 0] rfl) hf
set_option maxRecDepth 100000 in
set_option maxHeartbeats 4000000 in
theorem t_L_areBreaksSo_149 {D : va_G} {B : Nat} {Y : Nat → ClassId} {p : Program} {l : Launch} {e : Env} {s : State} {m : MethodId} {args : Array Value} {below : List Frame} {meth : Method} {c : Code} {z : ((Nat ⊕ Int32) × Wd)} {H : Heap} {locs : List Loc} {ls : Array Slot} {w : Wd} {v1 : Int32} {v2 : Int32} {v3 : Int64} {v11 : Int32} {v12 : Int32} {t0 : Int32} (C : CX D B Y p s m args meth c cL_areBreaksSo 14 RL (some .boolean)) (hxt : ∀ x ∈ c.exceptionTable.toList, False) (htr : l.stackTraces = false)  {rc_86 : Int32 × Int32 × Int64 × Int32 × Int32 × Int32 × Wd → Option ((Nat ⊕ Int32) × Wd)} (hr_86 : ∀ (v1 : Int32) (v2 : Int32) (v3 : Int64) (v9 : Int32) (v10 : Int32) (v11 : Int32) (w : Wd), rc_86 (v1, v2, v3, v9, v10, v11, w) = some z → isZ v9 → ∀ (H : Heap) (locs : List Loc) (ls : Array Slot), HS D B Y w s H locs → lv_has ls 14 [(0, .ref (B + 0)), (1, .int v1), (2, .int v2), (3, .long v3), (9, .int v9), (10, .int v10), (11, .int v11)] → W p l e (RM 8 (xv (zoI z.1)) (6 * xv (zoI z.1))) s m args below meth c H locs 0 0 (vx_MQ below (QX D B Y (zoI z.1) z.2 (pZ z.1)) (XX D B Y (zoI z.1) z.2) args s (xv (zoI z.1)) (6 * xv (zoI z.1)) (AB B)) (F0 m 86 ls []))   (z_t0 : isZ t0) (hH : HS D B Y w s H locs) (hl : lv_has ls 14 [(0, .ref (B + 0)), (1, .int v1), (2, .int v2), (3, .long v3), (11, .int v11), (12, .int v12)]) (hf : f_L_areBreaksSo_149 rc_86 v1 v2 v3 v11 v12 t0 w = some z) : W p l e (RM 8 (xv (zoI z.1)) (6 * xv (zoI z.1))) s m args below meth c H locs 0 0 (vx_MQ below (QX D B Y (zoI z.1) z.2 (pZ z.1)) (XX D B Y (zoI z.1) z.2) args s (xv (zoI z.1)) (6 * xv (zoI z.1)) (AB B)) (F0 m 149 ls [.int t0]) := by
  have hx := C.1
  have hb := C.2.1
  unfold f_L_areBreaksSo_149 at hf
  refine lv_istore (lv' := [(9, .int t0), (0, .ref (B + 0)), (1, .int v1), (2, .int v2), (3, .long v3), (11, .int v11), (12, .int v12)]) hx hb dL_areBreaksSo_149 hl (by decide) rfl (fun ls hl => ?_)
  refine lv_iload hx hb dL_areBreaksSo_151 (lv_at hl 6 rfl) ?_
  refine lv_istore (lv' := [(10, .int v12), (9, .int t0), (0, .ref (B + 0)), (1, .int v1), (2, .int v2), (3, .long v3), (11, .int v11), (12, .int v12)]) hx hb dL_areBreaksSo_153 hl (by decide) rfl (fun ls hl => ?_)
  refine b_let hf (fun x1 he hf => ?_)
  refine lv_iinc (v := x1) (lv' := [(11, .int x1), (10, .int v12), (9, .int t0), (0, .ref (B + 0)), (1, .int v1), (2, .int v2), (3, .long v3), (12, .int v12)]) hx hb dL_areBreaksSo_155 hl (k := 6) rfl (by rw [← he]; rfl) (by decide) rfl (fun ls hl => ?_)
  refine lv_goto (tgt := 86) hx hb dL_areBreaksSo_158 (by decide) ?_
  exact hr_86 v1 v2 v3 t0 v12 x1 w hf z_t0 _ _ _ hH (lv_sub hl [3, 4, 5, 6, 2, 1, 0] rfl)
set_option maxRecDepth 100000 in
set_option maxHeartbeats 4000000 in
theorem t_L_areBreaksSo_148 {D : va_G} {B : Nat} {Y : Nat → ClassId} {p : Program} {l : Launch} {e : Env} {s : State} {m : MethodId} {args : Array Value} {below : List Frame} {meth : Method} {c : Code} {z : ((Nat ⊕ Int32) × Wd)} {H : Heap} {locs : List Loc} {ls : Array Slot} {w : Wd} {v1 : Int32} {v2 : Int32} {v3 : Int64} {v11 : Int32} {v12 : Int32} (C : CX D B Y p s m args meth c cL_areBreaksSo 14 RL (some .boolean)) (hxt : ∀ x ∈ c.exceptionTable.toList, False) (htr : l.stackTraces = false)  {rc_86 : Int32 × Int32 × Int64 × Int32 × Int32 × Int32 × Wd → Option ((Nat ⊕ Int32) × Wd)} (hr_86 : ∀ (v1 : Int32) (v2 : Int32) (v3 : Int64) (v9 : Int32) (v10 : Int32) (v11 : Int32) (w : Wd), rc_86 (v1, v2, v3, v9, v10, v11, w) = some z → isZ v9 → ∀ (H : Heap) (locs : List Loc) (ls : Array Slot), HS D B Y w s H locs → lv_has ls 14 [(0, .ref (B + 0)), (1, .int v1), (2, .int v2), (3, .long v3), (9, .int v9), (10, .int v10), (11, .int v11)] → W p l e (RM 8 (xv (zoI z.1)) (6 * xv (zoI z.1))) s m args below meth c H locs 0 0 (vx_MQ below (QX D B Y (zoI z.1) z.2 (pZ z.1)) (XX D B Y (zoI z.1) z.2) args s (xv (zoI z.1)) (6 * xv (zoI z.1)) (AB B)) (F0 m 86 ls []))    (hH : HS D B Y w s H locs) (hl : lv_has ls 14 [(0, .ref (B + 0)), (1, .int v1), (2, .int v2), (3, .long v3), (11, .int v11), (12, .int v12)]) (hf : f_L_areBreaksSo_148 rc_86 v1 v2 v3 v11 v12 w = some z) : W p l e (RM 8 (xv (zoI z.1)) (6 * xv (zoI z.1))) s m args below meth c H locs 0 0 (vx_MQ below (QX D B Y (zoI z.1) z.2 (pZ z.1)) (XX D B Y (zoI z.1) z.2) args s (xv (zoI z.1)) (6 * xv (zoI z.1)) (AB B)) (F0 m 148 ls []) := by
  have hx := C.1
  have hb := C.2.1
  unfold f_L_areBreaksSo_148 at hf
  refine lv_iconst (v := (0 : Int32)) hx hb dL_areBreaksSo_148 (by decide) ?_
  exact t_L_areBreaksSo_149 C hxt htr hr_86 isZ_0 hH (lv_sub hl [0, 1, 2, 3, 4, 5] rfl) hf
set_option maxRecDepth 100000 in
set_option maxHeartbeats 4000000 in
theorem t_L_areBreaksSo_131 {D : va_G} {B : Nat} {Y : Nat → ClassId} {p : Program} {l : Launch} {e : Env} {s : State} {m : MethodId} {args : Array Value} {below : List Frame} {meth : Method} {c : Code} {z : ((Nat ⊕ Int32) × Wd)} {H : Heap} {locs : List Loc} {ls : Array Slot} {w : Wd} {v1 : Int32} {v2 : Int32} {v3 : Int64} {v10 : Int32} {v11 : Int32} {v12 : Int32} (C : CX D B Y p s m args meth c cL_areBreaksSo 14 RL (some .boolean)) (hxt : ∀ x ∈ c.exceptionTable.toList, False) (htr : l.stackTraces = false)  {rc_86 : Int32 × Int32 × Int64 × Int32 × Int32 × Int32 × Wd → Option ((Nat ⊕ Int32) × Wd)} (hr_86 : ∀ (v1 : Int32) (v2 : Int32) (v3 : Int64) (v9 : Int32) (v10 : Int32) (v11 : Int32) (w : Wd), rc_86 (v1, v2, v3, v9, v10, v11, w) = some z → isZ v9 → ∀ (H : Heap) (locs : List Loc) (ls : Array Slot), HS D B Y w s H locs → lv_has ls 14 [(0, .ref (B + 0)), (1, .int v1), (2, .int v2), (3, .long v3), (9, .int v9), (10, .int v10), (11, .int v11)] → W p l e (RM 8 (xv (zoI z.1)) (6 * xv (zoI z.1))) s m args below meth c H locs 0 0 (vx_MQ below (QX D B Y (zoI z.1) z.2 (pZ z.1)) (XX D B Y (zoI z.1) z.2) args s (xv (zoI z.1)) (6 * xv (zoI z.1)) (AB B)) (F0 m 86 ls []))    (hH : HS D B Y w s H locs) (hl : lv_has ls 14 [(0, .ref (B + 0)), (1, .int v1), (2, .int v2), (3, .long v3), (10, .int v10), (11, .int v11), (12, .int v12)]) (hf : f_L_areBreaksSo_131 rc_86 v1 v2 v3 v10 v11 v12 w = some z) : W p l e (RM 8 (xv (zoI z.1)) (6 * xv (zoI z.1))) s m args below meth c H locs 0 0 (vx_MQ below (QX D B Y (zoI z.1) z.2 (pZ z.1)) (XX D B Y (zoI z.1) z.2) args s (xv (zoI z.1)) (6 * xv (zoI z.1)) (AB B)) (F0 m 131 ls []) := by
  have hx := C.1
  have hb := C.2.1
  unfold f_L_areBreaksSo_131 at hf
  refine lv_aload_n hx hb dL_areBreaksSo_131 rfl (lv_at hl 0 rfl) ?_
  refine lv_iload_n hx hb dL_areBreaksSo_132 rfl (lv_at hl 1 rfl) ?_
  refine lv_iload hx hb dL_areBreaksSo_133 (lv_at hl 6 rfl) ?_
  refine lv_iconst (v := (0 : Int32)) hx hb dL_areBreaksSo_135 (by decide) ?_
  rcases bdx_some hf with ⟨k, w1, hc, rfl⟩ | ⟨x2, w1, hc, hf⟩
  · exact q_xrunX (k0 := k) (q_xV (As := [.int v1, .int v12, .int (0 : Int32)]) C hH (ci := 10) rfl (by omega) gk_L_30 yd_X10_bySense (by omega) (by omega) kc_0 (c_X10_bySense (r := .inl k) htr isZ_0 hc) hl.1 rfl (Nat.le_of_ble_eq_true rfl) dL_areBreaksSo_136 (xv_le rfl)) hH (fun H locs ce q hH h1 h2 h3 => q_out C hH hxt h1 h2 h3 (xv_1 rfl) (xv_6 rfl))
  refine q_xrun (ov := some (.int x2)) (q_xV (As := [.int v1, .int v12, .int (0 : Int32)]) C hH (ci := 10) rfl (by omega) gk_L_30 yd_X10_bySense (by omega) (by omega) kc_0 (c_X10_bySense (r := .inr x2) htr isZ_0 hc) hl.1 rfl (Nat.le_of_ble_eq_true rfl) dL_areBreaksSo_136 (xv_0 rfl xv_00)) hH (fun H locs hH hP => ?_)
  refine lv_iload hx hb dL_areBreaksSo_139 (lv_at hl 4 rfl) ?_
  refine b_icmp_ne (tgt := 148) hx hb hf dL_areBreaksSo_141 (by decide) (fun hf => ?_) (fun hf => ?_)
  · exact t_L_areBreaksSo_148 C hxt htr hr_86 hH (lv_sub hl [0, 1, 2, 3, 5, 6] rfl) hf
  · refine lv_iconst (v := (1 : Int32)) hx hb dL_areBreaksSo_144 (by decide) ?_
    refine lv_goto (tgt := 149) hx hb dL_areBreaksSo_145 (by decide) ?_
    exact t_L_areBreaksSo_149 C hxt htr hr_86 isZ_1 hH (lv_sub hl [0, 1, 2, 3, 5, 6] rfl) hf
set_option maxRecDepth 100000 in
set_option maxHeartbeats 4000000 in
theorem tb_L_areBreaksSo_86 {D : va_G} {B : Nat} {Y : Nat → ClassId} {p : Program} {l : Launch} {e : Env} {s : State} {m : MethodId} {args : Array Value} {below : List Frame} {meth : Method} {c : Code} {z : ((Nat ⊕ Int32) × Wd)} {H : Heap} {locs : List Loc} {ls : Array Slot} {w : Wd} {v1 : Int32} {v2 : Int32} {v3 : Int64} {v9 : Int32} {v10 : Int32} {v11 : Int32} (C : CX D B Y p s m args meth c cL_areBreaksSo 14 RL (some .boolean)) (hxt : ∀ x ∈ c.exceptionTable.toList, False) (htr : l.stackTraces = false)  {rc_86 : Int32 × Int32 × Int64 × Int32 × Int32 × Int32 × Wd → Option ((Nat ⊕ Int32) × Wd)} (hr_86 : ∀ (v1 : Int32) (v2 : Int32) (v3 : Int64) (v9 : Int32) (v10 : Int32) (v11 : Int32) (w : Wd), rc_86 (v1, v2, v3, v9, v10, v11, w) = some z → isZ v9 → ∀ (H : Heap) (locs : List Loc) (ls : Array Slot), HS D B Y w s H locs → lv_has ls 14 [(0, .ref (B + 0)), (1, .int v1), (2, .int v2), (3, .long v3), (9, .int v9), (10, .int v10), (11, .int v11)] → W p l e (RM 8 (xv (zoI z.1)) (6 * xv (zoI z.1))) s m args below meth c H locs 0 0 (vx_MQ below (QX D B Y (zoI z.1) z.2 (pZ z.1)) (XX D B Y (zoI z.1) z.2) args s (xv (zoI z.1)) (6 * xv (zoI z.1)) (AB B)) (F0 m 86 ls []))   (z_v9 : isZ v9) (hH : HS D B Y w s H locs) (hl : lv_has ls 14 [(0, .ref (B + 0)), (1, .int v1), (2, .int v2), (3, .long v3), (9, .int v9), (10, .int v10), (11, .int v11)]) (hf : g_L_areBreaksSo_86 rc_86 v1 v2 v3 v9 v10 v11 w = some z) : W p l e (RM 8 (xv (zoI z.1)) (6 * xv (zoI z.1))) s m args below meth c H locs 0 0 (vx_MQ below (QX D B Y (zoI z.1) z.2 (pZ z.1)) (XX D B Y (zoI z.1) z.2) args s (xv (zoI z.1)) (6 * xv (zoI z.1)) (AB B)) (F0 m 86 ls []) := by
  have hx := C.1
  have hb := C.2.1
  unfold g_L_areBreaksSo_86 at hf
  refine lv_iload hx hb dL_areBreaksSo_86 (lv_at hl 5 rfl) ?_
  refine lv_iload_n hx hb dL_areBreaksSo_88 rfl (lv_at hl 2 rfl) ?_
  refine b_icmp_ge (tgt := 161) hx hb hf dL_areBreaksSo_89 (by decide) (fun hf => ?_) (fun hf => ?_)
  · exact t_L_areBreaksSo_161 C hxt htr z_v9 hH (lv_sub hl [2, 3, 4, 6] rfl) hf
  · refine lv_iload hx hb dL_areBreaksSo_92 (lv_at hl 4 rfl) ?_
    refine b_if_eq (tgt := 161) hx hb hf dL_areBreaksSo_94 (by decide) (fun hf => ?_) (fun hf => ?_)
    · exact t_L_areBreaksSo_161 C hxt htr z_v9 hH (lv_sub hl [2, 3, 4, 6] rfl) hf
    · refine lv_aload_n hx hb dL_areBreaksSo_97 rfl (lv_at hl 0 rfl) ?_
      refine lv_iload_n hx hb dL_areBreaksSo_98 rfl (lv_at hl 1 rfl) ?_
      refine lv_iload hx hb dL_areBreaksSo_99 (lv_at hl 5 rfl) ?_
      refine lv_iconst (v := (1 : Int32)) hx hb dL_areBreaksSo_101 (by decide) ?_
      rcases bdx_some hf with ⟨k, w1, hc, rfl⟩ | ⟨x2, w1, hc, hf⟩
      · exact q_xrunX (k0 := k) (q_xV (As := [.int v1, .int v10, .int (1 : Int32)]) C hH (ci := 10) rfl (by omega) gk_L_30 yd_X10_bySense (by omega) (by omega) kc_0 (c_X10_bySense (r := .inl k) htr isZ_1 hc) hl.1 rfl (Nat.le_of_ble_eq_true rfl) dL_areBreaksSo_102 (xv_le rfl)) hH (fun H locs ce q hH h1 h2 h3 => q_out C hH hxt h1 h2 h3 (xv_1 rfl) (xv_6 rfl))
      refine q_xrun (ov := some (.int x2)) (q_xV (As := [.int v1, .int v10, .int (1 : Int32)]) C hH (ci := 10) rfl (by omega) gk_L_30 yd_X10_bySense (by omega) (by omega) kc_0 (c_X10_bySense (r := .inr x2) htr isZ_1 hc) hl.1 rfl (Nat.le_of_ble_eq_true rfl) dL_areBreaksSo_102 (xv_0 rfl xv_00)) hH (fun H locs hH hP => ?_)
      refine lv_istore (lv' := [(12, .int x2), (0, .ref (B + 0)), (1, .int v1), (2, .int v2), (3, .long v3), (9, .int v9), (10, .int v10), (11, .int v11)]) hx hb dL_areBreaksSo_105 hl (by decide) rfl (fun ls hl => ?_)
      refine lv_iload hx hb dL_areBreaksSo_107 (lv_at hl 0 rfl) ?_
      refine lv_iload hx hb dL_areBreaksSo_109 (lv_at hl 6 rfl) ?_
      refine b_icmp_le (tgt := 148) hx hb hf dL_areBreaksSo_111 (by decide) (fun hf => ?_) (fun hf => ?_)
      · exact t_L_areBreaksSo_148 C hxt htr hr_86 hH (lv_sub hl [1, 2, 3, 4, 7, 0] rfl) hf
      · refine lv_iload hx hb dL_areBreaksSo_114 (lv_at hl 0 rfl) ?_
        refine lv_iload_n hx hb dL_areBreaksSo_116 rfl (lv_at hl 3 rfl) ?_
        refine b_icmp_eq (tgt := 131) hx hb hf dL_areBreaksSo_117 (by decide) (fun hf => ?_) (fun hf => ?_)
        · exact t_L_areBreaksSo_131 C hxt htr hr_86 hH (lv_sub hl [1, 2, 3, 4, 6, 7, 0] rfl) hf
        · refine lv_lload_n hx hb dL_areBreaksSo_120 rfl (lv_at hl 4 rfl) ?_
          refine lv_iload hx hb dL_areBreaksSo_121 (lv_at hl 0 rfl) ?_
          refine lv_lshr (v := v3 >>> (x2.toInt64 &&& 63)) hx hb dL_areBreaksSo_123 rfl ?_
          refine lv_lconst (v := (1 : Int64)) hx hb dL_areBreaksSo_124 (by decide) ?_
          refine lv_land hx hb dL_areBreaksSo_125 ?_
          refine lv_lconst (v := (1 : Int64)) hx hb dL_areBreaksSo_126 (by decide) ?_
          refine W.lcmp hx hb dL_areBreaksSo_127 ?_
          refine b_if_ne (tgt := 148) hx hb hf dL_areBreaksSo_128 (by decide) (fun hf => ?_) (fun hf => ?_)
          · exact t_L_areBreaksSo_148 C hxt htr hr_86 hH (lv_sub hl [1, 2, 3, 4, 7, 0] rfl) hf
          · exact t_L_areBreaksSo_131 C hxt htr hr_86 hH (lv_sub hl [1, 2, 3, 4, 6, 7, 0] rfl) hf
set_option maxRecDepth 100000 in
set_option maxHeartbeats 4000000 in
theorem t_L_areBreaksSo_86 {D : va_G} {B : Nat} {Y : Nat → ClassId} {p : Program} {l : Launch} {e : Env} {s : State} {m : MethodId} {args : Array Value} {below : List Frame} {meth : Method} {c : Code} {z : ((Nat ⊕ Int32) × Wd)} {H : Heap} {locs : List Loc} {ls : Array Slot} {w : Wd} {v1 : Int32} {v2 : Int32} {v3 : Int64} {v9 : Int32} {v10 : Int32} {v11 : Int32} (C : CX D B Y p s m args meth c cL_areBreaksSo 14 RL (some .boolean)) (hxt : ∀ x ∈ c.exceptionTable.toList, False) (htr : l.stackTraces = false)    (z_v9 : isZ v9) (hH : HS D B Y w s H locs) (hl : lv_has ls 14 [(0, .ref (B + 0)), (1, .int v1), (2, .int v2), (3, .long v3), (9, .int v9), (10, .int v10), (11, .int v11)]) (hf : f_L_areBreaksSo_86 v1 v2 v3 v9 v10 v11 w = some z) : W p l e (RM 8 (xv (zoI z.1)) (6 * xv (zoI z.1))) s m args below meth c H locs 0 0 (vx_MQ below (QX D B Y (zoI z.1) z.2 (pZ z.1)) (XX D B Y (zoI z.1) z.2) args s (xv (zoI z.1)) (6 * xv (zoI z.1)) (AB B)) (F0 m 86 ls []) := by
  exact loopN_ind (z := z) (body := fun rc σ => g_L_areBreaksSo_86 rc  σ.1 σ.2.1 σ.2.2.1 σ.2.2.2.1 σ.2.2.2.2.1 σ.2.2.2.2.2.1 σ.2.2.2.2.2.2)
    (P := fun σ => isZ σ.2.2.2.1 → ∀ (H : Heap) (locs : List Loc) (ls : Array Slot), HS D B Y σ.2.2.2.2.2.2 s H locs → lv_has ls 14 [(0, .ref (B + 0)), (1, .int σ.1), (2, .int σ.2.1), (3, .long σ.2.2.1), (9, .int σ.2.2.2.1), (10, .int σ.2.2.2.2.1), (11, .int σ.2.2.2.2.2.1)] → W p l e (RM 8 (xv (zoI z.1)) (6 * xv (zoI z.1))) s m args below meth c H locs 0 0 (vx_MQ below (QX D B Y (zoI z.1) z.2 (pZ z.1)) (XX D B Y (zoI z.1) z.2) args s (xv (zoI z.1)) (6 * xv (zoI z.1)) (AB B)) (F0 m 86 ls []))
    (fun rc hrec σ hf z_v9 H locs ls hH hl => tb_L_areBreaksSo_86 C hxt htr (fun v1 v2 v3 v9 v10 v11 w hr z_v9 H locs ls hH hl => hrec (v1, v2, v3, v9, v10, v11, w) hr z_v9 H locs ls hH hl)  z_v9 hH hl hf) FU (v1, v2, v3, v9, v10, v11, w) hf z_v9 H locs ls hH hl
set_option maxRecDepth 100000 in
set_option maxHeartbeats 4000000 in
theorem t_L_areBreaksSo_78 {D : va_G} {B : Nat} {Y : Nat → ClassId} {p : Program} {l : Launch} {e : Env} {s : State} {m : MethodId} {args : Array Value} {below : List Frame} {meth : Method} {c : Code} {z : ((Nat ⊕ Int32) × Wd)} {H : Heap} {locs : List Loc} {ls : Array Slot} {w : Wd} {v1 : Int32} {v2 : Int32} {v3 : Int64} {t0 : Int32} (C : CX D B Y p s m args meth c cL_areBreaksSo 14 RL (some .boolean)) (hxt : ∀ x ∈ c.exceptionTable.toList, False) (htr : l.stackTraces = false)    (z_t0 : isZ t0) (hH : HS D B Y w s H locs) (hl : lv_has ls 14 [(0, .ref (B + 0)), (1, .int v1), (2, .int v2), (3, .long v3)]) (hf : f_L_areBreaksSo_78 v1 v2 v3 t0 w = some z) : W p l e (RM 8 (xv (zoI z.1)) (6 * xv (zoI z.1))) s m args below meth c H locs 0 0 (vx_MQ below (QX D B Y (zoI z.1) z.2 (pZ z.1)) (XX D B Y (zoI z.1) z.2) args s (xv (zoI z.1)) (6 * xv (zoI z.1)) (AB B)) (F0 m 78 ls [.int t0]) := by
  have hx := C.1
  have hb := C.2.1
  unfold f_L_areBreaksSo_78 at hf
  refine lv_istore (lv' := [(9, .int t0), (0, .ref (B + 0)), (1, .int v1), (2, .int v2), (3, .long v3)]) hx hb dL_areBreaksSo_78 hl (by decide) rfl (fun ls hl => ?_)
  refine lv_iconst (v := (0 : Int32)) hx hb dL_areBreaksSo_80 (by decide) ?_
  refine lv_istore (lv' := [(10, .int (0 : Int32)), (9, .int t0), (0, .ref (B + 0)), (1, .int v1), (2, .int v2), (3, .long v3)]) hx hb dL_areBreaksSo_81 hl (by decide) rfl (fun ls hl => ?_)
  refine lv_iconst (v := (0 : Int32)) hx hb dL_areBreaksSo_83 (by decide) ?_
  refine lv_istore (lv' := [(11, .int (0 : Int32)), (10, .int (0 : Int32)), (9, .int t0), (0, .ref (B + 0)), (1, .int v1), (2, .int v2), (3, .long v3)]) hx hb dL_areBreaksSo_84 hl (by decide) rfl (fun ls hl => ?_)
  exact t_L_areBreaksSo_86 C hxt htr z_t0 hH (lv_sub hl [3, 4, 5, 6, 2, 1, 0] rfl) hf
set_option maxRecDepth 100000 in
set_option maxHeartbeats 4000000 in
theorem t_L_areBreaksSo_77 {D : va_G} {B : Nat} {Y : Nat → ClassId} {p : Program} {l : Launch} {e : Env} {s : State} {m : MethodId} {args : Array Value} {below : List Frame} {meth : Method} {c : Code} {z : ((Nat ⊕ Int32) × Wd)} {H : Heap} {locs : List Loc} {ls : Array Slot} {w : Wd} {v1 : Int32} {v2 : Int32} {v3 : Int64} (C : CX D B Y p s m args meth c cL_areBreaksSo 14 RL (some .boolean)) (hxt : ∀ x ∈ c.exceptionTable.toList, False) (htr : l.stackTraces = false)     (hH : HS D B Y w s H locs) (hl : lv_has ls 14 [(0, .ref (B + 0)), (1, .int v1), (2, .int v2), (3, .long v3)]) (hf : f_L_areBreaksSo_77 v1 v2 v3 w = some z) : W p l e (RM 8 (xv (zoI z.1)) (6 * xv (zoI z.1))) s m args below meth c H locs 0 0 (vx_MQ below (QX D B Y (zoI z.1) z.2 (pZ z.1)) (XX D B Y (zoI z.1) z.2) args s (xv (zoI z.1)) (6 * xv (zoI z.1)) (AB B)) (F0 m 77 ls []) := by
  have hx := C.1
  have hb := C.2.1
  unfold f_L_areBreaksSo_77 at hf
  refine lv_iconst (v := (0 : Int32)) hx hb dL_areBreaksSo_77 (by decide) ?_
  exact t_L_areBreaksSo_78 C hxt htr isZ_0 hH (lv_sub hl [0, 1, 2, 3] rfl) hf
set_option maxRecDepth 100000 in
set_option maxHeartbeats 4000000 in
theorem t_L_areBreaksSo_0 {D : va_G} {B : Nat} {Y : Nat → ClassId} {p : Program} {l : Launch} {e : Env} {s : State} {m : MethodId} {args : Array Value} {below : List Frame} {meth : Method} {c : Code} {z : ((Nat ⊕ Int32) × Wd)} {H : Heap} {locs : List Loc} {ls : Array Slot} {w : Wd} {v1 : Int32} (C : CX D B Y p s m args meth c cL_areBreaksSo 14 RL (some .boolean)) (hxt : ∀ x ∈ c.exceptionTable.toList, False) (htr : l.stackTraces = false)     (hH : HS D B Y w s H locs) (hl : lv_has ls 14 [(0, .ref (B + 0)), (1, .int v1)]) (hf : f_L_areBreaksSo v1 w = some z) : W p l e (RM 8 (xv (zoI z.1)) (6 * xv (zoI z.1))) s m args below meth c H locs 0 0 (vx_MQ below (QX D B Y (zoI z.1) z.2 (pZ z.1)) (XX D B Y (zoI z.1) z.2) args s (xv (zoI z.1)) (6 * xv (zoI z.1)) (AB B)) (F0 m 0 ls []) := by
  have hx := C.1
  have hb := C.2.1
  unfold f_L_areBreaksSo at hf
  refine lv_aload_n hx hb dL_areBreaksSo_0 rfl (lv_at hl 0 rfl) ?_
  refine lv_iload_n hx hb dL_areBreaksSo_1 rfl (lv_at hl 1 rfl) ?_
  refine lv_iconst (v := (-1 : Int32)) hx hb dL_areBreaksSo_2 (by decide) ?_
  rcases bdx_some hf with ⟨k, w1, hc, rfl⟩ | ⟨x2, w1, hc, hf⟩
  · exact q_xrunX (k0 := k) (q_xV (As := [.int v1, .int (-1 : Int32)]) C hH (ci := 10) rfl (by omega) gk_L_112 yd_X10_at (by omega) (by omega) kc_0 (c_X10_at (r := .inl k) htr hc) hl.1 rfl (Nat.le_of_ble_eq_true rfl) dL_areBreaksSo_3 (xv_le rfl)) hH (fun H locs ce q hH h1 h2 h3 => q_out C hH hxt h1 h2 h3 (xv_1 rfl) (xv_6 rfl))
  refine q_xrun (ov := some (.int x2)) (q_xV (As := [.int v1, .int (-1 : Int32)]) C hH (ci := 10) rfl (by omega) gk_L_112 yd_X10_at (by omega) (by omega) kc_0 (c_X10_at (r := .inr x2) htr hc) hl.1 rfl (Nat.le_of_ble_eq_true rfl) dL_areBreaksSo_3 (xv_0 rfl xv_00)) hH (fun H locs hH hP => ?_)
  refine lv_istore_n (lv' := [(2, .int x2), (0, .ref (B + 0)), (1, .int v1)]) hx hb dL_areBreaksSo_6 rfl hl (by decide) rfl (fun ls hl => ?_)
  refine lv_aload_n hx hb dL_areBreaksSo_7 rfl (lv_at hl 1 rfl) ?_
  refine lv_iload_n hx hb dL_areBreaksSo_8 rfl (lv_at hl 2 rfl) ?_
  refine lv_iconst (v := (0 : Int32)) hx hb dL_areBreaksSo_9 (by decide) ?_
  rcases bdx_some hf with ⟨k, w3, hc, rfl⟩ | ⟨y4, w3, hc, hf⟩
  · exact q_xrunX (k0 := k) (q_xV (As := [.int v1, .int (0 : Int32)]) C hH (ci := 10) rfl (by omega) gk_L_177 yd_X10_breaks (by omega) (by omega) kc_0 (c_X10_breaks (r := .inl k) htr hc) hl.1 rfl (Nat.le_of_ble_eq_true rfl) dL_areBreaksSo_10 (xv_le rfl)) hH (fun H locs ce q hH h1 h2 h3 => q_out C hH hxt h1 h2 h3 (xv_1 rfl) (xv_6 rfl))
  refine q_xrun (ov := some (.long y4)) (q_xV (As := [.int v1, .int (0 : Int32)]) C hH (ci := 10) rfl (by omega) gk_L_177 yd_X10_breaks (by omega) (by omega) kc_0 (c_X10_breaks (r := .inr y4) htr hc) hl.1 rfl (Nat.le_of_ble_eq_true rfl) dL_areBreaksSo_10 (xv_0 rfl xv_00)) hH (fun H locs hH hP => ?_)
  refine lv_lstore_n (lv' := [(3, .long y4), (2, .int x2), (0, .ref (B + 0)), (1, .int v1)]) hx hb dL_areBreaksSo_13 rfl hl (by decide) rfl (fun ls hl => ?_)
  refine lv_aload_n hx hb dL_areBreaksSo_14 rfl (lv_at hl 2 rfl) ?_
  refine lv_iload_n hx hb dL_areBreaksSo_15 rfl (lv_at hl 3 rfl) ?_
  refine lv_iconst (v := (1 : Int32)) hx hb dL_areBreaksSo_16 (by decide) ?_
  rcases bdx_some hf with ⟨k, w5, hc, rfl⟩ | ⟨y6, w5, hc, hf⟩
  · exact q_xrunX (k0 := k) (q_xV (As := [.int v1, .int (1 : Int32)]) C hH (ci := 10) rfl (by omega) gk_L_177 yd_X10_breaks (by omega) (by omega) kc_0 (c_X10_breaks (r := .inl k) htr hc) hl.1 rfl (Nat.le_of_ble_eq_true rfl) dL_areBreaksSo_17 (xv_le rfl)) hH (fun H locs ce q hH h1 h2 h3 => q_out C hH hxt h1 h2 h3 (xv_1 rfl) (xv_6 rfl))
  refine q_xrun (ov := some (.long y6)) (q_xV (As := [.int v1, .int (1 : Int32)]) C hH (ci := 10) rfl (by omega) gk_L_177 yd_X10_breaks (by omega) (by omega) kc_0 (c_X10_breaks (r := .inr y6) htr hc) hl.1 rfl (Nat.le_of_ble_eq_true rfl) dL_areBreaksSo_17 (xv_0 rfl xv_00)) hH (fun H locs hH hP => ?_)
  refine lv_lstore (lv' := [(5, .long y6), (3, .long y4), (2, .int x2), (0, .ref (B + 0)), (1, .int v1)]) hx hb dL_areBreaksSo_20 hl (by decide) rfl (fun ls hl => ?_)
  refine lv_aload_n hx hb dL_areBreaksSo_22 rfl (lv_at hl 3 rfl) ?_
  refine lv_iload_n hx hb dL_areBreaksSo_23 rfl (lv_at hl 4 rfl) ?_
  refine lv_iconst (v := (2 : Int32)) hx hb dL_areBreaksSo_24 (by decide) ?_
  rcases bdx_some hf with ⟨k, w7, hc, rfl⟩ | ⟨y8, w7, hc, hf⟩
  · exact q_xrunX (k0 := k) (q_xV (As := [.int v1, .int (2 : Int32)]) C hH (ci := 10) rfl (by omega) gk_L_177 yd_X10_breaks (by omega) (by omega) kc_0 (c_X10_breaks (r := .inl k) htr hc) hl.1 rfl (Nat.le_of_ble_eq_true rfl) dL_areBreaksSo_25 (xv_le rfl)) hH (fun H locs ce q hH h1 h2 h3 => q_out C hH hxt h1 h2 h3 (xv_1 rfl) (xv_6 rfl))
  refine q_xrun (ov := some (.long y8)) (q_xV (As := [.int v1, .int (2 : Int32)]) C hH (ci := 10) rfl (by omega) gk_L_177 yd_X10_breaks (by omega) (by omega) kc_0 (c_X10_breaks (r := .inr y8) htr hc) hl.1 rfl (Nat.le_of_ble_eq_true rfl) dL_areBreaksSo_25 (xv_0 rfl xv_00)) hH (fun H locs hH hP => ?_)
  refine lv_lstore (lv' := [(7, .long y8), (5, .long y6), (3, .long y4), (2, .int x2), (0, .ref (B + 0)), (1, .int v1)]) hx hb dL_areBreaksSo_28 hl (by decide) rfl (fun ls hl => ?_)
  refine lv_lload hx hb dL_areBreaksSo_30 (lv_at hl 1 rfl) ?_
  refine lv_lload_n hx hb dL_areBreaksSo_32 rfl (lv_at hl 2 rfl) ?_
  refine lv_ldc2 (v := (-1 : Int64)) hx hb C.2.2.2.1 (C.2.2.2.2.1 _ wd_1360) dL_areBreaksSo_33 ?_
  refine lv_lxor hx hb dL_areBreaksSo_36 ?_
  refine lv_land hx hb dL_areBreaksSo_37 ?_
  refine lv_lconst (v := (0 : Int64)) hx hb dL_areBreaksSo_38 (by decide) ?_
  refine W.lcmp hx hb dL_areBreaksSo_39 ?_
  refine b_if_ne (tgt := 77) hx hb hf dL_areBreaksSo_40 (by decide) (fun hf => ?_) (fun hf => ?_)
  · exact t_L_areBreaksSo_77 C hxt htr hH (lv_sub hl [4, 5, 3, 2] rfl) hf
  · refine lv_lload hx hb dL_areBreaksSo_43 (lv_at hl 0 rfl) ?_
    refine lv_lload hx hb dL_areBreaksSo_45 (lv_at hl 1 rfl) ?_
    refine lv_ldc2 (v := (-1 : Int64)) hx hb C.2.2.2.1 (C.2.2.2.2.1 _ wd_1360) dL_areBreaksSo_47 ?_
    refine lv_lxor hx hb dL_areBreaksSo_50 ?_
    refine lv_land hx hb dL_areBreaksSo_51 ?_
    refine lv_lconst (v := (0 : Int64)) hx hb dL_areBreaksSo_52 (by decide) ?_
    refine W.lcmp hx hb dL_areBreaksSo_53 ?_
    refine b_if_ne (tgt := 77) hx hb hf dL_areBreaksSo_54 (by decide) (fun hf => ?_) (fun hf => ?_)
    · exact t_L_areBreaksSo_77 C hxt htr hH (lv_sub hl [4, 5, 3, 2] rfl) hf
    · refine lv_lload_n hx hb dL_areBreaksSo_57 rfl (lv_at hl 2 rfl) ?_
      refine lv_lconst (v := (1 : Int64)) hx hb dL_areBreaksSo_58 (by decide) ?_
      refine lv_land hx hb dL_areBreaksSo_59 ?_
      refine lv_lconst (v := (0 : Int64)) hx hb dL_areBreaksSo_60 (by decide) ?_
      refine W.lcmp hx hb dL_areBreaksSo_61 ?_
      refine b_if_ne (tgt := 77) hx hb hf dL_areBreaksSo_62 (by decide) (fun hf => ?_) (fun hf => ?_)
      · exact t_L_areBreaksSo_77 C hxt htr hH (lv_sub hl [4, 5, 3, 2] rfl) hf
      · refine lv_lload_n hx hb dL_areBreaksSo_65 rfl (lv_at hl 2 rfl) ?_
        refine lv_iload_n hx hb dL_areBreaksSo_66 rfl (lv_at hl 3 rfl) ?_
        refine lv_lshr (v := y4 >>> (x2.toInt64 &&& 63)) hx hb dL_areBreaksSo_67 rfl ?_
        refine lv_lconst (v := (0 : Int64)) hx hb dL_areBreaksSo_68 (by decide) ?_
        refine W.lcmp hx hb dL_areBreaksSo_69 ?_
        refine b_if_ne (tgt := 77) hx hb hf dL_areBreaksSo_70 (by decide) (fun hf => ?_) (fun hf => ?_)
        · exact t_L_areBreaksSo_77 C hxt htr hH (lv_sub hl [4, 5, 3, 2] rfl) hf
        · refine lv_iconst (v := (1 : Int32)) hx hb dL_areBreaksSo_73 (by decide) ?_
          refine lv_goto (tgt := 78) hx hb dL_areBreaksSo_74 (by decide) ?_
          exact t_L_areBreaksSo_78 C hxt htr isZ_1 hH (lv_sub hl [4, 5, 3, 2] rfl) hf
set_option maxRecDepth 100000 in
theorem c_L_areBreaksSo {l : Launch} {D : va_G} {B : Nat} {Y : Nat → ClassId} {v1 : Int32} {w : Wd} {r : (Nat ⊕ Int32)} {w1 : Wd} (htr : l.stackTraces = false)   (hf : f_L_areBreaksSo v1 w = some (r, w1)) : XM l D B Y yL_areBreaksSo cL_areBreaksSo 14 (some .boolean) 8 [.ref (B + 0), .int v1] w (zoI r) w1 (pZ r) :=
  XM_of (by decide +kernel) (Nat.le_of_ble_eq_true rfl) (fun p e s m args below meth c ls C hxt hH hl => t_L_areBreaksSo_0 C hxt htr  hH (lv_sub hl [0, 1] rfl) hf)
