/-! LetterTables.decode -/
set_option maxRecDepth 100000 in
set_option maxHeartbeats 4000000 in
theorem t_X10_decode_0 {D : va_G} {B : Nat} {Y : Nat → ClassId} {p : Program} {l : Launch} {e : Env} {s : State} {m : MethodId} {args : Array Value} {below : List Frame} {meth : Method} {c : Code} {z : ((Nat ⊕ Int32) × Wd)} {H : Heap} {locs : List Loc} {ls : Array Slot} {w : Wd} {v1 : Int32} (C : CX D B Y p s m args meth c cX10_decode 4 RX10 (some .int)) (hxt : ∀ x ∈ c.exceptionTable.toList, False) (htr : l.stackTraces = false)     (hH : HS D B Y w s H locs) (hl : lv_has ls 4 [(0, .ref (B + 0)), (1, .int v1)]) (hf : f_X10_decode v1 w = some z) : W p l e (RM 2 (xv (zoI z.1)) (6 * xv (zoI z.1))) s m args below meth c H locs 0 0 (vx_MQ below (QX D B Y (zoI z.1) z.2 True) (XX D B Y (zoI z.1) z.2) args s (xv (zoI z.1)) (6 * xv (zoI z.1)) (AB B)) (F0 m 0 ls []) := by
  have hx := C.1
  have hb := C.2.1
  unfold f_X10_decode at hf
  refine lv_aload_n hx hb dX10_decode_0 rfl (lv_at hl 0 rfl) ?_
  refine lv_iload_n hx hb dX10_decode_1 rfl (lv_at hl 1 rfl) ?_
  rcases bdx_some hf with ⟨k, w1, hc, rfl⟩ | ⟨r2, w1, hc, hf⟩
  · exact q_xrunX (k0 := k) (q_xV (As := [.int v1]) C hH (ci := 10) rfl (by omega) gk_X10_194 yd_X10_textOf (by omega) (by omega) kc_0 (c_X10_textOf (r := .inl k) htr hc) hl.1 rfl (Nat.le_of_ble_eq_true rfl) dX10_decode_2 (xv_le rfl)) hH (fun H locs ce q hH h1 h2 h3 => q_out C hH hxt h1 h2 h3 (xv_1 rfl) (xv_6 rfl))
  refine q_xrun (ov := some (.ref (B + r2))) (q_xV (As := [.int v1]) C hH (ci := 10) rfl (by omega) gk_X10_194 yd_X10_textOf (by omega) (by omega) kc_0 (c_X10_textOf (r := .inr r2) htr hc) hl.1 rfl (Nat.le_of_ble_eq_true rfl) dX10_decode_2 (xv_0 rfl xv_00)) hH (fun H locs hH k_r2 => ?_)
  refine lv_astore_n (lv' := [(2, .ref (B + r2)), (0, .ref (B + 0)), (1, .int v1)]) hx hb dX10_decode_5 rfl hl (by decide) rfl (fun ls hl => ?_)
  refine lv_aload_n hx hb dX10_decode_6 rfl (lv_at hl 1 rfl) ?_
  refine lv_aload_n hx hb dX10_decode_7 rfl (lv_at hl 1 rfl) ?_
  refine fg_X10_93 C hH dX10_decode_8 ?_
  obtain ⟨x4, w3, hc, hf⟩ := bd_some hf
  refine q_callV1 (v := .int x4) (As := [.ref (B + 709)]) C hH (ci := 10) rfl (by omega) gk_X10_359 yd_X10_decodeInto (by omega) (by omega) kc_0 (c_X10_decodeInto kc_709 hc) hl.1 rfl (Nat.le_of_ble_eq_true rfl) dX10_decode_11 xv_00 (fun H locs hH hP => ?_)
  refine lv_istore_n (lv' := [(3, .int x4), (2, .ref (B + r2)), (0, .ref (B + 0)), (1, .int v1)]) hx hb dX10_decode_14 rfl hl (by decide) rfl (fun ls hl => ?_)
  refine lv_aload_n hx hb dX10_decode_15 rfl (lv_at hl 2 rfl) ?_
  refine fg_X10_29 C hH dX10_decode_16 ?_
  refine lv_iconst (v := (0 : Int32)) hx hb dX10_decode_19 (by decide) ?_
  obtain ⟨u, w5, hc, hf⟩ := bd_some hf
  refine q_callV0 (As := [.int (0 : Int32)]) C hH (ci := 7) rfl (by omega) gk_X10_237 yd_X7_cutTo (by omega) (by omega) kc_635 (c_X7_cutTo kc_635 hc) hl.1 rfl (Nat.le_of_ble_eq_true rfl) dX10_decode_20 xv_00 (fun H locs hH hP => ?_)
  refine lv_iload_n hx hb dX10_decode_23 rfl (lv_at hl 0 rfl) ?_
  refine lv_iconst (v := (-1 : Int32)) hx hb dX10_decode_24 (by decide) ?_
  refine b_icmp_ne (tgt := 39) hx hb hf dX10_decode_25 (by decide) (fun hf => ?_) (fun hf => ?_)
  · refine lv_aload_n hx hb dX10_decode_39 rfl (lv_at hl 1 rfl) ?_
    refine lv_aload_n hx hb dX10_decode_40 rfl (lv_at hl 2 rfl) ?_
    refine fg_X10_93 C hH dX10_decode_41 ?_
    obtain ⟨u, w6, hc, hf⟩ := bd_some hf
    refine q_callV0 (As := [.ref (B + 709)]) C hH (ci := 7) rfl (by omega) gk_X10_253 yd_X7_takeOver (by omega) (by omega) k_r2 (c_X7_takeOver k_r2 kc_709 hc) hl.1 rfl (Nat.le_of_ble_eq_true rfl) dX10_decode_44 xv_00 (fun H locs hH hP => ?_)
    refine lv_iload_n hx hb dX10_decode_47 rfl (lv_at hl 0 rfl) ?_
    cases hf
    exact q_x0 rfl (q_reti C hH trivial dX10_decode_48)
  · cases hf
    exact q_throwW C hH hxt htr (Or.inr (Or.inr rfl)) wd_574 wd_66 wd_584 (List.mem_of_getElem? (i := 16) rfl) hl.1 dX10_decode_28 dX10_decode_31 dX10_decode_32 dX10_decode_35 dX10_decode_38 (Nat.le_of_ble_eq_true rfl) (xv_1 rfl) (xv_6 rfl)
set_option maxRecDepth 100000 in
theorem c_X10_decode {l : Launch} {D : va_G} {B : Nat} {Y : Nat → ClassId} {v1 : Int32} {w : Wd} {r : (Nat ⊕ Int32)} {w1 : Wd} (htr : l.stackTraces = false)   (hf : f_X10_decode v1 w = some (r, w1)) : XM l D B Y yX10_decode cX10_decode 4 (some .int) 2 [.ref (B + 0), .int v1] w (zoI r) w1 True :=
  XM_of (by decide +kernel) (Nat.le_of_ble_eq_true rfl) (fun p e s m args below meth c ls C hxt hH hl => t_X10_decode_0 C hxt htr  hH (lv_sub hl [0, 1] rfl) hf)
