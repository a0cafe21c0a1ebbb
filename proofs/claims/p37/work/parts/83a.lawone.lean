set_option maxRecDepth 100000 in
set_option maxHeartbeats 4000000 in
theorem t_L_low_0 {D : va_G} {B : Nat} {Y : Nat → ClassId} {p : Program} {l : Launch} {e : Env} {s : State} {m : MethodId} {args : Array Value} {below : List Frame} {meth : Method} {c : Code} {z : (Int32 × Wd)} {H : Heap} {locs : List Loc} {ls : Array Slot} {w : Wd} {v0 : Int32} {v1 : Int32} (C : CX D B Y p s m args meth c cL_low 2 RL (some .int))     (hH : HS D B Y w s H locs) (hl : lv_has ls 2 [(0, .int v0), (1, .int v1)]) (hf : f_L_low v0 v1 w = some z) : W p l e (RM 0 0 0) s m args below meth c H locs 0 0 (MQ below (QG D B Y (some (.int z.1)) z.2 True) args s 0 0 (AB B)) (F0 m 0 ls []) := by
  have hx := C.1
  have hb := C.2.1
  unfold f_L_low at hf
  refine lv_iload_n hx hb dL_low_0 rfl (lv_at hl 0 rfl) ?_
  refine lv_ldc (v := (2147483647 : Int32)) hx hb C.2.2.2.1 (C.2.2.2.2.1 _ wd_427) dL_low_1 ?_
  refine lv_iand hx hb dL_low_3 ?_
  refine lv_iload_n hx hb dL_low_4 rfl (lv_at hl 1 rfl) ?_
  refine g_irem hx hb hf dL_low_5 (fun hf => ?_)
  cases hf
  exact q_reti C hH trivial dL_low_6
set_option maxRecDepth 100000 in
theorem c_L_low {l : Launch} {D : va_G} {B : Nat} {Y : Nat → ClassId} {v0 : Int32} {v1 : Int32} {w : Wd} {r : Int32} {w1 : Wd}   (hf : f_L_low v0 v1 w = some (r, w1)) : CM l D B Y yL_low cL_low 2 (some .int) 0 [.int v0, .int v1] w (some (.int r)) w1 True :=
  CM_of (by decide +kernel) (Nat.le_of_ble_eq_true rfl) (fun p e s m args below meth c ls C hH hl => t_L_low_0 C  hH (lv_sub hl [0, 1] rfl) hf)
set_option maxRecDepth 100000 in
set_option maxHeartbeats 4000000 in
theorem t_L_tells_0 {D : va_G} {B : Nat} {Y : Nat → ClassId} {p : Program} {l : Launch} {e : Env} {s : State} {m : MethodId} {args : Array Value} {below : List Frame} {meth : Method} {c : Code} {z : ((Nat ⊕ Int32) × Wd)} {H : Heap} {locs : List Loc} {ls : Array Slot} {w : Wd} {v1 : Int32} {v2 : Int32} {v3 : Int32} {v4 : Int32} (C : CX D B Y p s m args meth c cL_tells 5 RL (some .int)) (hxt : ∀ x ∈ c.exceptionTable.toList, False) (htr : l.stackTraces = false)     (hH : HS D B Y w s H locs) (hl : lv_has ls 5 [(0, .ref (B + 0)), (1, .int v1), (2, .int v2), (3, .int v3), (4, .int v4)]) (hf : f_L_tells v1 v2 v3 v4 w = some z) : W p l e (RM 4 (xv (zoI z.1)) (6 * xv (zoI z.1))) s m args below meth c H locs 0 0 (vx_MQ below (QX D B Y (zoI z.1) z.2 True) (XX D B Y (zoI z.1) z.2) args s (xv (zoI z.1)) (6 * xv (zoI z.1)) (AB B)) (F0 m 0 ls []) := by
  have hx := C.1
  have hb := C.2.1
  unfold f_L_tells at hf
  refine lv_iload_n hx hb dL_tells_0 rfl (lv_at hl 1 rfl) ?_
  refine b_if_ne (tgt := 32) hx hb hf dL_tells_1 (by decide) (fun hf => ?_) (fun hf => ?_)
  · refine lv_iload_n hx hb dL_tells_32 rfl (lv_at hl 1 rfl) ?_
    refine lv_iconst (v := (1 : Int32)) hx hb dL_tells_33 (by decide) ?_
    refine b_icmp_ne (tgt := 48) hx hb hf dL_tells_34 (by decide) (fun hf => ?_) (fun hf => ?_)
    · refine lv_iload_n hx hb dL_tells_48 rfl (lv_at hl 1 rfl) ?_
      refine lv_iconst (v := (2 : Int32)) hx hb dL_tells_49 (by decide) ?_
      refine b_icmp_ne (tgt := 64) hx hb hf dL_tells_50 (by decide) (fun hf => ?_) (fun hf => ?_)
      · refine lv_iload_n hx hb dL_tells_64 rfl (lv_at hl 1 rfl) ?_
        refine lv_iconst (v := (3 : Int32)) hx hb dL_tells_65 (by decide) ?_
        refine b_icmp_ne (tgt := 78) hx hb hf dL_tells_66 (by decide) (fun hf => ?_) (fun hf => ?_)
        · refine lv_aload_n hx hb dL_tells_78 rfl (lv_at hl 0 rfl) ?_
          refine lv_iload_n hx hb dL_tells_79 rfl (lv_at hl 2 rfl) ?_
          refine lv_sipush (v := (1000 : Int32)) hx hb dL_tells_80 (by decide) ?_
          refine lv_idiv hx hb dL_tells_83 (by decide) ?_
          refine lv_iload_n hx hb dL_tells_84 rfl (lv_at hl 2 rfl) ?_
          refine lv_sipush (v := (1000 : Int32)) hx hb dL_tells_85 (by decide) ?_
          refine lv_irem hx hb dL_tells_88 (by decide) ?_
          refine lv_iload_n hx hb dL_tells_89 rfl (lv_at hl 3 rfl) ?_
          refine lv_iload hx hb dL_tells_90 (lv_at hl 4 rfl) ?_
          refine lv_bipush (v := (10 : Int32)) hx hb dL_tells_92 (by decide) ?_
          refine lv_idiv hx hb dL_tells_94 (by decide) ?_
          refine lv_iload hx hb dL_tells_95 (lv_at hl 4 rfl) ?_
          refine lv_bipush (v := (10 : Int32)) hx hb dL_tells_97 (by decide) ?_
          refine lv_irem hx hb dL_tells_99 (by decide) ?_
          rcases bdx_some hf with ⟨k, w1, hc, rfl⟩ | ⟨u, w1, hc, hf⟩
          · exact q_xrunX (k0 := k) (q_xV (As := [.int (v2 / (1000 : Int32)), .int (v2 - v2 / (1000 : Int32) * (1000 : Int32)), .int v3, .int (v4 / (10 : Int32)), .int (v4 - v4 / (10 : Int32) * (10 : Int32))]) C hH (ci := 10) rfl (by omega) gk_L_90 yd_X10_weigh (by omega) (by omega) kc_0 (c_X10_weigh (r := .inl k) htr hc) hl.1 rfl (Nat.le_of_ble_eq_true rfl) dL_tells_100 (xv_le rfl)) hH (fun H locs ce q hH h1 h2 h3 => q_out C hH hxt h1 h2 h3 (xv_1 rfl) (xv_6 rfl))
          refine q_xrun (ov := none) (q_xV (As := [.int (v2 / (1000 : Int32)), .int (v2 - v2 / (1000 : Int32) * (1000 : Int32)), .int v3, .int (v4 / (10 : Int32)), .int (v4 - v4 / (10 : Int32) * (10 : Int32))]) C hH (ci := 10) rfl (by omega) gk_L_90 yd_X10_weigh (by omega) (by omega) kc_0 (c_X10_weigh (r := .inr u) htr hc) hl.1 rfl (Nat.le_of_ble_eq_true rfl) dL_tells_100 (xv_0 rfl xv_00)) hH (fun H locs hH hP => ?_)
          refine lv_iconst (v := (0 : Int32)) hx hb dL_tells_103 (by decide) ?_
          cases hf
          exact q_x0 rfl (q_reti C hH trivial dL_tells_104)
        · refine lv_aload_n hx hb dL_tells_69 rfl (lv_at hl 0 rfl) ?_
          refine lv_iload_n hx hb dL_tells_70 rfl (lv_at hl 2 rfl) ?_
          refine lv_iload_n hx hb dL_tells_71 rfl (lv_at hl 3 rfl) ?_
          rcases bdx_some hf with ⟨k, w2, hc, rfl⟩ | ⟨u, w2, hc, hf⟩
          · exact q_xrunX (k0 := k) (q_xV (As := [.int v2, .int v3]) C hH (ci := 10) rfl (by omega) gk_L_86 yd_X10_partners (by omega) (by omega) kc_0 (c_X10_partners (r := .inl k) htr hc) hl.1 rfl (Nat.le_of_ble_eq_true rfl) dL_tells_72 (xv_le rfl)) hH (fun H locs ce q hH h1 h2 h3 => q_out C hH hxt h1 h2 h3 (xv_1 rfl) (xv_6 rfl))
          refine q_xrun (ov := none) (q_xV (As := [.int v2, .int v3]) C hH (ci := 10) rfl (by omega) gk_L_86 yd_X10_partners (by omega) (by omega) kc_0 (c_X10_partners (r := .inr u) htr hc) hl.1 rfl (Nat.le_of_ble_eq_true rfl) dL_tells_72 (xv_0 rfl xv_00)) hH (fun H locs hH hP => ?_)
          refine lv_goto (tgt := 103) hx hb dL_tells_75 (by decide) ?_
          refine lv_iconst (v := (0 : Int32)) hx hb dL_tells_103 (by decide) ?_
          cases hf
          exact q_x0 rfl (q_reti C hH trivial dL_tells_104)
      · refine lv_aload_n hx hb dL_tells_53 rfl (lv_at hl 0 rfl) ?_
        refine lv_iload_n hx hb dL_tells_54 rfl (lv_at hl 2 rfl) ?_
        refine lv_iload_n hx hb dL_tells_55 rfl (lv_at hl 3 rfl) ?_
        refine lv_iload hx hb dL_tells_56 (lv_at hl 4 rfl) ?_
        rcases bdx_some hf with ⟨k, w3, hc, rfl⟩ | ⟨u, w3, hc, hf⟩
        · exact q_xrunX (k0 := k) (q_xV (As := [.int v2, .int v3, .int v4]) C hH (ci := 10) rfl (by omega) gk_L_83 yd_X10_capital (by omega) (by omega) kc_0 (c_X10_capital (r := .inl k) htr hc) hl.1 rfl (Nat.le_of_ble_eq_true rfl) dL_tells_58 (xv_le rfl)) hH (fun H locs ce q hH h1 h2 h3 => q_out C hH hxt h1 h2 h3 (xv_1 rfl) (xv_6 rfl))
        refine q_xrun (ov := none) (q_xV (As := [.int v2, .int v3, .int v4]) C hH (ci := 10) rfl (by omega) gk_L_83 yd_X10_capital (by omega) (by omega) kc_0 (c_X10_capital (r := .inr u) htr hc) hl.1 rfl (Nat.le_of_ble_eq_true rfl) dL_tells_58 (xv_0 rfl xv_00)) hH (fun H locs hH hP => ?_)
        refine lv_goto (tgt := 103) hx hb dL_tells_61 (by decide) ?_
        refine lv_iconst (v := (0 : Int32)) hx hb dL_tells_103 (by decide) ?_
        cases hf
        exact q_x0 rfl (q_reti C hH trivial dL_tells_104)
    · refine lv_aload_n hx hb dL_tells_37 rfl (lv_at hl 0 rfl) ?_
      refine lv_iload_n hx hb dL_tells_38 rfl (lv_at hl 2 rfl) ?_
      refine lv_iload_n hx hb dL_tells_39 rfl (lv_at hl 3 rfl) ?_
      refine lv_iload hx hb dL_tells_40 (lv_at hl 4 rfl) ?_
      rcases bdx_some hf with ⟨k, w4, hc, rfl⟩ | ⟨u, w4, hc, hf⟩
      · exact q_xrunX (k0 := k) (q_xV (As := [.int v2, .int v3, .int v4]) C hH (ci := 10) rfl (by omega) gk_L_79 yd_X10_split (by omega) (by omega) kc_0 (c_X10_split (r := .inl k) htr hc) hl.1 rfl (Nat.le_of_ble_eq_true rfl) dL_tells_42 (xv_le rfl)) hH (fun H locs ce q hH h1 h2 h3 => q_out C hH hxt h1 h2 h3 (xv_1 rfl) (xv_6 rfl))
      refine q_xrun (ov := none) (q_xV (As := [.int v2, .int v3, .int v4]) C hH (ci := 10) rfl (by omega) gk_L_79 yd_X10_split (by omega) (by omega) kc_0 (c_X10_split (r := .inr u) htr hc) hl.1 rfl (Nat.le_of_ble_eq_true rfl) dL_tells_42 (xv_0 rfl xv_00)) hH (fun H locs hH hP => ?_)
      refine lv_goto (tgt := 103) hx hb dL_tells_45 (by decide) ?_
      refine lv_iconst (v := (0 : Int32)) hx hb dL_tells_103 (by decide) ?_
      cases hf
      exact q_x0 rfl (q_reti C hH trivial dL_tells_104)
  · refine lv_aload_n hx hb dL_tells_4 rfl (lv_at hl 0 rfl) ?_
    refine lv_iload_n hx hb dL_tells_5 rfl (lv_at hl 2 rfl) ?_
    refine lv_iload_n hx hb dL_tells_6 rfl (lv_at hl 3 rfl) ?_
    refine lv_iload hx hb dL_tells_7 (lv_at hl 4 rfl) ?_
    refine lv_sipush (v := (1000 : Int32)) hx hb dL_tells_9 (by decide) ?_
    refine lv_idiv hx hb dL_tells_12 (by decide) ?_
    refine lv_iload hx hb dL_tells_13 (lv_at hl 4 rfl) ?_
    refine lv_bipush (v := (100 : Int32)) hx hb dL_tells_15 (by decide) ?_
    refine lv_idiv hx hb dL_tells_17 (by decide) ?_
    refine lv_bipush (v := (10 : Int32)) hx hb dL_tells_18 (by decide) ?_
    refine lv_irem hx hb dL_tells_20 (by decide) ?_
    refine lv_iload hx hb dL_tells_21 (lv_at hl 4 rfl) ?_
    refine lv_bipush (v := (100 : Int32)) hx hb dL_tells_23 (by decide) ?_
    refine lv_irem hx hb dL_tells_25 (by decide) ?_
    rcases bdx_some hf with ⟨k, w5, hc, rfl⟩ | ⟨u, w5, hc, hf⟩
    · exact q_xrunX (k0 := k) (q_xV (As := [.int v2, .int v3, .int (v4 / (1000 : Int32)), .int ((v4 / (100 : Int32)) - (v4 / (100 : Int32)) / (10 : Int32) * (10 : Int32)), .int (v4 - v4 / (100 : Int32) * (100 : Int32))]) C hH (ci := 10) rfl (by omega) gk_L_75 yd_X10_letter (by omega) (by omega) kc_0 (c_X10_letter (r := .inl k) htr hc) hl.1 rfl (Nat.le_of_ble_eq_true rfl) dL_tells_26 (xv_le rfl)) hH (fun H locs ce q hH h1 h2 h3 => q_out C hH hxt h1 h2 h3 (xv_1 rfl) (xv_6 rfl))
    refine q_xrun (ov := none) (q_xV (As := [.int v2, .int v3, .int (v4 / (1000 : Int32)), .int ((v4 / (100 : Int32)) - (v4 / (100 : Int32)) / (10 : Int32) * (10 : Int32)), .int (v4 - v4 / (100 : Int32) * (100 : Int32))]) C hH (ci := 10) rfl (by omega) gk_L_75 yd_X10_letter (by omega) (by omega) kc_0 (c_X10_letter (r := .inr u) htr hc) hl.1 rfl (Nat.le_of_ble_eq_true rfl) dL_tells_26 (xv_0 rfl xv_00)) hH (fun H locs hH hP => ?_)
    refine lv_goto (tgt := 103) hx hb dL_tells_29 (by decide) ?_
    refine lv_iconst (v := (0 : Int32)) hx hb dL_tells_103 (by decide) ?_
    cases hf
    exact q_x0 rfl (q_reti C hH trivial dL_tells_104)
set_option maxRecDepth 100000 in
theorem c_L_tells {l : Launch} {D : va_G} {B : Nat} {Y : Nat → ClassId} {v1 : Int32} {v2 : Int32} {v3 : Int32} {v4 : Int32} {w : Wd} {r : (Nat ⊕ Int32)} {w1 : Wd} (htr : l.stackTraces = false)   (hf : f_L_tells v1 v2 v3 v4 w = some (r, w1)) : XM l D B Y yL_tells cL_tells 5 (some .int) 4 [.ref (B + 0), .int v1, .int v2, .int v3, .int v4] w (zoI r) w1 True :=
  XM_of (by decide +kernel) (Nat.le_of_ble_eq_true rfl) (fun p e s m args below meth c ls C hxt hH hl => t_L_tells_0 C hxt htr  hH (lv_sub hl [0, 1, 2, 3, 4] rfl) hf)
set_option maxRecDepth 100000 in
set_option maxHeartbeats 4000000 in
theorem t_L_first_0 {D : va_G} {B : Nat} {Y : Nat → ClassId} {p : Program} {l : Launch} {e : Env} {s : State} {m : MethodId} {args : Array Value} {below : List Frame} {meth : Method} {c : Code} {z : ((Nat ⊕ Int32) × Wd)} {H : Heap} {locs : List Loc} {ls : Array Slot} {w : Wd} {v1 : Int32} {v2 : Int32} {v3 : Int32} {v4 : Int32} (C : CX D B Y p s m args meth c cL_first 5 RL (some .int)) (hxt : ∀ x ∈ c.exceptionTable.toList, False) (htr : l.stackTraces = false)     (hH : HS D B Y w s H locs) (hl : lv_has ls 5 [(0, .ref (B + 0)), (1, .int v1), (2, .int v2), (3, .int v3), (4, .int v4)]) (hf : f_L_first v1 v2 v3 v4 w = some z) : W p l e (RM 7 (xv (zoI z.1)) (6 * xv (zoI z.1))) s m args below meth c H locs 0 0 (vx_MQ below (QX D B Y (zoI z.1) z.2 True) (XX D B Y (zoI z.1) z.2) args s (xv (zoI z.1)) (6 * xv (zoI z.1)) (AB B)) (F0 m 0 ls []) := by
  have hx := C.1
  have hb := C.2.1
  unfold f_L_first at hf
  refine lv_iload_n hx hb dL_first_0 rfl (lv_at hl 1 rfl) ?_
  refine lv_bipush (v := (8 : Int32)) hx hb dL_first_1 (by decide) ?_
  refine b_icmp_ne (tgt := 13) hx hb hf dL_first_3 (by decide) (fun hf => ?_) (fun hf => ?_)
  · refine lv_iload_n hx hb dL_first_13 rfl (lv_at hl 1 rfl) ?_
    refine lv_iconst (v := (5 : Int32)) hx hb dL_first_14 (by decide) ?_
    refine b_icmp_ne (tgt := 26) hx hb hf dL_first_15 (by decide) (fun hf => ?_) (fun hf => ?_)
    · refine lv_iload_n hx hb dL_first_26 rfl (lv_at hl 1 rfl) ?_
      refine lv_bipush (v := (6 : Int32)) hx hb dL_first_27 (by decide) ?_
      refine b_icmp_ne (tgt := 63) hx hb hf dL_first_29 (by decide) (fun hf => ?_) (fun hf => ?_)
      · refine lv_iload_n hx hb dL_first_63 rfl (lv_at hl 1 rfl) ?_
        refine lv_bipush (v := (7 : Int32)) hx hb dL_first_64 (by decide) ?_
        refine b_icmp_ne (tgt := 76) hx hb hf dL_first_66 (by decide) (fun hf => ?_) (fun hf => ?_)
        · refine lv_iload_n hx hb dL_first_76 rfl (lv_at hl 1 rfl) ?_
          refine lv_bipush (v := (9 : Int32)) hx hb dL_first_77 (by decide) ?_
          refine b_icmp_ne (tgt := 91) hx hb hf dL_first_79 (by decide) (fun hf => ?_) (fun hf => ?_)
          · refine lv_iload_n hx hb dL_first_91 rfl (lv_at hl 1 rfl) ?_
            refine lv_bipush (v := (10 : Int32)) hx hb dL_first_92 (by decide) ?_
            refine b_icmp_ne (tgt := 105) hx hb hf dL_first_94 (by decide) (fun hf => ?_) (fun hf => ?_)
            · refine lv_iload_n hx hb dL_first_105 rfl (lv_at hl 1 rfl) ?_
              refine lv_bipush (v := (11 : Int32)) hx hb dL_first_106 (by decide) ?_
              refine b_icmp_ne (tgt := 120) hx hb hf dL_first_108 (by decide) (fun hf => ?_) (fun hf => ?_)
              · refine lv_iload_n hx hb dL_first_120 rfl (lv_at hl 1 rfl) ?_
                refine lv_bipush (v := (12 : Int32)) hx hb dL_first_121 (by decide) ?_
                refine b_icmp_ne (tgt := 137) hx hb hf dL_first_123 (by decide) (fun hf => ?_) (fun hf => ?_)
                · refine lv_iload_n hx hb dL_first_137 rfl (lv_at hl 1 rfl) ?_
                  refine lv_bipush (v := (13 : Int32)) hx hb dL_first_138 (by decide) ?_
                  refine b_icmp_ne (tgt := 160) hx hb hf dL_first_140 (by decide) (fun hf => ?_) (fun hf => ?_)
                  · refine lv_aload_n hx hb dL_first_160 rfl (lv_at hl 0 rfl) ?_
                    refine lv_iload_n hx hb dL_first_161 rfl (lv_at hl 2 rfl) ?_
                    rcases bdx_some hf with ⟨k, w1, hc, rfl⟩ | ⟨x2, w1, hc, hf⟩
                    · exact q_xrunX (k0 := k) (q_xV (As := [.int v2]) C hH (ci := 10) rfl (by omega) gk_L_122 yd_X10_base (by omega) (by omega) kc_0 (c_X10_base (r := .inl k) htr hc) hl.1 rfl (Nat.le_of_ble_eq_true rfl) dL_first_162 (xv_le rfl)) hH (fun H locs ce q hH h1 h2 h3 => q_out C hH hxt h1 h2 h3 (xv_1 rfl) (xv_6 rfl))
                    refine q_xrun (ov := some (.int x2)) (q_xV (As := [.int v2]) C hH (ci := 10) rfl (by omega) gk_L_122 yd_X10_base (by omega) (by omega) kc_0 (c_X10_base (r := .inr x2) htr hc) hl.1 rfl (Nat.le_of_ble_eq_true rfl) dL_first_162 (xv_0 rfl xv_00)) hH (fun H locs hH hP => ?_)
                    cases hf
                    exact q_x0 rfl (q_reti C hH trivial dL_first_165)
                  · refine lv_aload_n hx hb dL_first_143 rfl (lv_at hl 0 rfl) ?_
                    refine lv_iload_n hx hb dL_first_144 rfl (lv_at hl 2 rfl) ?_
                    refine lv_iload_n hx hb dL_first_145 rfl (lv_at hl 3 rfl) ?_
                    rcases bdx_some hf with ⟨k, w3, hc, rfl⟩ | ⟨x4, w3, hc, hf⟩
                    · exact q_xrunX (k0 := k) (q_xV (As := [.int v2, .int v3]) C hH (ci := 10) rfl (by omega) gk_L_118 yd_X10_looksLike (by omega) (by omega) kc_0 (c_X10_looksLike (r := .inl k) htr hc) hl.1 rfl (Nat.le_of_ble_eq_true rfl) dL_first_146 (xv_le rfl)) hH (fun H locs ce q hH h1 h2 h3 => q_out C hH hxt h1 h2 h3 (xv_1 rfl) (xv_6 rfl))
                    refine q_xrun (ov := some (.int x4)) (q_xV (As := [.int v2, .int v3]) C hH (ci := 10) rfl (by omega) gk_L_118 yd_X10_looksLike (by omega) (by omega) kc_0 (c_X10_looksLike (r := .inr x4) htr hc) hl.1 rfl (Nat.le_of_ble_eq_true rfl) dL_first_146 (xv_0 rfl xv_00)) hH (fun H locs hH z_x4 => ?_)
                    refine b_if_eq (tgt := 156) hx hb hf dL_first_149 (by decide) (fun hf => ?_) (fun hf => ?_)
                    · refine lv_iconst (v := (0 : Int32)) hx hb dL_first_156 (by decide) ?_
                      refine lv_goto (tgt := 165) hx hb dL_first_157 (by decide) ?_
                      cases hf
                      exact q_x0 rfl (q_reti C hH trivial dL_first_165)
                    · refine lv_iconst (v := (1 : Int32)) hx hb dL_first_152 (by decide) ?_
                      refine lv_goto (tgt := 165) hx hb dL_first_153 (by decide) ?_
                      cases hf
                      exact q_x0 rfl (q_reti C hH trivial dL_first_165)
                · refine lv_aload_n hx hb dL_first_126 rfl (lv_at hl 0 rfl) ?_
                  refine lv_iload_n hx hb dL_first_127 rfl (lv_at hl 2 rfl) ?_
                  refine lv_iload_n hx hb dL_first_128 rfl (lv_at hl 3 rfl) ?_
                  refine lv_iload hx hb dL_first_129 (lv_at hl 4 rfl) ?_
                  rcases bdx_some hf with ⟨k, w5, hc, rfl⟩ | ⟨x6, w5, hc, hf⟩
                  · exact q_xrunX (k0 := k) (q_xV (As := [.int v2, .int v3, .int v4]) C hH (ci := 10) rfl (by omega) gk_L_115 yd_X10_form (by omega) (by omega) kc_0 (c_X10_form (r := .inl k) htr hc) hl.1 rfl (Nat.le_of_ble_eq_true rfl) dL_first_131 (xv_le rfl)) hH (fun H locs ce q hH h1 h2 h3 => q_out C hH hxt h1 h2 h3 (xv_1 rfl) (xv_6 rfl))
                  refine q_xrun (ov := some (.int x6)) (q_xV (As := [.int v2, .int v3, .int v4]) C hH (ci := 10) rfl (by omega) gk_L_115 yd_X10_form (by omega) (by omega) kc_0 (c_X10_form (r := .inr x6) htr hc) hl.1 rfl (Nat.le_of_ble_eq_true rfl) dL_first_131 (xv_0 rfl xv_00)) hH (fun H locs hH hP => ?_)
                  refine lv_goto (tgt := 165) hx hb dL_first_134 (by decide) ?_
                  cases hf
                  exact q_x0 rfl (q_reti C hH trivial dL_first_165)
              · refine lv_aload_n hx hb dL_first_111 rfl (lv_at hl 0 rfl) ?_
                refine lv_iload_n hx hb dL_first_112 rfl (lv_at hl 2 rfl) ?_
                refine lv_iload_n hx hb dL_first_113 rfl (lv_at hl 3 rfl) ?_
                rcases bdx_some hf with ⟨k, w7, hc, rfl⟩ | ⟨x8, w7, hc, hf⟩
                · exact q_xrunX (k0 := k) (q_xV (As := [.int v2, .int v3]) C hH (ci := 10) rfl (by omega) gk_L_112 yd_X10_at (by omega) (by omega) kc_0 (c_X10_at (r := .inl k) htr hc) hl.1 rfl (Nat.le_of_ble_eq_true rfl) dL_first_114 (xv_le rfl)) hH (fun H locs ce q hH h1 h2 h3 => q_out C hH hxt h1 h2 h3 (xv_1 rfl) (xv_6 rfl))
                refine q_xrun (ov := some (.int x8)) (q_xV (As := [.int v2, .int v3]) C hH (ci := 10) rfl (by omega) gk_L_112 yd_X10_at (by omega) (by omega) kc_0 (c_X10_at (r := .inr x8) htr hc) hl.1 rfl (Nat.le_of_ble_eq_true rfl) dL_first_114 (xv_0 rfl xv_00)) hH (fun H locs hH hP => ?_)
                refine lv_goto (tgt := 165) hx hb dL_first_117 (by decide) ?_
                cases hf
                exact q_x0 rfl (q_reti C hH trivial dL_first_165)
            · refine lv_aload_n hx hb dL_first_97 rfl (lv_at hl 0 rfl) ?_
              refine lv_iload_n hx hb dL_first_98 rfl (lv_at hl 2 rfl) ?_
              rcases bdx_some hf with ⟨k, w9, hc, rfl⟩ | ⟨x10, w9, hc, hf⟩
              · exact q_xrunX (k0 := k) (q_xV (As := [.int v2]) C hH (ci := 10) rfl (by omega) gk_L_109 yd_X10_clear (by omega) (by omega) kc_0 (c_X10_clear (r := .inl k) htr hc) hl.1 rfl (Nat.le_of_ble_eq_true rfl) dL_first_99 (xv_le rfl)) hH (fun H locs ce q hH h1 h2 h3 => q_out C hH hxt h1 h2 h3 (xv_1 rfl) (xv_6 rfl))
              refine q_xrun (ov := some (.int x10)) (q_xV (As := [.int v2]) C hH (ci := 10) rfl (by omega) gk_L_109 yd_X10_clear (by omega) (by omega) kc_0 (c_X10_clear (r := .inr x10) htr hc) hl.1 rfl (Nat.le_of_ble_eq_true rfl) dL_first_99 (xv_0 rfl xv_00)) hH (fun H locs hH hP => ?_)
              refine lv_goto (tgt := 165) hx hb dL_first_102 (by decide) ?_
              cases hf
              exact q_x0 rfl (q_reti C hH trivial dL_first_165)
          · refine lv_aload_n hx hb dL_first_82 rfl (lv_at hl 0 rfl) ?_
            refine lv_iload_n hx hb dL_first_83 rfl (lv_at hl 2 rfl) ?_
            refine lv_iload_n hx hb dL_first_84 rfl (lv_at hl 3 rfl) ?_
            rcases bdx_some hf with ⟨k, w11, hc, rfl⟩ | ⟨x12, w11, hc, hf⟩
            · exact q_xrunX (k0 := k) (q_xV (As := [.int v2, .int v3]) C hH (ci := 10) rfl (by omega) gk_L_106 yd_X10_put (by omega) (by omega) kc_0 (c_X10_put (r := .inl k) htr hc) hl.1 rfl (Nat.le_of_ble_eq_true rfl) dL_first_85 (xv_le rfl)) hH (fun H locs ce q hH h1 h2 h3 => q_out C hH hxt h1 h2 h3 (xv_1 rfl) (xv_6 rfl))
            refine q_xrun (ov := some (.int x12)) (q_xV (As := [.int v2, .int v3]) C hH (ci := 10) rfl (by omega) gk_L_106 yd_X10_put (by omega) (by omega) kc_0 (c_X10_put (r := .inr x12) htr hc) hl.1 rfl (Nat.le_of_ble_eq_true rfl) dL_first_85 (xv_0 rfl xv_00)) hH (fun H locs hH hP => ?_)
            refine lv_goto (tgt := 165) hx hb dL_first_88 (by decide) ?_
            cases hf
            exact q_x0 rfl (q_reti C hH trivial dL_first_165)
        · refine lv_aload_n hx hb dL_first_69 rfl (lv_at hl 0 rfl) ?_
          rcases bdx_some hf with ⟨k, w13, hc, rfl⟩ | ⟨x14, w13, hc, hf⟩
          · exact q_xrunX (k0 := k) (q_xV (As := []) C hH (ci := 10) rfl (by omega) gk_L_103 yd_X10_save (by omega) (by omega) kc_0 (c_X10_save (r := .inl k) htr hc) hl.1 rfl (Nat.le_of_ble_eq_true rfl) dL_first_70 (xv_le rfl)) hH (fun H locs ce q hH h1 h2 h3 => q_out C hH hxt h1 h2 h3 (xv_1 rfl) (xv_6 rfl))
          refine q_xrun (ov := some (.int x14)) (q_xV (As := []) C hH (ci := 10) rfl (by omega) gk_L_103 yd_X10_save (by omega) (by omega) kc_0 (c_X10_save (r := .inr x14) htr hc) hl.1 rfl (Nat.le_of_ble_eq_true rfl) dL_first_70 (xv_0 rfl xv_00)) hH (fun H locs hH hP => ?_)
          refine lv_goto (tgt := 165) hx hb dL_first_73 (by decide) ?_
          cases hf
          exact q_x0 rfl (q_reti C hH trivial dL_first_165)
      · refine lv_aload_n hx hb dL_first_32 rfl (lv_at hl 0 rfl) ?_
        refine lv_iload_n hx hb dL_first_33 rfl (lv_at hl 2 rfl) ?_
        refine lv_iload_n hx hb dL_first_34 rfl (lv_at hl 3 rfl) ?_
        refine lv_sipush (v := (1000 : Int32)) hx hb dL_first_35 (by decide) ?_
        refine lv_idiv hx hb dL_first_38 (by decide) ?_
        refine lv_iload_n hx hb dL_first_39 rfl (lv_at hl 3 rfl) ?_
        refine lv_bipush (v := (100 : Int32)) hx hb dL_first_40 (by decide) ?_
        refine lv_idiv hx hb dL_first_42 (by decide) ?_
        refine lv_bipush (v := (10 : Int32)) hx hb dL_first_43 (by decide) ?_
        refine lv_irem hx hb dL_first_45 (by decide) ?_
        refine lv_iload_n hx hb dL_first_46 rfl (lv_at hl 3 rfl) ?_
        refine lv_bipush (v := (10 : Int32)) hx hb dL_first_47 (by decide) ?_
        refine lv_idiv hx hb dL_first_49 (by decide) ?_
        refine lv_bipush (v := (10 : Int32)) hx hb dL_first_50 (by decide) ?_
        refine lv_irem hx hb dL_first_52 (by decide) ?_
        refine lv_iload_n hx hb dL_first_53 rfl (lv_at hl 3 rfl) ?_
        refine lv_bipush (v := (10 : Int32)) hx hb dL_first_54 (by decide) ?_
        refine lv_irem hx hb dL_first_56 (by decide) ?_
        rcases bdx_some hf with ⟨k, w15, hc, rfl⟩ | ⟨x16, w15, hc, hf⟩
        · exact q_xrunX (k0 := k) (q_xV (As := [.int v2, .int (v3 / (1000 : Int32)), .int ((v3 / (100 : Int32)) - (v3 / (100 : Int32)) / (10 : Int32) * (10 : Int32)), .int ((v3 / (10 : Int32)) - (v3 / (10 : Int32)) / (10 : Int32) * (10 : Int32)), .int (v3 - v3 / (10 : Int32) * (10 : Int32))]) C hH (ci := 10) rfl (by omega) gk_L_100 yd_X10_addRule (by omega) (by omega) kc_0 (c_X10_addRule (r := .inl k) htr hc) hl.1 rfl (Nat.le_of_ble_eq_true rfl) dL_first_57 (xv_le rfl)) hH (fun H locs ce q hH h1 h2 h3 => q_out C hH hxt h1 h2 h3 (xv_1 rfl) (xv_6 rfl))
        refine q_xrun (ov := some (.int x16)) (q_xV (As := [.int v2, .int (v3 / (1000 : Int32)), .int ((v3 / (100 : Int32)) - (v3 / (100 : Int32)) / (10 : Int32) * (10 : Int32)), .int ((v3 / (10 : Int32)) - (v3 / (10 : Int32)) / (10 : Int32) * (10 : Int32)), .int (v3 - v3 / (10 : Int32) * (10 : Int32))]) C hH (ci := 10) rfl (by omega) gk_L_100 yd_X10_addRule (by omega) (by omega) kc_0 (c_X10_addRule (r := .inr x16) htr hc) hl.1 rfl (Nat.le_of_ble_eq_true rfl) dL_first_57 (xv_0 rfl xv_00)) hH (fun H locs hH hP => ?_)
        refine lv_goto (tgt := 165) hx hb dL_first_60 (by decide) ?_
        cases hf
        exact q_x0 rfl (q_reti C hH trivial dL_first_165)
    · refine lv_aload_n hx hb dL_first_18 rfl (lv_at hl 0 rfl) ?_
      refine lv_iload_n hx hb dL_first_19 rfl (lv_at hl 2 rfl) ?_
      rcases bdx_some hf with ⟨k, w17, hc, rfl⟩ | ⟨x18, w17, hc, hf⟩
      · exact q_xrunX (k0 := k) (q_xV (As := [.int v2]) C hH (ci := 10) rfl (by omega) gk_L_97 yd_X10_addWord (by omega) (by omega) kc_0 (c_X10_addWord (r := .inl k) htr hc) hl.1 rfl (Nat.le_of_ble_eq_true rfl) dL_first_20 (xv_le rfl)) hH (fun H locs ce q hH h1 h2 h3 => q_out C hH hxt h1 h2 h3 (xv_1 rfl) (xv_6 rfl))
      refine q_xrun (ov := some (.int x18)) (q_xV (As := [.int v2]) C hH (ci := 10) rfl (by omega) gk_L_97 yd_X10_addWord (by omega) (by omega) kc_0 (c_X10_addWord (r := .inr x18) htr hc) hl.1 rfl (Nat.le_of_ble_eq_true rfl) dL_first_20 (xv_0 rfl xv_00)) hH (fun H locs hH hP => ?_)
      refine lv_goto (tgt := 165) hx hb dL_first_23 (by decide) ?_
      cases hf
      exact q_x0 rfl (q_reti C hH trivial dL_first_165)
  · refine lv_aload_n hx hb dL_first_6 rfl (lv_at hl 0 rfl) ?_
    refine lv_iload_n hx hb dL_first_7 rfl (lv_at hl 2 rfl) ?_
    rcases bdx_some hf with ⟨k, w19, hc, rfl⟩ | ⟨u, w19, hc, hf⟩
    · exact q_xrunX (k0 := k) (q_xV (As := [.int v2]) C hH (ci := 10) rfl (by omega) gk_L_93 yd_X10_use (by omega) (by omega) kc_0 (c_X10_use (r := .inl k) htr hc) hl.1 rfl (Nat.le_of_ble_eq_true rfl) dL_first_8 (xv_le rfl)) hH (fun H locs ce q hH h1 h2 h3 => q_out C hH hxt h1 h2 h3 (xv_1 rfl) (xv_6 rfl))
    refine q_xrun (ov := none) (q_xV (As := [.int v2]) C hH (ci := 10) rfl (by omega) gk_L_93 yd_X10_use (by omega) (by omega) kc_0 (c_X10_use (r := .inr u) htr hc) hl.1 rfl (Nat.le_of_ble_eq_true rfl) dL_first_8 (xv_0 rfl xv_00)) hH (fun H locs hH hP => ?_)
    refine lv_iconst (v := (0 : Int32)) hx hb dL_first_11 (by decide) ?_
    cases hf
    exact q_x0 rfl (q_reti C hH trivial dL_first_12)
set_option maxRecDepth 100000 in
theorem c_L_first {l : Launch} {D : va_G} {B : Nat} {Y : Nat → ClassId} {v1 : Int32} {v2 : Int32} {v3 : Int32} {v4 : Int32} {w : Wd} {r : (Nat ⊕ Int32)} {w1 : Wd} (htr : l.stackTraces = false)   (hf : f_L_first v1 v2 v3 v4 w = some (r, w1)) : XM l D B Y yL_first cL_first 5 (some .int) 7 [.ref (B + 0), .int v1, .int v2, .int v3, .int v4] w (zoI r) w1 True :=
  XM_of (by decide +kernel) (Nat.le_of_ble_eq_true rfl) (fun p e s m args below meth c ls C hxt hH hl => t_L_first_0 C hxt htr  hH (lv_sub hl [0, 1, 2, 3, 4] rfl) hf)
set_option maxRecDepth 100000 in
set_option maxHeartbeats 4000000 in
theorem t_L_does {D : va_G} {B : Nat} {Y : Nat → ClassId} {p : Program} {l : Launch} {e : Env} {s : State} {m : MethodId} {args : Array Value} {below : List Frame} {meth : Method} {c : Code} {z : Int32 × Wd} {H : Heap} {locs : List Loc} {ls : Array Slot} {w : Wd} {v1 : Int32} {v2 : Int32} {v3 : Int32} {v4 : Int32} (C : CX D B Y p s m args meth c cL_does 6 RL (some .int)) (htab : c.exceptionTable.toList = tableOf [(0, 281, 282, 68), (0, 281, 287, 71), (0, 281, 292, 73)]) (htr : l.stackTraces = false) (hH : HS D B Y w s H locs) (hl : lv_has ls 6 [(0, .ref (B + 0)), (1, .int v1), (2, .int v2), (3, .int v3), (4, .int v4)]) (hf : f_L_does v1 v2 v3 v4 w = some z) : W p l e (RM 33 1 (6 * 1)) s m args below meth c H locs 0 0 (MQ below (QG D B Y (some (.int z.1)) z.2 True) args s 1 (6 * 1) (AB B)) (F0 m 0 ls []) := by
  have hx := C.1
  have hb := C.2.1
  unfold f_L_does at hf
  refine lv_iload_n hx hb dL_does_0 rfl (lv_at hl 1 rfl) ?_
  refine lv_iconst (v := (5 : Int32)) hx hb dL_does_1 (by decide) ?_
  refine b_icmp_ge (tgt := 17) hx hb hf dL_does_2 (by decide) (fun hf => ?_) (fun hf => ?_)
  · refine lv_iload_n hx hb dL_does_17 rfl (lv_at hl 1 rfl) ?_
    refine lv_bipush (v := (15 : Int32)) hx hb dL_does_18 (by decide) ?_
    refine b_icmp_ge (tgt := 35) hx hb hf dL_does_20 (by decide) (fun hf => ?_) (fun hf => ?_)
    · refine lv_iload_n hx hb dL_does_35 rfl (lv_at hl 1 rfl) ?_
      refine lv_bipush (v := (15 : Int32)) hx hb dL_does_36 (by decide) ?_
      refine b_icmp_ne (tgt := 52) hx hb hf dL_does_38 (by decide) (fun hf => ?_) (fun hf => ?_)
      · refine lv_iload_n hx hb dL_does_52 rfl (lv_at hl 1 rfl) ?_
        refine lv_bipush (v := (16 : Int32)) hx hb dL_does_53 (by decide) ?_
        refine b_icmp_ne (tgt := 69) hx hb hf dL_does_55 (by decide) (fun hf => ?_) (fun hf => ?_)
        · refine lv_iload_n hx hb dL_does_69 rfl (lv_at hl 1 rfl) ?_
          refine lv_bipush (v := (17 : Int32)) hx hb dL_does_70 (by decide) ?_
          refine b_icmp_ne (tgt := 95) hx hb hf dL_does_72 (by decide) (fun hf => ?_) (fun hf => ?_)
          · refine lv_iload_n hx hb dL_does_95 rfl (lv_at hl 1 rfl) ?_
            refine lv_bipush (v := (18 : Int32)) hx hb dL_does_96 (by decide) ?_
            refine b_icmp_ne (tgt := 121) hx hb hf dL_does_98 (by decide) (fun hf => ?_) (fun hf => ?_)
            · refine lv_iload_n hx hb dL_does_121 rfl (lv_at hl 1 rfl) ?_
              refine lv_bipush (v := (19 : Int32)) hx hb dL_does_122 (by decide) ?_
              refine b_icmp_ne (tgt := 138) hx hb hf dL_does_124 (by decide) (fun hf => ?_) (fun hf => ?_)
              · refine lv_iload_n hx hb dL_does_138 rfl (lv_at hl 1 rfl) ?_
                refine lv_bipush (v := (20 : Int32)) hx hb dL_does_139 (by decide) ?_
                refine b_icmp_ne (tgt := 155) hx hb hf dL_does_141 (by decide) (fun hf => ?_) (fun hf => ?_)
                · refine lv_iload_n hx hb dL_does_155 rfl (lv_at hl 1 rfl) ?_
                  refine lv_bipush (v := (21 : Int32)) hx hb dL_does_156 (by decide) ?_
                  refine b_icmp_ne (tgt := 172) hx hb hf dL_does_158 (by decide) (fun hf => ?_) (fun hf => ?_)
                  · refine lv_iload_n hx hb dL_does_172 rfl (lv_at hl 1 rfl) ?_
                    refine lv_bipush (v := (22 : Int32)) hx hb dL_does_173 (by decide) ?_
                    refine b_icmp_ne (tgt := 185) hx hb hf dL_does_175 (by decide) (fun hf => ?_) (fun hf => ?_)
                    · refine lv_iload_n hx hb dL_does_185 rfl (lv_at hl 1 rfl) ?_
                      refine lv_bipush (v := (23 : Int32)) hx hb dL_does_186 (by decide) ?_
                      refine b_icmp_ne (tgt := 200) hx hb hf dL_does_188 (by decide) (fun hf => ?_) (fun hf => ?_)
                      · refine lv_iload_n hx hb dL_does_200 rfl (lv_at hl 1 rfl) ?_
                        refine lv_bipush (v := (24 : Int32)) hx hb dL_does_201 (by decide) ?_
                        refine b_icmp_ne (tgt := 226) hx hb hf dL_does_203 (by decide) (fun hf => ?_) (fun hf => ?_)
                        · refine lv_iload_n hx hb dL_does_226 rfl (lv_at hl 1 rfl) ?_
                          refine lv_bipush (v := (25 : Int32)) hx hb dL_does_227 (by decide) ?_
                          refine b_icmp_ne (tgt := 241) hx hb hf dL_does_229 (by decide) (fun hf => ?_) (fun hf => ?_)
                          · refine lv_iload_n hx hb dL_does_241 rfl (lv_at hl 1 rfl) ?_
                            refine lv_bipush (v := (26 : Int32)) hx hb dL_does_242 (by decide) ?_
                            refine b_icmp_ne (tgt := 262) hx hb hf dL_does_244 (by decide) (fun hf => ?_) (fun hf => ?_)
                            · refine lv_iload_n hx hb dL_does_262 rfl (lv_at hl 1 rfl) ?_
                              refine lv_bipush (v := (27 : Int32)) hx hb dL_does_263 (by decide) ?_
                              refine b_icmp_ne (tgt := 276) hx hb hf dL_does_265 (by decide) (fun hf => ?_) (fun hf => ?_)
                              · refine lv_aload_n hx hb dL_does_276 rfl (lv_at hl 0 rfl) ?_
                                refine lv_iload_n hx hb dL_does_277 rfl (lv_at hl 2 rfl) ?_
                                rcases bdc_some hf with ⟨k, w1, hc, hf⟩ | ⟨x2, w1, hc, hf⟩
                                · by_cases e_0 : k = 1
                                  · subst e_0
                                    rw [if_pos rfl] at hf
                                    refine q_xrunX (k0 := 1) (q_xV (As := [.int v2]) C hH (ci := 10) rfl (by omega) gk_L_65 yd_X10_decode (by omega) (by omega) kc_0 (c_X10_decode (r := .inl 1) htr hc) hl.1 rfl (Nat.le_of_ble_eq_true rfl) dL_does_278 (xw_1 rfl)) hH (fun H locs ce q hH h1 h2 h3 => ?_)
                                    refine q_catch C htab (pre := []) (x := (0, 281, 282, 68)) (suf := [(0, 281, 287, 71), (0, 281, 292, 73)]) (E := 1) rfl (by decide) rfl (by decide) (by decide) h1 h2 h3 ?_
                                    refine lv_astore (lv' := [(5, .ref q), (0, .ref (B + 0)), (1, .int v1), (2, .int v2), (3, .int v3), (4, .int v4)]) hx hb dL_does_282 hl (by decide) rfl (fun ls hl => ?_)
                                    refine lv_ldc (v := (-9999999 : Int32)) hx hb C.2.2.2.1 (C.2.2.2.2.1 _ wd_1247) dL_does_284 ?_
                                    cases hf
                                    exact W.widen (k := 1) (n := 6 * 1) (by decide) (by decide) (q_reti C hH trivial dL_does_286)
                                  rw [if_neg e_0] at hf
                                  by_cases e_1 : k = 2
                                  · subst e_1
                                    rw [if_pos rfl] at hf
                                    refine q_xrunX (k0 := 2) (q_xV (As := [.int v2]) C hH (ci := 10) rfl (by omega) gk_L_65 yd_X10_decode (by omega) (by omega) kc_0 (c_X10_decode (r := .inl 2) htr hc) hl.1 rfl (Nat.le_of_ble_eq_true rfl) dL_does_278 (xw_1 rfl)) hH (fun H locs ce q hH h1 h2 h3 => ?_)
                                    refine q_catch C htab (pre := [(0, 281, 282, 68)]) (x := (0, 281, 287, 71)) (suf := [(0, 281, 292, 73)]) (E := 2) rfl (by decide) rfl (by decide) (by decide) h1 h2 h3 ?_
                                    refine lv_astore (lv' := [(5, .ref q), (0, .ref (B + 0)), (1, .int v1), (2, .int v2), (3, .int v3), (4, .int v4)]) hx hb dL_does_287 hl (by decide) rfl (fun ls hl => ?_)
                                    refine lv_ldc (v := (-9999999 : Int32)) hx hb C.2.2.2.1 (C.2.2.2.2.1 _ wd_1247) dL_does_289 ?_
                                    cases hf
                                    exact W.widen (k := 1) (n := 6 * 1) (by decide) (by decide) (q_reti C hH trivial dL_does_291)
                                  rw [if_neg e_1] at hf
                                  by_cases e_2 : k = 3
                                  · subst e_2
                                    rw [if_pos rfl] at hf
                                    refine q_xrunX (k0 := 3) (q_xV (As := [.int v2]) C hH (ci := 10) rfl (by omega) gk_L_65 yd_X10_decode (by omega) (by omega) kc_0 (c_X10_decode (r := .inl 3) htr hc) hl.1 rfl (Nat.le_of_ble_eq_true rfl) dL_does_278 (xw_1 rfl)) hH (fun H locs ce q hH h1 h2 h3 => ?_)
                                    refine q_catch C htab (pre := [(0, 281, 282, 68), (0, 281, 287, 71)]) (x := (0, 281, 292, 73)) (suf := []) (E := 3) rfl (by decide) rfl (by decide) (by decide) h1 h2 h3 ?_
                                    refine lv_astore (lv' := [(5, .ref q), (0, .ref (B + 0)), (1, .int v1), (2, .int v2), (3, .int v3), (4, .int v4)]) hx hb dL_does_292 hl (by decide) rfl (fun ls hl => ?_)
                                    refine lv_ldc (v := (-9999999 : Int32)) hx hb C.2.2.2.1 (C.2.2.2.2.1 _ wd_1247) dL_does_294 ?_
                                    cases hf
                                    exact W.widen (k := 1) (n := 6 * 1) (by decide) (by decide) (q_reti C hH trivial dL_does_296)
                                  rw [if_neg e_2] at hf
                                  cases hf
                                · refine q_xrun (ov := some (.int x2)) (q_xV (As := [.int v2]) C hH (ci := 10) rfl (by omega) gk_L_65 yd_X10_decode (by omega) (by omega) kc_0 (c_X10_decode (r := .inr x2) htr hc) hl.1 rfl (Nat.le_of_ble_eq_true rfl) dL_does_278 (xv_0 rfl xv_00)) hH (fun H locs hH hP => ?_)
                                  cases hf
                                  exact W.widen (k := 1) (n := 6 * 1) (by decide) (by decide) (q_reti C hH trivial dL_does_281)
                              · refine lv_aload_n hx hb dL_does_268 rfl (lv_at hl 0 rfl) ?_
                                refine lv_iload_n hx hb dL_does_269 rfl (lv_at hl 2 rfl) ?_
                                rcases bdc_some hf with ⟨k, w3, hc, hf⟩ | ⟨x4, w3, hc, hf⟩
                                · by_cases e_0 : k = 1
                                  · subst e_0
                                    rw [if_pos rfl] at hf
                                    refine q_xrunX (k0 := 1) (q_xV (As := [.int v2]) C hH (ci := 10) rfl (by omega) gk_L_61 yd_X10_encode (by omega) (by omega) kc_0 (c_X10_encode (r := .inl 1) htr hc) hl.1 rfl (Nat.le_of_ble_eq_true rfl) dL_does_270 (xw_1 rfl)) hH (fun H locs ce q hH h1 h2 h3 => ?_)
                                    refine q_catch C htab (pre := []) (x := (0, 281, 282, 68)) (suf := [(0, 281, 287, 71), (0, 281, 292, 73)]) (E := 1) rfl (by decide) rfl (by decide) (by decide) h1 h2 h3 ?_
                                    refine lv_astore (lv' := [(5, .ref q), (0, .ref (B + 0)), (1, .int v1), (2, .int v2), (3, .int v3), (4, .int v4)]) hx hb dL_does_282 hl (by decide) rfl (fun ls hl => ?_)
                                    refine lv_ldc (v := (-9999999 : Int32)) hx hb C.2.2.2.1 (C.2.2.2.2.1 _ wd_1247) dL_does_284 ?_
                                    cases hf
                                    exact W.widen (k := 1) (n := 6 * 1) (by decide) (by decide) (q_reti C hH trivial dL_does_286)
                                  rw [if_neg e_0] at hf
                                  by_cases e_1 : k = 2
                                  · subst e_1
                                    rw [if_pos rfl] at hf
                                    refine q_xrunX (k0 := 2) (q_xV (As := [.int v2]) C hH (ci := 10) rfl (by omega) gk_L_61 yd_X10_encode (by omega) (by omega) kc_0 (c_X10_encode (r := .inl 2) htr hc) hl.1 rfl (Nat.le_of_ble_eq_true rfl) dL_does_270 (xw_1 rfl)) hH (fun H locs ce q hH h1 h2 h3 => ?_)
                                    refine q_catch C htab (pre := [(0, 281, 282, 68)]) (x := (0, 281, 287, 71)) (suf := [(0, 281, 292, 73)]) (E := 2) rfl (by decide) rfl (by decide) (by decide) h1 h2 h3 ?_
                                    refine lv_astore (lv' := [(5, .ref q), (0, .ref (B + 0)), (1, .int v1), (2, .int v2), (3, .int v3), (4, .int v4)]) hx hb dL_does_287 hl (by decide) rfl (fun ls hl => ?_)
                                    refine lv_ldc (v := (-9999999 : Int32)) hx hb C.2.2.2.1 (C.2.2.2.2.1 _ wd_1247) dL_does_289 ?_
                                    cases hf
                                    exact W.widen (k := 1) (n := 6 * 1) (by decide) (by decide) (q_reti C hH trivial dL_does_291)
                                  rw [if_neg e_1] at hf
                                  by_cases e_2 : k = 3
                                  · subst e_2
                                    rw [if_pos rfl] at hf
                                    refine q_xrunX (k0 := 3) (q_xV (As := [.int v2]) C hH (ci := 10) rfl (by omega) gk_L_61 yd_X10_encode (by omega) (by omega) kc_0 (c_X10_encode (r := .inl 3) htr hc) hl.1 rfl (Nat.le_of_ble_eq_true rfl) dL_does_270 (xw_1 rfl)) hH (fun H locs ce q hH h1 h2 h3 => ?_)
                                    refine q_catch C htab (pre := [(0, 281, 282, 68), (0, 281, 287, 71)]) (x := (0, 281, 292, 73)) (suf := []) (E := 3) rfl (by decide) rfl (by decide) (by decide) h1 h2 h3 ?_
                                    refine lv_astore (lv' := [(5, .ref q), (0, .ref (B + 0)), (1, .int v1), (2, .int v2), (3, .int v3), (4, .int v4)]) hx hb dL_does_292 hl (by decide) rfl (fun ls hl => ?_)
                                    refine lv_ldc (v := (-9999999 : Int32)) hx hb C.2.2.2.1 (C.2.2.2.2.1 _ wd_1247) dL_does_294 ?_
                                    cases hf
                                    exact W.widen (k := 1) (n := 6 * 1) (by decide) (by decide) (q_reti C hH trivial dL_does_296)
                                  rw [if_neg e_2] at hf
                                  cases hf
                                · refine q_xrun (ov := some (.int x4)) (q_xV (As := [.int v2]) C hH (ci := 10) rfl (by omega) gk_L_61 yd_X10_encode (by omega) (by omega) kc_0 (c_X10_encode (r := .inr x4) htr hc) hl.1 rfl (Nat.le_of_ble_eq_true rfl) dL_does_270 (xv_0 rfl xv_00)) hH (fun H locs hH hP => ?_)
                                  refine lv_goto (tgt := 281) hx hb dL_does_273 (by decide) ?_
                                  cases hf
                                  exact W.widen (k := 1) (n := 6 * 1) (by decide) (by decide) (q_reti C hH trivial dL_does_281)
                            · refine lv_aload_n hx hb dL_does_247 rfl (lv_at hl 0 rfl) ?_
                              refine lv_iload_n hx hb dL_does_248 rfl (lv_at hl 2 rfl) ?_
                              refine lv_iload_n hx hb dL_does_249 rfl (lv_at hl 3 rfl) ?_
                              refine lv_iload hx hb dL_does_250 (lv_at hl 4 rfl) ?_
                              refine lv_bipush (v := (22 : Int32)) hx hb dL_does_252 (by decide) ?_
                              refine lv_ldc (v := (333333 : Int32)) hx hb C.2.2.2.1 (C.2.2.2.2.1 _ wd_1174) dL_does_254 ?_
                              rcases bdc_some hf with ⟨k, w5, hc, hf⟩ | ⟨x6, w5, hc, hf⟩
                              · by_cases e_0 : k = 1
                                · subst e_0
                                  rw [if_pos rfl] at hf
                                  refine q_xrunX (k0 := 1) (q_xV (As := [.int v2, .int v3, .int v4, .int (22 : Int32), .int (333333 : Int32)]) C hH (ci := 10) rfl (by omega) gk_L_57 yd_X10_message (by omega) (by omega) kc_0 (c_X10_message (r := .inl 1) htr hc) hl.1 rfl (Nat.le_of_ble_eq_true rfl) dL_does_256 (xw_1 rfl)) hH (fun H locs ce q hH h1 h2 h3 => ?_)
                                  refine q_catch C htab (pre := []) (x := (0, 281, 282, 68)) (suf := [(0, 281, 287, 71), (0, 281, 292, 73)]) (E := 1) rfl (by decide) rfl (by decide) (by decide) h1 h2 h3 ?_
                                  refine lv_astore (lv' := [(5, .ref q), (0, .ref (B + 0)), (1, .int v1), (2, .int v2), (3, .int v3), (4, .int v4)]) hx hb dL_does_282 hl (by decide) rfl (fun ls hl => ?_)
                                  refine lv_ldc (v := (-9999999 : Int32)) hx hb C.2.2.2.1 (C.2.2.2.2.1 _ wd_1247) dL_does_284 ?_
                                  cases hf
                                  exact W.widen (k := 1) (n := 6 * 1) (by decide) (by decide) (q_reti C hH trivial dL_does_286)
                                rw [if_neg e_0] at hf
                                by_cases e_1 : k = 2
                                · subst e_1
                                  rw [if_pos rfl] at hf
                                  refine q_xrunX (k0 := 2) (q_xV (As := [.int v2, .int v3, .int v4, .int (22 : Int32), .int (333333 : Int32)]) C hH (ci := 10) rfl (by omega) gk_L_57 yd_X10_message (by omega) (by omega) kc_0 (c_X10_message (r := .inl 2) htr hc) hl.1 rfl (Nat.le_of_ble_eq_true rfl) dL_does_256 (xw_1 rfl)) hH (fun H locs ce q hH h1 h2 h3 => ?_)
                                  refine q_catch C htab (pre := [(0, 281, 282, 68)]) (x := (0, 281, 287, 71)) (suf := [(0, 281, 292, 73)]) (E := 2) rfl (by decide) rfl (by decide) (by decide) h1 h2 h3 ?_
                                  refine lv_astore (lv' := [(5, .ref q), (0, .ref (B + 0)), (1, .int v1), (2, .int v2), (3, .int v3), (4, .int v4)]) hx hb dL_does_287 hl (by decide) rfl (fun ls hl => ?_)
                                  refine lv_ldc (v := (-9999999 : Int32)) hx hb C.2.2.2.1 (C.2.2.2.2.1 _ wd_1247) dL_does_289 ?_
                                  cases hf
                                  exact W.widen (k := 1) (n := 6 * 1) (by decide) (by decide) (q_reti C hH trivial dL_does_291)
                                rw [if_neg e_1] at hf
                                by_cases e_2 : k = 3
                                · subst e_2
                                  rw [if_pos rfl] at hf
                                  refine q_xrunX (k0 := 3) (q_xV (As := [.int v2, .int v3, .int v4, .int (22 : Int32), .int (333333 : Int32)]) C hH (ci := 10) rfl (by omega) gk_L_57 yd_X10_message (by omega) (by omega) kc_0 (c_X10_message (r := .inl 3) htr hc) hl.1 rfl (Nat.le_of_ble_eq_true rfl) dL_does_256 (xw_1 rfl)) hH (fun H locs ce q hH h1 h2 h3 => ?_)
                                  refine q_catch C htab (pre := [(0, 281, 282, 68), (0, 281, 287, 71)]) (x := (0, 281, 292, 73)) (suf := []) (E := 3) rfl (by decide) rfl (by decide) (by decide) h1 h2 h3 ?_
                                  refine lv_astore (lv' := [(5, .ref q), (0, .ref (B + 0)), (1, .int v1), (2, .int v2), (3, .int v3), (4, .int v4)]) hx hb dL_does_292 hl (by decide) rfl (fun ls hl => ?_)
                                  refine lv_ldc (v := (-9999999 : Int32)) hx hb C.2.2.2.1 (C.2.2.2.2.1 _ wd_1247) dL_does_294 ?_
                                  cases hf
                                  exact W.widen (k := 1) (n := 6 * 1) (by decide) (by decide) (q_reti C hH trivial dL_does_296)
                                rw [if_neg e_2] at hf
                                cases hf
                              · refine q_xrun (ov := some (.int x6)) (q_xV (As := [.int v2, .int v3, .int v4, .int (22 : Int32), .int (333333 : Int32)]) C hH (ci := 10) rfl (by omega) gk_L_57 yd_X10_message (by omega) (by omega) kc_0 (c_X10_message (r := .inr x6) htr hc) hl.1 rfl (Nat.le_of_ble_eq_true rfl) dL_does_256 (xv_0 rfl xv_00)) hH (fun H locs hH hP => ?_)
                                refine lv_goto (tgt := 281) hx hb dL_does_259 (by decide) ?_
                                cases hf
                                exact W.widen (k := 1) (n := 6 * 1) (by decide) (by decide) (q_reti C hH trivial dL_does_281)
                          · refine lv_aload_n hx hb dL_does_232 rfl (lv_at hl 0 rfl) ?_
                            refine lv_iload_n hx hb dL_does_233 rfl (lv_at hl 2 rfl) ?_
                            refine lv_iload_n hx hb dL_does_234 rfl (lv_at hl 3 rfl) ?_
                            rcases bdc_some hf with ⟨k, w7, hc, hf⟩ | ⟨x8, w7, hc, hf⟩
                            · by_cases e_0 : k = 1
                              · subst e_0
                                rw [if_pos rfl] at hf
                                refine q_xrunX (k0 := 1) (q_xV (As := [.int v2, .int v3]) C hH (ci := 10) rfl (by omega) gk_L_53 yd_X10_classOf (by omega) (by omega) kc_0 (c_X10_classOf (r := .inl 1) htr hc) hl.1 rfl (Nat.le_of_ble_eq_true rfl) dL_does_235 (xw_1 rfl)) hH (fun H locs ce q hH h1 h2 h3 => ?_)
                                refine q_catch C htab (pre := []) (x := (0, 281, 282, 68)) (suf := [(0, 281, 287, 71), (0, 281, 292, 73)]) (E := 1) rfl (by decide) rfl (by decide) (by decide) h1 h2 h3 ?_
                                refine lv_astore (lv' := [(5, .ref q), (0, .ref (B + 0)), (1, .int v1), (2, .int v2), (3, .int v3), (4, .int v4)]) hx hb dL_does_282 hl (by decide) rfl (fun ls hl => ?_)
                                refine lv_ldc (v := (-9999999 : Int32)) hx hb C.2.2.2.1 (C.2.2.2.2.1 _ wd_1247) dL_does_284 ?_
                                cases hf
                                exact W.widen (k := 1) (n := 6 * 1) (by decide) (by decide) (q_reti C hH trivial dL_does_286)
                              rw [if_neg e_0] at hf
                              by_cases e_1 : k = 2
                              · subst e_1
                                rw [if_pos rfl] at hf
                                refine q_xrunX (k0 := 2) (q_xV (As := [.int v2, .int v3]) C hH (ci := 10) rfl (by omega) gk_L_53 yd_X10_classOf (by omega) (by omega) kc_0 (c_X10_classOf (r := .inl 2) htr hc) hl.1 rfl (Nat.le_of_ble_eq_true rfl) dL_does_235 (xw_1 rfl)) hH (fun H locs ce q hH h1 h2 h3 => ?_)
                                refine q_catch C htab (pre := [(0, 281, 282, 68)]) (x := (0, 281, 287, 71)) (suf := [(0, 281, 292, 73)]) (E := 2) rfl (by decide) rfl (by decide) (by decide) h1 h2 h3 ?_
                                refine lv_astore (lv' := [(5, .ref q), (0, .ref (B + 0)), (1, .int v1), (2, .int v2), (3, .int v3), (4, .int v4)]) hx hb dL_does_287 hl (by decide) rfl (fun ls hl => ?_)
                                refine lv_ldc (v := (-9999999 : Int32)) hx hb C.2.2.2.1 (C.2.2.2.2.1 _ wd_1247) dL_does_289 ?_
                                cases hf
                                exact W.widen (k := 1) (n := 6 * 1) (by decide) (by decide) (q_reti C hH trivial dL_does_291)
                              rw [if_neg e_1] at hf
                              by_cases e_2 : k = 3
                              · subst e_2
                                rw [if_pos rfl] at hf
                                refine q_xrunX (k0 := 3) (q_xV (As := [.int v2, .int v3]) C hH (ci := 10) rfl (by omega) gk_L_53 yd_X10_classOf (by omega) (by omega) kc_0 (c_X10_classOf (r := .inl 3) htr hc) hl.1 rfl (Nat.le_of_ble_eq_true rfl) dL_does_235 (xw_1 rfl)) hH (fun H locs ce q hH h1 h2 h3 => ?_)
                                refine q_catch C htab (pre := [(0, 281, 282, 68), (0, 281, 287, 71)]) (x := (0, 281, 292, 73)) (suf := []) (E := 3) rfl (by decide) rfl (by decide) (by decide) h1 h2 h3 ?_
                                refine lv_astore (lv' := [(5, .ref q), (0, .ref (B + 0)), (1, .int v1), (2, .int v2), (3, .int v3), (4, .int v4)]) hx hb dL_does_292 hl (by decide) rfl (fun ls hl => ?_)
                                refine lv_ldc (v := (-9999999 : Int32)) hx hb C.2.2.2.1 (C.2.2.2.2.1 _ wd_1247) dL_does_294 ?_
                                cases hf
                                exact W.widen (k := 1) (n := 6 * 1) (by decide) (by decide) (q_reti C hH trivial dL_does_296)
                              rw [if_neg e_2] at hf
                              cases hf
                            · refine q_xrun (ov := some (.int x8)) (q_xV (As := [.int v2, .int v3]) C hH (ci := 10) rfl (by omega) gk_L_53 yd_X10_classOf (by omega) (by omega) kc_0 (c_X10_classOf (r := .inr x8) htr hc) hl.1 rfl (Nat.le_of_ble_eq_true rfl) dL_does_235 (xv_0 rfl xv_00)) hH (fun H locs hH hP => ?_)
                              refine lv_goto (tgt := 281) hx hb dL_does_238 (by decide) ?_
                              cases hf
                              exact W.widen (k := 1) (n := 6 * 1) (by decide) (by decide) (q_reti C hH trivial dL_does_281)
                        · refine lv_aload_n hx hb dL_does_206 rfl (lv_at hl 0 rfl) ?_
                          refine lv_iload_n hx hb dL_does_207 rfl (lv_at hl 2 rfl) ?_
                          refine lv_iload_n hx hb dL_does_208 rfl (lv_at hl 3 rfl) ?_
                          refine lv_iload hx hb dL_does_209 (lv_at hl 4 rfl) ?_
                          refine lv_iconst (v := (1 : Int32)) hx hb dL_does_211 (by decide) ?_
                          refine b_icmp_ne (tgt := 219) hx hb hf dL_does_212 (by decide) (fun hf => ?_) (fun hf => ?_)
                          · refine lv_iconst (v := (0 : Int32)) hx hb dL_does_219 (by decide) ?_
                            rcases bdc_some hf with ⟨k, w9, hc, hf⟩ | ⟨x10, w9, hc, hf⟩
                            · by_cases e_0 : k = 1
                              · subst e_0
                                rw [if_pos rfl] at hf
                                refine q_xrunX (k0 := 1) (q_xV (As := [.int v2, .int v3, .int (0 : Int32)]) C hH (ci := 10) rfl (by omega) gk_L_50 yd_X10_transliterate (by omega) (by omega) kc_0 (c_X10_transliterate (r := .inl 1) htr isZ_0 hc) hl.1 rfl (Nat.le_of_ble_eq_true rfl) dL_does_220 (xw_1 rfl)) hH (fun H locs ce q hH h1 h2 h3 => ?_)
                                refine q_catch C htab (pre := []) (x := (0, 281, 282, 68)) (suf := [(0, 281, 287, 71), (0, 281, 292, 73)]) (E := 1) rfl (by decide) rfl (by decide) (by decide) h1 h2 h3 ?_
                                refine lv_astore (lv' := [(5, .ref q), (0, .ref (B + 0)), (1, .int v1), (2, .int v2), (3, .int v3), (4, .int v4)]) hx hb dL_does_282 hl (by decide) rfl (fun ls hl => ?_)
                                refine lv_ldc (v := (-9999999 : Int32)) hx hb C.2.2.2.1 (C.2.2.2.2.1 _ wd_1247) dL_does_284 ?_
                                cases hf
                                exact W.widen (k := 1) (n := 6 * 1) (by decide) (by decide) (q_reti C hH trivial dL_does_286)
                              rw [if_neg e_0] at hf
                              by_cases e_1 : k = 2
                              · subst e_1
                                rw [if_pos rfl] at hf
                                refine q_xrunX (k0 := 2) (q_xV (As := [.int v2, .int v3, .int (0 : Int32)]) C hH (ci := 10) rfl (by omega) gk_L_50 yd_X10_transliterate (by omega) (by omega) kc_0 (c_X10_transliterate (r := .inl 2) htr isZ_0 hc) hl.1 rfl (Nat.le_of_ble_eq_true rfl) dL_does_220 (xw_1 rfl)) hH (fun H locs ce q hH h1 h2 h3 => ?_)
                                refine q_catch C htab (pre := [(0, 281, 282, 68)]) (x := (0, 281, 287, 71)) (suf := [(0, 281, 292, 73)]) (E := 2) rfl (by decide) rfl (by decide) (by decide) h1 h2 h3 ?_
                                refine lv_astore (lv' := [(5, .ref q), (0, .ref (B + 0)), (1, .int v1), (2, .int v2), (3, .int v3), (4, .int v4)]) hx hb dL_does_287 hl (by decide) rfl (fun ls hl => ?_)
                                refine lv_ldc (v := (-9999999 : Int32)) hx hb C.2.2.2.1 (C.2.2.2.2.1 _ wd_1247) dL_does_289 ?_
                                cases hf
                                exact W.widen (k := 1) (n := 6 * 1) (by decide) (by decide) (q_reti C hH trivial dL_does_291)
                              rw [if_neg e_1] at hf
                              by_cases e_2 : k = 3
                              · subst e_2
                                rw [if_pos rfl] at hf
                                refine q_xrunX (k0 := 3) (q_xV (As := [.int v2, .int v3, .int (0 : Int32)]) C hH (ci := 10) rfl (by omega) gk_L_50 yd_X10_transliterate (by omega) (by omega) kc_0 (c_X10_transliterate (r := .inl 3) htr isZ_0 hc) hl.1 rfl (Nat.le_of_ble_eq_true rfl) dL_does_220 (xw_1 rfl)) hH (fun H locs ce q hH h1 h2 h3 => ?_)
                                refine q_catch C htab (pre := [(0, 281, 282, 68), (0, 281, 287, 71)]) (x := (0, 281, 292, 73)) (suf := []) (E := 3) rfl (by decide) rfl (by decide) (by decide) h1 h2 h3 ?_
                                refine lv_astore (lv' := [(5, .ref q), (0, .ref (B + 0)), (1, .int v1), (2, .int v2), (3, .int v3), (4, .int v4)]) hx hb dL_does_292 hl (by decide) rfl (fun ls hl => ?_)
                                refine lv_ldc (v := (-9999999 : Int32)) hx hb C.2.2.2.1 (C.2.2.2.2.1 _ wd_1247) dL_does_294 ?_
                                cases hf
                                exact W.widen (k := 1) (n := 6 * 1) (by decide) (by decide) (q_reti C hH trivial dL_does_296)
                              rw [if_neg e_2] at hf
                              cases hf
                            · refine q_xrun (ov := some (.int x10)) (q_xV (As := [.int v2, .int v3, .int (0 : Int32)]) C hH (ci := 10) rfl (by omega) gk_L_50 yd_X10_transliterate (by omega) (by omega) kc_0 (c_X10_transliterate (r := .inr x10) htr isZ_0 hc) hl.1 rfl (Nat.le_of_ble_eq_true rfl) dL_does_220 (xv_0 rfl xv_00)) hH (fun H locs hH hP => ?_)
                              refine lv_goto (tgt := 281) hx hb dL_does_223 (by decide) ?_
                              cases hf
                              exact W.widen (k := 1) (n := 6 * 1) (by decide) (by decide) (q_reti C hH trivial dL_does_281)
                          · refine lv_iconst (v := (1 : Int32)) hx hb dL_does_215 (by decide) ?_
                            refine lv_goto (tgt := 220) hx hb dL_does_216 (by decide) ?_
                            rcases bdc_some hf with ⟨k, w11, hc, hf⟩ | ⟨x12, w11, hc, hf⟩
                            · by_cases e_0 : k = 1
                              · subst e_0
                                rw [if_pos rfl] at hf
                                refine q_xrunX (k0 := 1) (q_xV (As := [.int v2, .int v3, .int (1 : Int32)]) C hH (ci := 10) rfl (by omega) gk_L_50 yd_X10_transliterate (by omega) (by omega) kc_0 (c_X10_transliterate (r := .inl 1) htr isZ_1 hc) hl.1 rfl (Nat.le_of_ble_eq_true rfl) dL_does_220 (xw_1 rfl)) hH (fun H locs ce q hH h1 h2 h3 => ?_)
                                refine q_catch C htab (pre := []) (x := (0, 281, 282, 68)) (suf := [(0, 281, 287, 71), (0, 281, 292, 73)]) (E := 1) rfl (by decide) rfl (by decide) (by decide) h1 h2 h3 ?_
                                refine lv_astore (lv' := [(5, .ref q), (0, .ref (B + 0)), (1, .int v1), (2, .int v2), (3, .int v3), (4, .int v4)]) hx hb dL_does_282 hl (by decide) rfl (fun ls hl => ?_)
                                refine lv_ldc (v := (-9999999 : Int32)) hx hb C.2.2.2.1 (C.2.2.2.2.1 _ wd_1247) dL_does_284 ?_
                                cases hf
                                exact W.widen (k := 1) (n := 6 * 1) (by decide) (by decide) (q_reti C hH trivial dL_does_286)
                              rw [if_neg e_0] at hf
                              by_cases e_1 : k = 2
                              · subst e_1
                                rw [if_pos rfl] at hf
                                refine q_xrunX (k0 := 2) (q_xV (As := [.int v2, .int v3, .int (1 : Int32)]) C hH (ci := 10) rfl (by omega) gk_L_50 yd_X10_transliterate (by omega) (by omega) kc_0 (c_X10_transliterate (r := .inl 2) htr isZ_1 hc) hl.1 rfl (Nat.le_of_ble_eq_true rfl) dL_does_220 (xw_1 rfl)) hH (fun H locs ce q hH h1 h2 h3 => ?_)
                                refine q_catch C htab (pre := [(0, 281, 282, 68)]) (x := (0, 281, 287, 71)) (suf := [(0, 281, 292, 73)]) (E := 2) rfl (by decide) rfl (by decide) (by decide) h1 h2 h3 ?_
                                refine lv_astore (lv' := [(5, .ref q), (0, .ref (B + 0)), (1, .int v1), (2, .int v2), (3, .int v3), (4, .int v4)]) hx hb dL_does_287 hl (by decide) rfl (fun ls hl => ?_)
                                refine lv_ldc (v := (-9999999 : Int32)) hx hb C.2.2.2.1 (C.2.2.2.2.1 _ wd_1247) dL_does_289 ?_
                                cases hf
                                exact W.widen (k := 1) (n := 6 * 1) (by decide) (by decide) (q_reti C hH trivial dL_does_291)
                              rw [if_neg e_1] at hf
                              by_cases e_2 : k = 3
                              · subst e_2
                                rw [if_pos rfl] at hf
                                refine q_xrunX (k0 := 3) (q_xV (As := [.int v2, .int v3, .int (1 : Int32)]) C hH (ci := 10) rfl (by omega) gk_L_50 yd_X10_transliterate (by omega) (by omega) kc_0 (c_X10_transliterate (r := .inl 3) htr isZ_1 hc) hl.1 rfl (Nat.le_of_ble_eq_true rfl) dL_does_220 (xw_1 rfl)) hH (fun H locs ce q hH h1 h2 h3 => ?_)
                                refine q_catch C htab (pre := [(0, 281, 282, 68), (0, 281, 287, 71)]) (x := (0, 281, 292, 73)) (suf := []) (E := 3) rfl (by decide) rfl (by decide) (by decide) h1 h2 h3 ?_
                                refine lv_astore (lv' := [(5, .ref q), (0, .ref (B + 0)), (1, .int v1), (2, .int v2), (3, .int v3), (4, .int v4)]) hx hb dL_does_292 hl (by decide) rfl (fun ls hl => ?_)
                                refine lv_ldc (v := (-9999999 : Int32)) hx hb C.2.2.2.1 (C.2.2.2.2.1 _ wd_1247) dL_does_294 ?_
                                cases hf
                                exact W.widen (k := 1) (n := 6 * 1) (by decide) (by decide) (q_reti C hH trivial dL_does_296)
                              rw [if_neg e_2] at hf
                              cases hf
                            · refine q_xrun (ov := some (.int x12)) (q_xV (As := [.int v2, .int v3, .int (1 : Int32)]) C hH (ci := 10) rfl (by omega) gk_L_50 yd_X10_transliterate (by omega) (by omega) kc_0 (c_X10_transliterate (r := .inr x12) htr isZ_1 hc) hl.1 rfl (Nat.le_of_ble_eq_true rfl) dL_does_220 (xv_0 rfl xv_00)) hH (fun H locs hH hP => ?_)
                              refine lv_goto (tgt := 281) hx hb dL_does_223 (by decide) ?_
                              cases hf
                              exact W.widen (k := 1) (n := 6 * 1) (by decide) (by decide) (q_reti C hH trivial dL_does_281)
                      · refine lv_aload_n hx hb dL_does_191 rfl (lv_at hl 0 rfl) ?_
                        refine lv_iload_n hx hb dL_does_192 rfl (lv_at hl 2 rfl) ?_
                        refine lv_iload_n hx hb dL_does_193 rfl (lv_at hl 3 rfl) ?_
                        rcases bdc_some hf with ⟨k, w13, hc, hf⟩ | ⟨x14, w13, hc, hf⟩
                        · by_cases e_0 : k = 1
                          · subst e_0
                            rw [if_pos rfl] at hf
                            refine q_xrunX (k0 := 1) (q_xV (As := [.int v2, .int v3]) C hH (ci := 10) rfl (by omega) gk_L_46 yd_X10_match (by omega) (by omega) kc_0 (c_X10_match (r := .inl 1) htr hc) hl.1 rfl (Nat.le_of_ble_eq_true rfl) dL_does_194 (xw_1 rfl)) hH (fun H locs ce q hH h1 h2 h3 => ?_)
                            refine q_catch C htab (pre := []) (x := (0, 281, 282, 68)) (suf := [(0, 281, 287, 71), (0, 281, 292, 73)]) (E := 1) rfl (by decide) rfl (by decide) (by decide) h1 h2 h3 ?_
                            refine lv_astore (lv' := [(5, .ref q), (0, .ref (B + 0)), (1, .int v1), (2, .int v2), (3, .int v3), (4, .int v4)]) hx hb dL_does_282 hl (by decide) rfl (fun ls hl => ?_)
                            refine lv_ldc (v := (-9999999 : Int32)) hx hb C.2.2.2.1 (C.2.2.2.2.1 _ wd_1247) dL_does_284 ?_
                            cases hf
                            exact W.widen (k := 1) (n := 6 * 1) (by decide) (by decide) (q_reti C hH trivial dL_does_286)
                          rw [if_neg e_0] at hf
                          by_cases e_1 : k = 2
                          · subst e_1
                            rw [if_pos rfl] at hf
                            refine q_xrunX (k0 := 2) (q_xV (As := [.int v2, .int v3]) C hH (ci := 10) rfl (by omega) gk_L_46 yd_X10_match (by omega) (by omega) kc_0 (c_X10_match (r := .inl 2) htr hc) hl.1 rfl (Nat.le_of_ble_eq_true rfl) dL_does_194 (xw_1 rfl)) hH (fun H locs ce q hH h1 h2 h3 => ?_)
                            refine q_catch C htab (pre := [(0, 281, 282, 68)]) (x := (0, 281, 287, 71)) (suf := [(0, 281, 292, 73)]) (E := 2) rfl (by decide) rfl (by decide) (by decide) h1 h2 h3 ?_
                            refine lv_astore (lv' := [(5, .ref q), (0, .ref (B + 0)), (1, .int v1), (2, .int v2), (3, .int v3), (4, .int v4)]) hx hb dL_does_287 hl (by decide) rfl (fun ls hl => ?_)
                            refine lv_ldc (v := (-9999999 : Int32)) hx hb C.2.2.2.1 (C.2.2.2.2.1 _ wd_1247) dL_does_289 ?_
                            cases hf
                            exact W.widen (k := 1) (n := 6 * 1) (by decide) (by decide) (q_reti C hH trivial dL_does_291)
                          rw [if_neg e_1] at hf
                          by_cases e_2 : k = 3
                          · subst e_2
                            rw [if_pos rfl] at hf
                            refine q_xrunX (k0 := 3) (q_xV (As := [.int v2, .int v3]) C hH (ci := 10) rfl (by omega) gk_L_46 yd_X10_match (by omega) (by omega) kc_0 (c_X10_match (r := .inl 3) htr hc) hl.1 rfl (Nat.le_of_ble_eq_true rfl) dL_does_194 (xw_1 rfl)) hH (fun H locs ce q hH h1 h2 h3 => ?_)
                            refine q_catch C htab (pre := [(0, 281, 282, 68), (0, 281, 287, 71)]) (x := (0, 281, 292, 73)) (suf := []) (E := 3) rfl (by decide) rfl (by decide) (by decide) h1 h2 h3 ?_
                            refine lv_astore (lv' := [(5, .ref q), (0, .ref (B + 0)), (1, .int v1), (2, .int v2), (3, .int v3), (4, .int v4)]) hx hb dL_does_292 hl (by decide) rfl (fun ls hl => ?_)
                            refine lv_ldc (v := (-9999999 : Int32)) hx hb C.2.2.2.1 (C.2.2.2.2.1 _ wd_1247) dL_does_294 ?_
                            cases hf
                            exact W.widen (k := 1) (n := 6 * 1) (by decide) (by decide) (q_reti C hH trivial dL_does_296)
                          rw [if_neg e_2] at hf
                          cases hf
                        · refine q_xrun (ov := some (.int x14)) (q_xV (As := [.int v2, .int v3]) C hH (ci := 10) rfl (by omega) gk_L_46 yd_X10_match (by omega) (by omega) kc_0 (c_X10_match (r := .inr x14) htr hc) hl.1 rfl (Nat.le_of_ble_eq_true rfl) dL_does_194 (xv_0 rfl xv_00)) hH (fun H locs hH hP => ?_)
                          refine lv_goto (tgt := 281) hx hb dL_does_197 (by decide) ?_
                          cases hf
                          exact W.widen (k := 1) (n := 6 * 1) (by decide) (by decide) (q_reti C hH trivial dL_does_281)
                    · refine lv_aload_n hx hb dL_does_178 rfl (lv_at hl 0 rfl) ?_
                      rcases bdc_some hf with ⟨k, w15, hc, hf⟩ | ⟨x16, w15, hc, hf⟩
                      · by_cases e_0 : k = 1
                        · subst e_0
                          rw [if_pos rfl] at hf
                          refine q_xrunX (k0 := 1) (q_xV (As := []) C hH (ci := 10) rfl (by omega) gk_L_42 yd_X10_pattern (by omega) (by omega) kc_0 (c_X10_pattern (r := .inl 1) htr hc) hl.1 rfl (Nat.le_of_ble_eq_true rfl) dL_does_179 (xw_1 rfl)) hH (fun H locs ce q hH h1 h2 h3 => ?_)
                          refine q_catch C htab (pre := []) (x := (0, 281, 282, 68)) (suf := [(0, 281, 287, 71), (0, 281, 292, 73)]) (E := 1) rfl (by decide) rfl (by decide) (by decide) h1 h2 h3 ?_
                          refine lv_astore (lv' := [(5, .ref q), (0, .ref (B + 0)), (1, .int v1), (2, .int v2), (3, .int v3), (4, .int v4)]) hx hb dL_does_282 hl (by decide) rfl (fun ls hl => ?_)
                          refine lv_ldc (v := (-9999999 : Int32)) hx hb C.2.2.2.1 (C.2.2.2.2.1 _ wd_1247) dL_does_284 ?_
                          cases hf
                          exact W.widen (k := 1) (n := 6 * 1) (by decide) (by decide) (q_reti C hH trivial dL_does_286)
                        rw [if_neg e_0] at hf
                        by_cases e_1 : k = 2
                        · subst e_1
                          rw [if_pos rfl] at hf
                          refine q_xrunX (k0 := 2) (q_xV (As := []) C hH (ci := 10) rfl (by omega) gk_L_42 yd_X10_pattern (by omega) (by omega) kc_0 (c_X10_pattern (r := .inl 2) htr hc) hl.1 rfl (Nat.le_of_ble_eq_true rfl) dL_does_179 (xw_1 rfl)) hH (fun H locs ce q hH h1 h2 h3 => ?_)
                          refine q_catch C htab (pre := [(0, 281, 282, 68)]) (x := (0, 281, 287, 71)) (suf := [(0, 281, 292, 73)]) (E := 2) rfl (by decide) rfl (by decide) (by decide) h1 h2 h3 ?_
                          refine lv_astore (lv' := [(5, .ref q), (0, .ref (B + 0)), (1, .int v1), (2, .int v2), (3, .int v3), (4, .int v4)]) hx hb dL_does_287 hl (by decide) rfl (fun ls hl => ?_)
                          refine lv_ldc (v := (-9999999 : Int32)) hx hb C.2.2.2.1 (C.2.2.2.2.1 _ wd_1247) dL_does_289 ?_
                          cases hf
                          exact W.widen (k := 1) (n := 6 * 1) (by decide) (by decide) (q_reti C hH trivial dL_does_291)
                        rw [if_neg e_1] at hf
                        by_cases e_2 : k = 3
                        · subst e_2
                          rw [if_pos rfl] at hf
                          refine q_xrunX (k0 := 3) (q_xV (As := []) C hH (ci := 10) rfl (by omega) gk_L_42 yd_X10_pattern (by omega) (by omega) kc_0 (c_X10_pattern (r := .inl 3) htr hc) hl.1 rfl (Nat.le_of_ble_eq_true rfl) dL_does_179 (xw_1 rfl)) hH (fun H locs ce q hH h1 h2 h3 => ?_)
                          refine q_catch C htab (pre := [(0, 281, 282, 68), (0, 281, 287, 71)]) (x := (0, 281, 292, 73)) (suf := []) (E := 3) rfl (by decide) rfl (by decide) (by decide) h1 h2 h3 ?_
                          refine lv_astore (lv' := [(5, .ref q), (0, .ref (B + 0)), (1, .int v1), (2, .int v2), (3, .int v3), (4, .int v4)]) hx hb dL_does_292 hl (by decide) rfl (fun ls hl => ?_)
                          refine lv_ldc (v := (-9999999 : Int32)) hx hb C.2.2.2.1 (C.2.2.2.2.1 _ wd_1247) dL_does_294 ?_
                          cases hf
                          exact W.widen (k := 1) (n := 6 * 1) (by decide) (by decide) (q_reti C hH trivial dL_does_296)
                        rw [if_neg e_2] at hf
                        cases hf
                      · refine q_xrun (ov := some (.int x16)) (q_xV (As := []) C hH (ci := 10) rfl (by omega) gk_L_42 yd_X10_pattern (by omega) (by omega) kc_0 (c_X10_pattern (r := .inr x16) htr hc) hl.1 rfl (Nat.le_of_ble_eq_true rfl) dL_does_179 (xv_0 rfl xv_00)) hH (fun H locs hH hP => ?_)
                        refine lv_goto (tgt := 281) hx hb dL_does_182 (by decide) ?_
                        cases hf
                        exact W.widen (k := 1) (n := 6 * 1) (by decide) (by decide) (q_reti C hH trivial dL_does_281)
                  · refine lv_aload_n hx hb dL_does_161 rfl (lv_at hl 0 rfl) ?_
                    refine lv_iload_n hx hb dL_does_162 rfl (lv_at hl 2 rfl) ?_
                    refine lv_iload_n hx hb dL_does_163 rfl (lv_at hl 3 rfl) ?_
                    refine lv_iload hx hb dL_does_164 (lv_at hl 4 rfl) ?_
                    rcases bdc_some hf with ⟨k, w17, hc, hf⟩ | ⟨x18, w17, hc, hf⟩
                    · by_cases e_0 : k = 1
                      · subst e_0
                        rw [if_pos rfl] at hf
                        refine q_xrunX (k0 := 1) (q_xV (As := [.int v2, .int v3, .int v4]) C hH (ci := 10) rfl (by omega) gk_L_39 yd_X10_find (by omega) (by omega) kc_0 (c_X10_find (r := .inl 1) htr hc) hl.1 rfl (Nat.le_of_ble_eq_true rfl) dL_does_166 (xw_1 rfl)) hH (fun H locs ce q hH h1 h2 h3 => ?_)
                        refine q_catch C htab (pre := []) (x := (0, 281, 282, 68)) (suf := [(0, 281, 287, 71), (0, 281, 292, 73)]) (E := 1) rfl (by decide) rfl (by decide) (by decide) h1 h2 h3 ?_
                        refine lv_astore (lv' := [(5, .ref q), (0, .ref (B + 0)), (1, .int v1), (2, .int v2), (3, .int v3), (4, .int v4)]) hx hb dL_does_282 hl (by decide) rfl (fun ls hl => ?_)
                        refine lv_ldc (v := (-9999999 : Int32)) hx hb C.2.2.2.1 (C.2.2.2.2.1 _ wd_1247) dL_does_284 ?_
                        cases hf
                        exact W.widen (k := 1) (n := 6 * 1) (by decide) (by decide) (q_reti C hH trivial dL_does_286)
                      rw [if_neg e_0] at hf
                      by_cases e_1 : k = 2
                      · subst e_1
                        rw [if_pos rfl] at hf
                        refine q_xrunX (k0 := 2) (q_xV (As := [.int v2, .int v3, .int v4]) C hH (ci := 10) rfl (by omega) gk_L_39 yd_X10_find (by omega) (by omega) kc_0 (c_X10_find (r := .inl 2) htr hc) hl.1 rfl (Nat.le_of_ble_eq_true rfl) dL_does_166 (xw_1 rfl)) hH (fun H locs ce q hH h1 h2 h3 => ?_)
                        refine q_catch C htab (pre := [(0, 281, 282, 68)]) (x := (0, 281, 287, 71)) (suf := [(0, 281, 292, 73)]) (E := 2) rfl (by decide) rfl (by decide) (by decide) h1 h2 h3 ?_
                        refine lv_astore (lv' := [(5, .ref q), (0, .ref (B + 0)), (1, .int v1), (2, .int v2), (3, .int v3), (4, .int v4)]) hx hb dL_does_287 hl (by decide) rfl (fun ls hl => ?_)
                        refine lv_ldc (v := (-9999999 : Int32)) hx hb C.2.2.2.1 (C.2.2.2.2.1 _ wd_1247) dL_does_289 ?_
                        cases hf
                        exact W.widen (k := 1) (n := 6 * 1) (by decide) (by decide) (q_reti C hH trivial dL_does_291)
                      rw [if_neg e_1] at hf
                      by_cases e_2 : k = 3
                      · subst e_2
                        rw [if_pos rfl] at hf
                        refine q_xrunX (k0 := 3) (q_xV (As := [.int v2, .int v3, .int v4]) C hH (ci := 10) rfl (by omega) gk_L_39 yd_X10_find (by omega) (by omega) kc_0 (c_X10_find (r := .inl 3) htr hc) hl.1 rfl (Nat.le_of_ble_eq_true rfl) dL_does_166 (xw_1 rfl)) hH (fun H locs ce q hH h1 h2 h3 => ?_)
                        refine q_catch C htab (pre := [(0, 281, 282, 68), (0, 281, 287, 71)]) (x := (0, 281, 292, 73)) (suf := []) (E := 3) rfl (by decide) rfl (by decide) (by decide) h1 h2 h3 ?_
                        refine lv_astore (lv' := [(5, .ref q), (0, .ref (B + 0)), (1, .int v1), (2, .int v2), (3, .int v3), (4, .int v4)]) hx hb dL_does_292 hl (by decide) rfl (fun ls hl => ?_)
                        refine lv_ldc (v := (-9999999 : Int32)) hx hb C.2.2.2.1 (C.2.2.2.2.1 _ wd_1247) dL_does_294 ?_
                        cases hf
                        exact W.widen (k := 1) (n := 6 * 1) (by decide) (by decide) (q_reti C hH trivial dL_does_296)
                      rw [if_neg e_2] at hf
                      cases hf
                    · refine q_xrun (ov := some (.int x18)) (q_xV (As := [.int v2, .int v3, .int v4]) C hH (ci := 10) rfl (by omega) gk_L_39 yd_X10_find (by omega) (by omega) kc_0 (c_X10_find (r := .inr x18) htr hc) hl.1 rfl (Nat.le_of_ble_eq_true rfl) dL_does_166 (xv_0 rfl xv_00)) hH (fun H locs hH hP => ?_)
                      refine lv_goto (tgt := 281) hx hb dL_does_169 (by decide) ?_
                      cases hf
                      exact W.widen (k := 1) (n := 6 * 1) (by decide) (by decide) (q_reti C hH trivial dL_does_281)
                · refine lv_aload_n hx hb dL_does_144 rfl (lv_at hl 0 rfl) ?_
                  refine lv_iload_n hx hb dL_does_145 rfl (lv_at hl 2 rfl) ?_
                  refine lv_iload_n hx hb dL_does_146 rfl (lv_at hl 3 rfl) ?_
                  refine lv_iload hx hb dL_does_147 (lv_at hl 4 rfl) ?_
                  rcases bdc_some hf with ⟨k, w19, hc, hf⟩ | ⟨x20, w19, hc, hf⟩
                  · by_cases e_0 : k = 1
                    · subst e_0
                      rw [if_pos rfl] at hf
                      refine q_xrunX (k0 := 1) (q_xV (As := [.int v2, .int v3, .int v4]) C hH (ci := 10) rfl (by omega) gk_L_36 yd_X10_key (by omega) (by omega) kc_0 (c_X10_key (r := .inl 1) htr hc) hl.1 rfl (Nat.le_of_ble_eq_true rfl) dL_does_149 (xw_1 rfl)) hH (fun H locs ce q hH h1 h2 h3 => ?_)
                      refine q_catch C htab (pre := []) (x := (0, 281, 282, 68)) (suf := [(0, 281, 287, 71), (0, 281, 292, 73)]) (E := 1) rfl (by decide) rfl (by decide) (by decide) h1 h2 h3 ?_
                      refine lv_astore (lv' := [(5, .ref q), (0, .ref (B + 0)), (1, .int v1), (2, .int v2), (3, .int v3), (4, .int v4)]) hx hb dL_does_282 hl (by decide) rfl (fun ls hl => ?_)
                      refine lv_ldc (v := (-9999999 : Int32)) hx hb C.2.2.2.1 (C.2.2.2.2.1 _ wd_1247) dL_does_284 ?_
                      cases hf
                      exact W.widen (k := 1) (n := 6 * 1) (by decide) (by decide) (q_reti C hH trivial dL_does_286)
                    rw [if_neg e_0] at hf
                    by_cases e_1 : k = 2
                    · subst e_1
                      rw [if_pos rfl] at hf
                      refine q_xrunX (k0 := 2) (q_xV (As := [.int v2, .int v3, .int v4]) C hH (ci := 10) rfl (by omega) gk_L_36 yd_X10_key (by omega) (by omega) kc_0 (c_X10_key (r := .inl 2) htr hc) hl.1 rfl (Nat.le_of_ble_eq_true rfl) dL_does_149 (xw_1 rfl)) hH (fun H locs ce q hH h1 h2 h3 => ?_)
                      refine q_catch C htab (pre := [(0, 281, 282, 68)]) (x := (0, 281, 287, 71)) (suf := [(0, 281, 292, 73)]) (E := 2) rfl (by decide) rfl (by decide) (by decide) h1 h2 h3 ?_
                      refine lv_astore (lv' := [(5, .ref q), (0, .ref (B + 0)), (1, .int v1), (2, .int v2), (3, .int v3), (4, .int v4)]) hx hb dL_does_287 hl (by decide) rfl (fun ls hl => ?_)
                      refine lv_ldc (v := (-9999999 : Int32)) hx hb C.2.2.2.1 (C.2.2.2.2.1 _ wd_1247) dL_does_289 ?_
                      cases hf
                      exact W.widen (k := 1) (n := 6 * 1) (by decide) (by decide) (q_reti C hH trivial dL_does_291)
                    rw [if_neg e_1] at hf
                    by_cases e_2 : k = 3
                    · subst e_2
                      rw [if_pos rfl] at hf
                      refine q_xrunX (k0 := 3) (q_xV (As := [.int v2, .int v3, .int v4]) C hH (ci := 10) rfl (by omega) gk_L_36 yd_X10_key (by omega) (by omega) kc_0 (c_X10_key (r := .inl 3) htr hc) hl.1 rfl (Nat.le_of_ble_eq_true rfl) dL_does_149 (xw_1 rfl)) hH (fun H locs ce q hH h1 h2 h3 => ?_)
                      refine q_catch C htab (pre := [(0, 281, 282, 68), (0, 281, 287, 71)]) (x := (0, 281, 292, 73)) (suf := []) (E := 3) rfl (by decide) rfl (by decide) (by decide) h1 h2 h3 ?_
                      refine lv_astore (lv' := [(5, .ref q), (0, .ref (B + 0)), (1, .int v1), (2, .int v2), (3, .int v3), (4, .int v4)]) hx hb dL_does_292 hl (by decide) rfl (fun ls hl => ?_)
                      refine lv_ldc (v := (-9999999 : Int32)) hx hb C.2.2.2.1 (C.2.2.2.2.1 _ wd_1247) dL_does_294 ?_
                      cases hf
                      exact W.widen (k := 1) (n := 6 * 1) (by decide) (by decide) (q_reti C hH trivial dL_does_296)
                    rw [if_neg e_2] at hf
                    cases hf
                  · refine q_xrun (ov := some (.int x20)) (q_xV (As := [.int v2, .int v3, .int v4]) C hH (ci := 10) rfl (by omega) gk_L_36 yd_X10_key (by omega) (by omega) kc_0 (c_X10_key (r := .inr x20) htr hc) hl.1 rfl (Nat.le_of_ble_eq_true rfl) dL_does_149 (xv_0 rfl xv_00)) hH (fun H locs hH hP => ?_)
                    refine lv_goto (tgt := 281) hx hb dL_does_152 (by decide) ?_
                    cases hf
                    exact W.widen (k := 1) (n := 6 * 1) (by decide) (by decide) (q_reti C hH trivial dL_does_281)
              · refine lv_aload_n hx hb dL_does_127 rfl (lv_at hl 0 rfl) ?_
                refine lv_iload_n hx hb dL_does_128 rfl (lv_at hl 2 rfl) ?_
                refine lv_iload_n hx hb dL_does_129 rfl (lv_at hl 3 rfl) ?_
                refine lv_iload hx hb dL_does_130 (lv_at hl 4 rfl) ?_
                rcases bdc_some hf with ⟨k, w21, hc, hf⟩ | ⟨x22, w21, hc, hf⟩
                · by_cases e_0 : k = 1
                  · subst e_0
                    rw [if_pos rfl] at hf
                    refine q_xrunX (k0 := 1) (q_xV (As := [.int v2, .int v3, .int v4]) C hH (ci := 10) rfl (by omega) gk_L_33 yd_X10_compare (by omega) (by omega) kc_0 (c_X10_compare (r := .inl 1) htr hc) hl.1 rfl (Nat.le_of_ble_eq_true rfl) dL_does_132 (xw_1 rfl)) hH (fun H locs ce q hH h1 h2 h3 => ?_)
                    refine q_catch C htab (pre := []) (x := (0, 281, 282, 68)) (suf := [(0, 281, 287, 71), (0, 281, 292, 73)]) (E := 1) rfl (by decide) rfl (by decide) (by decide) h1 h2 h3 ?_
                    refine lv_astore (lv' := [(5, .ref q), (0, .ref (B + 0)), (1, .int v1), (2, .int v2), (3, .int v3), (4, .int v4)]) hx hb dL_does_282 hl (by decide) rfl (fun ls hl => ?_)
                    refine lv_ldc (v := (-9999999 : Int32)) hx hb C.2.2.2.1 (C.2.2.2.2.1 _ wd_1247) dL_does_284 ?_
                    cases hf
                    exact W.widen (k := 1) (n := 6 * 1) (by decide) (by decide) (q_reti C hH trivial dL_does_286)
                  rw [if_neg e_0] at hf
                  by_cases e_1 : k = 2
                  · subst e_1
                    rw [if_pos rfl] at hf
                    refine q_xrunX (k0 := 2) (q_xV (As := [.int v2, .int v3, .int v4]) C hH (ci := 10) rfl (by omega) gk_L_33 yd_X10_compare (by omega) (by omega) kc_0 (c_X10_compare (r := .inl 2) htr hc) hl.1 rfl (Nat.le_of_ble_eq_true rfl) dL_does_132 (xw_1 rfl)) hH (fun H locs ce q hH h1 h2 h3 => ?_)
                    refine q_catch C htab (pre := [(0, 281, 282, 68)]) (x := (0, 281, 287, 71)) (suf := [(0, 281, 292, 73)]) (E := 2) rfl (by decide) rfl (by decide) (by decide) h1 h2 h3 ?_
                    refine lv_astore (lv' := [(5, .ref q), (0, .ref (B + 0)), (1, .int v1), (2, .int v2), (3, .int v3), (4, .int v4)]) hx hb dL_does_287 hl (by decide) rfl (fun ls hl => ?_)
                    refine lv_ldc (v := (-9999999 : Int32)) hx hb C.2.2.2.1 (C.2.2.2.2.1 _ wd_1247) dL_does_289 ?_
                    cases hf
                    exact W.widen (k := 1) (n := 6 * 1) (by decide) (by decide) (q_reti C hH trivial dL_does_291)
                  rw [if_neg e_1] at hf
                  by_cases e_2 : k = 3
                  · subst e_2
                    rw [if_pos rfl] at hf
                    refine q_xrunX (k0 := 3) (q_xV (As := [.int v2, .int v3, .int v4]) C hH (ci := 10) rfl (by omega) gk_L_33 yd_X10_compare (by omega) (by omega) kc_0 (c_X10_compare (r := .inl 3) htr hc) hl.1 rfl (Nat.le_of_ble_eq_true rfl) dL_does_132 (xw_1 rfl)) hH (fun H locs ce q hH h1 h2 h3 => ?_)
                    refine q_catch C htab (pre := [(0, 281, 282, 68), (0, 281, 287, 71)]) (x := (0, 281, 292, 73)) (suf := []) (E := 3) rfl (by decide) rfl (by decide) (by decide) h1 h2 h3 ?_
                    refine lv_astore (lv' := [(5, .ref q), (0, .ref (B + 0)), (1, .int v1), (2, .int v2), (3, .int v3), (4, .int v4)]) hx hb dL_does_292 hl (by decide) rfl (fun ls hl => ?_)
                    refine lv_ldc (v := (-9999999 : Int32)) hx hb C.2.2.2.1 (C.2.2.2.2.1 _ wd_1247) dL_does_294 ?_
                    cases hf
                    exact W.widen (k := 1) (n := 6 * 1) (by decide) (by decide) (q_reti C hH trivial dL_does_296)
                  rw [if_neg e_2] at hf
                  cases hf
                · refine q_xrun (ov := some (.int x22)) (q_xV (As := [.int v2, .int v3, .int v4]) C hH (ci := 10) rfl (by omega) gk_L_33 yd_X10_compare (by omega) (by omega) kc_0 (c_X10_compare (r := .inr x22) htr hc) hl.1 rfl (Nat.le_of_ble_eq_true rfl) dL_does_132 (xv_0 rfl xv_00)) hH (fun H locs hH hP => ?_)
                  refine lv_goto (tgt := 281) hx hb dL_does_135 (by decide) ?_
                  cases hf
                  exact W.widen (k := 1) (n := 6 * 1) (by decide) (by decide) (q_reti C hH trivial dL_does_281)
            · refine lv_aload_n hx hb dL_does_101 rfl (lv_at hl 0 rfl) ?_
              refine lv_iload_n hx hb dL_does_102 rfl (lv_at hl 2 rfl) ?_
              refine lv_iload_n hx hb dL_does_103 rfl (lv_at hl 3 rfl) ?_
              refine lv_iload hx hb dL_does_104 (lv_at hl 4 rfl) ?_
              refine lv_iconst (v := (1 : Int32)) hx hb dL_does_106 (by decide) ?_
              refine b_icmp_ne (tgt := 114) hx hb hf dL_does_107 (by decide) (fun hf => ?_) (fun hf => ?_)
              · refine lv_iconst (v := (0 : Int32)) hx hb dL_does_114 (by decide) ?_
                rcases bdc_some hf with ⟨k, w23, hc, hf⟩ | ⟨x24, w23, hc, hf⟩
                · by_cases e_0 : k = 1
                  · subst e_0
                    rw [if_pos rfl] at hf
                    refine q_xrunX (k0 := 1) (q_xV (As := [.int v2, .int v3, .int (0 : Int32)]) C hH (ci := 10) rfl (by omega) gk_L_30 yd_X10_bySense (by omega) (by omega) kc_0 (c_X10_bySense (r := .inl 1) htr isZ_0 hc) hl.1 rfl (Nat.le_of_ble_eq_true rfl) dL_does_115 (xw_1 rfl)) hH (fun H locs ce q hH h1 h2 h3 => ?_)
                    refine q_catch C htab (pre := []) (x := (0, 281, 282, 68)) (suf := [(0, 281, 287, 71), (0, 281, 292, 73)]) (E := 1) rfl (by decide) rfl (by decide) (by decide) h1 h2 h3 ?_
                    refine lv_astore (lv' := [(5, .ref q), (0, .ref (B + 0)), (1, .int v1), (2, .int v2), (3, .int v3), (4, .int v4)]) hx hb dL_does_282 hl (by decide) rfl (fun ls hl => ?_)
                    refine lv_ldc (v := (-9999999 : Int32)) hx hb C.2.2.2.1 (C.2.2.2.2.1 _ wd_1247) dL_does_284 ?_
                    cases hf
                    exact W.widen (k := 1) (n := 6 * 1) (by decide) (by decide) (q_reti C hH trivial dL_does_286)
                  rw [if_neg e_0] at hf
                  by_cases e_1 : k = 2
                  · subst e_1
                    rw [if_pos rfl] at hf
                    refine q_xrunX (k0 := 2) (q_xV (As := [.int v2, .int v3, .int (0 : Int32)]) C hH (ci := 10) rfl (by omega) gk_L_30 yd_X10_bySense (by omega) (by omega) kc_0 (c_X10_bySense (r := .inl 2) htr isZ_0 hc) hl.1 rfl (Nat.le_of_ble_eq_true rfl) dL_does_115 (xw_1 rfl)) hH (fun H locs ce q hH h1 h2 h3 => ?_)
                    refine q_catch C htab (pre := [(0, 281, 282, 68)]) (x := (0, 281, 287, 71)) (suf := [(0, 281, 292, 73)]) (E := 2) rfl (by decide) rfl (by decide) (by decide) h1 h2 h3 ?_
                    refine lv_astore (lv' := [(5, .ref q), (0, .ref (B + 0)), (1, .int v1), (2, .int v2), (3, .int v3), (4, .int v4)]) hx hb dL_does_287 hl (by decide) rfl (fun ls hl => ?_)
                    refine lv_ldc (v := (-9999999 : Int32)) hx hb C.2.2.2.1 (C.2.2.2.2.1 _ wd_1247) dL_does_289 ?_
                    cases hf
                    exact W.widen (k := 1) (n := 6 * 1) (by decide) (by decide) (q_reti C hH trivial dL_does_291)
                  rw [if_neg e_1] at hf
                  by_cases e_2 : k = 3
                  · subst e_2
                    rw [if_pos rfl] at hf
                    refine q_xrunX (k0 := 3) (q_xV (As := [.int v2, .int v3, .int (0 : Int32)]) C hH (ci := 10) rfl (by omega) gk_L_30 yd_X10_bySense (by omega) (by omega) kc_0 (c_X10_bySense (r := .inl 3) htr isZ_0 hc) hl.1 rfl (Nat.le_of_ble_eq_true rfl) dL_does_115 (xw_1 rfl)) hH (fun H locs ce q hH h1 h2 h3 => ?_)
                    refine q_catch C htab (pre := [(0, 281, 282, 68), (0, 281, 287, 71)]) (x := (0, 281, 292, 73)) (suf := []) (E := 3) rfl (by decide) rfl (by decide) (by decide) h1 h2 h3 ?_
                    refine lv_astore (lv' := [(5, .ref q), (0, .ref (B + 0)), (1, .int v1), (2, .int v2), (3, .int v3), (4, .int v4)]) hx hb dL_does_292 hl (by decide) rfl (fun ls hl => ?_)
                    refine lv_ldc (v := (-9999999 : Int32)) hx hb C.2.2.2.1 (C.2.2.2.2.1 _ wd_1247) dL_does_294 ?_
                    cases hf
                    exact W.widen (k := 1) (n := 6 * 1) (by decide) (by decide) (q_reti C hH trivial dL_does_296)
                  rw [if_neg e_2] at hf
                  cases hf
                · refine q_xrun (ov := some (.int x24)) (q_xV (As := [.int v2, .int v3, .int (0 : Int32)]) C hH (ci := 10) rfl (by omega) gk_L_30 yd_X10_bySense (by omega) (by omega) kc_0 (c_X10_bySense (r := .inr x24) htr isZ_0 hc) hl.1 rfl (Nat.le_of_ble_eq_true rfl) dL_does_115 (xv_0 rfl xv_00)) hH (fun H locs hH hP => ?_)
                  refine lv_goto (tgt := 281) hx hb dL_does_118 (by decide) ?_
                  cases hf
                  exact W.widen (k := 1) (n := 6 * 1) (by decide) (by decide) (q_reti C hH trivial dL_does_281)
              · refine lv_iconst (v := (1 : Int32)) hx hb dL_does_110 (by decide) ?_
                refine lv_goto (tgt := 115) hx hb dL_does_111 (by decide) ?_
                rcases bdc_some hf with ⟨k, w25, hc, hf⟩ | ⟨x26, w25, hc, hf⟩
                · by_cases e_0 : k = 1
                  · subst e_0
                    rw [if_pos rfl] at hf
                    refine q_xrunX (k0 := 1) (q_xV (As := [.int v2, .int v3, .int (1 : Int32)]) C hH (ci := 10) rfl (by omega) gk_L_30 yd_X10_bySense (by omega) (by omega) kc_0 (c_X10_bySense (r := .inl 1) htr isZ_1 hc) hl.1 rfl (Nat.le_of_ble_eq_true rfl) dL_does_115 (xw_1 rfl)) hH (fun H locs ce q hH h1 h2 h3 => ?_)
                    refine q_catch C htab (pre := []) (x := (0, 281, 282, 68)) (suf := [(0, 281, 287, 71), (0, 281, 292, 73)]) (E := 1) rfl (by decide) rfl (by decide) (by decide) h1 h2 h3 ?_
                    refine lv_astore (lv' := [(5, .ref q), (0, .ref (B + 0)), (1, .int v1), (2, .int v2), (3, .int v3), (4, .int v4)]) hx hb dL_does_282 hl (by decide) rfl (fun ls hl => ?_)
                    refine lv_ldc (v := (-9999999 : Int32)) hx hb C.2.2.2.1 (C.2.2.2.2.1 _ wd_1247) dL_does_284 ?_
                    cases hf
                    exact W.widen (k := 1) (n := 6 * 1) (by decide) (by decide) (q_reti C hH trivial dL_does_286)
                  rw [if_neg e_0] at hf
                  by_cases e_1 : k = 2
                  · subst e_1
                    rw [if_pos rfl] at hf
                    refine q_xrunX (k0 := 2) (q_xV (As := [.int v2, .int v3, .int (1 : Int32)]) C hH (ci := 10) rfl (by omega) gk_L_30 yd_X10_bySense (by omega) (by omega) kc_0 (c_X10_bySense (r := .inl 2) htr isZ_1 hc) hl.1 rfl (Nat.le_of_ble_eq_true rfl) dL_does_115 (xw_1 rfl)) hH (fun H locs ce q hH h1 h2 h3 => ?_)
                    refine q_catch C htab (pre := [(0, 281, 282, 68)]) (x := (0, 281, 287, 71)) (suf := [(0, 281, 292, 73)]) (E := 2) rfl (by decide) rfl (by decide) (by decide) h1 h2 h3 ?_
                    refine lv_astore (lv' := [(5, .ref q), (0, .ref (B + 0)), (1, .int v1), (2, .int v2), (3, .int v3), (4, .int v4)]) hx hb dL_does_287 hl (by decide) rfl (fun ls hl => ?_)
                    refine lv_ldc (v := (-9999999 : Int32)) hx hb C.2.2.2.1 (C.2.2.2.2.1 _ wd_1247) dL_does_289 ?_
                    cases hf
                    exact W.widen (k := 1) (n := 6 * 1) (by decide) (by decide) (q_reti C hH trivial dL_does_291)
                  rw [if_neg e_1] at hf
                  by_cases e_2 : k = 3
                  · subst e_2
                    rw [if_pos rfl] at hf
                    refine q_xrunX (k0 := 3) (q_xV (As := [.int v2, .int v3, .int (1 : Int32)]) C hH (ci := 10) rfl (by omega) gk_L_30 yd_X10_bySense (by omega) (by omega) kc_0 (c_X10_bySense (r := .inl 3) htr isZ_1 hc) hl.1 rfl (Nat.le_of_ble_eq_true rfl) dL_does_115 (xw_1 rfl)) hH (fun H locs ce q hH h1 h2 h3 => ?_)
                    refine q_catch C htab (pre := [(0, 281, 282, 68), (0, 281, 287, 71)]) (x := (0, 281, 292, 73)) (suf := []) (E := 3) rfl (by decide) rfl (by decide) (by decide) h1 h2 h3 ?_
                    refine lv_astore (lv' := [(5, .ref q), (0, .ref (B + 0)), (1, .int v1), (2, .int v2), (3, .int v3), (4, .int v4)]) hx hb dL_does_292 hl (by decide) rfl (fun ls hl => ?_)
                    refine lv_ldc (v := (-9999999 : Int32)) hx hb C.2.2.2.1 (C.2.2.2.2.1 _ wd_1247) dL_does_294 ?_
                    cases hf
                    exact W.widen (k := 1) (n := 6 * 1) (by decide) (by decide) (q_reti C hH trivial dL_does_296)
                  rw [if_neg e_2] at hf
                  cases hf
                · refine q_xrun (ov := some (.int x26)) (q_xV (As := [.int v2, .int v3, .int (1 : Int32)]) C hH (ci := 10) rfl (by omega) gk_L_30 yd_X10_bySense (by omega) (by omega) kc_0 (c_X10_bySense (r := .inr x26) htr isZ_1 hc) hl.1 rfl (Nat.le_of_ble_eq_true rfl) dL_does_115 (xv_0 rfl xv_00)) hH (fun H locs hH hP => ?_)
                  refine lv_goto (tgt := 281) hx hb dL_does_118 (by decide) ?_
                  cases hf
                  exact W.widen (k := 1) (n := 6 * 1) (by decide) (by decide) (q_reti C hH trivial dL_does_281)
          · refine lv_aload_n hx hb dL_does_75 rfl (lv_at hl 0 rfl) ?_
            refine lv_iload_n hx hb dL_does_76 rfl (lv_at hl 2 rfl) ?_
            refine lv_iload_n hx hb dL_does_77 rfl (lv_at hl 3 rfl) ?_
            refine lv_iload hx hb dL_does_78 (lv_at hl 4 rfl) ?_
            refine lv_iconst (v := (1 : Int32)) hx hb dL_does_80 (by decide) ?_
            refine b_icmp_ne (tgt := 88) hx hb hf dL_does_81 (by decide) (fun hf => ?_) (fun hf => ?_)
            · refine lv_iconst (v := (0 : Int32)) hx hb dL_does_88 (by decide) ?_
              rcases bdc_some hf with ⟨k, w27, hc, hf⟩ | ⟨x28, w27, hc, hf⟩
              · by_cases e_0 : k = 1
                · subst e_0
                  rw [if_pos rfl] at hf
                  refine q_xrunX (k0 := 1) (q_xV (As := [.int v2, .int v3, .int (0 : Int32)]) C hH (ci := 10) rfl (by omega) gk_L_26 yd_X10_bySight (by omega) (by omega) kc_0 (c_X10_bySight (r := .inl 1) htr isZ_0 hc) hl.1 rfl (Nat.le_of_ble_eq_true rfl) dL_does_89 (xw_1 rfl)) hH (fun H locs ce q hH h1 h2 h3 => ?_)
                  refine q_catch C htab (pre := []) (x := (0, 281, 282, 68)) (suf := [(0, 281, 287, 71), (0, 281, 292, 73)]) (E := 1) rfl (by decide) rfl (by decide) (by decide) h1 h2 h3 ?_
                  refine lv_astore (lv' := [(5, .ref q), (0, .ref (B + 0)), (1, .int v1), (2, .int v2), (3, .int v3), (4, .int v4)]) hx hb dL_does_282 hl (by decide) rfl (fun ls hl => ?_)
                  refine lv_ldc (v := (-9999999 : Int32)) hx hb C.2.2.2.1 (C.2.2.2.2.1 _ wd_1247) dL_does_284 ?_
                  cases hf
                  exact W.widen (k := 1) (n := 6 * 1) (by decide) (by decide) (q_reti C hH trivial dL_does_286)
                rw [if_neg e_0] at hf
                by_cases e_1 : k = 2
                · subst e_1
                  rw [if_pos rfl] at hf
                  refine q_xrunX (k0 := 2) (q_xV (As := [.int v2, .int v3, .int (0 : Int32)]) C hH (ci := 10) rfl (by omega) gk_L_26 yd_X10_bySight (by omega) (by omega) kc_0 (c_X10_bySight (r := .inl 2) htr isZ_0 hc) hl.1 rfl (Nat.le_of_ble_eq_true rfl) dL_does_89 (xw_1 rfl)) hH (fun H locs ce q hH h1 h2 h3 => ?_)
                  refine q_catch C htab (pre := [(0, 281, 282, 68)]) (x := (0, 281, 287, 71)) (suf := [(0, 281, 292, 73)]) (E := 2) rfl (by decide) rfl (by decide) (by decide) h1 h2 h3 ?_
                  refine lv_astore (lv' := [(5, .ref q), (0, .ref (B + 0)), (1, .int v1), (2, .int v2), (3, .int v3), (4, .int v4)]) hx hb dL_does_287 hl (by decide) rfl (fun ls hl => ?_)
                  refine lv_ldc (v := (-9999999 : Int32)) hx hb C.2.2.2.1 (C.2.2.2.2.1 _ wd_1247) dL_does_289 ?_
                  cases hf
                  exact W.widen (k := 1) (n := 6 * 1) (by decide) (by decide) (q_reti C hH trivial dL_does_291)
                rw [if_neg e_1] at hf
                by_cases e_2 : k = 3
                · subst e_2
                  rw [if_pos rfl] at hf
                  refine q_xrunX (k0 := 3) (q_xV (As := [.int v2, .int v3, .int (0 : Int32)]) C hH (ci := 10) rfl (by omega) gk_L_26 yd_X10_bySight (by omega) (by omega) kc_0 (c_X10_bySight (r := .inl 3) htr isZ_0 hc) hl.1 rfl (Nat.le_of_ble_eq_true rfl) dL_does_89 (xw_1 rfl)) hH (fun H locs ce q hH h1 h2 h3 => ?_)
                  refine q_catch C htab (pre := [(0, 281, 282, 68), (0, 281, 287, 71)]) (x := (0, 281, 292, 73)) (suf := []) (E := 3) rfl (by decide) rfl (by decide) (by decide) h1 h2 h3 ?_
                  refine lv_astore (lv' := [(5, .ref q), (0, .ref (B + 0)), (1, .int v1), (2, .int v2), (3, .int v3), (4, .int v4)]) hx hb dL_does_292 hl (by decide) rfl (fun ls hl => ?_)
                  refine lv_ldc (v := (-9999999 : Int32)) hx hb C.2.2.2.1 (C.2.2.2.2.1 _ wd_1247) dL_does_294 ?_
                  cases hf
                  exact W.widen (k := 1) (n := 6 * 1) (by decide) (by decide) (q_reti C hH trivial dL_does_296)
                rw [if_neg e_2] at hf
                cases hf
              · refine q_xrun (ov := some (.int x28)) (q_xV (As := [.int v2, .int v3, .int (0 : Int32)]) C hH (ci := 10) rfl (by omega) gk_L_26 yd_X10_bySight (by omega) (by omega) kc_0 (c_X10_bySight (r := .inr x28) htr isZ_0 hc) hl.1 rfl (Nat.le_of_ble_eq_true rfl) dL_does_89 (xv_0 rfl xv_00)) hH (fun H locs hH hP => ?_)
                refine lv_goto (tgt := 281) hx hb dL_does_92 (by decide) ?_
                cases hf
                exact W.widen (k := 1) (n := 6 * 1) (by decide) (by decide) (q_reti C hH trivial dL_does_281)
            · refine lv_iconst (v := (1 : Int32)) hx hb dL_does_84 (by decide) ?_
              refine lv_goto (tgt := 89) hx hb dL_does_85 (by decide) ?_
              rcases bdc_some hf with ⟨k, w29, hc, hf⟩ | ⟨x30, w29, hc, hf⟩
              · by_cases e_0 : k = 1
                · subst e_0
                  rw [if_pos rfl] at hf
                  refine q_xrunX (k0 := 1) (q_xV (As := [.int v2, .int v3, .int (1 : Int32)]) C hH (ci := 10) rfl (by omega) gk_L_26 yd_X10_bySight (by omega) (by omega) kc_0 (c_X10_bySight (r := .inl 1) htr isZ_1 hc) hl.1 rfl (Nat.le_of_ble_eq_true rfl) dL_does_89 (xw_1 rfl)) hH (fun H locs ce q hH h1 h2 h3 => ?_)
                  refine q_catch C htab (pre := []) (x := (0, 281, 282, 68)) (suf := [(0, 281, 287, 71), (0, 281, 292, 73)]) (E := 1) rfl (by decide) rfl (by decide) (by decide) h1 h2 h3 ?_
                  refine lv_astore (lv' := [(5, .ref q), (0, .ref (B + 0)), (1, .int v1), (2, .int v2), (3, .int v3), (4, .int v4)]) hx hb dL_does_282 hl (by decide) rfl (fun ls hl => ?_)
                  refine lv_ldc (v := (-9999999 : Int32)) hx hb C.2.2.2.1 (C.2.2.2.2.1 _ wd_1247) dL_does_284 ?_
                  cases hf
                  exact W.widen (k := 1) (n := 6 * 1) (by decide) (by decide) (q_reti C hH trivial dL_does_286)
                rw [if_neg e_0] at hf
                by_cases e_1 : k = 2
                · subst e_1
                  rw [if_pos rfl] at hf
                  refine q_xrunX (k0 := 2) (q_xV (As := [.int v2, .int v3, .int (1 : Int32)]) C hH (ci := 10) rfl (by omega) gk_L_26 yd_X10_bySight (by omega) (by omega) kc_0 (c_X10_bySight (r := .inl 2) htr isZ_1 hc) hl.1 rfl (Nat.le_of_ble_eq_true rfl) dL_does_89 (xw_1 rfl)) hH (fun H locs ce q hH h1 h2 h3 => ?_)
                  refine q_catch C htab (pre := [(0, 281, 282, 68)]) (x := (0, 281, 287, 71)) (suf := [(0, 281, 292, 73)]) (E := 2) rfl (by decide) rfl (by decide) (by decide) h1 h2 h3 ?_
                  refine lv_astore (lv' := [(5, .ref q), (0, .ref (B + 0)), (1, .int v1), (2, .int v2), (3, .int v3), (4, .int v4)]) hx hb dL_does_287 hl (by decide) rfl (fun ls hl => ?_)
                  refine lv_ldc (v := (-9999999 : Int32)) hx hb C.2.2.2.1 (C.2.2.2.2.1 _ wd_1247) dL_does_289 ?_
                  cases hf
                  exact W.widen (k := 1) (n := 6 * 1) (by decide) (by decide) (q_reti C hH trivial dL_does_291)
                rw [if_neg e_1] at hf
                by_cases e_2 : k = 3
                · subst e_2
                  rw [if_pos rfl] at hf
                  refine q_xrunX (k0 := 3) (q_xV (As := [.int v2, .int v3, .int (1 : Int32)]) C hH (ci := 10) rfl (by omega) gk_L_26 yd_X10_bySight (by omega) (by omega) kc_0 (c_X10_bySight (r := .inl 3) htr isZ_1 hc) hl.1 rfl (Nat.le_of_ble_eq_true rfl) dL_does_89 (xw_1 rfl)) hH (fun H locs ce q hH h1 h2 h3 => ?_)
                  refine q_catch C htab (pre := [(0, 281, 282, 68), (0, 281, 287, 71)]) (x := (0, 281, 292, 73)) (suf := []) (E := 3) rfl (by decide) rfl (by decide) (by decide) h1 h2 h3 ?_
                  refine lv_astore (lv' := [(5, .ref q), (0, .ref (B + 0)), (1, .int v1), (2, .int v2), (3, .int v3), (4, .int v4)]) hx hb dL_does_292 hl (by decide) rfl (fun ls hl => ?_)
                  refine lv_ldc (v := (-9999999 : Int32)) hx hb C.2.2.2.1 (C.2.2.2.2.1 _ wd_1247) dL_does_294 ?_
                  cases hf
                  exact W.widen (k := 1) (n := 6 * 1) (by decide) (by decide) (q_reti C hH trivial dL_does_296)
                rw [if_neg e_2] at hf
                cases hf
              · refine q_xrun (ov := some (.int x30)) (q_xV (As := [.int v2, .int v3, .int (1 : Int32)]) C hH (ci := 10) rfl (by omega) gk_L_26 yd_X10_bySight (by omega) (by omega) kc_0 (c_X10_bySight (r := .inr x30) htr isZ_1 hc) hl.1 rfl (Nat.le_of_ble_eq_true rfl) dL_does_89 (xv_0 rfl xv_00)) hH (fun H locs hH hP => ?_)
                refine lv_goto (tgt := 281) hx hb dL_does_92 (by decide) ?_
                cases hf
                exact W.widen (k := 1) (n := 6 * 1) (by decide) (by decide) (q_reti C hH trivial dL_does_281)
        · refine lv_aload_n hx hb dL_does_58 rfl (lv_at hl 0 rfl) ?_
          refine lv_iload_n hx hb dL_does_59 rfl (lv_at hl 2 rfl) ?_
          refine lv_iload_n hx hb dL_does_60 rfl (lv_at hl 3 rfl) ?_
          refine lv_iload hx hb dL_does_61 (lv_at hl 4 rfl) ?_
          rcases bdc_some hf with ⟨k, w31, hc, hf⟩ | ⟨x32, w31, hc, hf⟩
          · by_cases e_0 : k = 1
            · subst e_0
              rw [if_pos rfl] at hf
              refine q_xrunX (k0 := 1) (q_xV (As := [.int v2, .int v3, .int v4]) C hH (ci := 10) rfl (by omega) gk_L_23 yd_X10_shown (by omega) (by omega) kc_0 (c_X10_shown (r := .inl 1) htr hc) hl.1 rfl (Nat.le_of_ble_eq_true rfl) dL_does_63 (xw_1 rfl)) hH (fun H locs ce q hH h1 h2 h3 => ?_)
              refine q_catch C htab (pre := []) (x := (0, 281, 282, 68)) (suf := [(0, 281, 287, 71), (0, 281, 292, 73)]) (E := 1) rfl (by decide) rfl (by decide) (by decide) h1 h2 h3 ?_
              refine lv_astore (lv' := [(5, .ref q), (0, .ref (B + 0)), (1, .int v1), (2, .int v2), (3, .int v3), (4, .int v4)]) hx hb dL_does_282 hl (by decide) rfl (fun ls hl => ?_)
              refine lv_ldc (v := (-9999999 : Int32)) hx hb C.2.2.2.1 (C.2.2.2.2.1 _ wd_1247) dL_does_284 ?_
              cases hf
              exact W.widen (k := 1) (n := 6 * 1) (by decide) (by decide) (q_reti C hH trivial dL_does_286)
            rw [if_neg e_0] at hf
            by_cases e_1 : k = 2
            · subst e_1
              rw [if_pos rfl] at hf
              refine q_xrunX (k0 := 2) (q_xV (As := [.int v2, .int v3, .int v4]) C hH (ci := 10) rfl (by omega) gk_L_23 yd_X10_shown (by omega) (by omega) kc_0 (c_X10_shown (r := .inl 2) htr hc) hl.1 rfl (Nat.le_of_ble_eq_true rfl) dL_does_63 (xw_1 rfl)) hH (fun H locs ce q hH h1 h2 h3 => ?_)
              refine q_catch C htab (pre := [(0, 281, 282, 68)]) (x := (0, 281, 287, 71)) (suf := [(0, 281, 292, 73)]) (E := 2) rfl (by decide) rfl (by decide) (by decide) h1 h2 h3 ?_
              refine lv_astore (lv' := [(5, .ref q), (0, .ref (B + 0)), (1, .int v1), (2, .int v2), (3, .int v3), (4, .int v4)]) hx hb dL_does_287 hl (by decide) rfl (fun ls hl => ?_)
              refine lv_ldc (v := (-9999999 : Int32)) hx hb C.2.2.2.1 (C.2.2.2.2.1 _ wd_1247) dL_does_289 ?_
              cases hf
              exact W.widen (k := 1) (n := 6 * 1) (by decide) (by decide) (q_reti C hH trivial dL_does_291)
            rw [if_neg e_1] at hf
            by_cases e_2 : k = 3
            · subst e_2
              rw [if_pos rfl] at hf
              refine q_xrunX (k0 := 3) (q_xV (As := [.int v2, .int v3, .int v4]) C hH (ci := 10) rfl (by omega) gk_L_23 yd_X10_shown (by omega) (by omega) kc_0 (c_X10_shown (r := .inl 3) htr hc) hl.1 rfl (Nat.le_of_ble_eq_true rfl) dL_does_63 (xw_1 rfl)) hH (fun H locs ce q hH h1 h2 h3 => ?_)
              refine q_catch C htab (pre := [(0, 281, 282, 68), (0, 281, 287, 71)]) (x := (0, 281, 292, 73)) (suf := []) (E := 3) rfl (by decide) rfl (by decide) (by decide) h1 h2 h3 ?_
              refine lv_astore (lv' := [(5, .ref q), (0, .ref (B + 0)), (1, .int v1), (2, .int v2), (3, .int v3), (4, .int v4)]) hx hb dL_does_292 hl (by decide) rfl (fun ls hl => ?_)
              refine lv_ldc (v := (-9999999 : Int32)) hx hb C.2.2.2.1 (C.2.2.2.2.1 _ wd_1247) dL_does_294 ?_
              cases hf
              exact W.widen (k := 1) (n := 6 * 1) (by decide) (by decide) (q_reti C hH trivial dL_does_296)
            rw [if_neg e_2] at hf
            cases hf
          · refine q_xrun (ov := some (.int x32)) (q_xV (As := [.int v2, .int v3, .int v4]) C hH (ci := 10) rfl (by omega) gk_L_23 yd_X10_shown (by omega) (by omega) kc_0 (c_X10_shown (r := .inr x32) htr hc) hl.1 rfl (Nat.le_of_ble_eq_true rfl) dL_does_63 (xv_0 rfl xv_00)) hH (fun H locs hH hP => ?_)
            refine lv_goto (tgt := 281) hx hb dL_does_66 (by decide) ?_
            cases hf
            exact W.widen (k := 1) (n := 6 * 1) (by decide) (by decide) (q_reti C hH trivial dL_does_281)
      · refine lv_aload_n hx hb dL_does_41 rfl (lv_at hl 0 rfl) ?_
        refine lv_iload_n hx hb dL_does_42 rfl (lv_at hl 2 rfl) ?_
        refine lv_iload_n hx hb dL_does_43 rfl (lv_at hl 3 rfl) ?_
        refine lv_iload hx hb dL_does_44 (lv_at hl 4 rfl) ?_
        rcases bdc_some hf with ⟨k, w33, hc, hf⟩ | ⟨x34, w33, hc, hf⟩
        · by_cases e_0 : k = 1
          · subst e_0
            rw [if_pos rfl] at hf
            refine q_xrunX (k0 := 1) (q_xV (As := [.int v2, .int v3, .int v4]) C hH (ci := 10) rfl (by omega) gk_L_17 yd_X10_level (by omega) (by omega) kc_0 (c_X10_level (r := .inl 1) htr hc) hl.1 rfl (Nat.le_of_ble_eq_true rfl) dL_does_46 (xw_1 rfl)) hH (fun H locs ce q hH h1 h2 h3 => ?_)
            refine q_catch C htab (pre := []) (x := (0, 281, 282, 68)) (suf := [(0, 281, 287, 71), (0, 281, 292, 73)]) (E := 1) rfl (by decide) rfl (by decide) (by decide) h1 h2 h3 ?_
            refine lv_astore (lv' := [(5, .ref q), (0, .ref (B + 0)), (1, .int v1), (2, .int v2), (3, .int v3), (4, .int v4)]) hx hb dL_does_282 hl (by decide) rfl (fun ls hl => ?_)
            refine lv_ldc (v := (-9999999 : Int32)) hx hb C.2.2.2.1 (C.2.2.2.2.1 _ wd_1247) dL_does_284 ?_
            cases hf
            exact W.widen (k := 1) (n := 6 * 1) (by decide) (by decide) (q_reti C hH trivial dL_does_286)
          rw [if_neg e_0] at hf
          by_cases e_1 : k = 2
          · subst e_1
            rw [if_pos rfl] at hf
            refine q_xrunX (k0 := 2) (q_xV (As := [.int v2, .int v3, .int v4]) C hH (ci := 10) rfl (by omega) gk_L_17 yd_X10_level (by omega) (by omega) kc_0 (c_X10_level (r := .inl 2) htr hc) hl.1 rfl (Nat.le_of_ble_eq_true rfl) dL_does_46 (xw_1 rfl)) hH (fun H locs ce q hH h1 h2 h3 => ?_)
            refine q_catch C htab (pre := [(0, 281, 282, 68)]) (x := (0, 281, 287, 71)) (suf := [(0, 281, 292, 73)]) (E := 2) rfl (by decide) rfl (by decide) (by decide) h1 h2 h3 ?_
            refine lv_astore (lv' := [(5, .ref q), (0, .ref (B + 0)), (1, .int v1), (2, .int v2), (3, .int v3), (4, .int v4)]) hx hb dL_does_287 hl (by decide) rfl (fun ls hl => ?_)
            refine lv_ldc (v := (-9999999 : Int32)) hx hb C.2.2.2.1 (C.2.2.2.2.1 _ wd_1247) dL_does_289 ?_
            cases hf
            exact W.widen (k := 1) (n := 6 * 1) (by decide) (by decide) (q_reti C hH trivial dL_does_291)
          rw [if_neg e_1] at hf
          by_cases e_2 : k = 3
          · subst e_2
            rw [if_pos rfl] at hf
            refine q_xrunX (k0 := 3) (q_xV (As := [.int v2, .int v3, .int v4]) C hH (ci := 10) rfl (by omega) gk_L_17 yd_X10_level (by omega) (by omega) kc_0 (c_X10_level (r := .inl 3) htr hc) hl.1 rfl (Nat.le_of_ble_eq_true rfl) dL_does_46 (xw_1 rfl)) hH (fun H locs ce q hH h1 h2 h3 => ?_)
            refine q_catch C htab (pre := [(0, 281, 282, 68), (0, 281, 287, 71)]) (x := (0, 281, 292, 73)) (suf := []) (E := 3) rfl (by decide) rfl (by decide) (by decide) h1 h2 h3 ?_
            refine lv_astore (lv' := [(5, .ref q), (0, .ref (B + 0)), (1, .int v1), (2, .int v2), (3, .int v3), (4, .int v4)]) hx hb dL_does_292 hl (by decide) rfl (fun ls hl => ?_)
            refine lv_ldc (v := (-9999999 : Int32)) hx hb C.2.2.2.1 (C.2.2.2.2.1 _ wd_1247) dL_does_294 ?_
            cases hf
            exact W.widen (k := 1) (n := 6 * 1) (by decide) (by decide) (q_reti C hH trivial dL_does_296)
          rw [if_neg e_2] at hf
          cases hf
        · refine q_xrun (ov := some (.int x34)) (q_xV (As := [.int v2, .int v3, .int v4]) C hH (ci := 10) rfl (by omega) gk_L_17 yd_X10_level (by omega) (by omega) kc_0 (c_X10_level (r := .inr x34) htr hc) hl.1 rfl (Nat.le_of_ble_eq_true rfl) dL_does_46 (xv_0 rfl xv_00)) hH (fun H locs hH hP => ?_)
          refine lv_goto (tgt := 281) hx hb dL_does_49 (by decide) ?_
          cases hf
          exact W.widen (k := 1) (n := 6 * 1) (by decide) (by decide) (q_reti C hH trivial dL_does_281)
    · refine lv_aload_n hx hb dL_does_23 rfl (lv_at hl 0 rfl) ?_
      refine lv_iload_n hx hb dL_does_24 rfl (lv_at hl 1 rfl) ?_
      refine lv_iload_n hx hb dL_does_25 rfl (lv_at hl 2 rfl) ?_
      refine lv_iload_n hx hb dL_does_26 rfl (lv_at hl 3 rfl) ?_
      refine lv_iload hx hb dL_does_27 (lv_at hl 4 rfl) ?_
      rcases bdc_some hf with ⟨k, w35, hc, hf⟩ | ⟨x36, w35, hc, hf⟩
      · by_cases e_0 : k = 1
        · subst e_0
          rw [if_pos rfl] at hf
          refine q_xrunX (k0 := 1) (q_xS (As := [.ref (B + 0), .int v1, .int v2, .int v3, .int v4]) C hH gk_L_14 yd_L_first (by omega) (by omega) (c_L_first (r := .inl 1) htr hc) hl.1 rfl (Nat.le_of_ble_eq_true rfl) dL_does_29 (xw_1 rfl)) hH (fun H locs ce q hH h1 h2 h3 => ?_)
          refine q_catch C htab (pre := []) (x := (0, 281, 282, 68)) (suf := [(0, 281, 287, 71), (0, 281, 292, 73)]) (E := 1) rfl (by decide) rfl (by decide) (by decide) h1 h2 h3 ?_
          refine lv_astore (lv' := [(5, .ref q), (0, .ref (B + 0)), (1, .int v1), (2, .int v2), (3, .int v3), (4, .int v4)]) hx hb dL_does_282 hl (by decide) rfl (fun ls hl => ?_)
          refine lv_ldc (v := (-9999999 : Int32)) hx hb C.2.2.2.1 (C.2.2.2.2.1 _ wd_1247) dL_does_284 ?_
          cases hf
          exact W.widen (k := 1) (n := 6 * 1) (by decide) (by decide) (q_reti C hH trivial dL_does_286)
        rw [if_neg e_0] at hf
        by_cases e_1 : k = 2
        · subst e_1
          rw [if_pos rfl] at hf
          refine q_xrunX (k0 := 2) (q_xS (As := [.ref (B + 0), .int v1, .int v2, .int v3, .int v4]) C hH gk_L_14 yd_L_first (by omega) (by omega) (c_L_first (r := .inl 2) htr hc) hl.1 rfl (Nat.le_of_ble_eq_true rfl) dL_does_29 (xw_1 rfl)) hH (fun H locs ce q hH h1 h2 h3 => ?_)
          refine q_catch C htab (pre := [(0, 281, 282, 68)]) (x := (0, 281, 287, 71)) (suf := [(0, 281, 292, 73)]) (E := 2) rfl (by decide) rfl (by decide) (by decide) h1 h2 h3 ?_
          refine lv_astore (lv' := [(5, .ref q), (0, .ref (B + 0)), (1, .int v1), (2, .int v2), (3, .int v3), (4, .int v4)]) hx hb dL_does_287 hl (by decide) rfl (fun ls hl => ?_)
          refine lv_ldc (v := (-9999999 : Int32)) hx hb C.2.2.2.1 (C.2.2.2.2.1 _ wd_1247) dL_does_289 ?_
          cases hf
          exact W.widen (k := 1) (n := 6 * 1) (by decide) (by decide) (q_reti C hH trivial dL_does_291)
        rw [if_neg e_1] at hf
        by_cases e_2 : k = 3
        · subst e_2
          rw [if_pos rfl] at hf
          refine q_xrunX (k0 := 3) (q_xS (As := [.ref (B + 0), .int v1, .int v2, .int v3, .int v4]) C hH gk_L_14 yd_L_first (by omega) (by omega) (c_L_first (r := .inl 3) htr hc) hl.1 rfl (Nat.le_of_ble_eq_true rfl) dL_does_29 (xw_1 rfl)) hH (fun H locs ce q hH h1 h2 h3 => ?_)
          refine q_catch C htab (pre := [(0, 281, 282, 68), (0, 281, 287, 71)]) (x := (0, 281, 292, 73)) (suf := []) (E := 3) rfl (by decide) rfl (by decide) (by decide) h1 h2 h3 ?_
          refine lv_astore (lv' := [(5, .ref q), (0, .ref (B + 0)), (1, .int v1), (2, .int v2), (3, .int v3), (4, .int v4)]) hx hb dL_does_292 hl (by decide) rfl (fun ls hl => ?_)
          refine lv_ldc (v := (-9999999 : Int32)) hx hb C.2.2.2.1 (C.2.2.2.2.1 _ wd_1247) dL_does_294 ?_
          cases hf
          exact W.widen (k := 1) (n := 6 * 1) (by decide) (by decide) (q_reti C hH trivial dL_does_296)
        rw [if_neg e_2] at hf
        cases hf
      · refine q_xrun (ov := some (.int x36)) (q_xS (As := [.ref (B + 0), .int v1, .int v2, .int v3, .int v4]) C hH gk_L_14 yd_L_first (by omega) (by omega) (c_L_first (r := .inr x36) htr hc) hl.1 rfl (Nat.le_of_ble_eq_true rfl) dL_does_29 (xv_0 rfl xv_00)) hH (fun H locs hH hP => ?_)
        refine lv_goto (tgt := 281) hx hb dL_does_32 (by decide) ?_
        cases hf
        exact W.widen (k := 1) (n := 6 * 1) (by decide) (by decide) (q_reti C hH trivial dL_does_281)
  · refine lv_aload_n hx hb dL_does_5 rfl (lv_at hl 0 rfl) ?_
    refine lv_iload_n hx hb dL_does_6 rfl (lv_at hl 1 rfl) ?_
    refine lv_iload_n hx hb dL_does_7 rfl (lv_at hl 2 rfl) ?_
    refine lv_iload_n hx hb dL_does_8 rfl (lv_at hl 3 rfl) ?_
    refine lv_iload hx hb dL_does_9 (lv_at hl 4 rfl) ?_
    rcases bdc_some hf with ⟨k, w37, hc, hf⟩ | ⟨x38, w37, hc, hf⟩
    · by_cases e_0 : k = 1
      · subst e_0
        rw [if_pos rfl] at hf
        refine q_xrunX (k0 := 1) (q_xS (As := [.ref (B + 0), .int v1, .int v2, .int v3, .int v4]) C hH gk_L_8 yd_L_tells (by omega) (by omega) (c_L_tells (r := .inl 1) htr hc) hl.1 rfl (Nat.le_of_ble_eq_true rfl) dL_does_11 (xw_1 rfl)) hH (fun H locs ce q hH h1 h2 h3 => ?_)
        refine q_catch C htab (pre := []) (x := (0, 281, 282, 68)) (suf := [(0, 281, 287, 71), (0, 281, 292, 73)]) (E := 1) rfl (by decide) rfl (by decide) (by decide) h1 h2 h3 ?_
        refine lv_astore (lv' := [(5, .ref q), (0, .ref (B + 0)), (1, .int v1), (2, .int v2), (3, .int v3), (4, .int v4)]) hx hb dL_does_282 hl (by decide) rfl (fun ls hl => ?_)
        refine lv_ldc (v := (-9999999 : Int32)) hx hb C.2.2.2.1 (C.2.2.2.2.1 _ wd_1247) dL_does_284 ?_
        cases hf
        exact W.widen (k := 1) (n := 6 * 1) (by decide) (by decide) (q_reti C hH trivial dL_does_286)
      rw [if_neg e_0] at hf
      by_cases e_1 : k = 2
      · subst e_1
        rw [if_pos rfl] at hf
        refine q_xrunX (k0 := 2) (q_xS (As := [.ref (B + 0), .int v1, .int v2, .int v3, .int v4]) C hH gk_L_8 yd_L_tells (by omega) (by omega) (c_L_tells (r := .inl 2) htr hc) hl.1 rfl (Nat.le_of_ble_eq_true rfl) dL_does_11 (xw_1 rfl)) hH (fun H locs ce q hH h1 h2 h3 => ?_)
        refine q_catch C htab (pre := [(0, 281, 282, 68)]) (x := (0, 281, 287, 71)) (suf := [(0, 281, 292, 73)]) (E := 2) rfl (by decide) rfl (by decide) (by decide) h1 h2 h3 ?_
        refine lv_astore (lv' := [(5, .ref q), (0, .ref (B + 0)), (1, .int v1), (2, .int v2), (3, .int v3), (4, .int v4)]) hx hb dL_does_287 hl (by decide) rfl (fun ls hl => ?_)
        refine lv_ldc (v := (-9999999 : Int32)) hx hb C.2.2.2.1 (C.2.2.2.2.1 _ wd_1247) dL_does_289 ?_
        cases hf
        exact W.widen (k := 1) (n := 6 * 1) (by decide) (by decide) (q_reti C hH trivial dL_does_291)
      rw [if_neg e_1] at hf
      by_cases e_2 : k = 3
      · subst e_2
        rw [if_pos rfl] at hf
        refine q_xrunX (k0 := 3) (q_xS (As := [.ref (B + 0), .int v1, .int v2, .int v3, .int v4]) C hH gk_L_8 yd_L_tells (by omega) (by omega) (c_L_tells (r := .inl 3) htr hc) hl.1 rfl (Nat.le_of_ble_eq_true rfl) dL_does_11 (xw_1 rfl)) hH (fun H locs ce q hH h1 h2 h3 => ?_)
        refine q_catch C htab (pre := [(0, 281, 282, 68), (0, 281, 287, 71)]) (x := (0, 281, 292, 73)) (suf := []) (E := 3) rfl (by decide) rfl (by decide) (by decide) h1 h2 h3 ?_
        refine lv_astore (lv' := [(5, .ref q), (0, .ref (B + 0)), (1, .int v1), (2, .int v2), (3, .int v3), (4, .int v4)]) hx hb dL_does_292 hl (by decide) rfl (fun ls hl => ?_)
        refine lv_ldc (v := (-9999999 : Int32)) hx hb C.2.2.2.1 (C.2.2.2.2.1 _ wd_1247) dL_does_294 ?_
        cases hf
        exact W.widen (k := 1) (n := 6 * 1) (by decide) (by decide) (q_reti C hH trivial dL_does_296)
      rw [if_neg e_2] at hf
      cases hf
    · refine q_xrun (ov := some (.int x38)) (q_xS (As := [.ref (B + 0), .int v1, .int v2, .int v3, .int v4]) C hH gk_L_8 yd_L_tells (by omega) (by omega) (c_L_tells (r := .inr x38) htr hc) hl.1 rfl (Nat.le_of_ble_eq_true rfl) dL_does_11 (xv_0 rfl xv_00)) hH (fun H locs hH hP => ?_)
      refine lv_goto (tgt := 281) hx hb dL_does_14 (by decide) ?_
      cases hf
      exact W.widen (k := 1) (n := 6 * 1) (by decide) (by decide) (q_reti C hH trivial dL_does_281)
set_option maxRecDepth 100000 in
theorem c_L_does {l : Launch} {D : va_G} {B : Nat} {Y : Nat → ClassId} {v1 : Int32} {v2 : Int32} {v3 : Int32} {v4 : Int32} {w : Wd} {r : Int32} {w1 : Wd} (htr : l.stackTraces = false) (hf : f_L_does v1 v2 v3 v4 w = some (r, w1)) : LM l D B Y yL_does cL_does 6 [(0, 281, 282, 68), (0, 281, 287, 71), (0, 281, 292, 73)] 33 1 [.ref (B + 0), .int v1, .int v2, .int v3, .int v4] w r w1 :=
  LM_of (by decide +kernel) (Nat.le_of_ble_eq_true rfl) (fun p e s m args below meth c ls C htab hH hl => t_L_does C htab htr hH hl hf)
set_option maxRecDepth 100000 in
set_option maxHeartbeats 4000000 in
theorem t_L_more {D : va_G} {B : Nat} {Y : Nat → ClassId} {p : Program} {l : Launch} {e : Env} {s : State} {m : MethodId} {args : Array Value} {below : List Frame} {meth : Method} {c : Code} {z : Int32 × Wd} {H : Heap} {locs : List Loc} {ls : Array Slot} {w : Wd} {v1 : Int32} {v2 : Int32} {v3 : Int32} {v4 : Int32} {v5 : Int32} {v6 : Int32} (C : CX D B Y p s m args meth c cL_more 8 RL (some .int)) (htab : c.exceptionTable.toList = tableOf [(0, 49, 50, 68), (0, 49, 55, 71), (0, 49, 60, 73)]) (htr : l.stackTraces = false) (hH : HS D B Y w s H locs) (hl : lv_has ls 8 [(0, .ref (B + 0)), (1, .int v1), (2, .int v2), (3, .int v3), (4, .int v4), (5, .int v5), (6, .int v6)]) (hf : f_L_more v1 v2 v3 v4 v5 v6 w = some z) : W p l e (RM 4 1 (6 * 1)) s m args below meth c H locs 0 0 (MQ below (QG D B Y (some (.int z.1)) z.2 True) args s 1 (6 * 1) (AB B)) (F0 m 0 ls []) := by
  have hx := C.1
  have hb := C.2.1
  unfold f_L_more at hf
  refine lv_iload_n hx hb dL_more_0 rfl (lv_at hl 1 rfl) ?_
  refine b_if_ne (tgt := 20) hx hb hf dL_more_1 (by decide) (fun hf => ?_) (fun hf => ?_)
  · refine lv_aload_n hx hb dL_more_20 rfl (lv_at hl 0 rfl) ?_
    refine lv_iconst (v := (0 : Int32)) hx hb dL_more_21 (by decide) ?_
    refine lv_iload_n hx hb dL_more_22 rfl (lv_at hl 2 rfl) ?_
    refine lv_iload_n hx hb dL_more_23 rfl (lv_at hl 3 rfl) ?_
    refine lv_iload hx hb dL_more_24 (lv_at hl 4 rfl) ?_
    refine lv_bipush (v := (100 : Int32)) hx hb dL_more_26 (by decide) ?_
    refine lv_irem hx hb dL_more_28 (by decide) ?_
    refine lv_iload hx hb dL_more_29 (lv_at hl 4 rfl) ?_
    refine lv_bipush (v := (100 : Int32)) hx hb dL_more_31 (by decide) ?_
    refine lv_idiv hx hb dL_more_33 (by decide) ?_
    refine lv_iload hx hb dL_more_34 (lv_at hl 5 rfl) ?_
    refine lv_iload hx hb dL_more_36 (lv_at hl 6 rfl) ?_
    refine lv_bipush (v := (100 : Int32)) hx hb dL_more_38 (by decide) ?_
    refine lv_irem hx hb dL_more_40 (by decide) ?_
    refine lv_iload hx hb dL_more_41 (lv_at hl 6 rfl) ?_
    refine lv_bipush (v := (100 : Int32)) hx hb dL_more_43 (by decide) ?_
    refine lv_idiv hx hb dL_more_45 (by decide) ?_
    rcases bdc_some hf with ⟨k, w1, hc, hf⟩ | ⟨x2, w1, hc, hf⟩
    · by_cases e_0 : k = 1
      · subst e_0
        rw [if_pos rfl] at hf
        refine q_xrunX (k0 := 1) (q_xV (As := [.int (0 : Int32), .int v2, .int v3, .int (v4 - v4 / (100 : Int32) * (100 : Int32)), .int (v4 / (100 : Int32)), .int v5, .int (v6 - v6 / (100 : Int32) * (100 : Int32)), .int (v6 / (100 : Int32))]) C hH (ci := 10) rfl (by omega) gk_L_129 yd_X10_plural (by omega) (by omega) kc_0 (c_X10_plural (r := .inl 1) htr hc) hl.1 rfl (Nat.le_of_ble_eq_true rfl) dL_more_46 (xw_1 rfl)) hH (fun H locs ce q hH h1 h2 h3 => ?_)
        refine q_catch C htab (pre := []) (x := (0, 49, 50, 68)) (suf := [(0, 49, 55, 71), (0, 49, 60, 73)]) (E := 1) rfl (by decide) rfl (by decide) (by decide) h1 h2 h3 ?_
        refine lv_astore (lv' := [(7, .ref q), (0, .ref (B + 0)), (1, .int v1), (2, .int v2), (3, .int v3), (4, .int v4), (5, .int v5), (6, .int v6)]) hx hb dL_more_50 hl (by decide) rfl (fun ls hl => ?_)
        refine lv_ldc (v := (-9999999 : Int32)) hx hb C.2.2.2.1 (C.2.2.2.2.1 _ wd_1247) dL_more_52 ?_
        cases hf
        exact W.widen (k := 1) (n := 6 * 1) (by decide) (by decide) (q_reti C hH trivial dL_more_54)
      rw [if_neg e_0] at hf
      by_cases e_1 : k = 2
      · subst e_1
        rw [if_pos rfl] at hf
        refine q_xrunX (k0 := 2) (q_xV (As := [.int (0 : Int32), .int v2, .int v3, .int (v4 - v4 / (100 : Int32) * (100 : Int32)), .int (v4 / (100 : Int32)), .int v5, .int (v6 - v6 / (100 : Int32) * (100 : Int32)), .int (v6 / (100 : Int32))]) C hH (ci := 10) rfl (by omega) gk_L_129 yd_X10_plural (by omega) (by omega) kc_0 (c_X10_plural (r := .inl 2) htr hc) hl.1 rfl (Nat.le_of_ble_eq_true rfl) dL_more_46 (xw_1 rfl)) hH (fun H locs ce q hH h1 h2 h3 => ?_)
        refine q_catch C htab (pre := [(0, 49, 50, 68)]) (x := (0, 49, 55, 71)) (suf := [(0, 49, 60, 73)]) (E := 2) rfl (by decide) rfl (by decide) (by decide) h1 h2 h3 ?_
        refine lv_astore (lv' := [(7, .ref q), (0, .ref (B + 0)), (1, .int v1), (2, .int v2), (3, .int v3), (4, .int v4), (5, .int v5), (6, .int v6)]) hx hb dL_more_55 hl (by decide) rfl (fun ls hl => ?_)
        refine lv_ldc (v := (-9999999 : Int32)) hx hb C.2.2.2.1 (C.2.2.2.2.1 _ wd_1247) dL_more_57 ?_
        cases hf
        exact W.widen (k := 1) (n := 6 * 1) (by decide) (by decide) (q_reti C hH trivial dL_more_59)
      rw [if_neg e_1] at hf
      by_cases e_2 : k = 3
      · subst e_2
        rw [if_pos rfl] at hf
        refine q_xrunX (k0 := 3) (q_xV (As := [.int (0 : Int32), .int v2, .int v3, .int (v4 - v4 / (100 : Int32) * (100 : Int32)), .int (v4 / (100 : Int32)), .int v5, .int (v6 - v6 / (100 : Int32) * (100 : Int32)), .int (v6 / (100 : Int32))]) C hH (ci := 10) rfl (by omega) gk_L_129 yd_X10_plural (by omega) (by omega) kc_0 (c_X10_plural (r := .inl 3) htr hc) hl.1 rfl (Nat.le_of_ble_eq_true rfl) dL_more_46 (xw_1 rfl)) hH (fun H locs ce q hH h1 h2 h3 => ?_)
        refine q_catch C htab (pre := [(0, 49, 50, 68), (0, 49, 55, 71)]) (x := (0, 49, 60, 73)) (suf := []) (E := 3) rfl (by decide) rfl (by decide) (by decide) h1 h2 h3 ?_
        refine lv_astore (lv' := [(7, .ref q), (0, .ref (B + 0)), (1, .int v1), (2, .int v2), (3, .int v3), (4, .int v4), (5, .int v5), (6, .int v6)]) hx hb dL_more_60 hl (by decide) rfl (fun ls hl => ?_)
        refine lv_ldc (v := (-9999999 : Int32)) hx hb C.2.2.2.1 (C.2.2.2.2.1 _ wd_1247) dL_more_62 ?_
        cases hf
        exact W.widen (k := 1) (n := 6 * 1) (by decide) (by decide) (q_reti C hH trivial dL_more_64)
      rw [if_neg e_2] at hf
      cases hf
    · refine q_xrun (ov := some (.int x2)) (q_xV (As := [.int (0 : Int32), .int v2, .int v3, .int (v4 - v4 / (100 : Int32) * (100 : Int32)), .int (v4 / (100 : Int32)), .int v5, .int (v6 - v6 / (100 : Int32) * (100 : Int32)), .int (v6 / (100 : Int32))]) C hH (ci := 10) rfl (by omega) gk_L_129 yd_X10_plural (by omega) (by omega) kc_0 (c_X10_plural (r := .inr x2) htr hc) hl.1 rfl (Nat.le_of_ble_eq_true rfl) dL_more_46 (xv_0 rfl xv_00)) hH (fun H locs hH hP => ?_)
      cases hf
      exact W.widen (k := 1) (n := 6 * 1) (by decide) (by decide) (q_reti C hH trivial dL_more_49)
  · refine lv_aload_n hx hb dL_more_4 rfl (lv_at hl 0 rfl) ?_
    refine lv_iconst (v := (0 : Int32)) hx hb dL_more_5 (by decide) ?_
    refine lv_iload_n hx hb dL_more_6 rfl (lv_at hl 2 rfl) ?_
    refine lv_iload_n hx hb dL_more_7 rfl (lv_at hl 3 rfl) ?_
    refine lv_iload hx hb dL_more_8 (lv_at hl 4 rfl) ?_
    refine lv_iload hx hb dL_more_10 (lv_at hl 5 rfl) ?_
    refine lv_iload hx hb dL_more_12 (lv_at hl 6 rfl) ?_
    rcases bdc_some hf with ⟨k, w3, hc, hf⟩ | ⟨x4, w3, hc, hf⟩
    · by_cases e_0 : k = 1
      · subst e_0
        rw [if_pos rfl] at hf
        refine q_xrunX (k0 := 1) (q_xV (As := [.int (0 : Int32), .int v2, .int v3, .int v4, .int v5, .int v6]) C hH (ci := 10) rfl (by omega) gk_L_125 yd_X10_contract (by omega) (by omega) kc_0 (c_X10_contract (r := .inl 1) htr hc) hl.1 rfl (Nat.le_of_ble_eq_true rfl) dL_more_14 (xw_1 rfl)) hH (fun H locs ce q hH h1 h2 h3 => ?_)
        refine q_catch C htab (pre := []) (x := (0, 49, 50, 68)) (suf := [(0, 49, 55, 71), (0, 49, 60, 73)]) (E := 1) rfl (by decide) rfl (by decide) (by decide) h1 h2 h3 ?_
        refine lv_astore (lv' := [(7, .ref q), (0, .ref (B + 0)), (1, .int v1), (2, .int v2), (3, .int v3), (4, .int v4), (5, .int v5), (6, .int v6)]) hx hb dL_more_50 hl (by decide) rfl (fun ls hl => ?_)
        refine lv_ldc (v := (-9999999 : Int32)) hx hb C.2.2.2.1 (C.2.2.2.2.1 _ wd_1247) dL_more_52 ?_
        cases hf
        exact W.widen (k := 1) (n := 6 * 1) (by decide) (by decide) (q_reti C hH trivial dL_more_54)
      rw [if_neg e_0] at hf
      by_cases e_1 : k = 2
      · subst e_1
        rw [if_pos rfl] at hf
        refine q_xrunX (k0 := 2) (q_xV (As := [.int (0 : Int32), .int v2, .int v3, .int v4, .int v5, .int v6]) C hH (ci := 10) rfl (by omega) gk_L_125 yd_X10_contract (by omega) (by omega) kc_0 (c_X10_contract (r := .inl 2) htr hc) hl.1 rfl (Nat.le_of_ble_eq_true rfl) dL_more_14 (xw_1 rfl)) hH (fun H locs ce q hH h1 h2 h3 => ?_)
        refine q_catch C htab (pre := [(0, 49, 50, 68)]) (x := (0, 49, 55, 71)) (suf := [(0, 49, 60, 73)]) (E := 2) rfl (by decide) rfl (by decide) (by decide) h1 h2 h3 ?_
        refine lv_astore (lv' := [(7, .ref q), (0, .ref (B + 0)), (1, .int v1), (2, .int v2), (3, .int v3), (4, .int v4), (5, .int v5), (6, .int v6)]) hx hb dL_more_55 hl (by decide) rfl (fun ls hl => ?_)
        refine lv_ldc (v := (-9999999 : Int32)) hx hb C.2.2.2.1 (C.2.2.2.2.1 _ wd_1247) dL_more_57 ?_
        cases hf
        exact W.widen (k := 1) (n := 6 * 1) (by decide) (by decide) (q_reti C hH trivial dL_more_59)
      rw [if_neg e_1] at hf
      by_cases e_2 : k = 3
      · subst e_2
        rw [if_pos rfl] at hf
        refine q_xrunX (k0 := 3) (q_xV (As := [.int (0 : Int32), .int v2, .int v3, .int v4, .int v5, .int v6]) C hH (ci := 10) rfl (by omega) gk_L_125 yd_X10_contract (by omega) (by omega) kc_0 (c_X10_contract (r := .inl 3) htr hc) hl.1 rfl (Nat.le_of_ble_eq_true rfl) dL_more_14 (xw_1 rfl)) hH (fun H locs ce q hH h1 h2 h3 => ?_)
        refine q_catch C htab (pre := [(0, 49, 50, 68), (0, 49, 55, 71)]) (x := (0, 49, 60, 73)) (suf := []) (E := 3) rfl (by decide) rfl (by decide) (by decide) h1 h2 h3 ?_
        refine lv_astore (lv' := [(7, .ref q), (0, .ref (B + 0)), (1, .int v1), (2, .int v2), (3, .int v3), (4, .int v4), (5, .int v5), (6, .int v6)]) hx hb dL_more_60 hl (by decide) rfl (fun ls hl => ?_)
        refine lv_ldc (v := (-9999999 : Int32)) hx hb C.2.2.2.1 (C.2.2.2.2.1 _ wd_1247) dL_more_62 ?_
        cases hf
        exact W.widen (k := 1) (n := 6 * 1) (by decide) (by decide) (q_reti C hH trivial dL_more_64)
      rw [if_neg e_2] at hf
      cases hf
    · refine q_xrun (ov := some (.int x4)) (q_xV (As := [.int (0 : Int32), .int v2, .int v3, .int v4, .int v5, .int v6]) C hH (ci := 10) rfl (by omega) gk_L_125 yd_X10_contract (by omega) (by omega) kc_0 (c_X10_contract (r := .inr x4) htr hc) hl.1 rfl (Nat.le_of_ble_eq_true rfl) dL_more_14 (xv_0 rfl xv_00)) hH (fun H locs hH hP => ?_)
      refine lv_goto (tgt := 49) hx hb dL_more_17 (by decide) ?_
      cases hf
      exact W.widen (k := 1) (n := 6 * 1) (by decide) (by decide) (q_reti C hH trivial dL_more_49)
set_option maxRecDepth 100000 in
theorem c_L_more {l : Launch} {D : va_G} {B : Nat} {Y : Nat → ClassId} {v1 : Int32} {v2 : Int32} {v3 : Int32} {v4 : Int32} {v5 : Int32} {v6 : Int32} {w : Wd} {r : Int32} {w1 : Wd} (htr : l.stackTraces = false) (hf : f_L_more v1 v2 v3 v4 v5 v6 w = some (r, w1)) : LM l D B Y yL_more cL_more 8 [(0, 49, 50, 68), (0, 49, 55, 71), (0, 49, 60, 73)] 4 1 [.ref (B + 0), .int v1, .int v2, .int v3, .int v4, .int v5, .int v6] w r w1 :=
  LM_of (by decide +kernel) (Nat.le_of_ble_eq_true rfl) (fun p e s m args below meth c ls C htab hH hl => t_L_more C htab htr hH hl hf)
set_option maxRecDepth 100000 in
set_option maxHeartbeats 4000000 in
theorem t_L_feed {D : va_G} {B : Nat} {Y : Nat → ClassId} {p : Program} {l : Launch} {e : Env} {s : State} {m : MethodId} {args : Array Value} {below : List Frame} {meth : Method} {c : Code} {z : Int32 × Wd} {H : Heap} {locs : List Loc} {ls : Array Slot} {w : Wd} {v1 : Int64} {v3 : Int32} (C : CX D B Y p s m args meth c cL_feed 5 RL (some .int)) (htab : c.exceptionTable.toList = tableOf [(0, 6, 7, 71), (0, 6, 12, 73)]) (htr : l.stackTraces = false) (hH : HS D B Y w s H locs) (hl : lv_has ls 5 [(0, .ref (B + 0)), (1, .long v1), (3, .int v3)]) (hf : f_L_feed v1 v3 w = some z) : W p l e (RM 2 1 (6 * 1)) s m args below meth c H locs 0 0 (MQ below (QG D B Y (some (.int z.1)) z.2 True) args s 1 (6 * 1) (AB B)) (F0 m 0 ls []) := by
  have hx := C.1
  have hb := C.2.1
  unfold f_L_feed at hf
  refine lv_aload_n hx hb dL_feed_0 rfl (lv_at hl 0 rfl) ?_
  refine lv_lload_n hx hb dL_feed_1 rfl (lv_at hl 1 rfl) ?_
  refine lv_iload_n hx hb dL_feed_2 rfl (lv_at hl 2 rfl) ?_
  rcases bdc_some hf with ⟨k, w1, hc, hf⟩ | ⟨x2, w1, hc, hf⟩
  · by_cases e_0 : k = 2
    · subst e_0
      rw [if_pos rfl] at hf
      refine q_xrunX (k0 := 2) (q_xV (As := [.long v1, .int v3]) C hH (ci := 10) rfl (by omega) gk_L_133 yd_X10_feed (by omega) (by omega) kc_0 (c_X10_feed (r := .inl 2) htr hc) hl.1 rfl (Nat.le_of_ble_eq_true rfl) dL_feed_3 (xw_1 rfl)) hH (fun H locs ce q hH h1 h2 h3 => ?_)
      refine q_catch C htab (pre := []) (x := (0, 6, 7, 71)) (suf := [(0, 6, 12, 73)]) (E := 2) rfl (by decide) rfl (by decide) (by decide) h1 h2 h3 ?_
      refine lv_astore (lv' := [(4, .ref q), (0, .ref (B + 0)), (1, .long v1), (3, .int v3)]) hx hb dL_feed_7 hl (by decide) rfl (fun ls hl => ?_)
      refine lv_ldc (v := (-9999999 : Int32)) hx hb C.2.2.2.1 (C.2.2.2.2.1 _ wd_1247) dL_feed_9 ?_
      cases hf
      exact W.widen (k := 1) (n := 6 * 1) (by decide) (by decide) (q_reti C hH trivial dL_feed_11)
    rw [if_neg e_0] at hf
    by_cases e_1 : k = 3
    · subst e_1
      rw [if_pos rfl] at hf
      refine q_xrunX (k0 := 3) (q_xV (As := [.long v1, .int v3]) C hH (ci := 10) rfl (by omega) gk_L_133 yd_X10_feed (by omega) (by omega) kc_0 (c_X10_feed (r := .inl 3) htr hc) hl.1 rfl (Nat.le_of_ble_eq_true rfl) dL_feed_3 (xw_1 rfl)) hH (fun H locs ce q hH h1 h2 h3 => ?_)
      refine q_catch C htab (pre := [(0, 6, 7, 71)]) (x := (0, 6, 12, 73)) (suf := []) (E := 3) rfl (by decide) rfl (by decide) (by decide) h1 h2 h3 ?_
      refine lv_astore (lv' := [(4, .ref q), (0, .ref (B + 0)), (1, .long v1), (3, .int v3)]) hx hb dL_feed_12 hl (by decide) rfl (fun ls hl => ?_)
      refine lv_ldc (v := (-9999999 : Int32)) hx hb C.2.2.2.1 (C.2.2.2.2.1 _ wd_1247) dL_feed_14 ?_
      cases hf
      exact W.widen (k := 1) (n := 6 * 1) (by decide) (by decide) (q_reti C hH trivial dL_feed_16)
    rw [if_neg e_1] at hf
    cases hf
  · refine q_xrun (ov := some (.int x2)) (q_xV (As := [.long v1, .int v3]) C hH (ci := 10) rfl (by omega) gk_L_133 yd_X10_feed (by omega) (by omega) kc_0 (c_X10_feed (r := .inr x2) htr hc) hl.1 rfl (Nat.le_of_ble_eq_true rfl) dL_feed_3 (xv_0 rfl xv_00)) hH (fun H locs hH hP => ?_)
    cases hf
    exact W.widen (k := 1) (n := 6 * 1) (by decide) (by decide) (q_reti C hH trivial dL_feed_6)
set_option maxRecDepth 100000 in
theorem c_L_feed {l : Launch} {D : va_G} {B : Nat} {Y : Nat → ClassId} {v1 : Int64} {v3 : Int32} {w : Wd} {r : Int32} {w1 : Wd} (htr : l.stackTraces = false) (hf : f_L_feed v1 v3 w = some (r, w1)) : LM l D B Y yL_feed cL_feed 5 [(0, 6, 7, 71), (0, 6, 12, 73)] 2 1 [.ref (B + 0), .long v1, .int v3] w r w1 :=
  LM_of (by decide +kernel) (Nat.le_of_ble_eq_true rfl) (fun p e s m args below meth c ls C htab hH hl => t_L_feed C htab htr hH hl hf)
set_option maxRecDepth 100000 in
set_option maxHeartbeats 4000000 in
theorem t_L_act_874 {D : va_G} {B : Nat} {Y : Nat → ClassId} {p : Program} {l : Launch} {e : Env} {s : State} {m : MethodId} {args : Array Value} {below : List Frame} {meth : Method} {c : Code} {z : (Int32 × Wd)} {H : Heap} {locs : List Loc} {ls : Array Slot} {w : Wd} {t1 : Int32} {t2 : Int32} (C : CX D B Y p s m args meth c cL_act 10 RL (some .int)) (htr : l.stackTraces = false)     (hH : HS D B Y w s H locs) (hl : lv_has ls 10 []) (hf : f_L_act_874 t1 t2 w = some z) : W p l e (RM 34 1 (6 * 1)) s m args below meth c H locs 0 0 (MQ below (QG D B Y (some (.int z.1)) z.2 True) args s 1 (6 * 1) (AB B)) (F0 m 874 ls [.int t2, .int t1, .ref (B + 0)]) := by
  have hx := C.1
  have hb := C.2.1
  unfold f_L_act_874 at hf
  refine lv_iconst (v := (0 : Int32)) hx hb dL_act_874 (by decide) ?_
  refine lv_iconst (v := (0 : Int32)) hx hb dL_act_875 (by decide) ?_
  obtain ⟨x2, w1, hc, hf⟩ := bd_some hf
  refine q_callLW (As := [.ref (B + 0), .int t1, .int t2, .int (0 : Int32), .int (0 : Int32)]) C hH (k := x2) (goodSW wd_431 wd_432 wd_49 wd_433) yd_L_does (c_L_does htr hc) (by exact Nat.le_of_ble_eq_true rfl) (by exact Nat.le_of_ble_eq_true rfl) hl.1 rfl (Nat.le_of_ble_eq_true rfl) dL_act_876 ⟨by exact Nat.le_of_ble_eq_true rfl, by exact Nat.le_of_ble_eq_true rfl⟩ (fun H locs hH => ?_)
  cases hf
  exact W.widen (k := 1) (n := 6 * 1) (by decide) (by decide) (q_reti C hH trivial dL_act_879)
set_option maxRecDepth 100000 in
set_option maxHeartbeats 4000000 in
theorem t_L_act_851 {D : va_G} {B : Nat} {Y : Nat → ClassId} {p : Program} {l : Launch} {e : Env} {s : State} {m : MethodId} {args : Array Value} {below : List Frame} {meth : Method} {c : Code} {z : (Int32 × Wd)} {H : Heap} {locs : List Loc} {ls : Array Slot} {w : Wd} {t1 : Int32} {t2 : Int32} {t3 : Int32} {t4 : Int32} (C : CX D B Y p s m args meth c cL_act 10 RL (some .int)) (htr : l.stackTraces = false)     (hH : HS D B Y w s H locs) (hl : lv_has ls 10 []) (hf : f_L_act_851 t1 t2 t3 t4 w = some z) : W p l e (RM 34 1 (6 * 1)) s m args below meth c H locs 0 0 (MQ below (QG D B Y (some (.int z.1)) z.2 True) args s 1 (6 * 1) (AB B)) (F0 m 851 ls [.int t4, .int t3, .int t2, .int t1, .ref (B + 0)]) := by
  have hx := C.1
  have hb := C.2.1
  unfold f_L_act_851 at hf
  obtain ⟨x2, w1, hc, hf⟩ := bd_some hf
  refine q_callS1 (v := .int x2) (As := [.int t3, .int t4]) C hH gk_L_137 yd_L_low (by omega) (by omega) (c_L_low hc) hl.1 rfl (Nat.le_of_ble_eq_true rfl) dL_act_851 ⟨Nat.le_of_ble_eq_true rfl, Nat.le_of_ble_eq_true rfl⟩ (fun H locs hH hP => ?_)
  refine lv_iconst (v := (3 : Int32)) hx hb dL_act_854 (by decide) ?_
  obtain ⟨x4, w3, hc, hf⟩ := bd_some hf
  refine q_callLW (As := [.ref (B + 0), .int t1, .int t2, .int x2, .int (3 : Int32)]) C hH (k := x4) (goodSW wd_431 wd_432 wd_49 wd_433) yd_L_does (c_L_does htr hc) (by exact Nat.le_of_ble_eq_true rfl) (by exact Nat.le_of_ble_eq_true rfl) hl.1 rfl (Nat.le_of_ble_eq_true rfl) dL_act_855 ⟨by exact Nat.le_of_ble_eq_true rfl, by exact Nat.le_of_ble_eq_true rfl⟩ (fun H locs hH => ?_)
  refine lv_goto (tgt := 879) hx hb dL_act_858 (by decide) ?_
  cases hf
  exact W.widen (k := 1) (n := 6 * 1) (by decide) (by decide) (q_reti C hH trivial dL_act_879)
set_option maxRecDepth 100000 in
set_option maxHeartbeats 4000000 in
theorem t_L_act_797 {D : va_G} {B : Nat} {Y : Nat → ClassId} {p : Program} {l : Launch} {e : Env} {s : State} {m : MethodId} {args : Array Value} {below : List Frame} {meth : Method} {c : Code} {z : (Int32 × Wd)} {H : Heap} {locs : List Loc} {ls : Array Slot} {w : Wd} {t1 : Int64} {t2 : Int32} (C : CX D B Y p s m args meth c cL_act 10 RL (some .int)) (htr : l.stackTraces = false)     (hH : HS D B Y w s H locs) (hl : lv_has ls 10 []) (hf : f_L_act_797 t1 t2 w = some z) : W p l e (RM 34 1 (6 * 1)) s m args below meth c H locs 0 0 (MQ below (QG D B Y (some (.int z.1)) z.2 True) args s 1 (6 * 1) (AB B)) (F0 m 797 ls [.int t2, .long t1, .ref (B + 0)]) := by
  have hx := C.1
  have hb := C.2.1
  unfold f_L_act_797 at hf
  obtain ⟨x2, w1, hc, hf⟩ := bd_some hf
  refine q_callLW (As := [.ref (B + 0), .long t1, .int t2]) C hH (k := x2) (goodSW wd_1293 wd_1294 wd_49 wd_1295) yd_L_feed (c_L_feed htr hc) (by exact Nat.le_of_ble_eq_true rfl) (by exact Nat.le_of_ble_eq_true rfl) hl.1 rfl (Nat.le_of_ble_eq_true rfl) dL_act_797 ⟨by exact Nat.le_of_ble_eq_true rfl, by exact Nat.le_of_ble_eq_true rfl⟩ (fun H locs hH => ?_)
  refine lv_goto (tgt := 879) hx hb dL_act_800 (by decide) ?_
  cases hf
  exact W.widen (k := 1) (n := 6 * 1) (by decide) (by decide) (q_reti C hH trivial dL_act_879)
set_option maxRecDepth 100000 in
set_option maxHeartbeats 4000000 in
theorem t_L_act_769 {D : va_G} {B : Nat} {Y : Nat → ClassId} {p : Program} {l : Launch} {e : Env} {s : State} {m : MethodId} {args : Array Value} {below : List Frame} {meth : Method} {c : Code} {z : (Int32 × Wd)} {H : Heap} {locs : List Loc} {ls : Array Slot} {w : Wd} {v1 : Int32} {v2 : Int32} {v3 : Int32} {v6 : Int32} {t0 : Int64} (C : CX D B Y p s m args meth c cL_act 10 RL (some .int)) (htr : l.stackTraces = false)    (z_v2 : isZ v2) (hH : HS D B Y w s H locs) (hl : lv_has ls 10 [(0, .ref (B + 0)), (1, .int v1), (2, .int v2), (3, .int v3), (6, .int v6)]) (hf : f_L_act_769 v1 v2 v3 v6 t0 w = some z) : W p l e (RM 34 1 (6 * 1)) s m args below meth c H locs 0 0 (MQ below (QG D B Y (some (.int z.1)) z.2 True) args s 1 (6 * 1) (AB B)) (F0 m 769 ls [.long t0]) := by
  have hx := C.1
  have hb := C.2.1
  unfold f_L_act_769 at hf
  refine lv_lstore (lv' := [(8, .long t0), (0, .ref (B + 0)), (1, .int v1), (2, .int v2), (3, .int v3), (6, .int v6)]) hx hb dL_act_769 hl (by decide) rfl (fun ls hl => ?_)
  refine lv_iload_n hx hb dL_act_771 rfl (lv_at hl 4 rfl) ?_
  refine lv_bipush (v := (47 : Int32)) hx hb dL_act_772 (by decide) ?_
  refine b_icmp_ge (tgt := 803) hx hb hf dL_act_774 (by decide) (fun hf => ?_) (fun hf => ?_)
  · refine lv_iload_n hx hb dL_act_803 rfl (lv_at hl 4 rfl) ?_
    refine lv_bipush (v := (47 : Int32)) hx hb dL_act_804 (by decide) ?_
    refine b_icmp_ne (tgt := 821) hx hb hf dL_act_806 (by decide) (fun hf => ?_) (fun hf => ?_)
    · refine lv_iload_n hx hb dL_act_821 rfl (lv_at hl 4 rfl) ?_
      refine lv_bipush (v := (48 : Int32)) hx hb dL_act_822 (by decide) ?_
      refine b_icmp_ne (tgt := 861) hx hb hf dL_act_824 (by decide) (fun hf => ?_) (fun hf => ?_)
      · refine lv_aload_n hx hb dL_act_861 rfl (lv_at hl 1 rfl) ?_
        refine lv_bipush (v := (28 : Int32)) hx hb dL_act_862 (by decide) ?_
        refine lv_iload_n hx hb dL_act_864 rfl (lv_at hl 3 rfl) ?_
        refine b_if_eq (tgt := 873) hx hb hf dL_act_865 (by decide) (fun hf => ?_) (fun hf => ?_)
        · refine lv_iconst (v := (4 : Int32)) hx hb dL_act_873 (by decide) ?_
          exact t_L_act_874 C htr hH (lv_sub hl [] rfl) hf
        · refine lv_iload hx hb dL_act_868 (lv_at hl 5 rfl) ?_
          refine lv_goto (tgt := 874) hx hb dL_act_870 (by decide) ?_
          exact t_L_act_874 C htr hH (lv_sub hl [] rfl) hf
      · refine lv_aload_n hx hb dL_act_827 rfl (lv_at hl 1 rfl) ?_
        refine lv_bipush (v := (26 : Int32)) hx hb dL_act_828 (by decide) ?_
        refine lv_iload_n hx hb dL_act_830 rfl (lv_at hl 2 rfl) ?_
        refine lv_bipush (v := (9 : Int32)) hx hb dL_act_831 (by decide) ?_
        refine lv_ishr hx hb dL_act_833 ?_
        refine lv_iconst (v := (1 : Int32)) hx hb dL_act_834 (by decide) ?_
        refine lv_iand hx hb dL_act_835 ?_
        refine lv_iload_n hx hb dL_act_836 rfl (lv_at hl 2 rfl) ?_
        refine lv_bipush (v := (7 : Int32)) hx hb dL_act_837 (by decide) ?_
        refine lv_ishr hx hb dL_act_839 ?_
        refine lv_iload_n hx hb dL_act_840 rfl (lv_at hl 3 rfl) ?_
        refine b_if_eq (tgt := 849) hx hb hf dL_act_841 (by decide) (fun hf => ?_) (fun hf => ?_)
        · refine lv_bipush (v := (40 : Int32)) hx hb dL_act_849 (by decide) ?_
          exact t_L_act_851 C htr hH (lv_sub hl [] rfl) hf
        · refine lv_ldc (v := (1200000 : Int32)) hx hb C.2.2.2.1 (C.2.2.2.2.1 _ wd_1302) dL_act_844 ?_
          refine lv_goto (tgt := 851) hx hb dL_act_846 (by decide) ?_
          exact t_L_act_851 C htr hH (lv_sub hl [] rfl) hf
    · refine lv_aload_n hx hb dL_act_809 rfl (lv_at hl 1 rfl) ?_
      refine lv_bipush (v := (22 : Int32)) hx hb dL_act_810 (by decide) ?_
      refine lv_iconst (v := (0 : Int32)) hx hb dL_act_812 (by decide) ?_
      refine lv_iconst (v := (0 : Int32)) hx hb dL_act_813 (by decide) ?_
      refine lv_iconst (v := (0 : Int32)) hx hb dL_act_814 (by decide) ?_
      obtain ⟨x2, w1, hc, hf⟩ := bd_some hf
      refine q_callLW (As := [.ref (B + 0), .int (22 : Int32), .int (0 : Int32), .int (0 : Int32), .int (0 : Int32)]) C hH (k := x2) (goodSW wd_431 wd_432 wd_49 wd_433) yd_L_does (c_L_does htr hc) (by exact Nat.le_of_ble_eq_true rfl) (by exact Nat.le_of_ble_eq_true rfl) hl.1 rfl (Nat.le_of_ble_eq_true rfl) dL_act_815 ⟨by exact Nat.le_of_ble_eq_true rfl, by exact Nat.le_of_ble_eq_true rfl⟩ (fun H locs hH => ?_)
      refine lv_goto (tgt := 879) hx hb dL_act_818 (by decide) ?_
      cases hf
      exact W.widen (k := 1) (n := 6 * 1) (by decide) (by decide) (q_reti C hH trivial dL_act_879)
  · refine lv_aload_n hx hb dL_act_777 rfl (lv_at hl 1 rfl) ?_
    refine lv_lload hx hb dL_act_778 (lv_at hl 0 rfl) ?_
    refine lv_iload_n hx hb dL_act_780 rfl (lv_at hl 3 rfl) ?_
    refine b_if_eq (tgt := 796) hx hb hf dL_act_781 (by decide) (fun hf => ?_) (fun hf => ?_)
    · refine lv_iconst (v := (1 : Int32)) hx hb dL_act_796 (by decide) ?_
      exact t_L_act_797 C htr hH (lv_sub hl [] rfl) hf
    · refine lv_iload_n hx hb dL_act_784 rfl (lv_at hl 2 rfl) ?_
      refine lv_bipush (v := (9 : Int32)) hx hb dL_act_785 (by decide) ?_
      refine lv_ishr hx hb dL_act_787 ?_
      refine lv_bipush (v := (12 : Int32)) hx hb dL_act_788 (by decide) ?_
      obtain ⟨x4, w3, hc, hf⟩ := bd_some hf
      refine q_callS1 (v := .int x4) (As := [.int (v1 >>> ((9 : Int32) &&& 31)), .int (12 : Int32)]) C hH gk_L_137 yd_L_low (by omega) (by omega) (c_L_low hc) hl.1 rfl (Nat.le_of_ble_eq_true rfl) dL_act_790 ⟨Nat.le_of_ble_eq_true rfl, Nat.le_of_ble_eq_true rfl⟩ (fun H locs hH hP => ?_)
      refine lv_goto (tgt := 797) hx hb dL_act_793 (by decide) ?_
      exact t_L_act_797 C htr hH (lv_sub hl [] rfl) hf
set_option maxRecDepth 100000 in
set_option maxHeartbeats 4000000 in
theorem t_L_act_607 {D : va_G} {B : Nat} {Y : Nat → ClassId} {p : Program} {l : Launch} {e : Env} {s : State} {m : MethodId} {args : Array Value} {below : List Frame} {meth : Method} {c : Code} {z : (Int32 × Wd)} {H : Heap} {locs : List Loc} {ls : Array Slot} {w : Wd} {v1 : Int32} {t1 : Int32} {t2 : Int32} {t3 : Int32} (C : CX D B Y p s m args meth c cL_act 10 RL (some .int)) (htr : l.stackTraces = false)     (hH : HS D B Y w s H locs) (hl : lv_has ls 10 [(1, .int v1)]) (hf : f_L_act_607 v1 t1 t2 t3 w = some z) : W p l e (RM 34 1 (6 * 1)) s m args below meth c H locs 0 0 (MQ below (QG D B Y (some (.int z.1)) z.2 True) args s 1 (6 * 1) (AB B)) (F0 m 607 ls [.int t3, .int t2, .int t1, .ref (B + 0)]) := by
  have hx := C.1
  have hb := C.2.1
  unfold f_L_act_607 at hf
  refine lv_iload_n hx hb dL_act_607 rfl (lv_at hl 0 rfl) ?_
  refine lv_bipush (v := (7 : Int32)) hx hb dL_act_608 (by decide) ?_
  refine lv_ishr hx hb dL_act_610 ?_
  refine lv_iconst (v := (1 : Int32)) hx hb dL_act_611 (by decide) ?_
  refine lv_iand hx hb dL_act_612 ?_
  obtain ⟨x2, w1, hc, hf⟩ := bd_some hf
  refine q_callLW (As := [.ref (B + 0), .int t1, .int t2, .int t3, .int ((v1 >>> ((7 : Int32) &&& 31)) &&& (1 : Int32))]) C hH (k := x2) (goodSW wd_431 wd_432 wd_49 wd_433) yd_L_does (c_L_does htr hc) (by exact Nat.le_of_ble_eq_true rfl) (by exact Nat.le_of_ble_eq_true rfl) hl.1 rfl (Nat.le_of_ble_eq_true rfl) dL_act_613 ⟨by exact Nat.le_of_ble_eq_true rfl, by exact Nat.le_of_ble_eq_true rfl⟩ (fun H locs hH => ?_)
  cases hf
  exact W.widen (k := 1) (n := 6 * 1) (by decide) (by decide) (q_reti C hH trivial dL_act_616)
set_option maxRecDepth 100000 in
set_option maxHeartbeats 4000000 in
theorem t_L_act_582 {D : va_G} {B : Nat} {Y : Nat → ClassId} {p : Program} {l : Launch} {e : Env} {s : State} {m : MethodId} {args : Array Value} {below : List Frame} {meth : Method} {c : Code} {z : (Int32 × Wd)} {H : Heap} {locs : List Loc} {ls : Array Slot} {w : Wd} {t1 : Int32} {t2 : Int32} {t3 : Int32} {t4 : Int32} (C : CX D B Y p s m args meth c cL_act 10 RL (some .int)) (htr : l.stackTraces = false)     (hH : HS D B Y w s H locs) (hl : lv_has ls 10 []) (hf : f_L_act_582 t1 t2 t3 t4 w = some z) : W p l e (RM 34 1 (6 * 1)) s m args below meth c H locs 0 0 (MQ below (QG D B Y (some (.int z.1)) z.2 True) args s 1 (6 * 1) (AB B)) (F0 m 582 ls [.int t4, .int t3, .int t2, .int t1, .ref (B + 0)]) := by
  have hx := C.1
  have hb := C.2.1
  unfold f_L_act_582 at hf
  obtain ⟨x2, w1, hc, hf⟩ := bd_some hf
  refine q_callS1 (v := .int x2) (As := [.int t3, .int t4]) C hH gk_L_137 yd_L_low (by omega) (by omega) (c_L_low hc) hl.1 rfl (Nat.le_of_ble_eq_true rfl) dL_act_582 ⟨Nat.le_of_ble_eq_true rfl, Nat.le_of_ble_eq_true rfl⟩ (fun H locs hH hP => ?_)
  refine lv_iconst (v := (4 : Int32)) hx hb dL_act_585 (by decide) ?_
  obtain ⟨x4, w3, hc, hf⟩ := bd_some hf
  refine q_callLW (As := [.ref (B + 0), .int t1, .int t2, .int x2, .int (4 : Int32)]) C hH (k := x4) (goodSW wd_431 wd_432 wd_49 wd_433) yd_L_does (c_L_does htr hc) (by exact Nat.le_of_ble_eq_true rfl) (by exact Nat.le_of_ble_eq_true rfl) hl.1 rfl (Nat.le_of_ble_eq_true rfl) dL_act_586 ⟨by exact Nat.le_of_ble_eq_true rfl, by exact Nat.le_of_ble_eq_true rfl⟩ (fun H locs hH => ?_)
  refine lv_goto (tgt := 616) hx hb dL_act_589 (by decide) ?_
  cases hf
  exact W.widen (k := 1) (n := 6 * 1) (by decide) (by decide) (q_reti C hH trivial dL_act_616)
set_option maxRecDepth 100000 in
set_option maxHeartbeats 4000000 in
theorem t_L_act_404 {D : va_G} {B : Nat} {Y : Nat → ClassId} {p : Program} {l : Launch} {e : Env} {s : State} {m : MethodId} {args : Array Value} {below : List Frame} {meth : Method} {c : Code} {z : (Int32 × Wd)} {H : Heap} {locs : List Loc} {ls : Array Slot} {w : Wd} {v1 : Int32} {t1 : Int32} {t2 : Int32} {t3 : Int32} (C : CX D B Y p s m args meth c cL_act 10 RL (some .int)) (htr : l.stackTraces = false)    (z_t1 : isZ t1) (hH : HS D B Y w s H locs) (hl : lv_has ls 10 [(1, .int v1)]) (hf : f_L_act_404 v1 t1 t2 t3 w = some z) : W p l e (RM 34 1 (6 * 1)) s m args below meth c H locs 0 0 (MQ below (QG D B Y (some (.int z.1)) z.2 True) args s 1 (6 * 1) (AB B)) (F0 m 404 ls [.int t3, .int t2, .int t1, .ref (B + 0)]) := by
  have hx := C.1
  have hb := C.2.1
  unfold f_L_act_404 at hf
  obtain ⟨x2, w1, hc, hf⟩ := bd_some hf
  refine q_callS1 (v := .int x2) (As := [.int t2, .int t3]) C hH gk_L_137 yd_L_low (by omega) (by omega) (c_L_low hc) hl.1 rfl (Nat.le_of_ble_eq_true rfl) dL_act_404 ⟨Nat.le_of_ble_eq_true rfl, Nat.le_of_ble_eq_true rfl⟩ (fun H locs hH hP => ?_)
  refine lv_iload_n hx hb dL_act_407 rfl (lv_at hl 0 rfl) ?_
  refine lv_iconst (v := (5 : Int32)) hx hb dL_act_408 (by decide) ?_
  refine lv_ishr hx hb dL_act_409 ?_
  refine lv_bipush (v := (101 : Int32)) hx hb dL_act_410 (by decide) ?_
  obtain ⟨x4, w3, hc, hf⟩ := bd_some hf
  refine q_callS1 (v := .int x4) (As := [.int (v1 >>> ((5 : Int32) &&& 31)), .int (101 : Int32)]) C hH gk_L_137 yd_L_low (by omega) (by omega) (c_L_low hc) hl.1 rfl (Nat.le_of_ble_eq_true rfl) dL_act_412 ⟨Nat.le_of_ble_eq_true rfl, Nat.le_of_ble_eq_true rfl⟩ (fun H locs hH hP => ?_)
  refine lv_iload_n hx hb dL_act_415 rfl (lv_at hl 0 rfl) ?_
  refine lv_bipush (v := (9 : Int32)) hx hb dL_act_416 (by decide) ?_
  refine lv_ishr hx hb dL_act_418 ?_
  refine lv_sipush (v := (10000 : Int32)) hx hb dL_act_419 (by decide) ?_
  obtain ⟨x6, w5, hc, hf⟩ := bd_some hf
  refine q_callS1 (v := .int x6) (As := [.int (v1 >>> ((9 : Int32) &&& 31)), .int (10000 : Int32)]) C hH gk_L_137 yd_L_low (by omega) (by omega) (c_L_low hc) hl.1 rfl (Nat.le_of_ble_eq_true rfl) dL_act_422 ⟨Nat.le_of_ble_eq_true rfl, Nat.le_of_ble_eq_true rfl⟩ (fun H locs hH hP => ?_)
  refine lv_iload_n hx hb dL_act_425 rfl (lv_at hl 0 rfl) ?_
  refine lv_bipush (v := (6 : Int32)) hx hb dL_act_426 (by decide) ?_
  refine lv_ishr hx hb dL_act_428 ?_
  refine lv_iconst (v := (1 : Int32)) hx hb dL_act_429 (by decide) ?_
  refine lv_iand hx hb dL_act_430 ?_
  refine lv_iconst (v := (0 : Int32)) hx hb dL_act_431 (by decide) ?_
  obtain ⟨x8, w7, hc, hf⟩ := bd_some hf
  refine q_callLW (As := [.ref (B + 0), .int t1, .int x2, .int x4, .int x6, .int ((v1 >>> ((6 : Int32) &&& 31)) &&& (1 : Int32)), .int (0 : Int32)]) C hH (k := x8) (goodSW wd_1248 wd_1249 wd_49 wd_1250) yd_L_more (c_L_more htr hc) (by exact Nat.le_of_ble_eq_true rfl) (by exact Nat.le_of_ble_eq_true rfl) hl.1 rfl (Nat.le_of_ble_eq_true rfl) dL_act_432 ⟨by exact Nat.le_of_ble_eq_true rfl, by exact Nat.le_of_ble_eq_true rfl⟩ (fun H locs hH => ?_)
  cases hf
  exact W.widen (k := 1) (n := 6 * 1) (by decide) (by decide) (q_reti C hH trivial dL_act_435)
set_option maxRecDepth 100000 in
set_option maxHeartbeats 4000000 in
theorem t_L_act_371 {D : va_G} {B : Nat} {Y : Nat → ClassId} {p : Program} {l : Launch} {e : Env} {s : State} {m : MethodId} {args : Array Value} {below : List Frame} {meth : Method} {c : Code} {z : (Int32 × Wd)} {H : Heap} {locs : List Loc} {ls : Array Slot} {w : Wd} {v1 : Int32} {t1 : Int32} {t2 : Int32} {t3 : Int32} {t4 : Int32} {t5 : Int32} (C : CX D B Y p s m args meth c cL_act 10 RL (some .int)) (htr : l.stackTraces = false)    (z_t1 : isZ t1) (hH : HS D B Y w s H locs) (hl : lv_has ls 10 [(1, .int v1)]) (hf : f_L_act_371 v1 t1 t2 t3 t4 t5 w = some z) : W p l e (RM 34 1 (6 * 1)) s m args below meth c H locs 0 0 (MQ below (QG D B Y (some (.int z.1)) z.2 True) args s 1 (6 * 1) (AB B)) (F0 m 371 ls [.int t5, .int t4, .int t3, .int t2, .int t1, .ref (B + 0)]) := by
  have hx := C.1
  have hb := C.2.1
  unfold f_L_act_371 at hf
  obtain ⟨x2, w1, hc, hf⟩ := bd_some hf
  refine q_callS1 (v := .int x2) (As := [.int t4, .int t5]) C hH gk_L_137 yd_L_low (by omega) (by omega) (c_L_low hc) hl.1 rfl (Nat.le_of_ble_eq_true rfl) dL_act_371 ⟨Nat.le_of_ble_eq_true rfl, Nat.le_of_ble_eq_true rfl⟩ (fun H locs hH hP => ?_)
  refine lv_iconst (v := (1 : Int32)) hx hb dL_act_374 (by decide) ?_
  refine lv_iload_n hx hb dL_act_375 rfl (lv_at hl 0 rfl) ?_
  refine lv_iconst (v := (5 : Int32)) hx hb dL_act_376 (by decide) ?_
  refine lv_ishr hx hb dL_act_377 ?_
  refine lv_bipush (v := (10 : Int32)) hx hb dL_act_378 (by decide) ?_
  obtain ⟨x4, w3, hc, hf⟩ := bd_some hf
  refine q_callS1 (v := .int x4) (As := [.int (v1 >>> ((5 : Int32) &&& 31)), .int (10 : Int32)]) C hH gk_L_137 yd_L_low (by omega) (by omega) (c_L_low hc) hl.1 rfl (Nat.le_of_ble_eq_true rfl) dL_act_380 ⟨Nat.le_of_ble_eq_true rfl, Nat.le_of_ble_eq_true rfl⟩ (fun H locs hH hP => ?_)
  obtain ⟨x6, w5, hc, hf⟩ := bd_some hf
  refine q_callLW (As := [.ref (B + 0), .int t1, .int t2, .int t3, .int x2, .int (1 : Int32), .int x4]) C hH (k := x6) (goodSW wd_1248 wd_1249 wd_49 wd_1250) yd_L_more (c_L_more htr hc) (by exact Nat.le_of_ble_eq_true rfl) (by exact Nat.le_of_ble_eq_true rfl) hl.1 rfl (Nat.le_of_ble_eq_true rfl) dL_act_383 ⟨by exact Nat.le_of_ble_eq_true rfl, by exact Nat.le_of_ble_eq_true rfl⟩ (fun H locs hH => ?_)
  refine lv_goto (tgt := 435) hx hb dL_act_386 (by decide) ?_
  cases hf
  exact W.widen (k := 1) (n := 6 * 1) (by decide) (by decide) (q_reti C hH trivial dL_act_435)
set_option maxRecDepth 100000 in
set_option maxHeartbeats 4000000 in
theorem t_L_act_326 {D : va_G} {B : Nat} {Y : Nat → ClassId} {p : Program} {l : Launch} {e : Env} {s : State} {m : MethodId} {args : Array Value} {below : List Frame} {meth : Method} {c : Code} {z : (Int32 × Wd)} {H : Heap} {locs : List Loc} {ls : Array Slot} {w : Wd} {v1 : Int32} {t1 : Int32} {t2 : Int32} {t3 : Int32} {t4 : Int32} (C : CX D B Y p s m args meth c cL_act 10 RL (some .int)) (htr : l.stackTraces = false)     (hH : HS D B Y w s H locs) (hl : lv_has ls 10 [(1, .int v1)]) (hf : f_L_act_326 v1 t1 t2 t3 t4 w = some z) : W p l e (RM 34 1 (6 * 1)) s m args below meth c H locs 0 0 (MQ below (QG D B Y (some (.int z.1)) z.2 True) args s 1 (6 * 1) (AB B)) (F0 m 326 ls [.int t4, .int t3, .int t2, .int t1, .ref (B + 0)]) := by
  have hx := C.1
  have hb := C.2.1
  unfold f_L_act_326 at hf
  obtain ⟨x2, w1, hc, hf⟩ := bd_some hf
  refine q_callS1 (v := .int x2) (As := [.int t3, .int t4]) C hH gk_L_137 yd_L_low (by omega) (by omega) (c_L_low hc) hl.1 rfl (Nat.le_of_ble_eq_true rfl) dL_act_326 ⟨Nat.le_of_ble_eq_true rfl, Nat.le_of_ble_eq_true rfl⟩ (fun H locs hH hP => ?_)
  refine lv_iload_n hx hb dL_act_329 rfl (lv_at hl 0 rfl) ?_
  refine lv_iconst (v := (5 : Int32)) hx hb dL_act_330 (by decide) ?_
  refine lv_ishr hx hb dL_act_331 ?_
  refine lv_bipush (v := (100 : Int32)) hx hb dL_act_332 (by decide) ?_
  obtain ⟨x4, w3, hc, hf⟩ := bd_some hf
  refine q_callS1 (v := .int x4) (As := [.int (v1 >>> ((5 : Int32) &&& 31)), .int (100 : Int32)]) C hH gk_L_137 yd_L_low (by omega) (by omega) (c_L_low hc) hl.1 rfl (Nat.le_of_ble_eq_true rfl) dL_act_334 ⟨Nat.le_of_ble_eq_true rfl, Nat.le_of_ble_eq_true rfl⟩ (fun H locs hH hP => ?_)
  obtain ⟨x6, w5, hc, hf⟩ := bd_some hf
  refine q_callLW (As := [.ref (B + 0), .int t1, .int t2, .int x2, .int x4]) C hH (k := x6) (goodSW wd_431 wd_432 wd_49 wd_433) yd_L_does (c_L_does htr hc) (by exact Nat.le_of_ble_eq_true rfl) (by exact Nat.le_of_ble_eq_true rfl) hl.1 rfl (Nat.le_of_ble_eq_true rfl) dL_act_337 ⟨by exact Nat.le_of_ble_eq_true rfl, by exact Nat.le_of_ble_eq_true rfl⟩ (fun H locs hH => ?_)
  refine lv_goto (tgt := 435) hx hb dL_act_340 (by decide) ?_
  cases hf
  exact W.widen (k := 1) (n := 6 * 1) (by decide) (by decide) (q_reti C hH trivial dL_act_435)
set_option maxRecDepth 100000 in
set_option maxHeartbeats 4000000 in
theorem t_L_act_187 {D : va_G} {B : Nat} {Y : Nat → ClassId} {p : Program} {l : Launch} {e : Env} {s : State} {m : MethodId} {args : Array Value} {below : List Frame} {meth : Method} {c : Code} {z : (Int32 × Wd)} {H : Heap} {locs : List Loc} {ls : Array Slot} {w : Wd} {v1 : Int32} {t1 : Int32} {t2 : Int32} {t3 : Int32} {t4 : Int32} {t5 : Int32} {t6 : Int32} {t7 : Int32} (C : CX D B Y p s m args meth c cL_act 10 RL (some .int)) (htr : l.stackTraces = false)    (z_t1 : isZ t1) (hH : HS D B Y w s H locs) (hl : lv_has ls 10 [(1, .int v1)]) (hf : f_L_act_187 v1 t1 t2 t3 t4 t5 t6 t7 w = some z) : W p l e (RM 34 1 (6 * 1)) s m args below meth c H locs 0 0 (MQ below (QG D B Y (some (.int z.1)) z.2 True) args s 1 (6 * 1) (AB B)) (F0 m 187 ls [.int t7, .int t6, .int t5, .int t4, .int t3, .int t2, .int t1, .ref (B + 0)]) := by
  have hx := C.1
  have hb := C.2.1
  unfold f_L_act_187 at hf
  obtain ⟨x2, w1, hc, hf⟩ := bd_some hf
  refine q_callS1 (v := .int x2) (As := [.int t6, .int t7]) C hH gk_L_137 yd_L_low (by omega) (by omega) (c_L_low hc) hl.1 rfl (Nat.le_of_ble_eq_true rfl) dL_act_187 ⟨Nat.le_of_ble_eq_true rfl, Nat.le_of_ble_eq_true rfl⟩ (fun H locs hH hP => ?_)
  refine lv_imul hx hb dL_act_190 ?_
  refine lv_iadd hx hb dL_act_191 ?_
  refine lv_iload_n hx hb dL_act_192 rfl (lv_at hl 0 rfl) ?_
  refine lv_bipush (v := (8 : Int32)) hx hb dL_act_193 (by decide) ?_
  refine lv_ishr hx hb dL_act_195 ?_
  refine lv_bipush (v := (16 : Int32)) hx hb dL_act_196 (by decide) ?_
  obtain ⟨x4, w3, hc, hf⟩ := bd_some hf
  refine q_callS1 (v := .int x4) (As := [.int (v1 >>> ((8 : Int32) &&& 31)), .int (16 : Int32)]) C hH gk_L_137 yd_L_low (by omega) (by omega) (c_L_low hc) hl.1 rfl (Nat.le_of_ble_eq_true rfl) dL_act_198 ⟨Nat.le_of_ble_eq_true rfl, Nat.le_of_ble_eq_true rfl⟩ (fun H locs hH hP => ?_)
  refine lv_iadd hx hb dL_act_201 ?_
  obtain ⟨x6, w5, hc, hf⟩ := bd_some hf
  refine q_callLW (As := [.ref (B + 0), .int t1, .int t2, .int t3, .int ((t4 + (t5 * x2)) + x4)]) C hH (k := x6) (goodSW wd_431 wd_432 wd_49 wd_433) yd_L_does (c_L_does htr hc) (by exact Nat.le_of_ble_eq_true rfl) (by exact Nat.le_of_ble_eq_true rfl) hl.1 rfl (Nat.le_of_ble_eq_true rfl) dL_act_202 ⟨by exact Nat.le_of_ble_eq_true rfl, by exact Nat.le_of_ble_eq_true rfl⟩ (fun H locs hH => ?_)
  refine lv_goto (tgt := 264) hx hb dL_act_205 (by decide) ?_
  cases hf
  exact W.widen (k := 1) (n := 6 * 1) (by decide) (by decide) (q_reti C hH trivial dL_act_264)
set_option maxRecDepth 100000 in
set_option maxHeartbeats 4000000 in
theorem t_L_act_154 {D : va_G} {B : Nat} {Y : Nat → ClassId} {p : Program} {l : Launch} {e : Env} {s : State} {m : MethodId} {args : Array Value} {below : List Frame} {meth : Method} {c : Code} {z : (Int32 × Wd)} {H : Heap} {locs : List Loc} {ls : Array Slot} {w : Wd} {v1 : Int32} {v2 : Int32} {t1 : Int32} {t2 : Int32} {t3 : Int32} (C : CX D B Y p s m args meth c cL_act 10 RL (some .int)) (htr : l.stackTraces = false)    (z_v2 : isZ v2) (z_t1 : isZ t1) (hH : HS D B Y w s H locs) (hl : lv_has ls 10 [(1, .int v1), (2, .int v2)]) (hf : f_L_act_154 v1 v2 t1 t2 t3 w = some z) : W p l e (RM 34 1 (6 * 1)) s m args below meth c H locs 0 0 (MQ below (QG D B Y (some (.int z.1)) z.2 True) args s 1 (6 * 1) (AB B)) (F0 m 154 ls [.int t3, .int t2, .int t1, .ref (B + 0)]) := by
  have hx := C.1
  have hb := C.2.1
  unfold f_L_act_154 at hf
  refine lv_sipush (v := (1000 : Int32)) hx hb dL_act_154 (by decide) ?_
  refine lv_iload_n hx hb dL_act_157 rfl (lv_at hl 0 rfl) ?_
  refine lv_bipush (v := (9 : Int32)) hx hb dL_act_158 (by decide) ?_
  refine lv_ishr hx hb dL_act_160 ?_
  refine lv_bipush (v := (14 : Int32)) hx hb dL_act_161 (by decide) ?_
  obtain ⟨x2, w1, hc, hf⟩ := bd_some hf
  refine q_callS1 (v := .int x2) (As := [.int (v1 >>> ((9 : Int32) &&& 31)), .int (14 : Int32)]) C hH gk_L_137 yd_L_low (by omega) (by omega) (c_L_low hc) hl.1 rfl (Nat.le_of_ble_eq_true rfl) dL_act_163 ⟨Nat.le_of_ble_eq_true rfl, Nat.le_of_ble_eq_true rfl⟩ (fun H locs hH hP => ?_)
  refine lv_bipush (v := (11 : Int32)) hx hb dL_act_166 (by decide) ?_
  refine lv_irem hx hb dL_act_168 (by decide) ?_
  refine lv_imul hx hb dL_act_169 ?_
  refine lv_bipush (v := (100 : Int32)) hx hb dL_act_170 (by decide) ?_
  refine lv_iload_n hx hb dL_act_172 rfl (lv_at hl 0 rfl) ?_
  refine lv_bipush (v := (11 : Int32)) hx hb dL_act_173 (by decide) ?_
  refine lv_ishr hx hb dL_act_175 ?_
  refine lv_iload_n hx hb dL_act_176 rfl (lv_at hl 1 rfl) ?_
  refine b_if_eq (tgt := 185) hx hb hf dL_act_177 (by decide) (fun hf => ?_) (fun hf => ?_)
  · refine lv_bipush (v := (7 : Int32)) hx hb dL_act_185 (by decide) ?_
    exact t_L_act_187 C htr z_t1 hH (lv_sub hl [0] rfl) hf
  · refine lv_bipush (v := (9 : Int32)) hx hb dL_act_180 (by decide) ?_
    refine lv_goto (tgt := 187) hx hb dL_act_182 (by decide) ?_
    exact t_L_act_187 C htr z_t1 hH (lv_sub hl [0] rfl) hf
set_option maxRecDepth 100000 in
set_option maxHeartbeats 4000000 in
theorem t_L_act_151 {D : va_G} {B : Nat} {Y : Nat → ClassId} {p : Program} {l : Launch} {e : Env} {s : State} {m : MethodId} {args : Array Value} {below : List Frame} {meth : Method} {c : Code} {z : (Int32 × Wd)} {H : Heap} {locs : List Loc} {ls : Array Slot} {w : Wd} {v1 : Int32} {v2 : Int32} {t1 : Int32} {t2 : Int32} {t3 : Int32} {t4 : Int32} (C : CX D B Y p s m args meth c cL_act 10 RL (some .int)) (htr : l.stackTraces = false)    (z_v2 : isZ v2) (z_t1 : isZ t1) (hH : HS D B Y w s H locs) (hl : lv_has ls 10 [(1, .int v1), (2, .int v2)]) (hf : f_L_act_151 v1 v2 t1 t2 t3 t4 w = some z) : W p l e (RM 34 1 (6 * 1)) s m args below meth c H locs 0 0 (MQ below (QG D B Y (some (.int z.1)) z.2 True) args s 1 (6 * 1) (AB B)) (F0 m 151 ls [.int t4, .int t3, .int t2, .int t1, .ref (B + 0)]) := by
  have hx := C.1
  have hb := C.2.1
  unfold f_L_act_151 at hf
  obtain ⟨x2, w1, hc, hf⟩ := bd_some hf
  refine q_callS1 (v := .int x2) (As := [.int t3, .int t4]) C hH gk_L_137 yd_L_low (by omega) (by omega) (c_L_low hc) hl.1 rfl (Nat.le_of_ble_eq_true rfl) dL_act_151 ⟨Nat.le_of_ble_eq_true rfl, Nat.le_of_ble_eq_true rfl⟩ (fun H locs hH hP => ?_)
  exact t_L_act_154 C htr z_v2 z_t1 hH (lv_sub hl [0, 1] rfl) hf
set_option maxRecDepth 100000 in
set_option maxHeartbeats 4000000 in
theorem t_L_act_107 {D : va_G} {B : Nat} {Y : Nat → ClassId} {p : Program} {l : Launch} {e : Env} {s : State} {m : MethodId} {args : Array Value} {below : List Frame} {meth : Method} {c : Code} {z : (Int32 × Wd)} {H : Heap} {locs : List Loc} {ls : Array Slot} {w : Wd} {v1 : Int32} {v2 : Int32} {v3 : Int32} {v4 : Int32} {v5 : Int32} {t0 : Int32} (C : CX D B Y p s m args meth c cL_act 10 RL (some .int)) (htr : l.stackTraces = false)    (z_v2 : isZ v2) (hH : HS D B Y w s H locs) (hl : lv_has ls 10 [(0, .ref (B + 0)), (1, .int v1), (2, .int v2), (3, .int v3), (4, .int v4), (5, .int v5)]) (hf : f_L_act_107 v1 v2 v3 v4 v5 t0 w = some z) : W p l e (RM 34 1 (6 * 1)) s m args below meth c H locs 0 0 (MQ below (QG D B Y (some (.int z.1)) z.2 True) args s 1 (6 * 1) (AB B)) (F0 m 107 ls [.int t0]) := by
  have hx := C.1
  have hb := C.2.1
  unfold f_L_act_107 at hf
  refine lv_istore (lv' := [(6, .int t0), (0, .ref (B + 0)), (1, .int v1), (2, .int v2), (3, .int v3), (4, .int v4), (5, .int v5)]) hx hb dL_act_107 hl (by decide) rfl (fun ls hl => ?_)
  refine lv_iload_n hx hb dL_act_109 rfl (lv_at hl 4 rfl) ?_
  refine lv_bipush (v := (14 : Int32)) hx hb dL_act_110 (by decide) ?_
  refine b_icmp_ge (tgt := 265) hx hb hf dL_act_112 (by decide) (fun hf => ?_) (fun hf => ?_)
  · refine lv_iload_n hx hb dL_act_265 rfl (lv_at hl 4 rfl) ?_
    refine lv_bipush (v := (20 : Int32)) hx hb dL_act_266 (by decide) ?_
    refine b_icmp_ge (tgt := 436) hx hb hf dL_act_268 (by decide) (fun hf => ?_) (fun hf => ?_)
    · refine lv_iload_n hx hb dL_act_436 rfl (lv_at hl 4 rfl) ?_
      refine lv_bipush (v := (33 : Int32)) hx hb dL_act_437 (by decide) ?_
      refine b_icmp_ge (tgt := 473) hx hb hf dL_act_439 (by decide) (fun hf => ?_) (fun hf => ?_)
      · refine lv_iload_n hx hb dL_act_473 rfl (lv_at hl 4 rfl) ?_
        refine lv_bipush (v := (39 : Int32)) hx hb dL_act_474 (by decide) ?_
        refine b_icmp_ge (tgt := 617) hx hb hf dL_act_476 (by decide) (fun hf => ?_) (fun hf => ?_)
        · refine lv_iload_n hx hb dL_act_617 rfl (lv_at hl 4 rfl) ?_
          refine lv_bipush (v := (50 : Int32)) hx hb dL_act_618 (by decide) ?_
          refine b_icmp_ge (tgt := 880) hx hb hf dL_act_620 (by decide) (fun hf => ?_) (fun hf => ?_)
          · refine lv_iload_n hx hb dL_act_880 rfl (lv_at hl 4 rfl) ?_
            refine lv_bipush (v := (50 : Int32)) hx hb dL_act_881 (by decide) ?_
            refine b_icmp_ne (tgt := 898) hx hb hf dL_act_883 (by decide) (fun hf => ?_) (fun hf => ?_)
            · refine lv_iload_n hx hb dL_act_898 rfl (lv_at hl 4 rfl) ?_
              refine lv_bipush (v := (51 : Int32)) hx hb dL_act_899 (by decide) ?_
              refine b_icmp_ne (tgt := 923) hx hb hf dL_act_901 (by decide) (fun hf => ?_) (fun hf => ?_)
              · refine lv_iload_n hx hb dL_act_923 rfl (lv_at hl 4 rfl) ?_
                refine lv_bipush (v := (52 : Int32)) hx hb dL_act_924 (by decide) ?_
                refine b_icmp_ne (tgt := 942) hx hb hf dL_act_926 (by decide) (fun hf => ?_) (fun hf => ?_)
                · refine lv_aload_n hx hb dL_act_942 rfl (lv_at hl 1 rfl) ?_
                  refine lv_bipush (v := (9 : Int32)) hx hb dL_act_943 (by decide) ?_
                  refine lv_iload hx hb dL_act_945 (lv_at hl 0 rfl) ?_
                  refine lv_iload hx hb dL_act_947 (lv_at hl 5 rfl) ?_
                  refine lv_iconst (v := (0 : Int32)) hx hb dL_act_949 (by decide) ?_
                  obtain ⟨x2, w1, hc, hf⟩ := bd_some hf
                  refine q_callLW (As := [.ref (B + 0), .int (9 : Int32), .int t0, .int v4, .int (0 : Int32)]) C hH (k := x2) (goodSW wd_431 wd_432 wd_49 wd_433) yd_L_does (c_L_does htr hc) (by exact Nat.le_of_ble_eq_true rfl) (by exact Nat.le_of_ble_eq_true rfl) hl.1 rfl (Nat.le_of_ble_eq_true rfl) dL_act_950 ⟨by exact Nat.le_of_ble_eq_true rfl, by exact Nat.le_of_ble_eq_true rfl⟩ (fun H locs hH => ?_)
                  cases hf
                  exact W.widen (k := 1) (n := 6 * 1) (by decide) (by decide) (q_reti C hH trivial dL_act_953)
                · refine lv_aload_n hx hb dL_act_929 rfl (lv_at hl 1 rfl) ?_
                  refine lv_bipush (v := (27 : Int32)) hx hb dL_act_930 (by decide) ?_
                  refine lv_iload hx hb dL_act_932 (lv_at hl 0 rfl) ?_
                  refine lv_iconst (v := (0 : Int32)) hx hb dL_act_934 (by decide) ?_
                  refine lv_iconst (v := (0 : Int32)) hx hb dL_act_935 (by decide) ?_
                  obtain ⟨x4, w3, hc, hf⟩ := bd_some hf
                  refine q_callLW (As := [.ref (B + 0), .int (27 : Int32), .int t0, .int (0 : Int32), .int (0 : Int32)]) C hH (k := x4) (goodSW wd_431 wd_432 wd_49 wd_433) yd_L_does (c_L_does htr hc) (by exact Nat.le_of_ble_eq_true rfl) (by exact Nat.le_of_ble_eq_true rfl) hl.1 rfl (Nat.le_of_ble_eq_true rfl) dL_act_936 ⟨by exact Nat.le_of_ble_eq_true rfl, by exact Nat.le_of_ble_eq_true rfl⟩ (fun H locs hH => ?_)
                  refine lv_goto (tgt := 953) hx hb dL_act_939 (by decide) ?_
                  cases hf
                  exact W.widen (k := 1) (n := 6 * 1) (by decide) (by decide) (q_reti C hH trivial dL_act_953)
              · refine lv_aload_n hx hb dL_act_904 rfl (lv_at hl 1 rfl) ?_
                refine lv_bipush (v := (8 : Int32)) hx hb dL_act_905 (by decide) ?_
                refine lv_iload_n hx hb dL_act_907 rfl (lv_at hl 2 rfl) ?_
                refine lv_bipush (v := (7 : Int32)) hx hb dL_act_908 (by decide) ?_
                refine lv_ishr hx hb dL_act_910 ?_
                refine lv_iconst (v := (5 : Int32)) hx hb dL_act_911 (by decide) ?_
                obtain ⟨x6, w5, hc, hf⟩ := bd_some hf
                refine q_callS1 (v := .int x6) (As := [.int (v1 >>> ((7 : Int32) &&& 31)), .int (5 : Int32)]) C hH gk_L_137 yd_L_low (by omega) (by omega) (c_L_low hc) hl.1 rfl (Nat.le_of_ble_eq_true rfl) dL_act_912 ⟨Nat.le_of_ble_eq_true rfl, Nat.le_of_ble_eq_true rfl⟩ (fun H locs hH hP => ?_)
                refine lv_iconst (v := (0 : Int32)) hx hb dL_act_915 (by decide) ?_
                refine lv_iconst (v := (0 : Int32)) hx hb dL_act_916 (by decide) ?_
                obtain ⟨x8, w7, hc, hf⟩ := bd_some hf
                refine q_callLW (As := [.ref (B + 0), .int (8 : Int32), .int x6, .int (0 : Int32), .int (0 : Int32)]) C hH (k := x8) (goodSW wd_431 wd_432 wd_49 wd_433) yd_L_does (c_L_does htr hc) (by exact Nat.le_of_ble_eq_true rfl) (by exact Nat.le_of_ble_eq_true rfl) hl.1 rfl (Nat.le_of_ble_eq_true rfl) dL_act_917 ⟨by exact Nat.le_of_ble_eq_true rfl, by exact Nat.le_of_ble_eq_true rfl⟩ (fun H locs hH => ?_)
                refine lv_goto (tgt := 953) hx hb dL_act_920 (by decide) ?_
                cases hf
                exact W.widen (k := 1) (n := 6 * 1) (by decide) (by decide) (q_reti C hH trivial dL_act_953)
            · refine lv_aload_n hx hb dL_act_886 rfl (lv_at hl 1 rfl) ?_
              refine lv_bipush (v := (7 : Int32)) hx hb dL_act_887 (by decide) ?_
              refine lv_iconst (v := (0 : Int32)) hx hb dL_act_889 (by decide) ?_
              refine lv_iconst (v := (0 : Int32)) hx hb dL_act_890 (by decide) ?_
              refine lv_iconst (v := (0 : Int32)) hx hb dL_act_891 (by decide) ?_
              obtain ⟨x10, w9, hc, hf⟩ := bd_some hf
              refine q_callLW (As := [.ref (B + 0), .int (7 : Int32), .int (0 : Int32), .int (0 : Int32), .int (0 : Int32)]) C hH (k := x10) (goodSW wd_431 wd_432 wd_49 wd_433) yd_L_does (c_L_does htr hc) (by exact Nat.le_of_ble_eq_true rfl) (by exact Nat.le_of_ble_eq_true rfl) hl.1 rfl (Nat.le_of_ble_eq_true rfl) dL_act_892 ⟨by exact Nat.le_of_ble_eq_true rfl, by exact Nat.le_of_ble_eq_true rfl⟩ (fun H locs hH => ?_)
              refine lv_goto (tgt := 953) hx hb dL_act_895 (by decide) ?_
              cases hf
              exact W.widen (k := 1) (n := 6 * 1) (by decide) (by decide) (q_reti C hH trivial dL_act_953)
          · refine lv_iload_n hx hb dL_act_623 rfl (lv_at hl 2 rfl) ?_
            refine lv_bipush (v := (7 : Int32)) hx hb dL_act_624 (by decide) ?_
            refine lv_ishr hx hb dL_act_626 ?_
            refine lv_bipush (v := (15 : Int32)) hx hb dL_act_627 (by decide) ?_
            refine lv_iand hx hb dL_act_629 ?_
            refine b_leti hf (fun x11 hf => ?_)
            refine lv_istore (lv' := [(7, .int x11), (6, .int t0), (0, .ref (B + 0)), (1, .int v1), (2, .int v2), (3, .int v3), (4, .int v4), (5, .int v5)]) hx hb dL_act_630 hl (by decide) rfl (fun ls hl => ?_)
            refine lv_iload hx hb dL_act_632 (lv_at hl 0 rfl) ?_
            refine b_if_ne (tgt := 643) hx hb hf dL_act_634 (by decide) (fun hf => ?_) (fun hf => ?_)
            · refine lv_iload hx hb dL_act_643 (lv_at hl 0 rfl) ?_
              refine lv_iconst (v := (1 : Int32)) hx hb dL_act_645 (by decide) ?_
              refine b_icmp_ne (tgt := 655) hx hb hf dL_act_646 (by decide) (fun hf => ?_) (fun hf => ?_)
              · refine lv_iload hx hb dL_act_655 (lv_at hl 0 rfl) ?_
                refine lv_iconst (v := (2 : Int32)) hx hb dL_act_657 (by decide) ?_
                refine b_icmp_ne (tgt := 667) hx hb hf dL_act_658 (by decide) (fun hf => ?_) (fun hf => ?_)
                · refine lv_iload hx hb dL_act_667 (lv_at hl 0 rfl) ?_
                  refine lv_iconst (v := (3 : Int32)) hx hb dL_act_669 (by decide) ?_
                  refine b_icmp_ne (tgt := 679) hx hb hf dL_act_670 (by decide) (fun hf => ?_) (fun hf => ?_)
                  · refine lv_iload hx hb dL_act_679 (lv_at hl 0 rfl) ?_
                    refine lv_iconst (v := (4 : Int32)) hx hb dL_act_681 (by decide) ?_
                    refine b_icmp_ne (tgt := 691) hx hb hf dL_act_682 (by decide) (fun hf => ?_) (fun hf => ?_)
                    · refine lv_iload hx hb dL_act_691 (lv_at hl 0 rfl) ?_
                      refine lv_iconst (v := (5 : Int32)) hx hb dL_act_693 (by decide) ?_
                      refine b_icmp_ne (tgt := 703) hx hb hf dL_act_694 (by decide) (fun hf => ?_) (fun hf => ?_)
                      · refine lv_iload hx hb dL_act_703 (lv_at hl 0 rfl) ?_
                        refine lv_bipush (v := (6 : Int32)) hx hb dL_act_705 (by decide) ?_
                        refine b_icmp_ne (tgt := 716) hx hb hf dL_act_707 (by decide) (fun hf => ?_) (fun hf => ?_)
                        · refine lv_iload hx hb dL_act_716 (lv_at hl 0 rfl) ?_
                          refine lv_bipush (v := (7 : Int32)) hx hb dL_act_718 (by decide) ?_
                          refine b_icmp_ne (tgt := 729) hx hb hf dL_act_720 (by decide) (fun hf => ?_) (fun hf => ?_)
                          · refine lv_iload hx hb dL_act_729 (lv_at hl 0 rfl) ?_
                            refine lv_bipush (v := (8 : Int32)) hx hb dL_act_731 (by decide) ?_
                            refine b_icmp_ne (tgt := 742) hx hb hf dL_act_733 (by decide) (fun hf => ?_) (fun hf => ?_)
                            · refine lv_iload hx hb dL_act_742 (lv_at hl 0 rfl) ?_
                              refine lv_bipush (v := (9 : Int32)) hx hb dL_act_744 (by decide) ?_
                              refine b_icmp_ne (tgt := 755) hx hb hf dL_act_746 (by decide) (fun hf => ?_) (fun hf => ?_)
                              · refine lv_ldc2 (v := (32 : Int64)) hx hb C.2.2.2.1 (C.2.2.2.2.1 _ wd_1292) dL_act_755 ?_
                                refine lv_iload_n hx hb dL_act_758 rfl (lv_at hl 3 rfl) ?_
                                refine lv_bipush (v := (11 : Int32)) hx hb dL_act_759 (by decide) ?_
                                refine lv_ishr hx hb dL_act_761 ?_
                                refine lv_bipush (v := (64 : Int32)) hx hb dL_act_762 (by decide) ?_
                                obtain ⟨x13, w12, hc, hf⟩ := bd_some hf
                                refine q_callS1 (v := .int x13) (As := [.int (v1 >>> ((11 : Int32) &&& 31)), .int (64 : Int32)]) C hH gk_L_137 yd_L_low (by omega) (by omega) (c_L_low hc) hl.1 rfl (Nat.le_of_ble_eq_true rfl) dL_act_764 ⟨Nat.le_of_ble_eq_true rfl, Nat.le_of_ble_eq_true rfl⟩ (fun H locs hH hP => ?_)
                                refine lv_i2l (v := x13.toInt64) hx hb dL_act_767 rfl ?_
                                refine lv_ladd hx hb dL_act_768 ?_
                                exact t_L_act_769 C htr z_v2 hH (lv_sub hl [2, 3, 4, 5, 1] rfl) hf
                              · refine lv_ldc2 (v := (48 : Int64)) hx hb C.2.2.2.1 (C.2.2.2.2.1 _ wd_1291) dL_act_749 ?_
                                refine lv_goto (tgt := 769) hx hb dL_act_752 (by decide) ?_
                                exact t_L_act_769 C htr z_v2 hH (lv_sub hl [2, 3, 4, 5, 1] rfl) hf
                            · refine lv_ldc2 (v := (125 : Int64)) hx hb C.2.2.2.1 (C.2.2.2.2.1 _ wd_1290) dL_act_736 ?_
                              refine lv_goto (tgt := 769) hx hb dL_act_739 (by decide) ?_
                              exact t_L_act_769 C htr z_v2 hH (lv_sub hl [2, 3, 4, 5, 1] rfl) hf
                          · refine lv_ldc2 (v := (123 : Int64)) hx hb C.2.2.2.1 (C.2.2.2.2.1 _ wd_1289) dL_act_723 ?_
                            refine lv_goto (tgt := 769) hx hb dL_act_726 (by decide) ?_
                            exact t_L_act_769 C htr z_v2 hH (lv_sub hl [2, 3, 4, 5, 1] rfl) hf
                        · refine lv_ldc2 (v := (33 : Int64)) hx hb C.2.2.2.1 (C.2.2.2.2.1 _ wd_1288) dL_act_710 ?_
                          refine lv_goto (tgt := 769) hx hb dL_act_713 (by decide) ?_
                          exact t_L_act_769 C htr z_v2 hH (lv_sub hl [2, 3, 4, 5, 1] rfl) hf
                      · refine lv_ldc2 (v := (60 : Int64)) hx hb C.2.2.2.1 (C.2.2.2.2.1 _ wd_1287) dL_act_697 ?_
                        refine lv_goto (tgt := 769) hx hb dL_act_700 (by decide) ?_
                        exact t_L_act_769 C htr z_v2 hH (lv_sub hl [2, 3, 4, 5, 1] rfl) hf
                    · refine lv_ldc2 (v := (63 : Int64)) hx hb C.2.2.2.1 (C.2.2.2.2.1 _ wd_1286) dL_act_685 ?_
                      refine lv_goto (tgt := 769) hx hb dL_act_688 (by decide) ?_
                      exact t_L_act_769 C htr z_v2 hH (lv_sub hl [2, 3, 4, 5, 1] rfl) hf
                  · refine lv_ldc2 (v := (42 : Int64)) hx hb C.2.2.2.1 (C.2.2.2.2.1 _ wd_1285) dL_act_673 ?_
                    refine lv_goto (tgt := 769) hx hb dL_act_676 (by decide) ?_
                    exact t_L_act_769 C htr z_v2 hH (lv_sub hl [2, 3, 4, 5, 1] rfl) hf
                · refine lv_ldc2 (v := (46 : Int64)) hx hb C.2.2.2.1 (C.2.2.2.2.1 _ wd_1284) dL_act_661 ?_
                  refine lv_goto (tgt := 769) hx hb dL_act_664 (by decide) ?_
                  exact t_L_act_769 C htr z_v2 hH (lv_sub hl [2, 3, 4, 5, 1] rfl) hf
              · refine lv_ldc2 (v := (77 : Int64)) hx hb C.2.2.2.1 (C.2.2.2.2.1 _ wd_1283) dL_act_649 ?_
                refine lv_goto (tgt := 769) hx hb dL_act_652 (by decide) ?_
                exact t_L_act_769 C htr z_v2 hH (lv_sub hl [2, 3, 4, 5, 1] rfl) hf
            · refine lv_ldc2 (v := (76 : Int64)) hx hb C.2.2.2.1 (C.2.2.2.2.1 _ wd_1282) dL_act_637 ?_
              refine lv_goto (tgt := 769) hx hb dL_act_640 (by decide) ?_
              exact t_L_act_769 C htr z_v2 hH (lv_sub hl [2, 3, 4, 5, 1] rfl) hf
        · refine lv_iload_n hx hb dL_act_479 rfl (lv_at hl 4 rfl) ?_
          refine lv_bipush (v := (33 : Int32)) hx hb dL_act_480 (by decide) ?_
          refine b_icmp_ne (tgt := 497) hx hb hf dL_act_482 (by decide) (fun hf => ?_) (fun hf => ?_)
          · refine lv_iload_n hx hb dL_act_497 rfl (lv_at hl 4 rfl) ?_
            refine lv_bipush (v := (34 : Int32)) hx hb dL_act_498 (by decide) ?_
            refine b_icmp_ne (tgt := 557) hx hb hf dL_act_500 (by decide) (fun hf => ?_) (fun hf => ?_)
            · refine lv_iload_n hx hb dL_act_557 rfl (lv_at hl 4 rfl) ?_
              refine lv_bipush (v := (37 : Int32)) hx hb dL_act_558 (by decide) ?_
              refine b_icmp_ge (tgt := 592) hx hb hf dL_act_560 (by decide) (fun hf => ?_) (fun hf => ?_)
              · refine lv_aload_n hx hb dL_act_592 rfl (lv_at hl 1 rfl) ?_
                refine lv_bipush (v := (24 : Int32)) hx hb dL_act_593 (by decide) ?_
                refine lv_iload hx hb dL_act_595 (lv_at hl 0 rfl) ?_
                refine lv_iload_n hx hb dL_act_597 rfl (lv_at hl 3 rfl) ?_
                refine b_if_eq (tgt := 606) hx hb hf dL_act_598 (by decide) (fun hf => ?_) (fun hf => ?_)
                · refine lv_iconst (v := (5 : Int32)) hx hb dL_act_606 (by decide) ?_
                  exact t_L_act_607 C htr hH (lv_sub hl [2] rfl) hf
                · refine lv_iload hx hb dL_act_601 (lv_at hl 0 rfl) ?_
                  refine lv_goto (tgt := 607) hx hb dL_act_603 (by decide) ?_
                  exact t_L_act_607 C htr hH (lv_sub hl [2] rfl) hf
              · refine lv_aload_n hx hb dL_act_563 rfl (lv_at hl 1 rfl) ?_
                refine lv_bipush (v := (12 : Int32)) hx hb dL_act_564 (by decide) ?_
                refine lv_iload hx hb dL_act_566 (lv_at hl 0 rfl) ?_
                refine lv_iload_n hx hb dL_act_568 rfl (lv_at hl 2 rfl) ?_
                refine lv_bipush (v := (7 : Int32)) hx hb dL_act_569 (by decide) ?_
                refine lv_ishr hx hb dL_act_571 ?_
                refine lv_iload_n hx hb dL_act_572 rfl (lv_at hl 3 rfl) ?_
                refine b_if_eq (tgt := 581) hx hb hf dL_act_573 (by decide) (fun hf => ?_) (fun hf => ?_)
                · refine lv_iconst (v := (4 : Int32)) hx hb dL_act_581 (by decide) ?_
                  exact t_L_act_582 C htr hH (lv_sub hl [] rfl) hf
                · refine lv_bipush (v := (6 : Int32)) hx hb dL_act_576 (by decide) ?_
                  refine lv_goto (tgt := 582) hx hb dL_act_578 (by decide) ?_
                  exact t_L_act_582 C htr hH (lv_sub hl [] rfl) hf
            · refine lv_aload_n hx hb dL_act_503 rfl (lv_at hl 1 rfl) ?_
              refine lv_bipush (v := (6 : Int32)) hx hb dL_act_504 (by decide) ?_
              refine lv_iload_n hx hb dL_act_506 rfl (lv_at hl 2 rfl) ?_
              refine lv_bipush (v := (8 : Int32)) hx hb dL_act_507 (by decide) ?_
              refine lv_ishr hx hb dL_act_509 ?_
              refine lv_iconst (v := (1 : Int32)) hx hb dL_act_510 (by decide) ?_
              refine lv_iand hx hb dL_act_511 ?_
              refine lv_iload_n hx hb dL_act_512 rfl (lv_at hl 2 rfl) ?_
              refine lv_bipush (v := (9 : Int32)) hx hb dL_act_513 (by decide) ?_
              refine lv_ishr hx hb dL_act_515 ?_
              refine lv_bipush (v := (6 : Int32)) hx hb dL_act_516 (by decide) ?_
              obtain ⟨x15, w14, hc, hf⟩ := bd_some hf
              refine q_callS1 (v := .int x15) (As := [.int (v1 >>> ((9 : Int32) &&& 31)), .int (6 : Int32)]) C hH gk_L_137 yd_L_low (by omega) (by omega) (c_L_low hc) hl.1 rfl (Nat.le_of_ble_eq_true rfl) dL_act_518 ⟨Nat.le_of_ble_eq_true rfl, Nat.le_of_ble_eq_true rfl⟩ (fun H locs hH hP => ?_)
              refine lv_sipush (v := (1000 : Int32)) hx hb dL_act_521 (by decide) ?_
              refine lv_imul hx hb dL_act_524 ?_
              refine lv_iload_n hx hb dL_act_525 rfl (lv_at hl 2 rfl) ?_
              refine lv_bipush (v := (7 : Int32)) hx hb dL_act_526 (by decide) ?_
              refine lv_ishr hx hb dL_act_528 ?_
              refine lv_iconst (v := (3 : Int32)) hx hb dL_act_529 (by decide) ?_
              obtain ⟨x17, w16, hc, hf⟩ := bd_some hf
              refine q_callS1 (v := .int x17) (As := [.int (v1 >>> ((7 : Int32) &&& 31)), .int (3 : Int32)]) C hH gk_L_137 yd_L_low (by omega) (by omega) (c_L_low hc) hl.1 rfl (Nat.le_of_ble_eq_true rfl) dL_act_530 ⟨Nat.le_of_ble_eq_true rfl, Nat.le_of_ble_eq_true rfl⟩ (fun H locs hH hP => ?_)
              refine lv_bipush (v := (100 : Int32)) hx hb dL_act_533 (by decide) ?_
              refine lv_imul hx hb dL_act_535 ?_
              refine lv_iadd hx hb dL_act_536 ?_
              refine lv_bipush (v := (30 : Int32)) hx hb dL_act_537 (by decide) ?_
              refine lv_iadd hx hb dL_act_539 ?_
              refine lv_iload_n hx hb dL_act_540 rfl (lv_at hl 2 rfl) ?_
              refine lv_bipush (v := (6 : Int32)) hx hb dL_act_541 (by decide) ?_
              refine lv_ishr hx hb dL_act_543 ?_
              refine lv_bipush (v := (6 : Int32)) hx hb dL_act_544 (by decide) ?_
              obtain ⟨x19, w18, hc, hf⟩ := bd_some hf
              refine q_callS1 (v := .int x19) (As := [.int (v1 >>> ((6 : Int32) &&& 31)), .int (6 : Int32)]) C hH gk_L_137 yd_L_low (by omega) (by omega) (c_L_low hc) hl.1 rfl (Nat.le_of_ble_eq_true rfl) dL_act_546 ⟨Nat.le_of_ble_eq_true rfl, Nat.le_of_ble_eq_true rfl⟩ (fun H locs hH hP => ?_)
              refine lv_iadd hx hb dL_act_549 ?_
              refine lv_iconst (v := (0 : Int32)) hx hb dL_act_550 (by decide) ?_
              obtain ⟨x21, w20, hc, hf⟩ := bd_some hf
              refine q_callLW (As := [.ref (B + 0), .int (6 : Int32), .int ((v1 >>> ((8 : Int32) &&& 31)) &&& (1 : Int32)), .int ((((x15 * (1000 : Int32)) + (x17 * (100 : Int32))) + (30 : Int32)) + x19), .int (0 : Int32)]) C hH (k := x21) (goodSW wd_431 wd_432 wd_49 wd_433) yd_L_does (c_L_does htr hc) (by exact Nat.le_of_ble_eq_true rfl) (by exact Nat.le_of_ble_eq_true rfl) hl.1 rfl (Nat.le_of_ble_eq_true rfl) dL_act_551 ⟨by exact Nat.le_of_ble_eq_true rfl, by exact Nat.le_of_ble_eq_true rfl⟩ (fun H locs hH => ?_)
              refine lv_goto (tgt := 616) hx hb dL_act_554 (by decide) ?_
              cases hf
              exact W.widen (k := 1) (n := 6 * 1) (by decide) (by decide) (q_reti C hH trivial dL_act_616)
          · refine lv_aload_n hx hb dL_act_485 rfl (lv_at hl 1 rfl) ?_
            refine lv_iconst (v := (5 : Int32)) hx hb dL_act_486 (by decide) ?_
            refine lv_iload hx hb dL_act_487 (lv_at hl 0 rfl) ?_
            refine lv_iconst (v := (0 : Int32)) hx hb dL_act_489 (by decide) ?_
            refine lv_iconst (v := (0 : Int32)) hx hb dL_act_490 (by decide) ?_
            obtain ⟨x23, w22, hc, hf⟩ := bd_some hf
            refine q_callLW (As := [.ref (B + 0), .int (5 : Int32), .int t0, .int (0 : Int32), .int (0 : Int32)]) C hH (k := x23) (goodSW wd_431 wd_432 wd_49 wd_433) yd_L_does (c_L_does htr hc) (by exact Nat.le_of_ble_eq_true rfl) (by exact Nat.le_of_ble_eq_true rfl) hl.1 rfl (Nat.le_of_ble_eq_true rfl) dL_act_491 ⟨by exact Nat.le_of_ble_eq_true rfl, by exact Nat.le_of_ble_eq_true rfl⟩ (fun H locs hH => ?_)
            refine lv_goto (tgt := 616) hx hb dL_act_494 (by decide) ?_
            cases hf
            exact W.widen (k := 1) (n := 6 * 1) (by decide) (by decide) (q_reti C hH trivial dL_act_616)
      · refine lv_iload_n hx hb dL_act_442 rfl (lv_at hl 4 rfl) ?_
        refine lv_bipush (v := (31 : Int32)) hx hb dL_act_443 (by decide) ?_
        refine b_icmp_ge (tgt := 462) hx hb hf dL_act_445 (by decide) (fun hf => ?_) (fun hf => ?_)
        · refine lv_aload_n hx hb dL_act_462 rfl (lv_at hl 1 rfl) ?_
          refine lv_bipush (v := (10 : Int32)) hx hb dL_act_463 (by decide) ?_
          refine lv_iload hx hb dL_act_465 (lv_at hl 0 rfl) ?_
          refine lv_iconst (v := (0 : Int32)) hx hb dL_act_467 (by decide) ?_
          refine lv_iconst (v := (0 : Int32)) hx hb dL_act_468 (by decide) ?_
          obtain ⟨x25, w24, hc, hf⟩ := bd_some hf
          refine q_callLW (As := [.ref (B + 0), .int (10 : Int32), .int t0, .int (0 : Int32), .int (0 : Int32)]) C hH (k := x25) (goodSW wd_431 wd_432 wd_49 wd_433) yd_L_does (c_L_does htr hc) (by exact Nat.le_of_ble_eq_true rfl) (by exact Nat.le_of_ble_eq_true rfl) hl.1 rfl (Nat.le_of_ble_eq_true rfl) dL_act_469 ⟨by exact Nat.le_of_ble_eq_true rfl, by exact Nat.le_of_ble_eq_true rfl⟩ (fun H locs hH => ?_)
          cases hf
          exact W.widen (k := 1) (n := 6 * 1) (by decide) (by decide) (q_reti C hH trivial dL_act_472)
        · refine lv_aload_n hx hb dL_act_448 rfl (lv_at hl 1 rfl) ?_
          refine lv_bipush (v := (9 : Int32)) hx hb dL_act_449 (by decide) ?_
          refine lv_iload hx hb dL_act_451 (lv_at hl 0 rfl) ?_
          refine lv_iload hx hb dL_act_453 (lv_at hl 5 rfl) ?_
          refine lv_iconst (v := (0 : Int32)) hx hb dL_act_455 (by decide) ?_
          obtain ⟨x27, w26, hc, hf⟩ := bd_some hf
          refine q_callLW (As := [.ref (B + 0), .int (9 : Int32), .int t0, .int v4, .int (0 : Int32)]) C hH (k := x27) (goodSW wd_431 wd_432 wd_49 wd_433) yd_L_does (c_L_does htr hc) (by exact Nat.le_of_ble_eq_true rfl) (by exact Nat.le_of_ble_eq_true rfl) hl.1 rfl (Nat.le_of_ble_eq_true rfl) dL_act_456 ⟨by exact Nat.le_of_ble_eq_true rfl, by exact Nat.le_of_ble_eq_true rfl⟩ (fun H locs hH => ?_)
          refine lv_goto (tgt := 472) hx hb dL_act_459 (by decide) ?_
          cases hf
          exact W.widen (k := 1) (n := 6 * 1) (by decide) (by decide) (q_reti C hH trivial dL_act_472)
    · refine lv_iload_n hx hb dL_act_271 rfl (lv_at hl 4 rfl) ?_
      refine lv_bipush (v := (16 : Int32)) hx hb dL_act_272 (by decide) ?_
      refine b_icmp_ge (tgt := 300) hx hb hf dL_act_274 (by decide) (fun hf => ?_) (fun hf => ?_)
      · refine lv_iload_n hx hb dL_act_300 rfl (lv_at hl 4 rfl) ?_
        refine lv_bipush (v := (18 : Int32)) hx hb dL_act_301 (by decide) ?_
        refine b_icmp_ge (tgt := 343) hx hb hf dL_act_303 (by decide) (fun hf => ?_) (fun hf => ?_)
        · refine lv_iload_n hx hb dL_act_343 rfl (lv_at hl 4 rfl) ?_
          refine lv_bipush (v := (18 : Int32)) hx hb dL_act_344 (by decide) ?_
          refine b_icmp_ne (tgt := 389) hx hb hf dL_act_346 (by decide) (fun hf => ?_) (fun hf => ?_)
          · refine lv_aload_n hx hb dL_act_389 rfl (lv_at hl 1 rfl) ?_
            refine lv_iconst (v := (1 : Int32)) hx hb dL_act_390 (by decide) ?_
            refine lv_iload_n hx hb dL_act_391 rfl (lv_at hl 2 rfl) ?_
            refine lv_bipush (v := (7 : Int32)) hx hb dL_act_392 (by decide) ?_
            refine lv_ishr hx hb dL_act_394 ?_
            refine lv_iload_n hx hb dL_act_395 rfl (lv_at hl 3 rfl) ?_
            refine b_if_eq (tgt := 403) hx hb hf dL_act_396 (by decide) (fun hf => ?_) (fun hf => ?_)
            · refine lv_iconst (v := (3 : Int32)) hx hb dL_act_403 (by decide) ?_
              exact t_L_act_404 C htr isZ_1 hH (lv_sub hl [2] rfl) hf
            · refine lv_iconst (v := (5 : Int32)) hx hb dL_act_399 (by decide) ?_
              refine lv_goto (tgt := 404) hx hb dL_act_400 (by decide) ?_
              exact t_L_act_404 C htr isZ_1 hH (lv_sub hl [2] rfl) hf
          · refine lv_aload_n hx hb dL_act_349 rfl (lv_at hl 1 rfl) ?_
            refine lv_iconst (v := (0 : Int32)) hx hb dL_act_350 (by decide) ?_
            refine lv_iload hx hb dL_act_351 (lv_at hl 5 rfl) ?_
            refine lv_iload hx hb dL_act_353 (lv_at hl 6 rfl) ?_
            refine lv_iload_n hx hb dL_act_355 rfl (lv_at hl 2 rfl) ?_
            refine lv_bipush (v := (9 : Int32)) hx hb dL_act_356 (by decide) ?_
            refine lv_ishr hx hb dL_act_358 ?_
            refine lv_iload_n hx hb dL_act_359 rfl (lv_at hl 3 rfl) ?_
            refine b_if_eq (tgt := 369) hx hb hf dL_act_360 (by decide) (fun hf => ?_) (fun hf => ?_)
            · refine lv_bipush (v := (100 : Int32)) hx hb dL_act_369 (by decide) ?_
              exact t_L_act_371 C htr isZ_0 hH (lv_sub hl [2] rfl) hf
            · refine lv_sipush (v := (140 : Int32)) hx hb dL_act_363 (by decide) ?_
              refine lv_goto (tgt := 371) hx hb dL_act_366 (by decide) ?_
              exact t_L_act_371 C htr isZ_0 hH (lv_sub hl [2] rfl) hf
        · refine lv_aload_n hx hb dL_act_306 rfl (lv_at hl 1 rfl) ?_
          refine lv_iconst (v := (4 : Int32)) hx hb dL_act_307 (by decide) ?_
          refine lv_iload hx hb dL_act_308 (lv_at hl 5 rfl) ?_
          refine lv_iload_n hx hb dL_act_310 rfl (lv_at hl 2 rfl) ?_
          refine lv_bipush (v := (9 : Int32)) hx hb dL_act_311 (by decide) ?_
          refine lv_ishr hx hb dL_act_313 ?_
          refine lv_iload_n hx hb dL_act_314 rfl (lv_at hl 3 rfl) ?_
          refine b_if_eq (tgt := 324) hx hb hf dL_act_315 (by decide) (fun hf => ?_) (fun hf => ?_)
          · refine lv_bipush (v := (100 : Int32)) hx hb dL_act_324 (by decide) ?_
            exact t_L_act_326 C htr hH (lv_sub hl [2] rfl) hf
          · refine lv_sipush (v := (140 : Int32)) hx hb dL_act_318 (by decide) ?_
            refine lv_goto (tgt := 326) hx hb dL_act_321 (by decide) ?_
            exact t_L_act_326 C htr hH (lv_sub hl [2] rfl) hf
      · refine lv_aload_n hx hb dL_act_277 rfl (lv_at hl 1 rfl) ?_
        refine lv_iconst (v := (2 : Int32)) hx hb dL_act_278 (by decide) ?_
        refine lv_iload hx hb dL_act_279 (lv_at hl 5 rfl) ?_
        refine lv_iload hx hb dL_act_281 (lv_at hl 6 rfl) ?_
        refine lv_iload_n hx hb dL_act_283 rfl (lv_at hl 2 rfl) ?_
        refine lv_bipush (v := (12 : Int32)) hx hb dL_act_284 (by decide) ?_
        refine lv_ishr hx hb dL_act_286 ?_
        refine lv_bipush (v := (17 : Int32)) hx hb dL_act_287 (by decide) ?_
        obtain ⟨x29, w28, hc, hf⟩ := bd_some hf
        refine q_callS1 (v := .int x29) (As := [.int (v1 >>> ((12 : Int32) &&& 31)), .int (17 : Int32)]) C hH gk_L_137 yd_L_low (by omega) (by omega) (c_L_low hc) hl.1 rfl (Nat.le_of_ble_eq_true rfl) dL_act_289 ⟨Nat.le_of_ble_eq_true rfl, Nat.le_of_ble_eq_true rfl⟩ (fun H locs hH hP => ?_)
        refine lv_iconst (v := (1 : Int32)) hx hb dL_act_292 (by decide) ?_
        refine lv_isub hx hb dL_act_293 ?_
        obtain ⟨x31, w30, hc, hf⟩ := bd_some hf
        refine q_callLW (As := [.ref (B + 0), .int (2 : Int32), .int v4, .int v5, .int (x29 - (1 : Int32))]) C hH (k := x31) (goodSW wd_431 wd_432 wd_49 wd_433) yd_L_does (c_L_does htr hc) (by exact Nat.le_of_ble_eq_true rfl) (by exact Nat.le_of_ble_eq_true rfl) hl.1 rfl (Nat.le_of_ble_eq_true rfl) dL_act_294 ⟨by exact Nat.le_of_ble_eq_true rfl, by exact Nat.le_of_ble_eq_true rfl⟩ (fun H locs hH => ?_)
        refine lv_goto (tgt := 435) hx hb dL_act_297 (by decide) ?_
        cases hf
        exact W.widen (k := 1) (n := 6 * 1) (by decide) (by decide) (q_reti C hH trivial dL_act_435)
  · refine lv_iload_n hx hb dL_act_115 rfl (lv_at hl 4 rfl) ?_
    refine lv_bipush (v := (9 : Int32)) hx hb dL_act_116 (by decide) ?_
    refine b_icmp_ge (tgt := 208) hx hb hf dL_act_118 (by decide) (fun hf => ?_) (fun hf => ?_)
    · refine lv_iload_n hx hb dL_act_208 rfl (lv_at hl 4 rfl) ?_
      refine lv_bipush (v := (12 : Int32)) hx hb dL_act_209 (by decide) ?_
      refine b_icmp_ge (tgt := 235) hx hb hf dL_act_211 (by decide) (fun hf => ?_) (fun hf => ?_)
      · refine lv_iload_n hx hb dL_act_235 rfl (lv_at hl 4 rfl) ?_
        refine lv_bipush (v := (12 : Int32)) hx hb dL_act_236 (by decide) ?_
        refine b_icmp_ne (tgt := 254) hx hb hf dL_act_238 (by decide) (fun hf => ?_) (fun hf => ?_)
        · refine lv_aload_n hx hb dL_act_254 rfl (lv_at hl 1 rfl) ?_
          refine lv_iconst (v := (2 : Int32)) hx hb dL_act_255 (by decide) ?_
          refine lv_iload hx hb dL_act_256 (lv_at hl 5 rfl) ?_
          refine lv_iload hx hb dL_act_258 (lv_at hl 6 rfl) ?_
          refine lv_iconst (v := (-1 : Int32)) hx hb dL_act_260 (by decide) ?_
          obtain ⟨x33, w32, hc, hf⟩ := bd_some hf
          refine q_callLW (As := [.ref (B + 0), .int (2 : Int32), .int v4, .int v5, .int (-1 : Int32)]) C hH (k := x33) (goodSW wd_431 wd_432 wd_49 wd_433) yd_L_does (c_L_does htr hc) (by exact Nat.le_of_ble_eq_true rfl) (by exact Nat.le_of_ble_eq_true rfl) hl.1 rfl (Nat.le_of_ble_eq_true rfl) dL_act_261 ⟨by exact Nat.le_of_ble_eq_true rfl, by exact Nat.le_of_ble_eq_true rfl⟩ (fun H locs hH => ?_)
          cases hf
          exact W.widen (k := 1) (n := 6 * 1) (by decide) (by decide) (q_reti C hH trivial dL_act_264)
        · refine lv_aload_n hx hb dL_act_241 rfl (lv_at hl 1 rfl) ?_
          refine lv_iconst (v := (3 : Int32)) hx hb dL_act_242 (by decide) ?_
          refine lv_iload hx hb dL_act_243 (lv_at hl 5 rfl) ?_
          refine lv_iload hx hb dL_act_245 (lv_at hl 6 rfl) ?_
          refine lv_iconst (v := (0 : Int32)) hx hb dL_act_247 (by decide) ?_
          obtain ⟨x35, w34, hc, hf⟩ := bd_some hf
          refine q_callLW (As := [.ref (B + 0), .int (3 : Int32), .int v4, .int v5, .int (0 : Int32)]) C hH (k := x35) (goodSW wd_431 wd_432 wd_49 wd_433) yd_L_does (c_L_does htr hc) (by exact Nat.le_of_ble_eq_true rfl) (by exact Nat.le_of_ble_eq_true rfl) hl.1 rfl (Nat.le_of_ble_eq_true rfl) dL_act_248 ⟨by exact Nat.le_of_ble_eq_true rfl, by exact Nat.le_of_ble_eq_true rfl⟩ (fun H locs hH => ?_)
          refine lv_goto (tgt := 264) hx hb dL_act_251 (by decide) ?_
          cases hf
          exact W.widen (k := 1) (n := 6 * 1) (by decide) (by decide) (q_reti C hH trivial dL_act_264)
      · refine lv_aload_n hx hb dL_act_214 rfl (lv_at hl 1 rfl) ?_
        refine lv_iconst (v := (1 : Int32)) hx hb dL_act_215 (by decide) ?_
        refine lv_iload hx hb dL_act_216 (lv_at hl 5 rfl) ?_
        refine lv_iload hx hb dL_act_218 (lv_at hl 6 rfl) ?_
        refine lv_iload_n hx hb dL_act_220 rfl (lv_at hl 2 rfl) ?_
        refine lv_bipush (v := (12 : Int32)) hx hb dL_act_221 (by decide) ?_
        refine lv_ishr hx hb dL_act_223 ?_
        refine lv_bipush (v := (16 : Int32)) hx hb dL_act_224 (by decide) ?_
        obtain ⟨x37, w36, hc, hf⟩ := bd_some hf
        refine q_callS1 (v := .int x37) (As := [.int (v1 >>> ((12 : Int32) &&& 31)), .int (16 : Int32)]) C hH gk_L_137 yd_L_low (by omega) (by omega) (c_L_low hc) hl.1 rfl (Nat.le_of_ble_eq_true rfl) dL_act_226 ⟨Nat.le_of_ble_eq_true rfl, Nat.le_of_ble_eq_true rfl⟩ (fun H locs hH hP => ?_)
        obtain ⟨x39, w38, hc, hf⟩ := bd_some hf
        refine q_callLW (As := [.ref (B + 0), .int (1 : Int32), .int v4, .int v5, .int x37]) C hH (k := x39) (goodSW wd_431 wd_432 wd_49 wd_433) yd_L_does (c_L_does htr hc) (by exact Nat.le_of_ble_eq_true rfl) (by exact Nat.le_of_ble_eq_true rfl) hl.1 rfl (Nat.le_of_ble_eq_true rfl) dL_act_229 ⟨by exact Nat.le_of_ble_eq_true rfl, by exact Nat.le_of_ble_eq_true rfl⟩ (fun H locs hH => ?_)
        refine lv_goto (tgt := 264) hx hb dL_act_232 (by decide) ?_
        cases hf
        exact W.widen (k := 1) (n := 6 * 1) (by decide) (by decide) (q_reti C hH trivial dL_act_264)
    · refine lv_aload_n hx hb dL_act_121 rfl (lv_at hl 1 rfl) ?_
      refine lv_iconst (v := (0 : Int32)) hx hb dL_act_122 (by decide) ?_
      refine lv_iload hx hb dL_act_123 (lv_at hl 5 rfl) ?_
      refine lv_iload_n hx hb dL_act_125 rfl (lv_at hl 2 rfl) ?_
      refine lv_iconst (v := (4 : Int32)) hx hb dL_act_126 (by decide) ?_
      refine lv_ishr hx hb dL_act_127 ?_
      refine lv_iconst (v := (1 : Int32)) hx hb dL_act_128 (by decide) ?_
      refine lv_iand hx hb dL_act_129 ?_
      refine b_if_ne (tgt := 137) hx hb hf dL_act_130 (by decide) (fun hf => ?_) (fun hf => ?_)
      · refine lv_iload_n hx hb dL_act_137 rfl (lv_at hl 2 rfl) ?_
        refine lv_bipush (v := (7 : Int32)) hx hb dL_act_138 (by decide) ?_
        refine lv_ishr hx hb dL_act_140 ?_
        refine lv_iload_n hx hb dL_act_141 rfl (lv_at hl 3 rfl) ?_
        refine b_if_eq (tgt := 150) hx hb hf dL_act_142 (by decide) (fun hf => ?_) (fun hf => ?_)
        · refine lv_iconst (v := (4 : Int32)) hx hb dL_act_150 (by decide) ?_
          exact t_L_act_151 C htr z_v2 isZ_0 hH (lv_sub hl [2, 3] rfl) hf
        · refine lv_bipush (v := (14 : Int32)) hx hb dL_act_145 (by decide) ?_
          refine lv_goto (tgt := 151) hx hb dL_act_147 (by decide) ?_
          exact t_L_act_151 C htr z_v2 isZ_0 hH (lv_sub hl [2, 3] rfl) hf
      · refine lv_iconst (v := (0 : Int32)) hx hb dL_act_133 (by decide) ?_
        refine lv_goto (tgt := 154) hx hb dL_act_134 (by decide) ?_
        exact t_L_act_154 C htr z_v2 isZ_0 hH (lv_sub hl [2, 3] rfl) hf
set_option maxRecDepth 100000 in
set_option maxHeartbeats 4000000 in
theorem t_L_act_81 {D : va_G} {B : Nat} {Y : Nat → ClassId} {p : Program} {l : Launch} {e : Env} {s : State} {m : MethodId} {args : Array Value} {below : List Frame} {meth : Method} {c : Code} {z : (Int32 × Wd)} {H : Heap} {locs : List Loc} {ls : Array Slot} {w : Wd} {v1 : Int32} {v2 : Int32} {v3 : Int32} {v4 : Int32} {t0 : Int32} (C : CX D B Y p s m args meth c cL_act 10 RL (some .int)) (htr : l.stackTraces = false)    (z_v2 : isZ v2) (hH : HS D B Y w s H locs) (hl : lv_has ls 10 [(0, .ref (B + 0)), (1, .int v1), (2, .int v2), (3, .int v3), (4, .int v4)]) (hf : f_L_act_81 v1 v2 v3 v4 t0 w = some z) : W p l e (RM 34 1 (6 * 1)) s m args below meth c H locs 0 0 (MQ below (QG D B Y (some (.int z.1)) z.2 True) args s 1 (6 * 1) (AB B)) (F0 m 81 ls [.int t0]) := by
  have hx := C.1
  have hb := C.2.1
  unfold f_L_act_81 at hf
  refine lv_istore (lv' := [(5, .int t0), (0, .ref (B + 0)), (1, .int v1), (2, .int v2), (3, .int v3), (4, .int v4)]) hx hb dL_act_81 hl (by decide) rfl (fun ls hl => ?_)
  refine lv_iload_n hx hb dL_act_83 rfl (lv_at hl 3 rfl) ?_
  refine b_if_eq (tgt := 100) hx hb hf dL_act_84 (by decide) (fun hf => ?_) (fun hf => ?_)
  · refine lv_iload_n hx hb dL_act_100 rfl (lv_at hl 2 rfl) ?_
    refine lv_iconst (v := (5 : Int32)) hx hb dL_act_101 (by decide) ?_
    refine lv_ishr hx hb dL_act_102 ?_
    refine lv_iconst (v := (3 : Int32)) hx hb dL_act_103 (by decide) ?_
    obtain ⟨x2, w1, hc, hf⟩ := bd_some hf
    refine q_callS1 (v := .int x2) (As := [.int (v1 >>> ((5 : Int32) &&& 31)), .int (3 : Int32)]) C hH gk_L_137 yd_L_low (by omega) (by omega) (c_L_low hc) hl.1 rfl (Nat.le_of_ble_eq_true rfl) dL_act_104 ⟨Nat.le_of_ble_eq_true rfl, Nat.le_of_ble_eq_true rfl⟩ (fun H locs hH hP => ?_)
    exact t_L_act_107 C htr z_v2 hH (lv_sub hl [1, 2, 3, 4, 5, 0] rfl) hf
  · refine lv_iload_n hx hb dL_act_87 rfl (lv_at hl 2 rfl) ?_
    refine lv_iconst (v := (5 : Int32)) hx hb dL_act_88 (by decide) ?_
    refine lv_ishr hx hb dL_act_89 ?_
    refine lv_bipush (v := (9 : Int32)) hx hb dL_act_90 (by decide) ?_
    obtain ⟨x4, w3, hc, hf⟩ := bd_some hf
    refine q_callS1 (v := .int x4) (As := [.int (v1 >>> ((5 : Int32) &&& 31)), .int (9 : Int32)]) C hH gk_L_137 yd_L_low (by omega) (by omega) (c_L_low hc) hl.1 rfl (Nat.le_of_ble_eq_true rfl) dL_act_92 ⟨Nat.le_of_ble_eq_true rfl, Nat.le_of_ble_eq_true rfl⟩ (fun H locs hH hP => ?_)
    refine lv_iconst (v := (1 : Int32)) hx hb dL_act_95 (by decide) ?_
    refine lv_isub hx hb dL_act_96 ?_
    refine lv_goto (tgt := 107) hx hb dL_act_97 (by decide) ?_
    exact t_L_act_107 C htr z_v2 hH (lv_sub hl [1, 2, 3, 4, 5, 0] rfl) hf
set_option maxRecDepth 100000 in
set_option maxHeartbeats 4000000 in
theorem t_L_act_52 {D : va_G} {B : Nat} {Y : Nat → ClassId} {p : Program} {l : Launch} {e : Env} {s : State} {m : MethodId} {args : Array Value} {below : List Frame} {meth : Method} {c : Code} {z : (Int32 × Wd)} {H : Heap} {locs : List Loc} {ls : Array Slot} {w : Wd} {v1 : Int32} {v2 : Int32} {v3 : Int32} {t0 : Int32} (C : CX D B Y p s m args meth c cL_act 10 RL (some .int)) (htr : l.stackTraces = false)    (z_v2 : isZ v2) (hH : HS D B Y w s H locs) (hl : lv_has ls 10 [(0, .ref (B + 0)), (1, .int v1), (2, .int v2), (3, .int v3)]) (hf : f_L_act_52 v1 v2 v3 t0 w = some z) : W p l e (RM 34 1 (6 * 1)) s m args below meth c H locs 0 0 (MQ below (QG D B Y (some (.int z.1)) z.2 True) args s 1 (6 * 1) (AB B)) (F0 m 52 ls [.int t0]) := by
  have hx := C.1
  have hb := C.2.1
  unfold f_L_act_52 at hf
  refine lv_istore (lv' := [(4, .int t0), (0, .ref (B + 0)), (1, .int v1), (2, .int v2), (3, .int v3)]) hx hb dL_act_52 hl (by decide) rfl (fun ls hl => ?_)
  refine lv_iload_n hx hb dL_act_54 rfl (lv_at hl 3 rfl) ?_
  refine b_if_eq (tgt := 72) hx hb hf dL_act_55 (by decide) (fun hf => ?_) (fun hf => ?_)
  · refine lv_iload_n hx hb dL_act_72 rfl (lv_at hl 2 rfl) ?_
    refine lv_bipush (v := (10 : Int32)) hx hb dL_act_73 (by decide) ?_
    refine lv_ishr hx hb dL_act_75 ?_
    refine lv_bipush (v := (16 : Int32)) hx hb dL_act_76 (by decide) ?_
    obtain ⟨x2, w1, hc, hf⟩ := bd_some hf
    refine q_callS1 (v := .int x2) (As := [.int (v1 >>> ((10 : Int32) &&& 31)), .int (16 : Int32)]) C hH gk_L_137 yd_L_low (by omega) (by omega) (c_L_low hc) hl.1 rfl (Nat.le_of_ble_eq_true rfl) dL_act_78 ⟨Nat.le_of_ble_eq_true rfl, Nat.le_of_ble_eq_true rfl⟩ (fun H locs hH hP => ?_)
    exact t_L_act_81 C htr z_v2 hH (lv_sub hl [1, 2, 3, 4, 0] rfl) hf
  · refine lv_iload_n hx hb dL_act_58 rfl (lv_at hl 2 rfl) ?_
    refine lv_bipush (v := (10 : Int32)) hx hb dL_act_59 (by decide) ?_
    refine lv_ishr hx hb dL_act_61 ?_
    refine lv_bipush (v := (110 : Int32)) hx hb dL_act_62 (by decide) ?_
    obtain ⟨x4, w3, hc, hf⟩ := bd_some hf
    refine q_callS1 (v := .int x4) (As := [.int (v1 >>> ((10 : Int32) &&& 31)), .int (110 : Int32)]) C hH gk_L_137 yd_L_low (by omega) (by omega) (c_L_low hc) hl.1 rfl (Nat.le_of_ble_eq_true rfl) dL_act_64 ⟨Nat.le_of_ble_eq_true rfl, Nat.le_of_ble_eq_true rfl⟩ (fun H locs hH hP => ?_)
    refine lv_iconst (v := (5 : Int32)) hx hb dL_act_67 (by decide) ?_
    refine lv_isub hx hb dL_act_68 ?_
    refine lv_goto (tgt := 81) hx hb dL_act_69 (by decide) ?_
    exact t_L_act_81 C htr z_v2 hH (lv_sub hl [1, 2, 3, 4, 0] rfl) hf
set_option maxRecDepth 100000 in
set_option maxHeartbeats 4000000 in
theorem t_L_act_17 {D : va_G} {B : Nat} {Y : Nat → ClassId} {p : Program} {l : Launch} {e : Env} {s : State} {m : MethodId} {args : Array Value} {below : List Frame} {meth : Method} {c : Code} {z : (Int32 × Wd)} {H : Heap} {locs : List Loc} {ls : Array Slot} {w : Wd} {v1 : Int32} {t0 : Int32} (C : CX D B Y p s m args meth c cL_act 10 RL (some .int)) (htr : l.stackTraces = false)    (z_t0 : isZ t0) (hH : HS D B Y w s H locs) (hl : lv_has ls 10 [(0, .ref (B + 0)), (1, .int v1)]) (hf : f_L_act_17 v1 t0 w = some z) : W p l e (RM 34 1 (6 * 1)) s m args below meth c H locs 0 0 (MQ below (QG D B Y (some (.int z.1)) z.2 True) args s 1 (6 * 1) (AB B)) (F0 m 17 ls [.int t0]) := by
  have hx := C.1
  have hb := C.2.1
  unfold f_L_act_17 at hf
  refine lv_istore_n (lv' := [(2, .int t0), (0, .ref (B + 0)), (1, .int v1)]) hx hb dL_act_17 rfl hl (by decide) rfl (fun ls hl => ?_)
  refine lv_iload_n hx hb dL_act_18 rfl (lv_at hl 2 rfl) ?_
  refine lv_bipush (v := (56 : Int32)) hx hb dL_act_19 (by decide) ?_
  obtain ⟨x2, w1, hc, hf⟩ := bd_some hf
  refine q_callS1 (v := .int x2) (As := [.int v1, .int (56 : Int32)]) C hH gk_L_137 yd_L_low (by omega) (by omega) (c_L_low hc) hl.1 rfl (Nat.le_of_ble_eq_true rfl) dL_act_21 ⟨Nat.le_of_ble_eq_true rfl, Nat.le_of_ble_eq_true rfl⟩ (fun H locs hH hP => ?_)
  refine lv_istore_n (lv' := [(3, .int x2), (2, .int t0), (0, .ref (B + 0)), (1, .int v1)]) hx hb dL_act_24 rfl hl (by decide) rfl (fun ls hl => ?_)
  refine lv_iload_n hx hb dL_act_25 rfl (lv_at hl 1 rfl) ?_
  refine b_if_eq (tgt := 43) hx hb hf dL_act_26 (by decide) (fun hf => ?_) (fun hf => ?_)
  · refine lv_iload_n hx hb dL_act_43 rfl (lv_at hl 3 rfl) ?_
    refine lv_bipush (v := (6 : Int32)) hx hb dL_act_44 (by decide) ?_
    refine lv_ishr hx hb dL_act_46 ?_
    refine lv_bipush (v := (16 : Int32)) hx hb dL_act_47 (by decide) ?_
    obtain ⟨x4, w3, hc, hf⟩ := bd_some hf
    refine q_callS1 (v := .int x4) (As := [.int (v1 >>> ((6 : Int32) &&& 31)), .int (16 : Int32)]) C hH gk_L_137 yd_L_low (by omega) (by omega) (c_L_low hc) hl.1 rfl (Nat.le_of_ble_eq_true rfl) dL_act_49 ⟨Nat.le_of_ble_eq_true rfl, Nat.le_of_ble_eq_true rfl⟩ (fun H locs hH hP => ?_)
    exact t_L_act_52 C htr z_t0 hH (lv_sub hl [2, 3, 1, 0] rfl) hf
  · refine lv_iload_n hx hb dL_act_29 rfl (lv_at hl 3 rfl) ?_
    refine lv_bipush (v := (6 : Int32)) hx hb dL_act_30 (by decide) ?_
    refine lv_ishr hx hb dL_act_32 ?_
    refine lv_bipush (v := (110 : Int32)) hx hb dL_act_33 (by decide) ?_
    obtain ⟨x6, w5, hc, hf⟩ := bd_some hf
    refine q_callS1 (v := .int x6) (As := [.int (v1 >>> ((6 : Int32) &&& 31)), .int (110 : Int32)]) C hH gk_L_137 yd_L_low (by omega) (by omega) (c_L_low hc) hl.1 rfl (Nat.le_of_ble_eq_true rfl) dL_act_35 ⟨Nat.le_of_ble_eq_true rfl, Nat.le_of_ble_eq_true rfl⟩ (fun H locs hH hP => ?_)
    refine lv_iconst (v := (5 : Int32)) hx hb dL_act_38 (by decide) ?_
    refine lv_isub hx hb dL_act_39 ?_
    refine lv_goto (tgt := 52) hx hb dL_act_40 (by decide) ?_
    exact t_L_act_52 C htr z_t0 hH (lv_sub hl [2, 3, 1, 0] rfl) hf
set_option maxRecDepth 100000 in
set_option maxHeartbeats 4000000 in
theorem t_L_act_0 {D : va_G} {B : Nat} {Y : Nat → ClassId} {p : Program} {l : Launch} {e : Env} {s : State} {m : MethodId} {args : Array Value} {below : List Frame} {meth : Method} {c : Code} {z : (Int32 × Wd)} {H : Heap} {locs : List Loc} {ls : Array Slot} {w : Wd} {v1 : Int32} (C : CX D B Y p s m args meth c cL_act 10 RL (some .int)) (htr : l.stackTraces = false)     (hH : HS D B Y w s H locs) (hl : lv_has ls 10 [(0, .ref (B + 0)), (1, .int v1)]) (hf : f_L_act v1 w = some z) : W p l e (RM 34 1 (6 * 1)) s m args below meth c H locs 0 0 (MQ below (QG D B Y (some (.int z.1)) z.2 True) args s 1 (6 * 1) (AB B)) (F0 m 0 ls []) := by
  have hx := C.1
  have hb := C.2.1
  unfold f_L_act at hf
  refine lv_iload_n hx hb dL_act_0 rfl (lv_at hl 1 rfl) ?_
  refine lv_bipush (v := (18 : Int32)) hx hb dL_act_1 (by decide) ?_
  refine lv_ishr hx hb dL_act_3 ?_
  refine lv_bipush (v := (7 : Int32)) hx hb dL_act_4 (by decide) ?_
  refine lv_iand hx hb dL_act_6 ?_
  refine lv_bipush (v := (7 : Int32)) hx hb dL_act_7 (by decide) ?_
  refine b_icmp_ne (tgt := 16) hx hb hf dL_act_9 (by decide) (fun hf => ?_) (fun hf => ?_)
  · refine lv_iconst (v := (0 : Int32)) hx hb dL_act_16 (by decide) ?_
    exact t_L_act_17 C htr isZ_0 hH (lv_sub hl [0, 1] rfl) hf
  · refine lv_iconst (v := (1 : Int32)) hx hb dL_act_12 (by decide) ?_
    refine lv_goto (tgt := 17) hx hb dL_act_13 (by decide) ?_
    exact t_L_act_17 C htr isZ_1 hH (lv_sub hl [0, 1] rfl) hf
set_option maxRecDepth 100000 in
theorem c_L_act {l : Launch} {D : va_G} {B : Nat} {Y : Nat → ClassId} {v1 : Int32} {w : Wd} {r : Int32} {w1 : Wd} (htr : l.stackTraces = false)   (hf : f_L_act v1 w = some (r, w1)) : CK l D B Y yL_act cL_act 10 (some .int) 34 1 [.ref (B + 0), .int v1] w (some (.int r)) w1 True :=
  CK_of (by decide +kernel) (Nat.le_of_ble_eq_true rfl) (fun p e s m args below meth c ls C hH hl => t_L_act_0 C htr  hH (lv_sub hl [0, 1] rfl) hf)
