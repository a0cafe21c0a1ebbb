set_option maxRecDepth 100000 in
set_option maxHeartbeats 4000000 in
theorem t_L_feed {D : va_G} {B : Nat} {Y : Nat → ClassId} {p : Program} {l : Launch} {e : Env} {s : State} {m : MethodId} {args : Array Value} {below : List Frame} {meth : Method} {c : Code} {z : Int32 × Wd} {H : Heap} {locs : List Loc} {ls : Array Slot} {w : Wd} {v1 : Int64} {v3 : Int32} (C : CX D B Y p s m args meth c cL_feed 6 RL (some .int)) (htab : c.exceptionTable.toList = tableOf [(0, 11, 14, 13), (0, 11, 18, 15)]) (htr : l.stackTraces = false)  (hH : HS D B Y w s H locs) (hl : lv_has ls 6 [(0, .ref (B + 0)), (1, .long v1), (3, .int v3), (4, .ref (B + 746))]) (hf : f_L_feed v1 v3 w = some z) : W p l e (RM 2 2 (6 * 2)) s m args below meth c H locs 0 0 (MQ below (QG D B Y (some (.int z.1)) z.2 True) args s 2 (6 * 2) (AB B)) (F0 m 0 ls []) := by
  have hx := C.1
  have hb := C.2.1
  unfold f_L_feed at hf
  refine lv_aload hx hb dL_feed_0 (lv_at hl 3 rfl) ?_
  refine lv_iconst (v := (0 : Int32)) hx hb dL_feed_2 (by decide) ?_
  refine lv_aload_n hx hb dL_feed_3 rfl (lv_at hl 0 rfl) ?_
  refine lv_lload_n hx hb dL_feed_4 rfl (lv_at hl 1 rfl) ?_
  refine lv_iload_n hx hb dL_feed_5 rfl (lv_at hl 2 rfl) ?_
  rcases bdc_some hf with ⟨k, w1, hc, hf⟩ | ⟨x2, w1, hc, hf⟩
  · by_cases e_0 : k = 2
    · subst e_0
      rw [if_pos rfl] at hf
      refine q_xrunX (q_xV (As := [.long v1, .int v3]) C hH (ci := 10) rfl (by omega) gk_L_7 yd_X10_feed (by omega) (by omega) kc_0 (c_X10_feed htr hc) hl.1 rfl (Nat.le_of_ble_eq_true rfl) dL_feed_6 ⟨by decide, by decide⟩) hH (fun H locs ce q hH h1 h2 h3 => ?_)
      refine q_catch C htab (pre := []) (x := (0, 11, 14, 13)) (suf := [(0, 11, 18, 15)]) (E := 2) rfl (by decide) rfl (by decide) (by decide) h1 h2 h3 ?_
      refine lv_astore (lv' := [(5, .ref q), (0, .ref (B + 0)), (1, .long v1), (3, .int v3), (4, .ref (B + 746))]) hx hb dL_feed_14 hl (by decide) rfl (fun ls hl => ?_)
      refine lv_iconst (v := (1 : Int32)) hx hb dL_feed_16 (by decide) ?_
      cases hf
      exact W.widen (k := 2) (n := 6 * 2) (by decide) (by decide) (q_reti C hH trivial dL_feed_17)
    rw [if_neg e_0] at hf
    by_cases e_1 : k = 3
    · subst e_1
      rw [if_pos rfl] at hf
      refine q_xrunX (q_xV (As := [.long v1, .int v3]) C hH (ci := 10) rfl (by omega) gk_L_7 yd_X10_feed (by omega) (by omega) kc_0 (c_X10_feed htr hc) hl.1 rfl (Nat.le_of_ble_eq_true rfl) dL_feed_6 ⟨by decide, by decide⟩) hH (fun H locs ce q hH h1 h2 h3 => ?_)
      refine q_catch C htab (pre := [(0, 11, 14, 13)]) (x := (0, 11, 18, 15)) (suf := []) (E := 3) rfl (by decide) rfl (by decide) (by decide) h1 h2 h3 ?_
      refine lv_astore (lv' := [(5, .ref q), (0, .ref (B + 0)), (1, .long v1), (3, .int v3), (4, .ref (B + 746))]) hx hb dL_feed_18 hl (by decide) rfl (fun ls hl => ?_)
      refine lv_iconst (v := (2 : Int32)) hx hb dL_feed_20 (by decide) ?_
      cases hf
      exact W.widen (k := 2) (n := 6 * 2) (by decide) (by decide) (q_reti C hH trivial dL_feed_21)
    rw [if_neg e_1] at hf
    cases hf
  · refine q_xrun (ov := some (.int x2)) (q_xV (As := [.long v1, .int v3]) C hH (ci := 10) rfl (by omega) gk_L_7 yd_X10_feed (by omega) (by omega) kc_0 (c_X10_feed htr hc) hl.1 rfl (Nat.le_of_ble_eq_true rfl) dL_feed_6 ⟨by decide, by decide⟩) hH (fun H locs hH hP => ?_)
    refine lv_i2l (v := x2.toInt64) hx hb dL_feed_9 rfl ?_
    refine g_last C hH kc_746 (by decide +kernel) hf dL_feed_10 (fun w3 H locs hf hH => ?_)
    refine lv_goto (tgt := 22) hx hb dL_feed_11 (by decide) ?_
    refine lv_iconst (v := (0 : Int32)) hx hb dL_feed_22 (by decide) ?_
    cases hf
    exact W.widen (k := 2) (n := 6 * 2) (by decide) (by decide) (q_reti C hH trivial dL_feed_23)
set_option maxRecDepth 100000 in
theorem c_L_feed {l : Launch} {D : va_G} {B : Nat} {Y : Nat → ClassId} {v1 : Int64} {v3 : Int32} {w : Wd} {r : Int32} {w1 : Wd} (htr : l.stackTraces = false)  (hf : f_L_feed v1 v3 w = some (r, w1)) : LM l D B Y yL_feed cL_feed 6 [(0, 11, 14, 13), (0, 11, 18, 15)] 2 2 [.ref (B + 0), .long v1, .int v3, .ref (B + 746)] w r w1 :=
  LM_of (by decide +kernel) (Nat.le_of_ble_eq_true rfl) (fun p e s m args below meth c ls C htab hH hl => t_L_feed C htab htr  hH hl hf)
set_option maxRecDepth 100000 in
set_option maxHeartbeats 4000000 in
theorem t_L_letter {D : va_G} {B : Nat} {Y : Nat → ClassId} {p : Program} {l : Launch} {e : Env} {s : State} {m : MethodId} {args : Array Value} {below : List Frame} {meth : Method} {c : Code} {z : Int32 × Wd} {H : Heap} {locs : List Loc} {ls : Array Slot} {w : Wd} {v1 : Int32} {v2 : Int32} {v3 : Int32} {v4 : Int32} {v5 : Int32} (C : CX D B Y p s m args meth c cL_letter 7 RL (some .int)) (htab : c.exceptionTable.toList = tableOf [(0, 11, 14, 21), (0, 11, 18, 13)]) (htr : l.stackTraces = false)  (hH : HS D B Y w s H locs) (hl : lv_has ls 7 [(0, .ref (B + 0)), (1, .int v1), (2, .int v2), (3, .int v3), (4, .int v4), (5, .int v5)]) (hf : f_L_letter v1 v2 v3 v4 v5 w = some z) : W p l e (RM 4 2 (6 * 2)) s m args below meth c H locs 0 0 (MQ below (QG D B Y (some (.int z.1)) z.2 True) args s 2 (6 * 2) (AB B)) (F0 m 0 ls []) := by
  have hx := C.1
  have hb := C.2.1
  unfold f_L_letter at hf
  refine lv_aload_n hx hb dL_letter_0 rfl (lv_at hl 0 rfl) ?_
  refine lv_iload_n hx hb dL_letter_1 rfl (lv_at hl 1 rfl) ?_
  refine lv_iload_n hx hb dL_letter_2 rfl (lv_at hl 2 rfl) ?_
  refine lv_iload_n hx hb dL_letter_3 rfl (lv_at hl 3 rfl) ?_
  refine lv_iload hx hb dL_letter_4 (lv_at hl 4 rfl) ?_
  refine lv_iload hx hb dL_letter_6 (lv_at hl 5 rfl) ?_
  rcases bdc_some hf with ⟨k, w1, hc, hf⟩ | ⟨u, w1, hc, hf⟩
  · by_cases e_0 : k = 1
    · subst e_0
      rw [if_pos rfl] at hf
      refine q_xrunX (q_xV (As := [.int v1, .int v2, .int v3, .int v4, .int v5]) C hH (ci := 10) rfl (by omega) gk_L_17 yd_X10_letter (by omega) (by omega) kc_0 (c_X10_letter htr hc) hl.1 rfl (Nat.le_of_ble_eq_true rfl) dL_letter_8 ⟨by decide, by decide⟩) hH (fun H locs ce q hH h1 h2 h3 => ?_)
      refine q_catch C htab (pre := []) (x := (0, 11, 14, 21)) (suf := [(0, 11, 18, 13)]) (E := 1) rfl (by decide) rfl (by decide) (by decide) h1 h2 h3 ?_
      refine lv_astore (lv' := [(6, .ref q), (0, .ref (B + 0)), (1, .int v1), (2, .int v2), (3, .int v3), (4, .int v4), (5, .int v5)]) hx hb dL_letter_14 hl (by decide) rfl (fun ls hl => ?_)
      refine lv_iconst (v := (1 : Int32)) hx hb dL_letter_16 (by decide) ?_
      cases hf
      exact W.widen (k := 2) (n := 6 * 2) (by decide) (by decide) (q_reti C hH trivial dL_letter_17)
    rw [if_neg e_0] at hf
    by_cases e_1 : k = 2
    · subst e_1
      rw [if_pos rfl] at hf
      refine q_xrunX (q_xV (As := [.int v1, .int v2, .int v3, .int v4, .int v5]) C hH (ci := 10) rfl (by omega) gk_L_17 yd_X10_letter (by omega) (by omega) kc_0 (c_X10_letter htr hc) hl.1 rfl (Nat.le_of_ble_eq_true rfl) dL_letter_8 ⟨by decide, by decide⟩) hH (fun H locs ce q hH h1 h2 h3 => ?_)
      refine q_catch C htab (pre := [(0, 11, 14, 21)]) (x := (0, 11, 18, 13)) (suf := []) (E := 2) rfl (by decide) rfl (by decide) (by decide) h1 h2 h3 ?_
      refine lv_astore (lv' := [(6, .ref q), (0, .ref (B + 0)), (1, .int v1), (2, .int v2), (3, .int v3), (4, .int v4), (5, .int v5)]) hx hb dL_letter_18 hl (by decide) rfl (fun ls hl => ?_)
      refine lv_iconst (v := (2 : Int32)) hx hb dL_letter_20 (by decide) ?_
      cases hf
      exact W.widen (k := 2) (n := 6 * 2) (by decide) (by decide) (q_reti C hH trivial dL_letter_21)
    rw [if_neg e_1] at hf
    cases hf
  · refine q_xrun (ov := none) (q_xV (As := [.int v1, .int v2, .int v3, .int v4, .int v5]) C hH (ci := 10) rfl (by omega) gk_L_17 yd_X10_letter (by omega) (by omega) kc_0 (c_X10_letter htr hc) hl.1 rfl (Nat.le_of_ble_eq_true rfl) dL_letter_8 ⟨by decide, by decide⟩) hH (fun H locs hH hP => ?_)
    refine lv_goto (tgt := 22) hx hb dL_letter_11 (by decide) ?_
    refine lv_iconst (v := (0 : Int32)) hx hb dL_letter_22 (by decide) ?_
    cases hf
    exact W.widen (k := 2) (n := 6 * 2) (by decide) (by decide) (q_reti C hH trivial dL_letter_23)
set_option maxRecDepth 100000 in
theorem c_L_letter {l : Launch} {D : va_G} {B : Nat} {Y : Nat → ClassId} {v1 : Int32} {v2 : Int32} {v3 : Int32} {v4 : Int32} {v5 : Int32} {w : Wd} {r : Int32} {w1 : Wd} (htr : l.stackTraces = false)  (hf : f_L_letter v1 v2 v3 v4 v5 w = some (r, w1)) : LM l D B Y yL_letter cL_letter 7 [(0, 11, 14, 21), (0, 11, 18, 13)] 4 2 [.ref (B + 0), .int v1, .int v2, .int v3, .int v4, .int v5] w r w1 :=
  LM_of (by decide +kernel) (Nat.le_of_ble_eq_true rfl) (fun p e s m args below meth c ls C htab hH hl => t_L_letter C htab htr  hH hl hf)
set_option maxRecDepth 100000 in
set_option maxHeartbeats 4000000 in
theorem t_L_split {D : va_G} {B : Nat} {Y : Nat → ClassId} {p : Program} {l : Launch} {e : Env} {s : State} {m : MethodId} {args : Array Value} {below : List Frame} {meth : Method} {c : Code} {z : Int32 × Wd} {H : Heap} {locs : List Loc} {ls : Array Slot} {w : Wd} {v1 : Int32} {v2 : Int32} {v3 : Int32} (C : CX D B Y p s m args meth c cL_split 5 RL (some .int)) (htab : c.exceptionTable.toList = tableOf [(0, 7, 10, 21), (0, 7, 14, 13)]) (htr : l.stackTraces = false)  (hH : HS D B Y w s H locs) (hl : lv_has ls 5 [(0, .ref (B + 0)), (1, .int v1), (2, .int v2), (3, .int v3)]) (hf : f_L_split v1 v2 v3 w = some z) : W p l e (RM 4 2 (6 * 2)) s m args below meth c H locs 0 0 (MQ below (QG D B Y (some (.int z.1)) z.2 True) args s 2 (6 * 2) (AB B)) (F0 m 0 ls []) := by
  have hx := C.1
  have hb := C.2.1
  unfold f_L_split at hf
  refine lv_aload_n hx hb dL_split_0 rfl (lv_at hl 0 rfl) ?_
  refine lv_iload_n hx hb dL_split_1 rfl (lv_at hl 1 rfl) ?_
  refine lv_iload_n hx hb dL_split_2 rfl (lv_at hl 2 rfl) ?_
  refine lv_iload_n hx hb dL_split_3 rfl (lv_at hl 3 rfl) ?_
  rcases bdc_some hf with ⟨k, w1, hc, hf⟩ | ⟨u, w1, hc, hf⟩
  · by_cases e_0 : k = 1
    · subst e_0
      rw [if_pos rfl] at hf
      refine q_xrunX (q_xV (As := [.int v1, .int v2, .int v3]) C hH (ci := 10) rfl (by omega) gk_L_23 yd_X10_split (by omega) (by omega) kc_0 (c_X10_split htr hc) hl.1 rfl (Nat.le_of_ble_eq_true rfl) dL_split_4 ⟨by decide, by decide⟩) hH (fun H locs ce q hH h1 h2 h3 => ?_)
      refine q_catch C htab (pre := []) (x := (0, 7, 10, 21)) (suf := [(0, 7, 14, 13)]) (E := 1) rfl (by decide) rfl (by decide) (by decide) h1 h2 h3 ?_
      refine lv_astore (lv' := [(4, .ref q), (0, .ref (B + 0)), (1, .int v1), (2, .int v2), (3, .int v3)]) hx hb dL_split_10 hl (by decide) rfl (fun ls hl => ?_)
      refine lv_iconst (v := (1 : Int32)) hx hb dL_split_12 (by decide) ?_
      cases hf
      exact W.widen (k := 2) (n := 6 * 2) (by decide) (by decide) (q_reti C hH trivial dL_split_13)
    rw [if_neg e_0] at hf
    by_cases e_1 : k = 2
    · subst e_1
      rw [if_pos rfl] at hf
      refine q_xrunX (q_xV (As := [.int v1, .int v2, .int v3]) C hH (ci := 10) rfl (by omega) gk_L_23 yd_X10_split (by omega) (by omega) kc_0 (c_X10_split htr hc) hl.1 rfl (Nat.le_of_ble_eq_true rfl) dL_split_4 ⟨by decide, by decide⟩) hH (fun H locs ce q hH h1 h2 h3 => ?_)
      refine q_catch C htab (pre := [(0, 7, 10, 21)]) (x := (0, 7, 14, 13)) (suf := []) (E := 2) rfl (by decide) rfl (by decide) (by decide) h1 h2 h3 ?_
      refine lv_astore (lv' := [(4, .ref q), (0, .ref (B + 0)), (1, .int v1), (2, .int v2), (3, .int v3)]) hx hb dL_split_14 hl (by decide) rfl (fun ls hl => ?_)
      refine lv_iconst (v := (2 : Int32)) hx hb dL_split_16 (by decide) ?_
      cases hf
      exact W.widen (k := 2) (n := 6 * 2) (by decide) (by decide) (q_reti C hH trivial dL_split_17)
    rw [if_neg e_1] at hf
    cases hf
  · refine q_xrun (ov := none) (q_xV (As := [.int v1, .int v2, .int v3]) C hH (ci := 10) rfl (by omega) gk_L_23 yd_X10_split (by omega) (by omega) kc_0 (c_X10_split htr hc) hl.1 rfl (Nat.le_of_ble_eq_true rfl) dL_split_4 ⟨by decide, by decide⟩) hH (fun H locs hH hP => ?_)
    refine lv_goto (tgt := 18) hx hb dL_split_7 (by decide) ?_
    refine lv_iconst (v := (0 : Int32)) hx hb dL_split_18 (by decide) ?_
    cases hf
    exact W.widen (k := 2) (n := 6 * 2) (by decide) (by decide) (q_reti C hH trivial dL_split_19)
set_option maxRecDepth 100000 in
theorem c_L_split {l : Launch} {D : va_G} {B : Nat} {Y : Nat → ClassId} {v1 : Int32} {v2 : Int32} {v3 : Int32} {w : Wd} {r : Int32} {w1 : Wd} (htr : l.stackTraces = false)  (hf : f_L_split v1 v2 v3 w = some (r, w1)) : LM l D B Y yL_split cL_split 5 [(0, 7, 10, 21), (0, 7, 14, 13)] 4 2 [.ref (B + 0), .int v1, .int v2, .int v3] w r w1 :=
  LM_of (by decide +kernel) (Nat.le_of_ble_eq_true rfl) (fun p e s m args below meth c ls C htab hH hl => t_L_split C htab htr  hH hl hf)
set_option maxRecDepth 100000 in
set_option maxHeartbeats 4000000 in
theorem t_L_capital {D : va_G} {B : Nat} {Y : Nat → ClassId} {p : Program} {l : Launch} {e : Env} {s : State} {m : MethodId} {args : Array Value} {below : List Frame} {meth : Method} {c : Code} {z : Int32 × Wd} {H : Heap} {locs : List Loc} {ls : Array Slot} {w : Wd} {v1 : Int32} {v2 : Int32} {v3 : Int32} (C : CX D B Y p s m args meth c cL_capital 5 RL (some .int)) (htab : c.exceptionTable.toList = tableOf [(0, 7, 10, 21), (0, 7, 14, 13)]) (htr : l.stackTraces = false)  (hH : HS D B Y w s H locs) (hl : lv_has ls 5 [(0, .ref (B + 0)), (1, .int v1), (2, .int v2), (3, .int v3)]) (hf : f_L_capital v1 v2 v3 w = some z) : W p l e (RM 4 2 (6 * 2)) s m args below meth c H locs 0 0 (MQ below (QG D B Y (some (.int z.1)) z.2 True) args s 2 (6 * 2) (AB B)) (F0 m 0 ls []) := by
  have hx := C.1
  have hb := C.2.1
  unfold f_L_capital at hf
  refine lv_aload_n hx hb dL_capital_0 rfl (lv_at hl 0 rfl) ?_
  refine lv_iload_n hx hb dL_capital_1 rfl (lv_at hl 1 rfl) ?_
  refine lv_iload_n hx hb dL_capital_2 rfl (lv_at hl 2 rfl) ?_
  refine lv_iload_n hx hb dL_capital_3 rfl (lv_at hl 3 rfl) ?_
  rcases bdc_some hf with ⟨k, w1, hc, hf⟩ | ⟨u, w1, hc, hf⟩
  · by_cases e_0 : k = 1
    · subst e_0
      rw [if_pos rfl] at hf
      refine q_xrunX (q_xV (As := [.int v1, .int v2, .int v3]) C hH (ci := 10) rfl (by omega) gk_L_27 yd_X10_capital (by omega) (by omega) kc_0 (c_X10_capital htr hc) hl.1 rfl (Nat.le_of_ble_eq_true rfl) dL_capital_4 ⟨by decide, by decide⟩) hH (fun H locs ce q hH h1 h2 h3 => ?_)
      refine q_catch C htab (pre := []) (x := (0, 7, 10, 21)) (suf := [(0, 7, 14, 13)]) (E := 1) rfl (by decide) rfl (by decide) (by decide) h1 h2 h3 ?_
      refine lv_astore (lv' := [(4, .ref q), (0, .ref (B + 0)), (1, .int v1), (2, .int v2), (3, .int v3)]) hx hb dL_capital_10 hl (by decide) rfl (fun ls hl => ?_)
      refine lv_iconst (v := (1 : Int32)) hx hb dL_capital_12 (by decide) ?_
      cases hf
      exact W.widen (k := 2) (n := 6 * 2) (by decide) (by decide) (q_reti C hH trivial dL_capital_13)
    rw [if_neg e_0] at hf
    by_cases e_1 : k = 2
    · subst e_1
      rw [if_pos rfl] at hf
      refine q_xrunX (q_xV (As := [.int v1, .int v2, .int v3]) C hH (ci := 10) rfl (by omega) gk_L_27 yd_X10_capital (by omega) (by omega) kc_0 (c_X10_capital htr hc) hl.1 rfl (Nat.le_of_ble_eq_true rfl) dL_capital_4 ⟨by decide, by decide⟩) hH (fun H locs ce q hH h1 h2 h3 => ?_)
      refine q_catch C htab (pre := [(0, 7, 10, 21)]) (x := (0, 7, 14, 13)) (suf := []) (E := 2) rfl (by decide) rfl (by decide) (by decide) h1 h2 h3 ?_
      refine lv_astore (lv' := [(4, .ref q), (0, .ref (B + 0)), (1, .int v1), (2, .int v2), (3, .int v3)]) hx hb dL_capital_14 hl (by decide) rfl (fun ls hl => ?_)
      refine lv_iconst (v := (2 : Int32)) hx hb dL_capital_16 (by decide) ?_
      cases hf
      exact W.widen (k := 2) (n := 6 * 2) (by decide) (by decide) (q_reti C hH trivial dL_capital_17)
    rw [if_neg e_1] at hf
    cases hf
  · refine q_xrun (ov := none) (q_xV (As := [.int v1, .int v2, .int v3]) C hH (ci := 10) rfl (by omega) gk_L_27 yd_X10_capital (by omega) (by omega) kc_0 (c_X10_capital htr hc) hl.1 rfl (Nat.le_of_ble_eq_true rfl) dL_capital_4 ⟨by decide, by decide⟩) hH (fun H locs hH hP => ?_)
    refine lv_goto (tgt := 18) hx hb dL_capital_7 (by decide) ?_
    refine lv_iconst (v := (0 : Int32)) hx hb dL_capital_18 (by decide) ?_
    cases hf
    exact W.widen (k := 2) (n := 6 * 2) (by decide) (by decide) (q_reti C hH trivial dL_capital_19)
set_option maxRecDepth 100000 in
theorem c_L_capital {l : Launch} {D : va_G} {B : Nat} {Y : Nat → ClassId} {v1 : Int32} {v2 : Int32} {v3 : Int32} {w : Wd} {r : Int32} {w1 : Wd} (htr : l.stackTraces = false)  (hf : f_L_capital v1 v2 v3 w = some (r, w1)) : LM l D B Y yL_capital cL_capital 5 [(0, 7, 10, 21), (0, 7, 14, 13)] 4 2 [.ref (B + 0), .int v1, .int v2, .int v3] w r w1 :=
  LM_of (by decide +kernel) (Nat.le_of_ble_eq_true rfl) (fun p e s m args below meth c ls C htab hH hl => t_L_capital C htab htr  hH hl hf)
set_option maxRecDepth 100000 in
set_option maxHeartbeats 4000000 in
theorem t_L_partners {D : va_G} {B : Nat} {Y : Nat → ClassId} {p : Program} {l : Launch} {e : Env} {s : State} {m : MethodId} {args : Array Value} {below : List Frame} {meth : Method} {c : Code} {z : Int32 × Wd} {H : Heap} {locs : List Loc} {ls : Array Slot} {w : Wd} {v1 : Int32} {v2 : Int32} (C : CX D B Y p s m args meth c cL_partners 4 RL (some .int)) (htab : c.exceptionTable.toList = tableOf [(0, 6, 9, 21), (0, 6, 12, 15)]) (htr : l.stackTraces = false)  (hH : HS D B Y w s H locs) (hl : lv_has ls 4 [(0, .ref (B + 0)), (1, .int v1), (2, .int v2)]) (hf : f_L_partners v1 v2 w = some z) : W p l e (RM 4 3 (6 * 3)) s m args below meth c H locs 0 0 (MQ below (QG D B Y (some (.int z.1)) z.2 True) args s 3 (6 * 3) (AB B)) (F0 m 0 ls []) := by
  have hx := C.1
  have hb := C.2.1
  unfold f_L_partners at hf
  refine lv_aload_n hx hb dL_partners_0 rfl (lv_at hl 0 rfl) ?_
  refine lv_iload_n hx hb dL_partners_1 rfl (lv_at hl 1 rfl) ?_
  refine lv_iload_n hx hb dL_partners_2 rfl (lv_at hl 2 rfl) ?_
  rcases bdc_some hf with ⟨k, w1, hc, hf⟩ | ⟨u, w1, hc, hf⟩
  · by_cases e_0 : k = 1
    · subst e_0
      rw [if_pos rfl] at hf
      refine q_xrunX (q_xV (As := [.int v1, .int v2]) C hH (ci := 10) rfl (by omega) gk_L_30 yd_X10_partners (by omega) (by omega) kc_0 (c_X10_partners htr hc) hl.1 rfl (Nat.le_of_ble_eq_true rfl) dL_partners_3 ⟨by decide, by decide⟩) hH (fun H locs ce q hH h1 h2 h3 => ?_)
      refine q_catch C htab (pre := []) (x := (0, 6, 9, 21)) (suf := [(0, 6, 12, 15)]) (E := 1) rfl (by decide) rfl (by decide) (by decide) h1 h2 h3 ?_
      refine lv_astore_n (lv' := [(3, .ref q), (0, .ref (B + 0)), (1, .int v1), (2, .int v2)]) hx hb dL_partners_9 rfl hl (by decide) rfl (fun ls hl => ?_)
      refine lv_iconst (v := (1 : Int32)) hx hb dL_partners_10 (by decide) ?_
      cases hf
      exact W.widen (k := 3) (n := 6 * 3) (by decide) (by decide) (q_reti C hH trivial dL_partners_11)
    rw [if_neg e_0] at hf
    by_cases e_1 : k = 3
    · subst e_1
      rw [if_pos rfl] at hf
      refine q_xrunX (q_xV (As := [.int v1, .int v2]) C hH (ci := 10) rfl (by omega) gk_L_30 yd_X10_partners (by omega) (by omega) kc_0 (c_X10_partners htr hc) hl.1 rfl (Nat.le_of_ble_eq_true rfl) dL_partners_3 ⟨by decide, by decide⟩) hH (fun H locs ce q hH h1 h2 h3 => ?_)
      refine q_catch C htab (pre := [(0, 6, 9, 21)]) (x := (0, 6, 12, 15)) (suf := []) (E := 3) rfl (by decide) rfl (by decide) (by decide) h1 h2 h3 ?_
      refine lv_astore_n (lv' := [(3, .ref q), (0, .ref (B + 0)), (1, .int v1), (2, .int v2)]) hx hb dL_partners_12 rfl hl (by decide) rfl (fun ls hl => ?_)
      refine lv_iconst (v := (2 : Int32)) hx hb dL_partners_13 (by decide) ?_
      cases hf
      exact W.widen (k := 3) (n := 6 * 3) (by decide) (by decide) (q_reti C hH trivial dL_partners_14)
    rw [if_neg e_1] at hf
    cases hf
  · refine q_xrun (ov := none) (q_xV (As := [.int v1, .int v2]) C hH (ci := 10) rfl (by omega) gk_L_30 yd_X10_partners (by omega) (by omega) kc_0 (c_X10_partners htr hc) hl.1 rfl (Nat.le_of_ble_eq_true rfl) dL_partners_3 ⟨by decide, by decide⟩) hH (fun H locs hH hP => ?_)
    refine lv_goto (tgt := 15) hx hb dL_partners_6 (by decide) ?_
    refine lv_iconst (v := (0 : Int32)) hx hb dL_partners_15 (by decide) ?_
    cases hf
    exact W.widen (k := 3) (n := 6 * 3) (by decide) (by decide) (q_reti C hH trivial dL_partners_16)
set_option maxRecDepth 100000 in
theorem c_L_partners {l : Launch} {D : va_G} {B : Nat} {Y : Nat → ClassId} {v1 : Int32} {v2 : Int32} {w : Wd} {r : Int32} {w1 : Wd} (htr : l.stackTraces = false)  (hf : f_L_partners v1 v2 w = some (r, w1)) : LM l D B Y yL_partners cL_partners 4 [(0, 6, 9, 21), (0, 6, 12, 15)] 4 3 [.ref (B + 0), .int v1, .int v2] w r w1 :=
  LM_of (by decide +kernel) (Nat.le_of_ble_eq_true rfl) (fun p e s m args below meth c ls C htab hH hl => t_L_partners C htab htr  hH hl hf)
set_option maxRecDepth 100000 in
set_option maxHeartbeats 4000000 in
theorem t_L_weigh {D : va_G} {B : Nat} {Y : Nat → ClassId} {p : Program} {l : Launch} {e : Env} {s : State} {m : MethodId} {args : Array Value} {below : List Frame} {meth : Method} {c : Code} {z : Int32 × Wd} {H : Heap} {locs : List Loc} {ls : Array Slot} {w : Wd} {v1 : Int32} {v2 : Int32} {v3 : Int32} {v4 : Int32} {v5 : Int32} (C : CX D B Y p s m args meth c cL_weigh 7 RL (some .int)) (htab : c.exceptionTable.toList = tableOf [(0, 11, 14, 21), (0, 11, 18, 13)]) (htr : l.stackTraces = false)  (hH : HS D B Y w s H locs) (hl : lv_has ls 7 [(0, .ref (B + 0)), (1, .int v1), (2, .int v2), (3, .int v3), (4, .int v4), (5, .int v5)]) (hf : f_L_weigh v1 v2 v3 v4 v5 w = some z) : W p l e (RM 4 3 (6 * 3)) s m args below meth c H locs 0 0 (MQ below (QG D B Y (some (.int z.1)) z.2 True) args s 3 (6 * 3) (AB B)) (F0 m 0 ls []) := by
  have hx := C.1
  have hb := C.2.1
  unfold f_L_weigh at hf
  refine lv_aload_n hx hb dL_weigh_0 rfl (lv_at hl 0 rfl) ?_
  refine lv_iload_n hx hb dL_weigh_1 rfl (lv_at hl 1 rfl) ?_
  refine lv_iload_n hx hb dL_weigh_2 rfl (lv_at hl 2 rfl) ?_
  refine lv_iload_n hx hb dL_weigh_3 rfl (lv_at hl 3 rfl) ?_
  refine lv_iload hx hb dL_weigh_4 (lv_at hl 4 rfl) ?_
  refine lv_iload hx hb dL_weigh_6 (lv_at hl 5 rfl) ?_
  rcases bdc_some hf with ⟨k, w1, hc, hf⟩ | ⟨u, w1, hc, hf⟩
  · by_cases e_0 : k = 1
    · subst e_0
      rw [if_pos rfl] at hf
      refine q_xrunX (q_xV (As := [.int v1, .int v2, .int v3, .int v4, .int v5]) C hH (ci := 10) rfl (by omega) gk_L_34 yd_X10_weigh (by omega) (by omega) kc_0 (c_X10_weigh htr hc) hl.1 rfl (Nat.le_of_ble_eq_true rfl) dL_weigh_8 ⟨by decide, by decide⟩) hH (fun H locs ce q hH h1 h2 h3 => ?_)
      refine q_catch C htab (pre := []) (x := (0, 11, 14, 21)) (suf := [(0, 11, 18, 13)]) (E := 1) rfl (by decide) rfl (by decide) (by decide) h1 h2 h3 ?_
      refine lv_astore (lv' := [(6, .ref q), (0, .ref (B + 0)), (1, .int v1), (2, .int v2), (3, .int v3), (4, .int v4), (5, .int v5)]) hx hb dL_weigh_14 hl (by decide) rfl (fun ls hl => ?_)
      refine lv_iconst (v := (1 : Int32)) hx hb dL_weigh_16 (by decide) ?_
      cases hf
      exact W.widen (k := 3) (n := 6 * 3) (by decide) (by decide) (q_reti C hH trivial dL_weigh_17)
    rw [if_neg e_0] at hf
    by_cases e_1 : k = 2
    · subst e_1
      rw [if_pos rfl] at hf
      refine q_xrunX (q_xV (As := [.int v1, .int v2, .int v3, .int v4, .int v5]) C hH (ci := 10) rfl (by omega) gk_L_34 yd_X10_weigh (by omega) (by omega) kc_0 (c_X10_weigh htr hc) hl.1 rfl (Nat.le_of_ble_eq_true rfl) dL_weigh_8 ⟨by decide, by decide⟩) hH (fun H locs ce q hH h1 h2 h3 => ?_)
      refine q_catch C htab (pre := [(0, 11, 14, 21)]) (x := (0, 11, 18, 13)) (suf := []) (E := 2) rfl (by decide) rfl (by decide) (by decide) h1 h2 h3 ?_
      refine lv_astore (lv' := [(6, .ref q), (0, .ref (B + 0)), (1, .int v1), (2, .int v2), (3, .int v3), (4, .int v4), (5, .int v5)]) hx hb dL_weigh_18 hl (by decide) rfl (fun ls hl => ?_)
      refine lv_iconst (v := (2 : Int32)) hx hb dL_weigh_20 (by decide) ?_
      cases hf
      exact W.widen (k := 3) (n := 6 * 3) (by decide) (by decide) (q_reti C hH trivial dL_weigh_21)
    rw [if_neg e_1] at hf
    cases hf
  · refine q_xrun (ov := none) (q_xV (As := [.int v1, .int v2, .int v3, .int v4, .int v5]) C hH (ci := 10) rfl (by omega) gk_L_34 yd_X10_weigh (by omega) (by omega) kc_0 (c_X10_weigh htr hc) hl.1 rfl (Nat.le_of_ble_eq_true rfl) dL_weigh_8 ⟨by decide, by decide⟩) hH (fun H locs hH hP => ?_)
    refine lv_goto (tgt := 22) hx hb dL_weigh_11 (by decide) ?_
    refine lv_iconst (v := (0 : Int32)) hx hb dL_weigh_22 (by decide) ?_
    cases hf
    exact W.widen (k := 3) (n := 6 * 3) (by decide) (by decide) (q_reti C hH trivial dL_weigh_23)
set_option maxRecDepth 100000 in
theorem c_L_weigh {l : Launch} {D : va_G} {B : Nat} {Y : Nat → ClassId} {v1 : Int32} {v2 : Int32} {v3 : Int32} {v4 : Int32} {v5 : Int32} {w : Wd} {r : Int32} {w1 : Wd} (htr : l.stackTraces = false)  (hf : f_L_weigh v1 v2 v3 v4 v5 w = some (r, w1)) : LM l D B Y yL_weigh cL_weigh 7 [(0, 11, 14, 21), (0, 11, 18, 13)] 4 3 [.ref (B + 0), .int v1, .int v2, .int v3, .int v4, .int v5] w r w1 :=
  LM_of (by decide +kernel) (Nat.le_of_ble_eq_true rfl) (fun p e s m args below meth c ls C htab hH hl => t_L_weigh C htab htr  hH hl hf)
set_option maxRecDepth 100000 in
set_option maxHeartbeats 4000000 in
theorem t_L_contract {D : va_G} {B : Nat} {Y : Nat → ClassId} {p : Program} {l : Launch} {e : Env} {s : State} {m : MethodId} {args : Array Value} {below : List Frame} {meth : Method} {c : Code} {z : Int32 × Wd} {H : Heap} {locs : List Loc} {ls : Array Slot} {w : Wd} {v1 : Int32} {v2 : Int32} {v3 : Int32} {v4 : Int32} {v5 : Int32} {v6 : Int32} (C : CX D B Y p s m args meth c cL_contract 9 RL (some .int)) (htab : c.exceptionTable.toList = tableOf [(0, 18, 21, 21), (0, 18, 25, 13), (0, 18, 29, 15)]) (htr : l.stackTraces = false)  (hH : HS D B Y w s H locs) (hl : lv_has ls 9 [(0, .ref (B + 0)), (1, .int v1), (2, .int v2), (3, .int v3), (4, .int v4), (5, .int v5), (6, .int v6), (7, .ref (B + 746))]) (hf : f_L_contract v1 v2 v3 v4 v5 v6 w = some z) : W p l e (RM 4 5 (6 * 5)) s m args below meth c H locs 0 0 (MQ below (QG D B Y (some (.int z.1)) z.2 True) args s 5 (6 * 5) (AB B)) (F0 m 0 ls []) := by
  have hx := C.1
  have hb := C.2.1
  unfold f_L_contract at hf
  refine lv_aload hx hb dL_contract_0 (lv_at hl 7 rfl) ?_
  refine lv_iconst (v := (0 : Int32)) hx hb dL_contract_2 (by decide) ?_
  refine lv_aload_n hx hb dL_contract_3 rfl (lv_at hl 0 rfl) ?_
  refine lv_iload_n hx hb dL_contract_4 rfl (lv_at hl 1 rfl) ?_
  refine lv_iload_n hx hb dL_contract_5 rfl (lv_at hl 2 rfl) ?_
  refine lv_iload_n hx hb dL_contract_6 rfl (lv_at hl 3 rfl) ?_
  refine lv_iload hx hb dL_contract_7 (lv_at hl 4 rfl) ?_
  refine lv_iload hx hb dL_contract_9 (lv_at hl 5 rfl) ?_
  refine lv_iload hx hb dL_contract_11 (lv_at hl 6 rfl) ?_
  rcases bdc_some hf with ⟨k, w1, hc, hf⟩ | ⟨x2, w1, hc, hf⟩
  · by_cases e_0 : k = 1
    · subst e_0
      rw [if_pos rfl] at hf
      refine q_xrunX (q_xV (As := [.int v1, .int v2, .int v3, .int v4, .int v5, .int v6]) C hH (ci := 10) rfl (by omega) gk_L_37 yd_X10_contract (by omega) (by omega) kc_0 (c_X10_contract htr hc) hl.1 rfl (Nat.le_of_ble_eq_true rfl) dL_contract_13 ⟨by decide, by decide⟩) hH (fun H locs ce q hH h1 h2 h3 => ?_)
      refine q_catch C htab (pre := []) (x := (0, 18, 21, 21)) (suf := [(0, 18, 25, 13), (0, 18, 29, 15)]) (E := 1) rfl (by decide) rfl (by decide) (by decide) h1 h2 h3 ?_
      refine lv_astore (lv' := [(8, .ref q), (0, .ref (B + 0)), (1, .int v1), (2, .int v2), (3, .int v3), (4, .int v4), (5, .int v5), (6, .int v6), (7, .ref (B + 746))]) hx hb dL_contract_21 hl (by decide) rfl (fun ls hl => ?_)
      refine lv_iconst (v := (1 : Int32)) hx hb dL_contract_23 (by decide) ?_
      cases hf
      exact W.widen (k := 5) (n := 6 * 5) (by decide) (by decide) (q_reti C hH trivial dL_contract_24)
    rw [if_neg e_0] at hf
    by_cases e_1 : k = 2
    · subst e_1
      rw [if_pos rfl] at hf
      refine q_xrunX (q_xV (As := [.int v1, .int v2, .int v3, .int v4, .int v5, .int v6]) C hH (ci := 10) rfl (by omega) gk_L_37 yd_X10_contract (by omega) (by omega) kc_0 (c_X10_contract htr hc) hl.1 rfl (Nat.le_of_ble_eq_true rfl) dL_contract_13 ⟨by decide, by decide⟩) hH (fun H locs ce q hH h1 h2 h3 => ?_)
      refine q_catch C htab (pre := [(0, 18, 21, 21)]) (x := (0, 18, 25, 13)) (suf := [(0, 18, 29, 15)]) (E := 2) rfl (by decide) rfl (by decide) (by decide) h1 h2 h3 ?_
      refine lv_astore (lv' := [(8, .ref q), (0, .ref (B + 0)), (1, .int v1), (2, .int v2), (3, .int v3), (4, .int v4), (5, .int v5), (6, .int v6), (7, .ref (B + 746))]) hx hb dL_contract_25 hl (by decide) rfl (fun ls hl => ?_)
      refine lv_iconst (v := (2 : Int32)) hx hb dL_contract_27 (by decide) ?_
      cases hf
      exact W.widen (k := 5) (n := 6 * 5) (by decide) (by decide) (q_reti C hH trivial dL_contract_28)
    rw [if_neg e_1] at hf
    by_cases e_2 : k = 3
    · subst e_2
      rw [if_pos rfl] at hf
      refine q_xrunX (q_xV (As := [.int v1, .int v2, .int v3, .int v4, .int v5, .int v6]) C hH (ci := 10) rfl (by omega) gk_L_37 yd_X10_contract (by omega) (by omega) kc_0 (c_X10_contract htr hc) hl.1 rfl (Nat.le_of_ble_eq_true rfl) dL_contract_13 ⟨by decide, by decide⟩) hH (fun H locs ce q hH h1 h2 h3 => ?_)
      refine q_catch C htab (pre := [(0, 18, 21, 21), (0, 18, 25, 13)]) (x := (0, 18, 29, 15)) (suf := []) (E := 3) rfl (by decide) rfl (by decide) (by decide) h1 h2 h3 ?_
      refine lv_astore (lv' := [(8, .ref q), (0, .ref (B + 0)), (1, .int v1), (2, .int v2), (3, .int v3), (4, .int v4), (5, .int v5), (6, .int v6), (7, .ref (B + 746))]) hx hb dL_contract_29 hl (by decide) rfl (fun ls hl => ?_)
      refine lv_iconst (v := (3 : Int32)) hx hb dL_contract_31 (by decide) ?_
      cases hf
      exact W.widen (k := 5) (n := 6 * 5) (by decide) (by decide) (q_reti C hH trivial dL_contract_32)
    rw [if_neg e_2] at hf
    cases hf
  · refine q_xrun (ov := some (.int x2)) (q_xV (As := [.int v1, .int v2, .int v3, .int v4, .int v5, .int v6]) C hH (ci := 10) rfl (by omega) gk_L_37 yd_X10_contract (by omega) (by omega) kc_0 (c_X10_contract htr hc) hl.1 rfl (Nat.le_of_ble_eq_true rfl) dL_contract_13 ⟨by decide, by decide⟩) hH (fun H locs hH hP => ?_)
    refine lv_i2l (v := x2.toInt64) hx hb dL_contract_16 rfl ?_
    refine g_last C hH kc_746 (by decide +kernel) hf dL_contract_17 (fun w3 H locs hf hH => ?_)
    refine lv_goto (tgt := 33) hx hb dL_contract_18 (by decide) ?_
    refine lv_iconst (v := (0 : Int32)) hx hb dL_contract_33 (by decide) ?_
    cases hf
    exact W.widen (k := 5) (n := 6 * 5) (by decide) (by decide) (q_reti C hH trivial dL_contract_34)
set_option maxRecDepth 100000 in
theorem c_L_contract {l : Launch} {D : va_G} {B : Nat} {Y : Nat → ClassId} {v1 : Int32} {v2 : Int32} {v3 : Int32} {v4 : Int32} {v5 : Int32} {v6 : Int32} {w : Wd} {r : Int32} {w1 : Wd} (htr : l.stackTraces = false)  (hf : f_L_contract v1 v2 v3 v4 v5 v6 w = some (r, w1)) : LM l D B Y yL_contract cL_contract 9 [(0, 18, 21, 21), (0, 18, 25, 13), (0, 18, 29, 15)] 4 5 [.ref (B + 0), .int v1, .int v2, .int v3, .int v4, .int v5, .int v6, .ref (B + 746)] w r w1 :=
  LM_of (by decide +kernel) (Nat.le_of_ble_eq_true rfl) (fun p e s m args below meth c ls C htab hH hl => t_L_contract C htab htr  hH hl hf)
set_option maxRecDepth 100000 in
set_option maxHeartbeats 4000000 in
theorem t_L_plural {D : va_G} {B : Nat} {Y : Nat → ClassId} {p : Program} {l : Launch} {e : Env} {s : State} {m : MethodId} {args : Array Value} {below : List Frame} {meth : Method} {c : Code} {z : Int32 × Wd} {H : Heap} {locs : List Loc} {ls : Array Slot} {w : Wd} {v1 : Int32} {v2 : Int32} {v3 : Int32} {v4 : Int32} {v5 : Int32} {v6 : Int32} {v7 : Int32} {v8 : Int32} (C : CX D B Y p s m args meth c cL_plural 11 RL (some .int)) (htab : c.exceptionTable.toList = tableOf [(0, 22, 25, 21), (0, 22, 29, 13), (0, 22, 33, 15)]) (htr : l.stackTraces = false)  (hH : HS D B Y w s H locs) (hl : lv_has ls 11 [(0, .ref (B + 0)), (1, .int v1), (2, .int v2), (3, .int v3), (4, .int v4), (5, .int v5), (6, .int v6), (7, .int v7), (8, .int v8), (9, .ref (B + 746))]) (hf : f_L_plural v1 v2 v3 v4 v5 v6 v7 v8 w = some z) : W p l e (RM 3 4 (6 * 4)) s m args below meth c H locs 0 0 (MQ below (QG D B Y (some (.int z.1)) z.2 True) args s 4 (6 * 4) (AB B)) (F0 m 0 ls []) := by
  have hx := C.1
  have hb := C.2.1
  unfold f_L_plural at hf
  refine lv_aload hx hb dL_plural_0 (lv_at hl 9 rfl) ?_
  refine lv_iconst (v := (0 : Int32)) hx hb dL_plural_2 (by decide) ?_
  refine lv_aload_n hx hb dL_plural_3 rfl (lv_at hl 0 rfl) ?_
  refine lv_iload_n hx hb dL_plural_4 rfl (lv_at hl 1 rfl) ?_
  refine lv_iload_n hx hb dL_plural_5 rfl (lv_at hl 2 rfl) ?_
  refine lv_iload_n hx hb dL_plural_6 rfl (lv_at hl 3 rfl) ?_
  refine lv_iload hx hb dL_plural_7 (lv_at hl 4 rfl) ?_
  refine lv_iload hx hb dL_plural_9 (lv_at hl 5 rfl) ?_
  refine lv_iload hx hb dL_plural_11 (lv_at hl 6 rfl) ?_
  refine lv_iload hx hb dL_plural_13 (lv_at hl 7 rfl) ?_
  refine lv_iload hx hb dL_plural_15 (lv_at hl 8 rfl) ?_
  rcases bdc_some hf with ⟨k, w1, hc, hf⟩ | ⟨x2, w1, hc, hf⟩
  · by_cases e_0 : k = 1
    · subst e_0
      rw [if_pos rfl] at hf
      refine q_xrunX (q_xV (As := [.int v1, .int v2, .int v3, .int v4, .int v5, .int v6, .int v7, .int v8]) C hH (ci := 10) rfl (by omega) gk_L_41 yd_X10_plural (by omega) (by omega) kc_0 (c_X10_plural htr hc) hl.1 rfl (Nat.le_of_ble_eq_true rfl) dL_plural_17 ⟨by decide, by decide⟩) hH (fun H locs ce q hH h1 h2 h3 => ?_)
      refine q_catch C htab (pre := []) (x := (0, 22, 25, 21)) (suf := [(0, 22, 29, 13), (0, 22, 33, 15)]) (E := 1) rfl (by decide) rfl (by decide) (by decide) h1 h2 h3 ?_
      refine lv_astore (lv' := [(10, .ref q), (0, .ref (B + 0)), (1, .int v1), (2, .int v2), (3, .int v3), (4, .int v4), (5, .int v5), (6, .int v6), (7, .int v7), (8, .int v8), (9, .ref (B + 746))]) hx hb dL_plural_25 hl (by decide) rfl (fun ls hl => ?_)
      refine lv_iconst (v := (1 : Int32)) hx hb dL_plural_27 (by decide) ?_
      cases hf
      exact W.widen (k := 4) (n := 6 * 4) (by decide) (by decide) (q_reti C hH trivial dL_plural_28)
    rw [if_neg e_0] at hf
    by_cases e_1 : k = 2
    · subst e_1
      rw [if_pos rfl] at hf
      refine q_xrunX (q_xV (As := [.int v1, .int v2, .int v3, .int v4, .int v5, .int v6, .int v7, .int v8]) C hH (ci := 10) rfl (by omega) gk_L_41 yd_X10_plural (by omega) (by omega) kc_0 (c_X10_plural htr hc) hl.1 rfl (Nat.le_of_ble_eq_true rfl) dL_plural_17 ⟨by decide, by decide⟩) hH (fun H locs ce q hH h1 h2 h3 => ?_)
      refine q_catch C htab (pre := [(0, 22, 25, 21)]) (x := (0, 22, 29, 13)) (suf := [(0, 22, 33, 15)]) (E := 2) rfl (by decide) rfl (by decide) (by decide) h1 h2 h3 ?_
      refine lv_astore (lv' := [(10, .ref q), (0, .ref (B + 0)), (1, .int v1), (2, .int v2), (3, .int v3), (4, .int v4), (5, .int v5), (6, .int v6), (7, .int v7), (8, .int v8), (9, .ref (B + 746))]) hx hb dL_plural_29 hl (by decide) rfl (fun ls hl => ?_)
      refine lv_iconst (v := (2 : Int32)) hx hb dL_plural_31 (by decide) ?_
      cases hf
      exact W.widen (k := 4) (n := 6 * 4) (by decide) (by decide) (q_reti C hH trivial dL_plural_32)
    rw [if_neg e_1] at hf
    by_cases e_2 : k = 3
    · subst e_2
      rw [if_pos rfl] at hf
      refine q_xrunX (q_xV (As := [.int v1, .int v2, .int v3, .int v4, .int v5, .int v6, .int v7, .int v8]) C hH (ci := 10) rfl (by omega) gk_L_41 yd_X10_plural (by omega) (by omega) kc_0 (c_X10_plural htr hc) hl.1 rfl (Nat.le_of_ble_eq_true rfl) dL_plural_17 ⟨by decide, by decide⟩) hH (fun H locs ce q hH h1 h2 h3 => ?_)
      refine q_catch C htab (pre := [(0, 22, 25, 21), (0, 22, 29, 13)]) (x := (0, 22, 33, 15)) (suf := []) (E := 3) rfl (by decide) rfl (by decide) (by decide) h1 h2 h3 ?_
      refine lv_astore (lv' := [(10, .ref q), (0, .ref (B + 0)), (1, .int v1), (2, .int v2), (3, .int v3), (4, .int v4), (5, .int v5), (6, .int v6), (7, .int v7), (8, .int v8), (9, .ref (B + 746))]) hx hb dL_plural_33 hl (by decide) rfl (fun ls hl => ?_)
      refine lv_iconst (v := (3 : Int32)) hx hb dL_plural_35 (by decide) ?_
      cases hf
      exact W.widen (k := 4) (n := 6 * 4) (by decide) (by decide) (q_reti C hH trivial dL_plural_36)
    rw [if_neg e_2] at hf
    cases hf
  · refine q_xrun (ov := some (.int x2)) (q_xV (As := [.int v1, .int v2, .int v3, .int v4, .int v5, .int v6, .int v7, .int v8]) C hH (ci := 10) rfl (by omega) gk_L_41 yd_X10_plural (by omega) (by omega) kc_0 (c_X10_plural htr hc) hl.1 rfl (Nat.le_of_ble_eq_true rfl) dL_plural_17 ⟨by decide, by decide⟩) hH (fun H locs hH hP => ?_)
    refine lv_i2l (v := x2.toInt64) hx hb dL_plural_20 rfl ?_
    refine g_last C hH kc_746 (by decide +kernel) hf dL_plural_21 (fun w3 H locs hf hH => ?_)
    refine lv_goto (tgt := 37) hx hb dL_plural_22 (by decide) ?_
    refine lv_iconst (v := (0 : Int32)) hx hb dL_plural_37 (by decide) ?_
    cases hf
    exact W.widen (k := 4) (n := 6 * 4) (by decide) (by decide) (q_reti C hH trivial dL_plural_38)
set_option maxRecDepth 100000 in
theorem c_L_plural {l : Launch} {D : va_G} {B : Nat} {Y : Nat → ClassId} {v1 : Int32} {v2 : Int32} {v3 : Int32} {v4 : Int32} {v5 : Int32} {v6 : Int32} {v7 : Int32} {v8 : Int32} {w : Wd} {r : Int32} {w1 : Wd} (htr : l.stackTraces = false)  (hf : f_L_plural v1 v2 v3 v4 v5 v6 v7 v8 w = some (r, w1)) : LM l D B Y yL_plural cL_plural 11 [(0, 22, 25, 21), (0, 22, 29, 13), (0, 22, 33, 15)] 3 4 [.ref (B + 0), .int v1, .int v2, .int v3, .int v4, .int v5, .int v6, .int v7, .int v8, .ref (B + 746)] w r w1 :=
  LM_of (by decide +kernel) (Nat.le_of_ble_eq_true rfl) (fun p e s m args below meth c ls C htab hH hl => t_L_plural C htab htr  hH hl hf)
set_option maxRecDepth 100000 in
set_option maxHeartbeats 4000000 in
theorem t_L_addWord {D : va_G} {B : Nat} {Y : Nat → ClassId} {p : Program} {l : Launch} {e : Env} {s : State} {m : MethodId} {args : Array Value} {below : List Frame} {meth : Method} {c : Code} {z : Int32 × Wd} {H : Heap} {locs : List Loc} {ls : Array Slot} {w : Wd} {v1 : Int32} (C : CX D B Y p s m args meth c cL_addWord 4 RL (some .int)) (htab : c.exceptionTable.toList = tableOf [(0, 9, 12, 21), (0, 9, 15, 15)]) (htr : l.stackTraces = false)  (hH : HS D B Y w s H locs) (hl : lv_has ls 4 [(0, .ref (B + 0)), (1, .int v1), (2, .ref (B + 746))]) (hf : f_L_addWord v1 w = some z) : W p l e (RM 4 2 (6 * 2)) s m args below meth c H locs 0 0 (MQ below (QG D B Y (some (.int z.1)) z.2 True) args s 2 (6 * 2) (AB B)) (F0 m 0 ls []) := by
  have hx := C.1
  have hb := C.2.1
  unfold f_L_addWord at hf
  refine lv_aload_n hx hb dL_addWord_0 rfl (lv_at hl 2 rfl) ?_
  refine lv_iconst (v := (0 : Int32)) hx hb dL_addWord_1 (by decide) ?_
  refine lv_aload_n hx hb dL_addWord_2 rfl (lv_at hl 0 rfl) ?_
  refine lv_iload_n hx hb dL_addWord_3 rfl (lv_at hl 1 rfl) ?_
  rcases bdc_some hf with ⟨k, w1, hc, hf⟩ | ⟨x2, w1, hc, hf⟩
  · by_cases e_0 : k = 1
    · subst e_0
      rw [if_pos rfl] at hf
      refine q_xrunX (q_xV (As := [.int v1]) C hH (ci := 10) rfl (by omega) gk_L_45 yd_X10_addWord (by omega) (by omega) kc_0 (c_X10_addWord htr hc) hl.1 rfl (Nat.le_of_ble_eq_true rfl) dL_addWord_4 ⟨by decide, by decide⟩) hH (fun H locs ce q hH h1 h2 h3 => ?_)
      refine q_catch C htab (pre := []) (x := (0, 9, 12, 21)) (suf := [(0, 9, 15, 15)]) (E := 1) rfl (by decide) rfl (by decide) (by decide) h1 h2 h3 ?_
      refine lv_astore_n (lv' := [(3, .ref q), (0, .ref (B + 0)), (1, .int v1), (2, .ref (B + 746))]) hx hb dL_addWord_12 rfl hl (by decide) rfl (fun ls hl => ?_)
      refine lv_iconst (v := (1 : Int32)) hx hb dL_addWord_13 (by decide) ?_
      cases hf
      exact W.widen (k := 2) (n := 6 * 2) (by decide) (by decide) (q_reti C hH trivial dL_addWord_14)
    rw [if_neg e_0] at hf
    by_cases e_1 : k = 3
    · subst e_1
      rw [if_pos rfl] at hf
      refine q_xrunX (q_xV (As := [.int v1]) C hH (ci := 10) rfl (by omega) gk_L_45 yd_X10_addWord (by omega) (by omega) kc_0 (c_X10_addWord htr hc) hl.1 rfl (Nat.le_of_ble_eq_true rfl) dL_addWord_4 ⟨by decide, by decide⟩) hH (fun H locs ce q hH h1 h2 h3 => ?_)
      refine q_catch C htab (pre := [(0, 9, 12, 21)]) (x := (0, 9, 15, 15)) (suf := []) (E := 3) rfl (by decide) rfl (by decide) (by decide) h1 h2 h3 ?_
      refine lv_astore_n (lv' := [(3, .ref q), (0, .ref (B + 0)), (1, .int v1), (2, .ref (B + 746))]) hx hb dL_addWord_15 rfl hl (by decide) rfl (fun ls hl => ?_)
      refine lv_iconst (v := (2 : Int32)) hx hb dL_addWord_16 (by decide) ?_
      cases hf
      exact W.widen (k := 2) (n := 6 * 2) (by decide) (by decide) (q_reti C hH trivial dL_addWord_17)
    rw [if_neg e_1] at hf
    cases hf
  · refine q_xrun (ov := some (.int x2)) (q_xV (As := [.int v1]) C hH (ci := 10) rfl (by omega) gk_L_45 yd_X10_addWord (by omega) (by omega) kc_0 (c_X10_addWord htr hc) hl.1 rfl (Nat.le_of_ble_eq_true rfl) dL_addWord_4 ⟨by decide, by decide⟩) hH (fun H locs hH hP => ?_)
    refine lv_i2l (v := x2.toInt64) hx hb dL_addWord_7 rfl ?_
    refine g_last C hH kc_746 (by decide +kernel) hf dL_addWord_8 (fun w3 H locs hf hH => ?_)
    refine lv_goto (tgt := 18) hx hb dL_addWord_9 (by decide) ?_
    refine lv_iconst (v := (0 : Int32)) hx hb dL_addWord_18 (by decide) ?_
    cases hf
    exact W.widen (k := 2) (n := 6 * 2) (by decide) (by decide) (q_reti C hH trivial dL_addWord_19)
set_option maxRecDepth 100000 in
theorem c_L_addWord {l : Launch} {D : va_G} {B : Nat} {Y : Nat → ClassId} {v1 : Int32} {w : Wd} {r : Int32} {w1 : Wd} (htr : l.stackTraces = false)  (hf : f_L_addWord v1 w = some (r, w1)) : LM l D B Y yL_addWord cL_addWord 4 [(0, 9, 12, 21), (0, 9, 15, 15)] 4 2 [.ref (B + 0), .int v1, .ref (B + 746)] w r w1 :=
  LM_of (by decide +kernel) (Nat.le_of_ble_eq_true rfl) (fun p e s m args below meth c ls C htab hH hl => t_L_addWord C htab htr  hH hl hf)
set_option maxRecDepth 100000 in
set_option maxHeartbeats 4000000 in
theorem t_L_addRule {D : va_G} {B : Nat} {Y : Nat → ClassId} {p : Program} {l : Launch} {e : Env} {s : State} {m : MethodId} {args : Array Value} {below : List Frame} {meth : Method} {c : Code} {z : Int32 × Wd} {H : Heap} {locs : List Loc} {ls : Array Slot} {w : Wd} {v1 : Int32} {v2 : Int32} {v3 : Int32} {v4 : Int32} {v5 : Int32} (C : CX D B Y p s m args meth c cL_addRule 8 RL (some .int)) (htab : c.exceptionTable.toList = tableOf [(0, 16, 19, 21), (0, 16, 23, 13), (0, 16, 27, 15)]) (htr : l.stackTraces = false)  (hH : HS D B Y w s H locs) (hl : lv_has ls 8 [(0, .ref (B + 0)), (1, .int v1), (2, .int v2), (3, .int v3), (4, .int v4), (5, .int v5), (6, .ref (B + 746))]) (hf : f_L_addRule v1 v2 v3 v4 v5 w = some z) : W p l e (RM 4 6 (6 * 6)) s m args below meth c H locs 0 0 (MQ below (QG D B Y (some (.int z.1)) z.2 True) args s 6 (6 * 6) (AB B)) (F0 m 0 ls []) := by
  have hx := C.1
  have hb := C.2.1
  unfold f_L_addRule at hf
  refine lv_aload hx hb dL_addRule_0 (lv_at hl 6 rfl) ?_
  refine lv_iconst (v := (0 : Int32)) hx hb dL_addRule_2 (by decide) ?_
  refine lv_aload_n hx hb dL_addRule_3 rfl (lv_at hl 0 rfl) ?_
  refine lv_iload_n hx hb dL_addRule_4 rfl (lv_at hl 1 rfl) ?_
  refine lv_iload_n hx hb dL_addRule_5 rfl (lv_at hl 2 rfl) ?_
  refine lv_iload_n hx hb dL_addRule_6 rfl (lv_at hl 3 rfl) ?_
  refine lv_iload hx hb dL_addRule_7 (lv_at hl 4 rfl) ?_
  refine lv_iload hx hb dL_addRule_9 (lv_at hl 5 rfl) ?_
  rcases bdc_some hf with ⟨k, w1, hc, hf⟩ | ⟨x2, w1, hc, hf⟩
  · by_cases e_0 : k = 1
    · subst e_0
      rw [if_pos rfl] at hf
      refine q_xrunX (q_xV (As := [.int v1, .int v2, .int v3, .int v4, .int v5]) C hH (ci := 10) rfl (by omega) gk_L_49 yd_X10_addRule (by omega) (by omega) kc_0 (c_X10_addRule htr hc) hl.1 rfl (Nat.le_of_ble_eq_true rfl) dL_addRule_11 ⟨by decide, by decide⟩) hH (fun H locs ce q hH h1 h2 h3 => ?_)
      refine q_catch C htab (pre := []) (x := (0, 16, 19, 21)) (suf := [(0, 16, 23, 13), (0, 16, 27, 15)]) (E := 1) rfl (by decide) rfl (by decide) (by decide) h1 h2 h3 ?_
      refine lv_astore (lv' := [(7, .ref q), (0, .ref (B + 0)), (1, .int v1), (2, .int v2), (3, .int v3), (4, .int v4), (5, .int v5), (6, .ref (B + 746))]) hx hb dL_addRule_19 hl (by decide) rfl (fun ls hl => ?_)
      refine lv_iconst (v := (1 : Int32)) hx hb dL_addRule_21 (by decide) ?_
      cases hf
      exact W.widen (k := 6) (n := 6 * 6) (by decide) (by decide) (q_reti C hH trivial dL_addRule_22)
    rw [if_neg e_0] at hf
    by_cases e_1 : k = 2
    · subst e_1
      rw [if_pos rfl] at hf
      refine q_xrunX (q_xV (As := [.int v1, .int v2, .int v3, .int v4, .int v5]) C hH (ci := 10) rfl (by omega) gk_L_49 yd_X10_addRule (by omega) (by omega) kc_0 (c_X10_addRule htr hc) hl.1 rfl (Nat.le_of_ble_eq_true rfl) dL_addRule_11 ⟨by decide, by decide⟩) hH (fun H locs ce q hH h1 h2 h3 => ?_)
      refine q_catch C htab (pre := [(0, 16, 19, 21)]) (x := (0, 16, 23, 13)) (suf := [(0, 16, 27, 15)]) (E := 2) rfl (by decide) rfl (by decide) (by decide) h1 h2 h3 ?_
      refine lv_astore (lv' := [(7, .ref q), (0, .ref (B + 0)), (1, .int v1), (2, .int v2), (3, .int v3), (4, .int v4), (5, .int v5), (6, .ref (B + 746))]) hx hb dL_addRule_23 hl (by decide) rfl (fun ls hl => ?_)
      refine lv_iconst (v := (2 : Int32)) hx hb dL_addRule_25 (by decide) ?_
      cases hf
      exact W.widen (k := 6) (n := 6 * 6) (by decide) (by decide) (q_reti C hH trivial dL_addRule_26)
    rw [if_neg e_1] at hf
    by_cases e_2 : k = 3
    · subst e_2
      rw [if_pos rfl] at hf
      refine q_xrunX (q_xV (As := [.int v1, .int v2, .int v3, .int v4, .int v5]) C hH (ci := 10) rfl (by omega) gk_L_49 yd_X10_addRule (by omega) (by omega) kc_0 (c_X10_addRule htr hc) hl.1 rfl (Nat.le_of_ble_eq_true rfl) dL_addRule_11 ⟨by decide, by decide⟩) hH (fun H locs ce q hH h1 h2 h3 => ?_)
      refine q_catch C htab (pre := [(0, 16, 19, 21), (0, 16, 23, 13)]) (x := (0, 16, 27, 15)) (suf := []) (E := 3) rfl (by decide) rfl (by decide) (by decide) h1 h2 h3 ?_
      refine lv_astore (lv' := [(7, .ref q), (0, .ref (B + 0)), (1, .int v1), (2, .int v2), (3, .int v3), (4, .int v4), (5, .int v5), (6, .ref (B + 746))]) hx hb dL_addRule_27 hl (by decide) rfl (fun ls hl => ?_)
      refine lv_iconst (v := (3 : Int32)) hx hb dL_addRule_29 (by decide) ?_
      cases hf
      exact W.widen (k := 6) (n := 6 * 6) (by decide) (by decide) (q_reti C hH trivial dL_addRule_30)
    rw [if_neg e_2] at hf
    cases hf
  · refine q_xrun (ov := some (.int x2)) (q_xV (As := [.int v1, .int v2, .int v3, .int v4, .int v5]) C hH (ci := 10) rfl (by omega) gk_L_49 yd_X10_addRule (by omega) (by omega) kc_0 (c_X10_addRule htr hc) hl.1 rfl (Nat.le_of_ble_eq_true rfl) dL_addRule_11 ⟨by decide, by decide⟩) hH (fun H locs hH hP => ?_)
    refine lv_i2l (v := x2.toInt64) hx hb dL_addRule_14 rfl ?_
    refine g_last C hH kc_746 (by decide +kernel) hf dL_addRule_15 (fun w3 H locs hf hH => ?_)
    refine lv_goto (tgt := 31) hx hb dL_addRule_16 (by decide) ?_
    refine lv_iconst (v := (0 : Int32)) hx hb dL_addRule_31 (by decide) ?_
    cases hf
    exact W.widen (k := 6) (n := 6 * 6) (by decide) (by decide) (q_reti C hH trivial dL_addRule_32)
set_option maxRecDepth 100000 in
theorem c_L_addRule {l : Launch} {D : va_G} {B : Nat} {Y : Nat → ClassId} {v1 : Int32} {v2 : Int32} {v3 : Int32} {v4 : Int32} {v5 : Int32} {w : Wd} {r : Int32} {w1 : Wd} (htr : l.stackTraces = false)  (hf : f_L_addRule v1 v2 v3 v4 v5 w = some (r, w1)) : LM l D B Y yL_addRule cL_addRule 8 [(0, 16, 19, 21), (0, 16, 23, 13), (0, 16, 27, 15)] 4 6 [.ref (B + 0), .int v1, .int v2, .int v3, .int v4, .int v5, .ref (B + 746)] w r w1 :=
  LM_of (by decide +kernel) (Nat.le_of_ble_eq_true rfl) (fun p e s m args below meth c ls C htab hH hl => t_L_addRule C htab htr  hH hl hf)
set_option maxRecDepth 100000 in
set_option maxHeartbeats 4000000 in
theorem t_L_save {D : va_G} {B : Nat} {Y : Nat → ClassId} {p : Program} {l : Launch} {e : Env} {s : State} {m : MethodId} {args : Array Value} {below : List Frame} {meth : Method} {c : Code} {z : Int32 × Wd} {H : Heap} {locs : List Loc} {ls : Array Slot} {w : Wd}  (C : CX D B Y p s m args meth c cL_save 3 RL (some .int)) (htab : c.exceptionTable.toList = tableOf [(0, 8, 11, 15)]) (htr : l.stackTraces = false)  (hH : HS D B Y w s H locs) (hl : lv_has ls 3 [(0, .ref (B + 0)), (1, .ref (B + 746))]) (hf : f_L_save w = some z) : W p l e (RM 6 1 (6 * 1)) s m args below meth c H locs 0 0 (MQ below (QG D B Y (some (.int z.1)) z.2 True) args s 1 (6 * 1) (AB B)) (F0 m 0 ls []) := by
  have hx := C.1
  have hb := C.2.1
  unfold f_L_save at hf
  refine lv_aload_n hx hb dL_save_0 rfl (lv_at hl 1 rfl) ?_
  refine lv_iconst (v := (0 : Int32)) hx hb dL_save_1 (by decide) ?_
  refine lv_aload_n hx hb dL_save_2 rfl (lv_at hl 0 rfl) ?_
  rcases bdc_some hf with ⟨k, w1, hc, hf⟩ | ⟨x2, w1, hc, hf⟩
  · by_cases e_0 : k = 3
    · subst e_0
      rw [if_pos rfl] at hf
      refine q_xrunX (q_xV (As := []) C hH (ci := 10) rfl (by omega) gk_L_53 yd_X10_save (by omega) (by omega) kc_0 (c_X10_save htr hc) hl.1 rfl (Nat.le_of_ble_eq_true rfl) dL_save_3 ⟨by decide, by decide⟩) hH (fun H locs ce q hH h1 h2 h3 => ?_)
      refine q_catch C htab (pre := []) (x := (0, 8, 11, 15)) (suf := []) (E := 3) rfl (by decide) rfl (by decide) (by decide) h1 h2 h3 ?_
      refine lv_astore_n (lv' := [(2, .ref q), (0, .ref (B + 0)), (1, .ref (B + 746))]) hx hb dL_save_11 rfl hl (by decide) rfl (fun ls hl => ?_)
      refine lv_iconst (v := (1 : Int32)) hx hb dL_save_12 (by decide) ?_
      cases hf
      exact W.widen (k := 1) (n := 6 * 1) (by decide) (by decide) (q_reti C hH trivial dL_save_13)
    rw [if_neg e_0] at hf
    cases hf
  · refine q_xrun (ov := some (.int x2)) (q_xV (As := []) C hH (ci := 10) rfl (by omega) gk_L_53 yd_X10_save (by omega) (by omega) kc_0 (c_X10_save htr hc) hl.1 rfl (Nat.le_of_ble_eq_true rfl) dL_save_3 ⟨by decide, by decide⟩) hH (fun H locs hH hP => ?_)
    refine lv_i2l (v := x2.toInt64) hx hb dL_save_6 rfl ?_
    refine g_last C hH kc_746 (by decide +kernel) hf dL_save_7 (fun w3 H locs hf hH => ?_)
    refine lv_goto (tgt := 14) hx hb dL_save_8 (by decide) ?_
    refine lv_iconst (v := (0 : Int32)) hx hb dL_save_14 (by decide) ?_
    cases hf
    exact W.widen (k := 1) (n := 6 * 1) (by decide) (by decide) (q_reti C hH trivial dL_save_15)
set_option maxRecDepth 100000 in
theorem c_L_save {l : Launch} {D : va_G} {B : Nat} {Y : Nat → ClassId}  {w : Wd} {r : Int32} {w1 : Wd} (htr : l.stackTraces = false)  (hf : f_L_save w = some (r, w1)) : LM l D B Y yL_save cL_save 3 [(0, 8, 11, 15)] 6 1 [.ref (B + 0), .ref (B + 746)] w r w1 :=
  LM_of (by decide +kernel) (Nat.le_of_ble_eq_true rfl) (fun p e s m args below meth c ls C htab hH hl => t_L_save C htab htr  hH hl hf)
set_option maxRecDepth 100000 in
set_option maxHeartbeats 4000000 in
theorem t_L_use {D : va_G} {B : Nat} {Y : Nat → ClassId} {p : Program} {l : Launch} {e : Env} {s : State} {m : MethodId} {args : Array Value} {below : List Frame} {meth : Method} {c : Code} {z : Int32 × Wd} {H : Heap} {locs : List Loc} {ls : Array Slot} {w : Wd} {v1 : Int32} (C : CX D B Y p s m args meth c cL_use 3 RL (some .int)) (htab : c.exceptionTable.toList = tableOf [(0, 5, 8, 21)]) (htr : l.stackTraces = false)  (hH : HS D B Y w s H locs) (hl : lv_has ls 3 [(0, .ref (B + 0)), (1, .int v1)]) (hf : f_L_use v1 w = some z) : W p l e (RM 6 1 (6 * 1)) s m args below meth c H locs 0 0 (MQ below (QG D B Y (some (.int z.1)) z.2 True) args s 1 (6 * 1) (AB B)) (F0 m 0 ls []) := by
  have hx := C.1
  have hb := C.2.1
  unfold f_L_use at hf
  refine lv_aload_n hx hb dL_use_0 rfl (lv_at hl 0 rfl) ?_
  refine lv_iload_n hx hb dL_use_1 rfl (lv_at hl 1 rfl) ?_
  rcases bdc_some hf with ⟨k, w1, hc, hf⟩ | ⟨u, w1, hc, hf⟩
  · by_cases e_0 : k = 1
    · subst e_0
      rw [if_pos rfl] at hf
      refine q_xrunX (q_xV (As := [.int v1]) C hH (ci := 10) rfl (by omega) gk_L_57 yd_X10_use (by omega) (by omega) kc_0 (c_X10_use htr hc) hl.1 rfl (Nat.le_of_ble_eq_true rfl) dL_use_2 ⟨by decide, by decide⟩) hH (fun H locs ce q hH h1 h2 h3 => ?_)
      refine q_catch C htab (pre := []) (x := (0, 5, 8, 21)) (suf := []) (E := 1) rfl (by decide) rfl (by decide) (by decide) h1 h2 h3 ?_
      refine lv_astore_n (lv' := [(2, .ref q), (0, .ref (B + 0)), (1, .int v1)]) hx hb dL_use_8 rfl hl (by decide) rfl (fun ls hl => ?_)
      refine lv_iconst (v := (1 : Int32)) hx hb dL_use_9 (by decide) ?_
      cases hf
      exact W.widen (k := 1) (n := 6 * 1) (by decide) (by decide) (q_reti C hH trivial dL_use_10)
    rw [if_neg e_0] at hf
    cases hf
  · refine q_xrun (ov := none) (q_xV (As := [.int v1]) C hH (ci := 10) rfl (by omega) gk_L_57 yd_X10_use (by omega) (by omega) kc_0 (c_X10_use htr hc) hl.1 rfl (Nat.le_of_ble_eq_true rfl) dL_use_2 ⟨by decide, by decide⟩) hH (fun H locs hH hP => ?_)
    refine lv_goto (tgt := 11) hx hb dL_use_5 (by decide) ?_
    refine lv_iconst (v := (0 : Int32)) hx hb dL_use_11 (by decide) ?_
    cases hf
    exact W.widen (k := 1) (n := 6 * 1) (by decide) (by decide) (q_reti C hH trivial dL_use_12)
set_option maxRecDepth 100000 in
theorem c_L_use {l : Launch} {D : va_G} {B : Nat} {Y : Nat → ClassId} {v1 : Int32} {w : Wd} {r : Int32} {w1 : Wd} (htr : l.stackTraces = false)  (hf : f_L_use v1 w = some (r, w1)) : LM l D B Y yL_use cL_use 3 [(0, 5, 8, 21)] 6 1 [.ref (B + 0), .int v1] w r w1 :=
  LM_of (by decide +kernel) (Nat.le_of_ble_eq_true rfl) (fun p e s m args below meth c ls C htab hH hl => t_L_use C htab htr  hH hl hf)
set_option maxRecDepth 100000 in
set_option maxHeartbeats 4000000 in
theorem t_L_put {D : va_G} {B : Nat} {Y : Nat → ClassId} {p : Program} {l : Launch} {e : Env} {s : State} {m : MethodId} {args : Array Value} {below : List Frame} {meth : Method} {c : Code} {z : Int32 × Wd} {H : Heap} {locs : List Loc} {ls : Array Slot} {w : Wd} {v1 : Int32} {v2 : Int32} (C : CX D B Y p s m args meth c cL_put 5 RL (some .int)) (htab : c.exceptionTable.toList = tableOf [(0, 10, 13, 21), (0, 10, 17, 15)]) (htr : l.stackTraces = false)  (hH : HS D B Y w s H locs) (hl : lv_has ls 5 [(0, .ref (B + 0)), (1, .int v1), (2, .int v2), (3, .ref (B + 746))]) (hf : f_L_put v1 v2 w = some z) : W p l e (RM 4 3 (6 * 3)) s m args below meth c H locs 0 0 (MQ below (QG D B Y (some (.int z.1)) z.2 True) args s 3 (6 * 3) (AB B)) (F0 m 0 ls []) := by
  have hx := C.1
  have hb := C.2.1
  unfold f_L_put at hf
  refine lv_aload_n hx hb dL_put_0 rfl (lv_at hl 3 rfl) ?_
  refine lv_iconst (v := (0 : Int32)) hx hb dL_put_1 (by decide) ?_
  refine lv_aload_n hx hb dL_put_2 rfl (lv_at hl 0 rfl) ?_
  refine lv_iload_n hx hb dL_put_3 rfl (lv_at hl 1 rfl) ?_
  refine lv_iload_n hx hb dL_put_4 rfl (lv_at hl 2 rfl) ?_
  rcases bdc_some hf with ⟨k, w1, hc, hf⟩ | ⟨x2, w1, hc, hf⟩
  · by_cases e_0 : k = 1
    · subst e_0
      rw [if_pos rfl] at hf
      refine q_xrunX (q_xV (As := [.int v1, .int v2]) C hH (ci := 10) rfl (by omega) gk_L_61 yd_X10_put (by omega) (by omega) kc_0 (c_X10_put htr hc) hl.1 rfl (Nat.le_of_ble_eq_true rfl) dL_put_5 ⟨by decide, by decide⟩) hH (fun H locs ce q hH h1 h2 h3 => ?_)
      refine q_catch C htab (pre := []) (x := (0, 10, 13, 21)) (suf := [(0, 10, 17, 15)]) (E := 1) rfl (by decide) rfl (by decide) (by decide) h1 h2 h3 ?_
      refine lv_astore (lv' := [(4, .ref q), (0, .ref (B + 0)), (1, .int v1), (2, .int v2), (3, .ref (B + 746))]) hx hb dL_put_13 hl (by decide) rfl (fun ls hl => ?_)
      refine lv_iconst (v := (1 : Int32)) hx hb dL_put_15 (by decide) ?_
      cases hf
      exact W.widen (k := 3) (n := 6 * 3) (by decide) (by decide) (q_reti C hH trivial dL_put_16)
    rw [if_neg e_0] at hf
    by_cases e_1 : k = 3
    · subst e_1
      rw [if_pos rfl] at hf
      refine q_xrunX (q_xV (As := [.int v1, .int v2]) C hH (ci := 10) rfl (by omega) gk_L_61 yd_X10_put (by omega) (by omega) kc_0 (c_X10_put htr hc) hl.1 rfl (Nat.le_of_ble_eq_true rfl) dL_put_5 ⟨by decide, by decide⟩) hH (fun H locs ce q hH h1 h2 h3 => ?_)
      refine q_catch C htab (pre := [(0, 10, 13, 21)]) (x := (0, 10, 17, 15)) (suf := []) (E := 3) rfl (by decide) rfl (by decide) (by decide) h1 h2 h3 ?_
      refine lv_astore (lv' := [(4, .ref q), (0, .ref (B + 0)), (1, .int v1), (2, .int v2), (3, .ref (B + 746))]) hx hb dL_put_17 hl (by decide) rfl (fun ls hl => ?_)
      refine lv_iconst (v := (2 : Int32)) hx hb dL_put_19 (by decide) ?_
      cases hf
      exact W.widen (k := 3) (n := 6 * 3) (by decide) (by decide) (q_reti C hH trivial dL_put_20)
    rw [if_neg e_1] at hf
    cases hf
  · refine q_xrun (ov := some (.int x2)) (q_xV (As := [.int v1, .int v2]) C hH (ci := 10) rfl (by omega) gk_L_61 yd_X10_put (by omega) (by omega) kc_0 (c_X10_put htr hc) hl.1 rfl (Nat.le_of_ble_eq_true rfl) dL_put_5 ⟨by decide, by decide⟩) hH (fun H locs hH hP => ?_)
    refine lv_i2l (v := x2.toInt64) hx hb dL_put_8 rfl ?_
    refine g_last C hH kc_746 (by decide +kernel) hf dL_put_9 (fun w3 H locs hf hH => ?_)
    refine lv_goto (tgt := 21) hx hb dL_put_10 (by decide) ?_
    refine lv_iconst (v := (0 : Int32)) hx hb dL_put_21 (by decide) ?_
    cases hf
    exact W.widen (k := 3) (n := 6 * 3) (by decide) (by decide) (q_reti C hH trivial dL_put_22)
set_option maxRecDepth 100000 in
theorem c_L_put {l : Launch} {D : va_G} {B : Nat} {Y : Nat → ClassId} {v1 : Int32} {v2 : Int32} {w : Wd} {r : Int32} {w1 : Wd} (htr : l.stackTraces = false)  (hf : f_L_put v1 v2 w = some (r, w1)) : LM l D B Y yL_put cL_put 5 [(0, 10, 13, 21), (0, 10, 17, 15)] 4 3 [.ref (B + 0), .int v1, .int v2, .ref (B + 746)] w r w1 :=
  LM_of (by decide +kernel) (Nat.le_of_ble_eq_true rfl) (fun p e s m args below meth c ls C htab hH hl => t_L_put C htab htr  hH hl hf)
set_option maxRecDepth 100000 in
set_option maxHeartbeats 4000000 in
theorem t_L_clear {D : va_G} {B : Nat} {Y : Nat → ClassId} {p : Program} {l : Launch} {e : Env} {s : State} {m : MethodId} {args : Array Value} {below : List Frame} {meth : Method} {c : Code} {z : Int32 × Wd} {H : Heap} {locs : List Loc} {ls : Array Slot} {w : Wd} {v1 : Int32} (C : CX D B Y p s m args meth c cL_clear 4 RL (some .int)) (htab : c.exceptionTable.toList = tableOf [(0, 9, 12, 21)]) (htr : l.stackTraces = false)  (hH : HS D B Y w s H locs) (hl : lv_has ls 4 [(0, .ref (B + 0)), (1, .int v1), (2, .ref (B + 746))]) (hf : f_L_clear v1 w = some z) : W p l e (RM 2 1 (6 * 1)) s m args below meth c H locs 0 0 (MQ below (QG D B Y (some (.int z.1)) z.2 True) args s 1 (6 * 1) (AB B)) (F0 m 0 ls []) := by
  have hx := C.1
  have hb := C.2.1
  unfold f_L_clear at hf
  refine lv_aload_n hx hb dL_clear_0 rfl (lv_at hl 2 rfl) ?_
  refine lv_iconst (v := (0 : Int32)) hx hb dL_clear_1 (by decide) ?_
  refine lv_aload_n hx hb dL_clear_2 rfl (lv_at hl 0 rfl) ?_
  refine lv_iload_n hx hb dL_clear_3 rfl (lv_at hl 1 rfl) ?_
  rcases bdc_some hf with ⟨k, w1, hc, hf⟩ | ⟨x2, w1, hc, hf⟩
  · by_cases e_0 : k = 1
    · subst e_0
      rw [if_pos rfl] at hf
      refine q_xrunX (q_xV (As := [.int v1]) C hH (ci := 10) rfl (by omega) gk_L_65 yd_X10_clear (by omega) (by omega) kc_0 (c_X10_clear htr hc) hl.1 rfl (Nat.le_of_ble_eq_true rfl) dL_clear_4 ⟨by decide, by decide⟩) hH (fun H locs ce q hH h1 h2 h3 => ?_)
      refine q_catch C htab (pre := []) (x := (0, 9, 12, 21)) (suf := []) (E := 1) rfl (by decide) rfl (by decide) (by decide) h1 h2 h3 ?_
      refine lv_astore_n (lv' := [(3, .ref q), (0, .ref (B + 0)), (1, .int v1), (2, .ref (B + 746))]) hx hb dL_clear_12 rfl hl (by decide) rfl (fun ls hl => ?_)
      refine lv_iconst (v := (1 : Int32)) hx hb dL_clear_13 (by decide) ?_
      cases hf
      exact W.widen (k := 1) (n := 6 * 1) (by decide) (by decide) (q_reti C hH trivial dL_clear_14)
    rw [if_neg e_0] at hf
    cases hf
  · refine q_xrun (ov := some (.int x2)) (q_xV (As := [.int v1]) C hH (ci := 10) rfl (by omega) gk_L_65 yd_X10_clear (by omega) (by omega) kc_0 (c_X10_clear htr hc) hl.1 rfl (Nat.le_of_ble_eq_true rfl) dL_clear_4 ⟨by decide, by decide⟩) hH (fun H locs hH hP => ?_)
    refine lv_i2l (v := x2.toInt64) hx hb dL_clear_7 rfl ?_
    refine g_last C hH kc_746 (by decide +kernel) hf dL_clear_8 (fun w3 H locs hf hH => ?_)
    refine lv_goto (tgt := 15) hx hb dL_clear_9 (by decide) ?_
    refine lv_iconst (v := (0 : Int32)) hx hb dL_clear_15 (by decide) ?_
    cases hf
    exact W.widen (k := 1) (n := 6 * 1) (by decide) (by decide) (q_reti C hH trivial dL_clear_16)
set_option maxRecDepth 100000 in
theorem c_L_clear {l : Launch} {D : va_G} {B : Nat} {Y : Nat → ClassId} {v1 : Int32} {w : Wd} {r : Int32} {w1 : Wd} (htr : l.stackTraces = false)  (hf : f_L_clear v1 w = some (r, w1)) : LM l D B Y yL_clear cL_clear 4 [(0, 9, 12, 21)] 2 1 [.ref (B + 0), .int v1, .ref (B + 746)] w r w1 :=
  LM_of (by decide +kernel) (Nat.le_of_ble_eq_true rfl) (fun p e s m args below meth c ls C htab hH hl => t_L_clear C htab htr  hH hl hf)
set_option maxRecDepth 100000 in
set_option maxHeartbeats 4000000 in
theorem t_L_at {D : va_G} {B : Nat} {Y : Nat → ClassId} {p : Program} {l : Launch} {e : Env} {s : State} {m : MethodId} {args : Array Value} {below : List Frame} {meth : Method} {c : Code} {z : Int32 × Wd} {H : Heap} {locs : List Loc} {ls : Array Slot} {w : Wd} {v1 : Int32} {v2 : Int32} (C : CX D B Y p s m args meth c cL_at 5 RL (some .int)) (htab : c.exceptionTable.toList = tableOf [(0, 10, 13, 21)]) (htr : l.stackTraces = false)  (hH : HS D B Y w s H locs) (hl : lv_has ls 5 [(0, .ref (B + 0)), (1, .int v1), (2, .int v2), (3, .ref (B + 746))]) (hf : f_L_at v1 v2 w = some z) : W p l e (RM 2 2 (6 * 2)) s m args below meth c H locs 0 0 (MQ below (QG D B Y (some (.int z.1)) z.2 True) args s 2 (6 * 2) (AB B)) (F0 m 0 ls []) := by
  have hx := C.1
  have hb := C.2.1
  unfold f_L_at at hf
  refine lv_aload_n hx hb dL_at_0 rfl (lv_at hl 3 rfl) ?_
  refine lv_iconst (v := (0 : Int32)) hx hb dL_at_1 (by decide) ?_
  refine lv_aload_n hx hb dL_at_2 rfl (lv_at hl 0 rfl) ?_
  refine lv_iload_n hx hb dL_at_3 rfl (lv_at hl 1 rfl) ?_
  refine lv_iload_n hx hb dL_at_4 rfl (lv_at hl 2 rfl) ?_
  rcases bdc_some hf with ⟨k, w1, hc, hf⟩ | ⟨x2, w1, hc, hf⟩
  · by_cases e_0 : k = 1
    · subst e_0
      rw [if_pos rfl] at hf
      refine q_xrunX (q_xV (As := [.int v1, .int v2]) C hH (ci := 10) rfl (by omega) gk_L_68 yd_X10_at (by omega) (by omega) kc_0 (c_X10_at htr hc) hl.1 rfl (Nat.le_of_ble_eq_true rfl) dL_at_5 ⟨by decide, by decide⟩) hH (fun H locs ce q hH h1 h2 h3 => ?_)
      refine q_catch C htab (pre := []) (x := (0, 10, 13, 21)) (suf := []) (E := 1) rfl (by decide) rfl (by decide) (by decide) h1 h2 h3 ?_
      refine lv_astore (lv' := [(4, .ref q), (0, .ref (B + 0)), (1, .int v1), (2, .int v2), (3, .ref (B + 746))]) hx hb dL_at_13 hl (by decide) rfl (fun ls hl => ?_)
      refine lv_iconst (v := (1 : Int32)) hx hb dL_at_15 (by decide) ?_
      cases hf
      exact W.widen (k := 2) (n := 6 * 2) (by decide) (by decide) (q_reti C hH trivial dL_at_16)
    rw [if_neg e_0] at hf
    cases hf
  · refine q_xrun (ov := some (.int x2)) (q_xV (As := [.int v1, .int v2]) C hH (ci := 10) rfl (by omega) gk_L_68 yd_X10_at (by omega) (by omega) kc_0 (c_X10_at htr hc) hl.1 rfl (Nat.le_of_ble_eq_true rfl) dL_at_5 ⟨by decide, by decide⟩) hH (fun H locs hH hP => ?_)
    refine lv_i2l (v := x2.toInt64) hx hb dL_at_8 rfl ?_
    refine g_last C hH kc_746 (by decide +kernel) hf dL_at_9 (fun w3 H locs hf hH => ?_)
    refine lv_goto (tgt := 17) hx hb dL_at_10 (by decide) ?_
    refine lv_iconst (v := (0 : Int32)) hx hb dL_at_17 (by decide) ?_
    cases hf
    exact W.widen (k := 2) (n := 6 * 2) (by decide) (by decide) (q_reti C hH trivial dL_at_18)
set_option maxRecDepth 100000 in
theorem c_L_at {l : Launch} {D : va_G} {B : Nat} {Y : Nat → ClassId} {v1 : Int32} {v2 : Int32} {w : Wd} {r : Int32} {w1 : Wd} (htr : l.stackTraces = false)  (hf : f_L_at v1 v2 w = some (r, w1)) : LM l D B Y yL_at cL_at 5 [(0, 10, 13, 21)] 2 2 [.ref (B + 0), .int v1, .int v2, .ref (B + 746)] w r w1 :=
  LM_of (by decide +kernel) (Nat.le_of_ble_eq_true rfl) (fun p e s m args below meth c ls C htab hH hl => t_L_at C htab htr  hH hl hf)
set_option maxRecDepth 100000 in
set_option maxHeartbeats 4000000 in
theorem t_L_form {D : va_G} {B : Nat} {Y : Nat → ClassId} {p : Program} {l : Launch} {e : Env} {s : State} {m : MethodId} {args : Array Value} {below : List Frame} {meth : Method} {c : Code} {z : Int32 × Wd} {H : Heap} {locs : List Loc} {ls : Array Slot} {w : Wd} {v1 : Int32} {v2 : Int32} {v3 : Int32} (C : CX D B Y p s m args meth c cL_form 6 RL (some .int)) (htab : c.exceptionTable.toList = tableOf [(0, 12, 15, 21), (0, 12, 19, 13), (0, 12, 23, 15)]) (htr : l.stackTraces = false)  (hH : HS D B Y w s H locs) (hl : lv_has ls 6 [(0, .ref (B + 0)), (1, .int v1), (2, .int v2), (3, .int v3), (4, .ref (B + 746))]) (hf : f_L_form v1 v2 v3 w = some z) : W p l e (RM 7 4 (6 * 4)) s m args below meth c H locs 0 0 (MQ below (QG D B Y (some (.int z.1)) z.2 True) args s 4 (6 * 4) (AB B)) (F0 m 0 ls []) := by
  have hx := C.1
  have hb := C.2.1
  unfold f_L_form at hf
  refine lv_aload hx hb dL_form_0 (lv_at hl 4 rfl) ?_
  refine lv_iconst (v := (0 : Int32)) hx hb dL_form_2 (by decide) ?_
  refine lv_aload_n hx hb dL_form_3 rfl (lv_at hl 0 rfl) ?_
  refine lv_iload_n hx hb dL_form_4 rfl (lv_at hl 1 rfl) ?_
  refine lv_iload_n hx hb dL_form_5 rfl (lv_at hl 2 rfl) ?_
  refine lv_iload_n hx hb dL_form_6 rfl (lv_at hl 3 rfl) ?_
  rcases bdc_some hf with ⟨k, w1, hc, hf⟩ | ⟨x2, w1, hc, hf⟩
  · by_cases e_0 : k = 1
    · subst e_0
      rw [if_pos rfl] at hf
      refine q_xrunX (q_xV (As := [.int v1, .int v2, .int v3]) C hH (ci := 10) rfl (by omega) gk_L_71 yd_X10_form (by omega) (by omega) kc_0 (c_X10_form htr hc) hl.1 rfl (Nat.le_of_ble_eq_true rfl) dL_form_7 ⟨by decide, by decide⟩) hH (fun H locs ce q hH h1 h2 h3 => ?_)
      refine q_catch C htab (pre := []) (x := (0, 12, 15, 21)) (suf := [(0, 12, 19, 13), (0, 12, 23, 15)]) (E := 1) rfl (by decide) rfl (by decide) (by decide) h1 h2 h3 ?_
      refine lv_astore (lv' := [(5, .ref q), (0, .ref (B + 0)), (1, .int v1), (2, .int v2), (3, .int v3), (4, .ref (B + 746))]) hx hb dL_form_15 hl (by decide) rfl (fun ls hl => ?_)
      refine lv_iconst (v := (1 : Int32)) hx hb dL_form_17 (by decide) ?_
      cases hf
      exact W.widen (k := 4) (n := 6 * 4) (by decide) (by decide) (q_reti C hH trivial dL_form_18)
    rw [if_neg e_0] at hf
    by_cases e_1 : k = 2
    · subst e_1
      rw [if_pos rfl] at hf
      refine q_xrunX (q_xV (As := [.int v1, .int v2, .int v3]) C hH (ci := 10) rfl (by omega) gk_L_71 yd_X10_form (by omega) (by omega) kc_0 (c_X10_form htr hc) hl.1 rfl (Nat.le_of_ble_eq_true rfl) dL_form_7 ⟨by decide, by decide⟩) hH (fun H locs ce q hH h1 h2 h3 => ?_)
      refine q_catch C htab (pre := [(0, 12, 15, 21)]) (x := (0, 12, 19, 13)) (suf := [(0, 12, 23, 15)]) (E := 2) rfl (by decide) rfl (by decide) (by decide) h1 h2 h3 ?_
      refine lv_astore (lv' := [(5, .ref q), (0, .ref (B + 0)), (1, .int v1), (2, .int v2), (3, .int v3), (4, .ref (B + 746))]) hx hb dL_form_19 hl (by decide) rfl (fun ls hl => ?_)
      refine lv_iconst (v := (2 : Int32)) hx hb dL_form_21 (by decide) ?_
      cases hf
      exact W.widen (k := 4) (n := 6 * 4) (by decide) (by decide) (q_reti C hH trivial dL_form_22)
    rw [if_neg e_1] at hf
    by_cases e_2 : k = 3
    · subst e_2
      rw [if_pos rfl] at hf
      refine q_xrunX (q_xV (As := [.int v1, .int v2, .int v3]) C hH (ci := 10) rfl (by omega) gk_L_71 yd_X10_form (by omega) (by omega) kc_0 (c_X10_form htr hc) hl.1 rfl (Nat.le_of_ble_eq_true rfl) dL_form_7 ⟨by decide, by decide⟩) hH (fun H locs ce q hH h1 h2 h3 => ?_)
      refine q_catch C htab (pre := [(0, 12, 15, 21), (0, 12, 19, 13)]) (x := (0, 12, 23, 15)) (suf := []) (E := 3) rfl (by decide) rfl (by decide) (by decide) h1 h2 h3 ?_
      refine lv_astore (lv' := [(5, .ref q), (0, .ref (B + 0)), (1, .int v1), (2, .int v2), (3, .int v3), (4, .ref (B + 746))]) hx hb dL_form_23 hl (by decide) rfl (fun ls hl => ?_)
      refine lv_iconst (v := (3 : Int32)) hx hb dL_form_25 (by decide) ?_
      cases hf
      exact W.widen (k := 4) (n := 6 * 4) (by decide) (by decide) (q_reti C hH trivial dL_form_26)
    rw [if_neg e_2] at hf
    cases hf
  · refine q_xrun (ov := some (.int x2)) (q_xV (As := [.int v1, .int v2, .int v3]) C hH (ci := 10) rfl (by omega) gk_L_71 yd_X10_form (by omega) (by omega) kc_0 (c_X10_form htr hc) hl.1 rfl (Nat.le_of_ble_eq_true rfl) dL_form_7 ⟨by decide, by decide⟩) hH (fun H locs hH hP => ?_)
    refine lv_i2l (v := x2.toInt64) hx hb dL_form_10 rfl ?_
    refine g_last C hH kc_746 (by decide +kernel) hf dL_form_11 (fun w3 H locs hf hH => ?_)
    refine lv_goto (tgt := 27) hx hb dL_form_12 (by decide) ?_
    refine lv_iconst (v := (0 : Int32)) hx hb dL_form_27 (by decide) ?_
    cases hf
    exact W.widen (k := 4) (n := 6 * 4) (by decide) (by decide) (q_reti C hH trivial dL_form_28)
set_option maxRecDepth 100000 in
theorem c_L_form {l : Launch} {D : va_G} {B : Nat} {Y : Nat → ClassId} {v1 : Int32} {v2 : Int32} {v3 : Int32} {w : Wd} {r : Int32} {w1 : Wd} (htr : l.stackTraces = false)  (hf : f_L_form v1 v2 v3 w = some (r, w1)) : LM l D B Y yL_form cL_form 6 [(0, 12, 15, 21), (0, 12, 19, 13), (0, 12, 23, 15)] 7 4 [.ref (B + 0), .int v1, .int v2, .int v3, .ref (B + 746)] w r w1 :=
  LM_of (by decide +kernel) (Nat.le_of_ble_eq_true rfl) (fun p e s m args below meth c ls C htab hH hl => t_L_form C htab htr  hH hl hf)
set_option maxRecDepth 100000 in
set_option maxHeartbeats 4000000 in
theorem t_L_looksLike {D : va_G} {B : Nat} {Y : Nat → ClassId} {p : Program} {l : Launch} {e : Env} {s : State} {m : MethodId} {args : Array Value} {below : List Frame} {meth : Method} {c : Code} {z : Int32 × Wd} {H : Heap} {locs : List Loc} {ls : Array Slot} {w : Wd} {v1 : Int32} {v2 : Int32} (C : CX D B Y p s m args meth c cL_looksLike 5 RL (some .int)) (htab : c.exceptionTable.toList = tableOf [(0, 17, 20, 21), (0, 17, 24, 15)]) (htr : l.stackTraces = false)  (hH : HS D B Y w s H locs) (hl : lv_has ls 5 [(0, .ref (B + 0)), (1, .int v1), (2, .int v2), (3, .ref (B + 746))]) (hf : f_L_looksLike v1 v2 w = some z) : W p l e (RM 6 3 (6 * 3)) s m args below meth c H locs 0 0 (MQ below (QG D B Y (some (.int z.1)) z.2 True) args s 3 (6 * 3) (AB B)) (F0 m 0 ls []) := by
  have hx := C.1
  have hb := C.2.1
  unfold f_L_looksLike at hf
  refine lv_aload_n hx hb dL_looksLike_0 rfl (lv_at hl 3 rfl) ?_
  refine lv_iconst (v := (0 : Int32)) hx hb dL_looksLike_1 (by decide) ?_
  refine lv_aload_n hx hb dL_looksLike_2 rfl (lv_at hl 0 rfl) ?_
  refine lv_iload_n hx hb dL_looksLike_3 rfl (lv_at hl 1 rfl) ?_
  refine lv_iload_n hx hb dL_looksLike_4 rfl (lv_at hl 2 rfl) ?_
  rcases bdc_some hf with ⟨k, w1, hc, hf⟩ | ⟨x2, w1, hc, hf⟩
  · by_cases e_0 : k = 1
    · subst e_0
      rw [if_pos rfl] at hf
      refine q_xrunX (q_xV (As := [.int v1, .int v2]) C hH (ci := 10) rfl (by omega) gk_L_75 yd_X10_looksLike (by omega) (by omega) kc_0 (c_X10_looksLike htr hc) hl.1 rfl (Nat.le_of_ble_eq_true rfl) dL_looksLike_5 ⟨by decide, by decide⟩) hH (fun H locs ce q hH h1 h2 h3 => ?_)
      refine q_catch C htab (pre := []) (x := (0, 17, 20, 21)) (suf := [(0, 17, 24, 15)]) (E := 1) rfl (by decide) rfl (by decide) (by decide) h1 h2 h3 ?_
      refine lv_astore (lv' := [(4, .ref q), (0, .ref (B + 0)), (1, .int v1), (2, .int v2), (3, .ref (B + 746))]) hx hb dL_looksLike_20 hl (by decide) rfl (fun ls hl => ?_)
      refine lv_iconst (v := (1 : Int32)) hx hb dL_looksLike_22 (by decide) ?_
      cases hf
      exact W.widen (k := 3) (n := 6 * 3) (by decide) (by decide) (q_reti C hH trivial dL_looksLike_23)
    rw [if_neg e_0] at hf
    by_cases e_1 : k = 3
    · subst e_1
      rw [if_pos rfl] at hf
      refine q_xrunX (q_xV (As := [.int v1, .int v2]) C hH (ci := 10) rfl (by omega) gk_L_75 yd_X10_looksLike (by omega) (by omega) kc_0 (c_X10_looksLike htr hc) hl.1 rfl (Nat.le_of_ble_eq_true rfl) dL_looksLike_5 ⟨by decide, by decide⟩) hH (fun H locs ce q hH h1 h2 h3 => ?_)
      refine q_catch C htab (pre := [(0, 17, 20, 21)]) (x := (0, 17, 24, 15)) (suf := []) (E := 3) rfl (by decide) rfl (by decide) (by decide) h1 h2 h3 ?_
      refine lv_astore (lv' := [(4, .ref q), (0, .ref (B + 0)), (1, .int v1), (2, .int v2), (3, .ref (B + 746))]) hx hb dL_looksLike_24 hl (by decide) rfl (fun ls hl => ?_)
      refine lv_iconst (v := (2 : Int32)) hx hb dL_looksLike_26 (by decide) ?_
      cases hf
      exact W.widen (k := 3) (n := 6 * 3) (by decide) (by decide) (q_reti C hH trivial dL_looksLike_27)
    rw [if_neg e_1] at hf
    cases hf
  · refine q_xrun (ov := some (.int x2)) (q_xV (As := [.int v1, .int v2]) C hH (ci := 10) rfl (by omega) gk_L_75 yd_X10_looksLike (by omega) (by omega) kc_0 (c_X10_looksLike htr hc) hl.1 rfl (Nat.le_of_ble_eq_true rfl) dL_looksLike_5 ⟨by decide, by decide⟩) hH (fun H locs hH z_x2 => ?_)
    refine b_if_eq (tgt := 15) hx hb hf dL_looksLike_8 (by decide) (fun hf => ?_) (fun hf => ?_)
    · refine lv_lconst (v := (0 : Int64)) hx hb dL_looksLike_15 (by decide) ?_
      refine g_last C hH kc_746 (by decide +kernel) hf dL_looksLike_16 (fun w3 H locs hf hH => ?_)
      refine lv_goto (tgt := 28) hx hb dL_looksLike_17 (by decide) ?_
      refine lv_iconst (v := (0 : Int32)) hx hb dL_looksLike_28 (by decide) ?_
      cases hf
      exact W.widen (k := 3) (n := 6 * 3) (by decide) (by decide) (q_reti C hH trivial dL_looksLike_29)
    · refine lv_lconst (v := (1 : Int64)) hx hb dL_looksLike_11 (by decide) ?_
      refine lv_goto (tgt := 16) hx hb dL_looksLike_12 (by decide) ?_
      refine g_last C hH kc_746 (by decide +kernel) hf dL_looksLike_16 (fun w4 H locs hf hH => ?_)
      refine lv_goto (tgt := 28) hx hb dL_looksLike_17 (by decide) ?_
      refine lv_iconst (v := (0 : Int32)) hx hb dL_looksLike_28 (by decide) ?_
      cases hf
      exact W.widen (k := 3) (n := 6 * 3) (by decide) (by decide) (q_reti C hH trivial dL_looksLike_29)
set_option maxRecDepth 100000 in
theorem c_L_looksLike {l : Launch} {D : va_G} {B : Nat} {Y : Nat → ClassId} {v1 : Int32} {v2 : Int32} {w : Wd} {r : Int32} {w1 : Wd} (htr : l.stackTraces = false)  (hf : f_L_looksLike v1 v2 w = some (r, w1)) : LM l D B Y yL_looksLike cL_looksLike 5 [(0, 17, 20, 21), (0, 17, 24, 15)] 6 3 [.ref (B + 0), .int v1, .int v2, .ref (B + 746)] w r w1 :=
  LM_of (by decide +kernel) (Nat.le_of_ble_eq_true rfl) (fun p e s m args below meth c ls C htab hH hl => t_L_looksLike C htab htr  hH hl hf)
set_option maxRecDepth 100000 in
set_option maxHeartbeats 4000000 in
theorem t_L_base {D : va_G} {B : Nat} {Y : Nat → ClassId} {p : Program} {l : Launch} {e : Env} {s : State} {m : MethodId} {args : Array Value} {below : List Frame} {meth : Method} {c : Code} {z : Int32 × Wd} {H : Heap} {locs : List Loc} {ls : Array Slot} {w : Wd} {v1 : Int32} (C : CX D B Y p s m args meth c cL_base 4 RL (some .int)) (htab : c.exceptionTable.toList = tableOf [(0, 9, 12, 21)]) (htr : l.stackTraces = false)  (hH : HS D B Y w s H locs) (hl : lv_has ls 4 [(0, .ref (B + 0)), (1, .int v1), (2, .ref (B + 746))]) (hf : f_L_base v1 w = some z) : W p l e (RM 4 1 (6 * 1)) s m args below meth c H locs 0 0 (MQ below (QG D B Y (some (.int z.1)) z.2 True) args s 1 (6 * 1) (AB B)) (F0 m 0 ls []) := by
  have hx := C.1
  have hb := C.2.1
  unfold f_L_base at hf
  refine lv_aload_n hx hb dL_base_0 rfl (lv_at hl 2 rfl) ?_
  refine lv_iconst (v := (0 : Int32)) hx hb dL_base_1 (by decide) ?_
  refine lv_aload_n hx hb dL_base_2 rfl (lv_at hl 0 rfl) ?_
  refine lv_iload_n hx hb dL_base_3 rfl (lv_at hl 1 rfl) ?_
  rcases bdc_some hf with ⟨k, w1, hc, hf⟩ | ⟨x2, w1, hc, hf⟩
  · by_cases e_0 : k = 1
    · subst e_0
      rw [if_pos rfl] at hf
      refine q_xrunX (q_xV (As := [.int v1]) C hH (ci := 10) rfl (by omega) gk_L_79 yd_X10_base (by omega) (by omega) kc_0 (c_X10_base htr hc) hl.1 rfl (Nat.le_of_ble_eq_true rfl) dL_base_4 ⟨by decide, by decide⟩) hH (fun H locs ce q hH h1 h2 h3 => ?_)
      refine q_catch C htab (pre := []) (x := (0, 9, 12, 21)) (suf := []) (E := 1) rfl (by decide) rfl (by decide) (by decide) h1 h2 h3 ?_
      refine lv_astore_n (lv' := [(3, .ref q), (0, .ref (B + 0)), (1, .int v1), (2, .ref (B + 746))]) hx hb dL_base_12 rfl hl (by decide) rfl (fun ls hl => ?_)
      refine lv_iconst (v := (1 : Int32)) hx hb dL_base_13 (by decide) ?_
      cases hf
      exact W.widen (k := 1) (n := 6 * 1) (by decide) (by decide) (q_reti C hH trivial dL_base_14)
    rw [if_neg e_0] at hf
    cases hf
  · refine q_xrun (ov := some (.int x2)) (q_xV (As := [.int v1]) C hH (ci := 10) rfl (by omega) gk_L_79 yd_X10_base (by omega) (by omega) kc_0 (c_X10_base htr hc) hl.1 rfl (Nat.le_of_ble_eq_true rfl) dL_base_4 ⟨by decide, by decide⟩) hH (fun H locs hH hP => ?_)
    refine lv_i2l (v := x2.toInt64) hx hb dL_base_7 rfl ?_
    refine g_last C hH kc_746 (by decide +kernel) hf dL_base_8 (fun w3 H locs hf hH => ?_)
    refine lv_goto (tgt := 15) hx hb dL_base_9 (by decide) ?_
    refine lv_iconst (v := (0 : Int32)) hx hb dL_base_15 (by decide) ?_
    cases hf
    exact W.widen (k := 1) (n := 6 * 1) (by decide) (by decide) (q_reti C hH trivial dL_base_16)
set_option maxRecDepth 100000 in
theorem c_L_base {l : Launch} {D : va_G} {B : Nat} {Y : Nat → ClassId} {v1 : Int32} {w : Wd} {r : Int32} {w1 : Wd} (htr : l.stackTraces = false)  (hf : f_L_base v1 w = some (r, w1)) : LM l D B Y yL_base cL_base 4 [(0, 9, 12, 21)] 4 1 [.ref (B + 0), .int v1, .ref (B + 746)] w r w1 :=
  LM_of (by decide +kernel) (Nat.le_of_ble_eq_true rfl) (fun p e s m args below meth c ls C htab hH hl => t_L_base C htab htr  hH hl hf)
set_option maxRecDepth 100000 in
set_option maxHeartbeats 4000000 in
theorem t_L_level {D : va_G} {B : Nat} {Y : Nat → ClassId} {p : Program} {l : Launch} {e : Env} {s : State} {m : MethodId} {args : Array Value} {below : List Frame} {meth : Method} {c : Code} {z : Int32 × Wd} {H : Heap} {locs : List Loc} {ls : Array Slot} {w : Wd} {v1 : Int32} {v2 : Int32} {v3 : Int32} (C : CX D B Y p s m args meth c cL_level 6 RL (some .int)) (htab : c.exceptionTable.toList = tableOf [(0, 12, 15, 21), (0, 12, 19, 13)]) (htr : l.stackTraces = false)  (hH : HS D B Y w s H locs) (hl : lv_has ls 6 [(0, .ref (B + 0)), (1, .int v1), (2, .int v2), (3, .int v3), (4, .ref (B + 746))]) (hf : f_L_level v1 v2 v3 w = some z) : W p l e (RM 7 3 (6 * 3)) s m args below meth c H locs 0 0 (MQ below (QG D B Y (some (.int z.1)) z.2 True) args s 3 (6 * 3) (AB B)) (F0 m 0 ls []) := by
  have hx := C.1
  have hb := C.2.1
  unfold f_L_level at hf
  refine lv_aload hx hb dL_level_0 (lv_at hl 4 rfl) ?_
  refine lv_iconst (v := (0 : Int32)) hx hb dL_level_2 (by decide) ?_
  refine lv_aload_n hx hb dL_level_3 rfl (lv_at hl 0 rfl) ?_
  refine lv_iload_n hx hb dL_level_4 rfl (lv_at hl 1 rfl) ?_
  refine lv_iload_n hx hb dL_level_5 rfl (lv_at hl 2 rfl) ?_
  refine lv_iload_n hx hb dL_level_6 rfl (lv_at hl 3 rfl) ?_
  rcases bdc_some hf with ⟨k, w1, hc, hf⟩ | ⟨x2, w1, hc, hf⟩
  · by_cases e_0 : k = 1
    · subst e_0
      rw [if_pos rfl] at hf
      refine q_xrunX (q_xV (As := [.int v1, .int v2, .int v3]) C hH (ci := 10) rfl (by omega) gk_L_82 yd_X10_level (by omega) (by omega) kc_0 (c_X10_level htr hc) hl.1 rfl (Nat.le_of_ble_eq_true rfl) dL_level_7 ⟨by decide, by decide⟩) hH (fun H locs ce q hH h1 h2 h3 => ?_)
      refine q_catch C htab (pre := []) (x := (0, 12, 15, 21)) (suf := [(0, 12, 19, 13)]) (E := 1) rfl (by decide) rfl (by decide) (by decide) h1 h2 h3 ?_
      refine lv_astore (lv' := [(5, .ref q), (0, .ref (B + 0)), (1, .int v1), (2, .int v2), (3, .int v3), (4, .ref (B + 746))]) hx hb dL_level_15 hl (by decide) rfl (fun ls hl => ?_)
      refine lv_iconst (v := (1 : Int32)) hx hb dL_level_17 (by decide) ?_
      cases hf
      exact W.widen (k := 3) (n := 6 * 3) (by decide) (by decide) (q_reti C hH trivial dL_level_18)
    rw [if_neg e_0] at hf
    by_cases e_1 : k = 2
    · subst e_1
      rw [if_pos rfl] at hf
      refine q_xrunX (q_xV (As := [.int v1, .int v2, .int v3]) C hH (ci := 10) rfl (by omega) gk_L_82 yd_X10_level (by omega) (by omega) kc_0 (c_X10_level htr hc) hl.1 rfl (Nat.le_of_ble_eq_true rfl) dL_level_7 ⟨by decide, by decide⟩) hH (fun H locs ce q hH h1 h2 h3 => ?_)
      refine q_catch C htab (pre := [(0, 12, 15, 21)]) (x := (0, 12, 19, 13)) (suf := []) (E := 2) rfl (by decide) rfl (by decide) (by decide) h1 h2 h3 ?_
      refine lv_astore (lv' := [(5, .ref q), (0, .ref (B + 0)), (1, .int v1), (2, .int v2), (3, .int v3), (4, .ref (B + 746))]) hx hb dL_level_19 hl (by decide) rfl (fun ls hl => ?_)
      refine lv_iconst (v := (2 : Int32)) hx hb dL_level_21 (by decide) ?_
      cases hf
      exact W.widen (k := 3) (n := 6 * 3) (by decide) (by decide) (q_reti C hH trivial dL_level_22)
    rw [if_neg e_1] at hf
    cases hf
  · refine q_xrun (ov := some (.int x2)) (q_xV (As := [.int v1, .int v2, .int v3]) C hH (ci := 10) rfl (by omega) gk_L_82 yd_X10_level (by omega) (by omega) kc_0 (c_X10_level htr hc) hl.1 rfl (Nat.le_of_ble_eq_true rfl) dL_level_7 ⟨by decide, by decide⟩) hH (fun H locs hH hP => ?_)
    refine lv_i2l (v := x2.toInt64) hx hb dL_level_10 rfl ?_
    refine g_last C hH kc_746 (by decide +kernel) hf dL_level_11 (fun w3 H locs hf hH => ?_)
    refine lv_goto (tgt := 23) hx hb dL_level_12 (by decide) ?_
    refine lv_iconst (v := (0 : Int32)) hx hb dL_level_23 (by decide) ?_
    cases hf
    exact W.widen (k := 3) (n := 6 * 3) (by decide) (by decide) (q_reti C hH trivial dL_level_24)
set_option maxRecDepth 100000 in
theorem c_L_level {l : Launch} {D : va_G} {B : Nat} {Y : Nat → ClassId} {v1 : Int32} {v2 : Int32} {v3 : Int32} {w : Wd} {r : Int32} {w1 : Wd} (htr : l.stackTraces = false)  (hf : f_L_level v1 v2 v3 w = some (r, w1)) : LM l D B Y yL_level cL_level 6 [(0, 12, 15, 21), (0, 12, 19, 13)] 7 3 [.ref (B + 0), .int v1, .int v2, .int v3, .ref (B + 746)] w r w1 :=
  LM_of (by decide +kernel) (Nat.le_of_ble_eq_true rfl) (fun p e s m args below meth c ls C htab hH hl => t_L_level C htab htr  hH hl hf)
set_option maxRecDepth 100000 in
set_option maxHeartbeats 4000000 in
theorem t_L_shown {D : va_G} {B : Nat} {Y : Nat → ClassId} {p : Program} {l : Launch} {e : Env} {s : State} {m : MethodId} {args : Array Value} {below : List Frame} {meth : Method} {c : Code} {z : Int32 × Wd} {H : Heap} {locs : List Loc} {ls : Array Slot} {w : Wd} {v1 : Int32} {v2 : Int32} {v3 : Int32} (C : CX D B Y p s m args meth c cL_shown 6 RL (some .int)) (htab : c.exceptionTable.toList = tableOf [(0, 12, 15, 21), (0, 12, 19, 13)]) (htr : l.stackTraces = false)  (hH : HS D B Y w s H locs) (hl : lv_has ls 6 [(0, .ref (B + 0)), (1, .int v1), (2, .int v2), (3, .int v3), (4, .ref (B + 746))]) (hf : f_L_shown v1 v2 v3 w = some z) : W p l e (RM 7 3 (6 * 3)) s m args below meth c H locs 0 0 (MQ below (QG D B Y (some (.int z.1)) z.2 True) args s 3 (6 * 3) (AB B)) (F0 m 0 ls []) := by
  have hx := C.1
  have hb := C.2.1
  unfold f_L_shown at hf
  refine lv_aload hx hb dL_shown_0 (lv_at hl 4 rfl) ?_
  refine lv_iconst (v := (0 : Int32)) hx hb dL_shown_2 (by decide) ?_
  refine lv_aload_n hx hb dL_shown_3 rfl (lv_at hl 0 rfl) ?_
  refine lv_iload_n hx hb dL_shown_4 rfl (lv_at hl 1 rfl) ?_
  refine lv_iload_n hx hb dL_shown_5 rfl (lv_at hl 2 rfl) ?_
  refine lv_iload_n hx hb dL_shown_6 rfl (lv_at hl 3 rfl) ?_
  rcases bdc_some hf with ⟨k, w1, hc, hf⟩ | ⟨x2, w1, hc, hf⟩
  · by_cases e_0 : k = 1
    · subst e_0
      rw [if_pos rfl] at hf
      refine q_xrunX (q_xV (As := [.int v1, .int v2, .int v3]) C hH (ci := 10) rfl (by omega) gk_L_85 yd_X10_shown (by omega) (by omega) kc_0 (c_X10_shown htr hc) hl.1 rfl (Nat.le_of_ble_eq_true rfl) dL_shown_7 ⟨by decide, by decide⟩) hH (fun H locs ce q hH h1 h2 h3 => ?_)
      refine q_catch C htab (pre := []) (x := (0, 12, 15, 21)) (suf := [(0, 12, 19, 13)]) (E := 1) rfl (by decide) rfl (by decide) (by decide) h1 h2 h3 ?_
      refine lv_astore (lv' := [(5, .ref q), (0, .ref (B + 0)), (1, .int v1), (2, .int v2), (3, .int v3), (4, .ref (B + 746))]) hx hb dL_shown_15 hl (by decide) rfl (fun ls hl => ?_)
      refine lv_iconst (v := (1 : Int32)) hx hb dL_shown_17 (by decide) ?_
      cases hf
      exact W.widen (k := 3) (n := 6 * 3) (by decide) (by decide) (q_reti C hH trivial dL_shown_18)
    rw [if_neg e_0] at hf
    by_cases e_1 : k = 2
    · subst e_1
      rw [if_pos rfl] at hf
      refine q_xrunX (q_xV (As := [.int v1, .int v2, .int v3]) C hH (ci := 10) rfl (by omega) gk_L_85 yd_X10_shown (by omega) (by omega) kc_0 (c_X10_shown htr hc) hl.1 rfl (Nat.le_of_ble_eq_true rfl) dL_shown_7 ⟨by decide, by decide⟩) hH (fun H locs ce q hH h1 h2 h3 => ?_)
      refine q_catch C htab (pre := [(0, 12, 15, 21)]) (x := (0, 12, 19, 13)) (suf := []) (E := 2) rfl (by decide) rfl (by decide) (by decide) h1 h2 h3 ?_
      refine lv_astore (lv' := [(5, .ref q), (0, .ref (B + 0)), (1, .int v1), (2, .int v2), (3, .int v3), (4, .ref (B + 746))]) hx hb dL_shown_19 hl (by decide) rfl (fun ls hl => ?_)
      refine lv_iconst (v := (2 : Int32)) hx hb dL_shown_21 (by decide) ?_
      cases hf
      exact W.widen (k := 3) (n := 6 * 3) (by decide) (by decide) (q_reti C hH trivial dL_shown_22)
    rw [if_neg e_1] at hf
    cases hf
  · refine q_xrun (ov := some (.int x2)) (q_xV (As := [.int v1, .int v2, .int v3]) C hH (ci := 10) rfl (by omega) gk_L_85 yd_X10_shown (by omega) (by omega) kc_0 (c_X10_shown htr hc) hl.1 rfl (Nat.le_of_ble_eq_true rfl) dL_shown_7 ⟨by decide, by decide⟩) hH (fun H locs hH hP => ?_)
    refine lv_i2l (v := x2.toInt64) hx hb dL_shown_10 rfl ?_
    refine g_last C hH kc_746 (by decide +kernel) hf dL_shown_11 (fun w3 H locs hf hH => ?_)
    refine lv_goto (tgt := 23) hx hb dL_shown_12 (by decide) ?_
    refine lv_iconst (v := (0 : Int32)) hx hb dL_shown_23 (by decide) ?_
    cases hf
    exact W.widen (k := 3) (n := 6 * 3) (by decide) (by decide) (q_reti C hH trivial dL_shown_24)
set_option maxRecDepth 100000 in
theorem c_L_shown {l : Launch} {D : va_G} {B : Nat} {Y : Nat → ClassId} {v1 : Int32} {v2 : Int32} {v3 : Int32} {w : Wd} {r : Int32} {w1 : Wd} (htr : l.stackTraces = false)  (hf : f_L_shown v1 v2 v3 w = some (r, w1)) : LM l D B Y yL_shown cL_shown 6 [(0, 12, 15, 21), (0, 12, 19, 13)] 7 3 [.ref (B + 0), .int v1, .int v2, .int v3, .ref (B + 746)] w r w1 :=
  LM_of (by decide +kernel) (Nat.le_of_ble_eq_true rfl) (fun p e s m args below meth c ls C htab hH hl => t_L_shown C htab htr  hH hl hf)
set_option maxRecDepth 100000 in
set_option maxHeartbeats 4000000 in
theorem t_L_bySight {D : va_G} {B : Nat} {Y : Nat → ClassId} {p : Program} {l : Launch} {e : Env} {s : State} {m : MethodId} {args : Array Value} {below : List Frame} {meth : Method} {c : Code} {z : Int32 × Wd} {H : Heap} {locs : List Loc} {ls : Array Slot} {w : Wd} {v1 : Int32} {v2 : Int32} {v3 : Int32} (C : CX D B Y p s m args meth c cL_bySight 6 RL (some .int)) (htab : c.exceptionTable.toList = tableOf [(0, 12, 15, 21)]) (htr : l.stackTraces = false) (z_v3 : isZ v3) (hH : HS D B Y w s H locs) (hl : lv_has ls 6 [(0, .ref (B + 0)), (1, .int v1), (2, .int v2), (3, .int v3), (4, .ref (B + 746))]) (hf : f_L_bySight v1 v2 v3 w = some z) : W p l e (RM 7 2 (6 * 2)) s m args below meth c H locs 0 0 (MQ below (QG D B Y (some (.int z.1)) z.2 True) args s 2 (6 * 2) (AB B)) (F0 m 0 ls []) := by
  have hx := C.1
  have hb := C.2.1
  unfold f_L_bySight at hf
  refine lv_aload hx hb dL_bySight_0 (lv_at hl 4 rfl) ?_
  refine lv_iconst (v := (0 : Int32)) hx hb dL_bySight_2 (by decide) ?_
  refine lv_aload_n hx hb dL_bySight_3 rfl (lv_at hl 0 rfl) ?_
  refine lv_iload_n hx hb dL_bySight_4 rfl (lv_at hl 1 rfl) ?_
  refine lv_iload_n hx hb dL_bySight_5 rfl (lv_at hl 2 rfl) ?_
  refine lv_iload_n hx hb dL_bySight_6 rfl (lv_at hl 3 rfl) ?_
  rcases bdc_some hf with ⟨k, w1, hc, hf⟩ | ⟨x2, w1, hc, hf⟩
  · by_cases e_0 : k = 1
    · subst e_0
      rw [if_pos rfl] at hf
      refine q_xrunX (q_xV (As := [.int v1, .int v2, .int v3]) C hH (ci := 10) rfl (by omega) gk_L_88 yd_X10_bySight (by omega) (by omega) kc_0 (c_X10_bySight htr z_v3 hc) hl.1 rfl (Nat.le_of_ble_eq_true rfl) dL_bySight_7 ⟨by decide, by decide⟩) hH (fun H locs ce q hH h1 h2 h3 => ?_)
      refine q_catch C htab (pre := []) (x := (0, 12, 15, 21)) (suf := []) (E := 1) rfl (by decide) rfl (by decide) (by decide) h1 h2 h3 ?_
      refine lv_astore (lv' := [(5, .ref q), (0, .ref (B + 0)), (1, .int v1), (2, .int v2), (3, .int v3), (4, .ref (B + 746))]) hx hb dL_bySight_15 hl (by decide) rfl (fun ls hl => ?_)
      refine lv_iconst (v := (1 : Int32)) hx hb dL_bySight_17 (by decide) ?_
      cases hf
      exact W.widen (k := 2) (n := 6 * 2) (by decide) (by decide) (q_reti C hH trivial dL_bySight_18)
    rw [if_neg e_0] at hf
    cases hf
  · refine q_xrun (ov := some (.int x2)) (q_xV (As := [.int v1, .int v2, .int v3]) C hH (ci := 10) rfl (by omega) gk_L_88 yd_X10_bySight (by omega) (by omega) kc_0 (c_X10_bySight htr z_v3 hc) hl.1 rfl (Nat.le_of_ble_eq_true rfl) dL_bySight_7 ⟨by decide, by decide⟩) hH (fun H locs hH hP => ?_)
    refine lv_i2l (v := x2.toInt64) hx hb dL_bySight_10 rfl ?_
    refine g_last C hH kc_746 (by decide +kernel) hf dL_bySight_11 (fun w3 H locs hf hH => ?_)
    refine lv_goto (tgt := 19) hx hb dL_bySight_12 (by decide) ?_
    refine lv_iconst (v := (0 : Int32)) hx hb dL_bySight_19 (by decide) ?_
    cases hf
    exact W.widen (k := 2) (n := 6 * 2) (by decide) (by decide) (q_reti C hH trivial dL_bySight_20)
set_option maxRecDepth 100000 in
theorem c_L_bySight {l : Launch} {D : va_G} {B : Nat} {Y : Nat → ClassId} {v1 : Int32} {v2 : Int32} {v3 : Int32} {w : Wd} {r : Int32} {w1 : Wd} (htr : l.stackTraces = false) (z_v3 : isZ v3) (hf : f_L_bySight v1 v2 v3 w = some (r, w1)) : LM l D B Y yL_bySight cL_bySight 6 [(0, 12, 15, 21)] 7 2 [.ref (B + 0), .int v1, .int v2, .int v3, .ref (B + 746)] w r w1 :=
  LM_of (by decide +kernel) (Nat.le_of_ble_eq_true rfl) (fun p e s m args below meth c ls C htab hH hl => t_L_bySight C htab htr z_v3 hH hl hf)
set_option maxRecDepth 100000 in
set_option maxHeartbeats 4000000 in
theorem t_L_breaks {D : va_G} {B : Nat} {Y : Nat → ClassId} {p : Program} {l : Launch} {e : Env} {s : State} {m : MethodId} {args : Array Value} {below : List Frame} {meth : Method} {c : Code} {z : Int32 × Wd} {H : Heap} {locs : List Loc} {ls : Array Slot} {w : Wd} {v1 : Int32} {v2 : Int32} (C : CX D B Y p s m args meth c cL_breaks 5 RL (some .int)) (htab : c.exceptionTable.toList = tableOf [(0, 9, 12, 21), (0, 9, 16, 13)]) (htr : l.stackTraces = false)  (hH : HS D B Y w s H locs) (hl : lv_has ls 5 [(0, .ref (B + 0)), (1, .int v1), (2, .int v2), (3, .ref (B + 746))]) (hf : f_L_breaks v1 v2 w = some z) : W p l e (RM 8 2 (6 * 2)) s m args below meth c H locs 0 0 (MQ below (QG D B Y (some (.int z.1)) z.2 True) args s 2 (6 * 2) (AB B)) (F0 m 0 ls []) := by
  have hx := C.1
  have hb := C.2.1
  unfold f_L_breaks at hf
  refine lv_aload_n hx hb dL_breaks_0 rfl (lv_at hl 3 rfl) ?_
  refine lv_iconst (v := (0 : Int32)) hx hb dL_breaks_1 (by decide) ?_
  refine lv_aload_n hx hb dL_breaks_2 rfl (lv_at hl 0 rfl) ?_
  refine lv_iload_n hx hb dL_breaks_3 rfl (lv_at hl 1 rfl) ?_
  refine lv_iload_n hx hb dL_breaks_4 rfl (lv_at hl 2 rfl) ?_
  rcases bdc_some hf with ⟨k, w1, hc, hf⟩ | ⟨y2, w1, hc, hf⟩
  · by_cases e_0 : k = 1
    · subst e_0
      rw [if_pos rfl] at hf
      refine q_xrunX (q_xV (As := [.int v1, .int v2]) C hH (ci := 10) rfl (by omega) gk_L_92 yd_X10_breaks (by omega) (by omega) kc_0 (c_X10_breaks htr hc) hl.1 rfl (Nat.le_of_ble_eq_true rfl) dL_breaks_5 ⟨by decide, by decide⟩) hH (fun H locs ce q hH h1 h2 h3 => ?_)
      refine q_catch C htab (pre := []) (x := (0, 9, 12, 21)) (suf := [(0, 9, 16, 13)]) (E := 1) rfl (by decide) rfl (by decide) (by decide) h1 h2 h3 ?_
      refine lv_astore (lv' := [(4, .ref q), (0, .ref (B + 0)), (1, .int v1), (2, .int v2), (3, .ref (B + 746))]) hx hb dL_breaks_12 hl (by decide) rfl (fun ls hl => ?_)
      refine lv_iconst (v := (1 : Int32)) hx hb dL_breaks_14 (by decide) ?_
      cases hf
      exact W.widen (k := 2) (n := 6 * 2) (by decide) (by decide) (q_reti C hH trivial dL_breaks_15)
    rw [if_neg e_0] at hf
    by_cases e_1 : k = 2
    · subst e_1
      rw [if_pos rfl] at hf
      refine q_xrunX (q_xV (As := [.int v1, .int v2]) C hH (ci := 10) rfl (by omega) gk_L_92 yd_X10_breaks (by omega) (by omega) kc_0 (c_X10_breaks htr hc) hl.1 rfl (Nat.le_of_ble_eq_true rfl) dL_breaks_5 ⟨by decide, by decide⟩) hH (fun H locs ce q hH h1 h2 h3 => ?_)
      refine q_catch C htab (pre := [(0, 9, 12, 21)]) (x := (0, 9, 16, 13)) (suf := []) (E := 2) rfl (by decide) rfl (by decide) (by decide) h1 h2 h3 ?_
      refine lv_astore (lv' := [(4, .ref q), (0, .ref (B + 0)), (1, .int v1), (2, .int v2), (3, .ref (B + 746))]) hx hb dL_breaks_16 hl (by decide) rfl (fun ls hl => ?_)
      refine lv_iconst (v := (2 : Int32)) hx hb dL_breaks_18 (by decide) ?_
      cases hf
      exact W.widen (k := 2) (n := 6 * 2) (by decide) (by decide) (q_reti C hH trivial dL_breaks_19)
    rw [if_neg e_1] at hf
    cases hf
  · refine q_xrun (ov := some (.long y2)) (q_xV (As := [.int v1, .int v2]) C hH (ci := 10) rfl (by omega) gk_L_92 yd_X10_breaks (by omega) (by omega) kc_0 (c_X10_breaks htr hc) hl.1 rfl (Nat.le_of_ble_eq_true rfl) dL_breaks_5 ⟨by decide, by decide⟩) hH (fun H locs hH hP => ?_)
    refine g_last C hH kc_746 (by decide +kernel) hf dL_breaks_8 (fun w3 H locs hf hH => ?_)
    refine lv_goto (tgt := 20) hx hb dL_breaks_9 (by decide) ?_
    refine lv_iconst (v := (0 : Int32)) hx hb dL_breaks_20 (by decide) ?_
    cases hf
    exact W.widen (k := 2) (n := 6 * 2) (by decide) (by decide) (q_reti C hH trivial dL_breaks_21)
set_option maxRecDepth 100000 in
theorem c_L_breaks {l : Launch} {D : va_G} {B : Nat} {Y : Nat → ClassId} {v1 : Int32} {v2 : Int32} {w : Wd} {r : Int32} {w1 : Wd} (htr : l.stackTraces = false)  (hf : f_L_breaks v1 v2 w = some (r, w1)) : LM l D B Y yL_breaks cL_breaks 5 [(0, 9, 12, 21), (0, 9, 16, 13)] 8 2 [.ref (B + 0), .int v1, .int v2, .ref (B + 746)] w r w1 :=
  LM_of (by decide +kernel) (Nat.le_of_ble_eq_true rfl) (fun p e s m args below meth c ls C htab hH hl => t_L_breaks C htab htr  hH hl hf)
set_option maxRecDepth 100000 in
set_option maxHeartbeats 4000000 in
theorem t_L_bySense {D : va_G} {B : Nat} {Y : Nat → ClassId} {p : Program} {l : Launch} {e : Env} {s : State} {m : MethodId} {args : Array Value} {below : List Frame} {meth : Method} {c : Code} {z : Int32 × Wd} {H : Heap} {locs : List Loc} {ls : Array Slot} {w : Wd} {v1 : Int32} {v2 : Int32} {v3 : Int32} (C : CX D B Y p s m args meth c cL_bySense 6 RL (some .int)) (htab : c.exceptionTable.toList = tableOf [(0, 12, 15, 21)]) (htr : l.stackTraces = false) (z_v3 : isZ v3) (hH : HS D B Y w s H locs) (hl : lv_has ls 6 [(0, .ref (B + 0)), (1, .int v1), (2, .int v2), (3, .int v3), (4, .ref (B + 746))]) (hf : f_L_bySense v1 v2 v3 w = some z) : W p l e (RM 5 2 (6 * 2)) s m args below meth c H locs 0 0 (MQ below (QG D B Y (some (.int z.1)) z.2 True) args s 2 (6 * 2) (AB B)) (F0 m 0 ls []) := by
  have hx := C.1
  have hb := C.2.1
  unfold f_L_bySense at hf
  refine lv_aload hx hb dL_bySense_0 (lv_at hl 4 rfl) ?_
  refine lv_iconst (v := (0 : Int32)) hx hb dL_bySense_2 (by decide) ?_
  refine lv_aload_n hx hb dL_bySense_3 rfl (lv_at hl 0 rfl) ?_
  refine lv_iload_n hx hb dL_bySense_4 rfl (lv_at hl 1 rfl) ?_
  refine lv_iload_n hx hb dL_bySense_5 rfl (lv_at hl 2 rfl) ?_
  refine lv_iload_n hx hb dL_bySense_6 rfl (lv_at hl 3 rfl) ?_
  rcases bdc_some hf with ⟨k, w1, hc, hf⟩ | ⟨x2, w1, hc, hf⟩
  · by_cases e_0 : k = 1
    · subst e_0
      rw [if_pos rfl] at hf
      refine q_xrunX (q_xV (As := [.int v1, .int v2, .int v3]) C hH (ci := 10) rfl (by omega) gk_L_96 yd_X10_bySense (by omega) (by omega) kc_0 (c_X10_bySense htr z_v3 hc) hl.1 rfl (Nat.le_of_ble_eq_true rfl) dL_bySense_7 ⟨by decide, by decide⟩) hH (fun H locs ce q hH h1 h2 h3 => ?_)
      refine q_catch C htab (pre := []) (x := (0, 12, 15, 21)) (suf := []) (E := 1) rfl (by decide) rfl (by decide) (by decide) h1 h2 h3 ?_
      refine lv_astore (lv' := [(5, .ref q), (0, .ref (B + 0)), (1, .int v1), (2, .int v2), (3, .int v3), (4, .ref (B + 746))]) hx hb dL_bySense_15 hl (by decide) rfl (fun ls hl => ?_)
      refine lv_iconst (v := (1 : Int32)) hx hb dL_bySense_17 (by decide) ?_
      cases hf
      exact W.widen (k := 2) (n := 6 * 2) (by decide) (by decide) (q_reti C hH trivial dL_bySense_18)
    rw [if_neg e_0] at hf
    cases hf
  · refine q_xrun (ov := some (.int x2)) (q_xV (As := [.int v1, .int v2, .int v3]) C hH (ci := 10) rfl (by omega) gk_L_96 yd_X10_bySense (by omega) (by omega) kc_0 (c_X10_bySense htr z_v3 hc) hl.1 rfl (Nat.le_of_ble_eq_true rfl) dL_bySense_7 ⟨by decide, by decide⟩) hH (fun H locs hH hP => ?_)
    refine lv_i2l (v := x2.toInt64) hx hb dL_bySense_10 rfl ?_
    refine g_last C hH kc_746 (by decide +kernel) hf dL_bySense_11 (fun w3 H locs hf hH => ?_)
    refine lv_goto (tgt := 19) hx hb dL_bySense_12 (by decide) ?_
    refine lv_iconst (v := (0 : Int32)) hx hb dL_bySense_19 (by decide) ?_
    cases hf
    exact W.widen (k := 2) (n := 6 * 2) (by decide) (by decide) (q_reti C hH trivial dL_bySense_20)
set_option maxRecDepth 100000 in
theorem c_L_bySense {l : Launch} {D : va_G} {B : Nat} {Y : Nat → ClassId} {v1 : Int32} {v2 : Int32} {v3 : Int32} {w : Wd} {r : Int32} {w1 : Wd} (htr : l.stackTraces = false) (z_v3 : isZ v3) (hf : f_L_bySense v1 v2 v3 w = some (r, w1)) : LM l D B Y yL_bySense cL_bySense 6 [(0, 12, 15, 21)] 5 2 [.ref (B + 0), .int v1, .int v2, .int v3, .ref (B + 746)] w r w1 :=
  LM_of (by decide +kernel) (Nat.le_of_ble_eq_true rfl) (fun p e s m args below meth c ls C htab hH hl => t_L_bySense C htab htr z_v3 hH hl hf)
set_option maxRecDepth 100000 in
set_option maxHeartbeats 4000000 in
theorem t_L_compare {D : va_G} {B : Nat} {Y : Nat → ClassId} {p : Program} {l : Launch} {e : Env} {s : State} {m : MethodId} {args : Array Value} {below : List Frame} {meth : Method} {c : Code} {z : Int32 × Wd} {H : Heap} {locs : List Loc} {ls : Array Slot} {w : Wd} {v1 : Int32} {v2 : Int32} {v3 : Int32} (C : CX D B Y p s m args meth c cL_compare 6 RL (some .int)) (htab : c.exceptionTable.toList = tableOf [(0, 12, 15, 21), (0, 12, 19, 15)]) (htr : l.stackTraces = false)  (hH : HS D B Y w s H locs) (hl : lv_has ls 6 [(0, .ref (B + 0)), (1, .int v1), (2, .int v2), (3, .int v3), (4, .ref (B + 746))]) (hf : f_L_compare v1 v2 v3 w = some z) : W p l e (RM 5 4 (6 * 4)) s m args below meth c H locs 0 0 (MQ below (QG D B Y (some (.int z.1)) z.2 True) args s 4 (6 * 4) (AB B)) (F0 m 0 ls []) := by
  have hx := C.1
  have hb := C.2.1
  unfold f_L_compare at hf
  refine lv_aload hx hb dL_compare_0 (lv_at hl 4 rfl) ?_
  refine lv_iconst (v := (0 : Int32)) hx hb dL_compare_2 (by decide) ?_
  refine lv_aload_n hx hb dL_compare_3 rfl (lv_at hl 0 rfl) ?_
  refine lv_iload_n hx hb dL_compare_4 rfl (lv_at hl 1 rfl) ?_
  refine lv_iload_n hx hb dL_compare_5 rfl (lv_at hl 2 rfl) ?_
  refine lv_iload_n hx hb dL_compare_6 rfl (lv_at hl 3 rfl) ?_
  rcases bdc_some hf with ⟨k, w1, hc, hf⟩ | ⟨x2, w1, hc, hf⟩
  · by_cases e_0 : k = 1
    · subst e_0
      rw [if_pos rfl] at hf
      refine q_xrunX (q_xV (As := [.int v1, .int v2, .int v3]) C hH (ci := 10) rfl (by omega) gk_L_99 yd_X10_compare (by omega) (by omega) kc_0 (c_X10_compare htr hc) hl.1 rfl (Nat.le_of_ble_eq_true rfl) dL_compare_7 ⟨by decide, by decide⟩) hH (fun H locs ce q hH h1 h2 h3 => ?_)
      refine q_catch C htab (pre := []) (x := (0, 12, 15, 21)) (suf := [(0, 12, 19, 15)]) (E := 1) rfl (by decide) rfl (by decide) (by decide) h1 h2 h3 ?_
      refine lv_astore (lv' := [(5, .ref q), (0, .ref (B + 0)), (1, .int v1), (2, .int v2), (3, .int v3), (4, .ref (B + 746))]) hx hb dL_compare_15 hl (by decide) rfl (fun ls hl => ?_)
      refine lv_iconst (v := (1 : Int32)) hx hb dL_compare_17 (by decide) ?_
      cases hf
      exact W.widen (k := 4) (n := 6 * 4) (by decide) (by decide) (q_reti C hH trivial dL_compare_18)
    rw [if_neg e_0] at hf
    by_cases e_1 : k = 3
    · subst e_1
      rw [if_pos rfl] at hf
      refine q_xrunX (q_xV (As := [.int v1, .int v2, .int v3]) C hH (ci := 10) rfl (by omega) gk_L_99 yd_X10_compare (by omega) (by omega) kc_0 (c_X10_compare htr hc) hl.1 rfl (Nat.le_of_ble_eq_true rfl) dL_compare_7 ⟨by decide, by decide⟩) hH (fun H locs ce q hH h1 h2 h3 => ?_)
      refine q_catch C htab (pre := [(0, 12, 15, 21)]) (x := (0, 12, 19, 15)) (suf := []) (E := 3) rfl (by decide) rfl (by decide) (by decide) h1 h2 h3 ?_
      refine lv_astore (lv' := [(5, .ref q), (0, .ref (B + 0)), (1, .int v1), (2, .int v2), (3, .int v3), (4, .ref (B + 746))]) hx hb dL_compare_19 hl (by decide) rfl (fun ls hl => ?_)
      refine lv_iconst (v := (2 : Int32)) hx hb dL_compare_21 (by decide) ?_
      cases hf
      exact W.widen (k := 4) (n := 6 * 4) (by decide) (by decide) (q_reti C hH trivial dL_compare_22)
    rw [if_neg e_1] at hf
    cases hf
  · refine q_xrun (ov := some (.int x2)) (q_xV (As := [.int v1, .int v2, .int v3]) C hH (ci := 10) rfl (by omega) gk_L_99 yd_X10_compare (by omega) (by omega) kc_0 (c_X10_compare htr hc) hl.1 rfl (Nat.le_of_ble_eq_true rfl) dL_compare_7 ⟨by decide, by decide⟩) hH (fun H locs hH hP => ?_)
    refine lv_i2l (v := x2.toInt64) hx hb dL_compare_10 rfl ?_
    refine g_last C hH kc_746 (by decide +kernel) hf dL_compare_11 (fun w3 H locs hf hH => ?_)
    refine lv_goto (tgt := 23) hx hb dL_compare_12 (by decide) ?_
    refine lv_iconst (v := (0 : Int32)) hx hb dL_compare_23 (by decide) ?_
    cases hf
    exact W.widen (k := 4) (n := 6 * 4) (by decide) (by decide) (q_reti C hH trivial dL_compare_24)
set_option maxRecDepth 100000 in
theorem c_L_compare {l : Launch} {D : va_G} {B : Nat} {Y : Nat → ClassId} {v1 : Int32} {v2 : Int32} {v3 : Int32} {w : Wd} {r : Int32} {w1 : Wd} (htr : l.stackTraces = false)  (hf : f_L_compare v1 v2 v3 w = some (r, w1)) : LM l D B Y yL_compare cL_compare 6 [(0, 12, 15, 21), (0, 12, 19, 15)] 5 4 [.ref (B + 0), .int v1, .int v2, .int v3, .ref (B + 746)] w r w1 :=
  LM_of (by decide +kernel) (Nat.le_of_ble_eq_true rfl) (fun p e s m args below meth c ls C htab hH hl => t_L_compare C htab htr  hH hl hf)
set_option maxRecDepth 100000 in
set_option maxHeartbeats 4000000 in
theorem t_L_key {D : va_G} {B : Nat} {Y : Nat → ClassId} {p : Program} {l : Launch} {e : Env} {s : State} {m : MethodId} {args : Array Value} {below : List Frame} {meth : Method} {c : Code} {z : Int32 × Wd} {H : Heap} {locs : List Loc} {ls : Array Slot} {w : Wd} {v1 : Int32} {v2 : Int32} {v3 : Int32} (C : CX D B Y p s m args meth c cL_key 6 RL (some .int)) (htab : c.exceptionTable.toList = tableOf [(0, 12, 15, 21), (0, 12, 19, 15)]) (htr : l.stackTraces = false)  (hH : HS D B Y w s H locs) (hl : lv_has ls 6 [(0, .ref (B + 0)), (1, .int v1), (2, .int v2), (3, .int v3), (4, .ref (B + 746))]) (hf : f_L_key v1 v2 v3 w = some z) : W p l e (RM 5 4 (6 * 4)) s m args below meth c H locs 0 0 (MQ below (QG D B Y (some (.int z.1)) z.2 True) args s 4 (6 * 4) (AB B)) (F0 m 0 ls []) := by
  have hx := C.1
  have hb := C.2.1
  unfold f_L_key at hf
  refine lv_aload hx hb dL_key_0 (lv_at hl 4 rfl) ?_
  refine lv_iconst (v := (0 : Int32)) hx hb dL_key_2 (by decide) ?_
  refine lv_aload_n hx hb dL_key_3 rfl (lv_at hl 0 rfl) ?_
  refine lv_iload_n hx hb dL_key_4 rfl (lv_at hl 1 rfl) ?_
  refine lv_iload_n hx hb dL_key_5 rfl (lv_at hl 2 rfl) ?_
  refine lv_iload_n hx hb dL_key_6 rfl (lv_at hl 3 rfl) ?_
  rcases bdc_some hf with ⟨k, w1, hc, hf⟩ | ⟨x2, w1, hc, hf⟩
  · by_cases e_0 : k = 1
    · subst e_0
      rw [if_pos rfl] at hf
      refine q_xrunX (q_xV (As := [.int v1, .int v2, .int v3]) C hH (ci := 10) rfl (by omega) gk_L_102 yd_X10_key (by omega) (by omega) kc_0 (c_X10_key htr hc) hl.1 rfl (Nat.le_of_ble_eq_true rfl) dL_key_7 ⟨by decide, by decide⟩) hH (fun H locs ce q hH h1 h2 h3 => ?_)
      refine q_catch C htab (pre := []) (x := (0, 12, 15, 21)) (suf := [(0, 12, 19, 15)]) (E := 1) rfl (by decide) rfl (by decide) (by decide) h1 h2 h3 ?_
      refine lv_astore (lv' := [(5, .ref q), (0, .ref (B + 0)), (1, .int v1), (2, .int v2), (3, .int v3), (4, .ref (B + 746))]) hx hb dL_key_15 hl (by decide) rfl (fun ls hl => ?_)
      refine lv_iconst (v := (1 : Int32)) hx hb dL_key_17 (by decide) ?_
      cases hf
      exact W.widen (k := 4) (n := 6 * 4) (by decide) (by decide) (q_reti C hH trivial dL_key_18)
    rw [if_neg e_0] at hf
    by_cases e_1 : k = 3
    · subst e_1
      rw [if_pos rfl] at hf
      refine q_xrunX (q_xV (As := [.int v1, .int v2, .int v3]) C hH (ci := 10) rfl (by omega) gk_L_102 yd_X10_key (by omega) (by omega) kc_0 (c_X10_key htr hc) hl.1 rfl (Nat.le_of_ble_eq_true rfl) dL_key_7 ⟨by decide, by decide⟩) hH (fun H locs ce q hH h1 h2 h3 => ?_)
      refine q_catch C htab (pre := [(0, 12, 15, 21)]) (x := (0, 12, 19, 15)) (suf := []) (E := 3) rfl (by decide) rfl (by decide) (by decide) h1 h2 h3 ?_
      refine lv_astore (lv' := [(5, .ref q), (0, .ref (B + 0)), (1, .int v1), (2, .int v2), (3, .int v3), (4, .ref (B + 746))]) hx hb dL_key_19 hl (by decide) rfl (fun ls hl => ?_)
      refine lv_iconst (v := (2 : Int32)) hx hb dL_key_21 (by decide) ?_
      cases hf
      exact W.widen (k := 4) (n := 6 * 4) (by decide) (by decide) (q_reti C hH trivial dL_key_22)
    rw [if_neg e_1] at hf
    cases hf
  · refine q_xrun (ov := some (.int x2)) (q_xV (As := [.int v1, .int v2, .int v3]) C hH (ci := 10) rfl (by omega) gk_L_102 yd_X10_key (by omega) (by omega) kc_0 (c_X10_key htr hc) hl.1 rfl (Nat.le_of_ble_eq_true rfl) dL_key_7 ⟨by decide, by decide⟩) hH (fun H locs hH hP => ?_)
    refine lv_i2l (v := x2.toInt64) hx hb dL_key_10 rfl ?_
    refine g_last C hH kc_746 (by decide +kernel) hf dL_key_11 (fun w3 H locs hf hH => ?_)
    refine lv_goto (tgt := 23) hx hb dL_key_12 (by decide) ?_
    refine lv_iconst (v := (0 : Int32)) hx hb dL_key_23 (by decide) ?_
    cases hf
    exact W.widen (k := 4) (n := 6 * 4) (by decide) (by decide) (q_reti C hH trivial dL_key_24)
set_option maxRecDepth 100000 in
theorem c_L_key {l : Launch} {D : va_G} {B : Nat} {Y : Nat → ClassId} {v1 : Int32} {v2 : Int32} {v3 : Int32} {w : Wd} {r : Int32} {w1 : Wd} (htr : l.stackTraces = false)  (hf : f_L_key v1 v2 v3 w = some (r, w1)) : LM l D B Y yL_key cL_key 6 [(0, 12, 15, 21), (0, 12, 19, 15)] 5 4 [.ref (B + 0), .int v1, .int v2, .int v3, .ref (B + 746)] w r w1 :=
  LM_of (by decide +kernel) (Nat.le_of_ble_eq_true rfl) (fun p e s m args below meth c ls C htab hH hl => t_L_key C htab htr  hH hl hf)
set_option maxRecDepth 100000 in
set_option maxHeartbeats 4000000 in
theorem t_L_find {D : va_G} {B : Nat} {Y : Nat → ClassId} {p : Program} {l : Launch} {e : Env} {s : State} {m : MethodId} {args : Array Value} {below : List Frame} {meth : Method} {c : Code} {z : Int32 × Wd} {H : Heap} {locs : List Loc} {ls : Array Slot} {w : Wd} {v1 : Int32} {v2 : Int32} {v3 : Int32} (C : CX D B Y p s m args meth c cL_find 6 RL (some .int)) (htab : c.exceptionTable.toList = tableOf [(0, 12, 15, 21), (0, 12, 19, 13), (0, 12, 23, 15)]) (htr : l.stackTraces = false)  (hH : HS D B Y w s H locs) (hl : lv_has ls 6 [(0, .ref (B + 0)), (1, .int v1), (2, .int v2), (3, .int v3), (4, .ref (B + 746))]) (hf : f_L_find v1 v2 v3 w = some z) : W p l e (RM 6 4 (6 * 4)) s m args below meth c H locs 0 0 (MQ below (QG D B Y (some (.int z.1)) z.2 True) args s 4 (6 * 4) (AB B)) (F0 m 0 ls []) := by
  have hx := C.1
  have hb := C.2.1
  unfold f_L_find at hf
  refine lv_aload hx hb dL_find_0 (lv_at hl 4 rfl) ?_
  refine lv_iconst (v := (0 : Int32)) hx hb dL_find_2 (by decide) ?_
  refine lv_aload_n hx hb dL_find_3 rfl (lv_at hl 0 rfl) ?_
  refine lv_iload_n hx hb dL_find_4 rfl (lv_at hl 1 rfl) ?_
  refine lv_iload_n hx hb dL_find_5 rfl (lv_at hl 2 rfl) ?_
  refine lv_iload_n hx hb dL_find_6 rfl (lv_at hl 3 rfl) ?_
  rcases bdc_some hf with ⟨k, w1, hc, hf⟩ | ⟨x2, w1, hc, hf⟩
  · by_cases e_0 : k = 1
    · subst e_0
      rw [if_pos rfl] at hf
      refine q_xrunX (q_xV (As := [.int v1, .int v2, .int v3]) C hH (ci := 10) rfl (by omega) gk_L_105 yd_X10_find (by omega) (by omega) kc_0 (c_X10_find htr hc) hl.1 rfl (Nat.le_of_ble_eq_true rfl) dL_find_7 ⟨by decide, by decide⟩) hH (fun H locs ce q hH h1 h2 h3 => ?_)
      refine q_catch C htab (pre := []) (x := (0, 12, 15, 21)) (suf := [(0, 12, 19, 13), (0, 12, 23, 15)]) (E := 1) rfl (by decide) rfl (by decide) (by decide) h1 h2 h3 ?_
      refine lv_astore (lv' := [(5, .ref q), (0, .ref (B + 0)), (1, .int v1), (2, .int v2), (3, .int v3), (4, .ref (B + 746))]) hx hb dL_find_15 hl (by decide) rfl (fun ls hl => ?_)
      refine lv_iconst (v := (1 : Int32)) hx hb dL_find_17 (by decide) ?_
      cases hf
      exact W.widen (k := 4) (n := 6 * 4) (by decide) (by decide) (q_reti C hH trivial dL_find_18)
    rw [if_neg e_0] at hf
    by_cases e_1 : k = 2
    · subst e_1
      rw [if_pos rfl] at hf
      refine q_xrunX (q_xV (As := [.int v1, .int v2, .int v3]) C hH (ci := 10) rfl (by omega) gk_L_105 yd_X10_find (by omega) (by omega) kc_0 (c_X10_find htr hc) hl.1 rfl (Nat.le_of_ble_eq_true rfl) dL_find_7 ⟨by decide, by decide⟩) hH (fun H locs ce q hH h1 h2 h3 => ?_)
      refine q_catch C htab (pre := [(0, 12, 15, 21)]) (x := (0, 12, 19, 13)) (suf := [(0, 12, 23, 15)]) (E := 2) rfl (by decide) rfl (by decide) (by decide) h1 h2 h3 ?_
      refine lv_astore (lv' := [(5, .ref q), (0, .ref (B + 0)), (1, .int v1), (2, .int v2), (3, .int v3), (4, .ref (B + 746))]) hx hb dL_find_19 hl (by decide) rfl (fun ls hl => ?_)
      refine lv_iconst (v := (2 : Int32)) hx hb dL_find_21 (by decide) ?_
      cases hf
      exact W.widen (k := 4) (n := 6 * 4) (by decide) (by decide) (q_reti C hH trivial dL_find_22)
    rw [if_neg e_1] at hf
    by_cases e_2 : k = 3
    · subst e_2
      rw [if_pos rfl] at hf
      refine q_xrunX (q_xV (As := [.int v1, .int v2, .int v3]) C hH (ci := 10) rfl (by omega) gk_L_105 yd_X10_find (by omega) (by omega) kc_0 (c_X10_find htr hc) hl.1 rfl (Nat.le_of_ble_eq_true rfl) dL_find_7 ⟨by decide, by decide⟩) hH (fun H locs ce q hH h1 h2 h3 => ?_)
      refine q_catch C htab (pre := [(0, 12, 15, 21), (0, 12, 19, 13)]) (x := (0, 12, 23, 15)) (suf := []) (E := 3) rfl (by decide) rfl (by decide) (by decide) h1 h2 h3 ?_
      refine lv_astore (lv' := [(5, .ref q), (0, .ref (B + 0)), (1, .int v1), (2, .int v2), (3, .int v3), (4, .ref (B + 746))]) hx hb dL_find_23 hl (by decide) rfl (fun ls hl => ?_)
      refine lv_iconst (v := (3 : Int32)) hx hb dL_find_25 (by decide) ?_
      cases hf
      exact W.widen (k := 4) (n := 6 * 4) (by decide) (by decide) (q_reti C hH trivial dL_find_26)
    rw [if_neg e_2] at hf
    cases hf
  · refine q_xrun (ov := some (.int x2)) (q_xV (As := [.int v1, .int v2, .int v3]) C hH (ci := 10) rfl (by omega) gk_L_105 yd_X10_find (by omega) (by omega) kc_0 (c_X10_find htr hc) hl.1 rfl (Nat.le_of_ble_eq_true rfl) dL_find_7 ⟨by decide, by decide⟩) hH (fun H locs hH hP => ?_)
    refine lv_i2l (v := x2.toInt64) hx hb dL_find_10 rfl ?_
    refine g_last C hH kc_746 (by decide +kernel) hf dL_find_11 (fun w3 H locs hf hH => ?_)
    refine lv_goto (tgt := 27) hx hb dL_find_12 (by decide) ?_
    refine lv_iconst (v := (0 : Int32)) hx hb dL_find_27 (by decide) ?_
    cases hf
    exact W.widen (k := 4) (n := 6 * 4) (by decide) (by decide) (q_reti C hH trivial dL_find_28)
set_option maxRecDepth 100000 in
theorem c_L_find {l : Launch} {D : va_G} {B : Nat} {Y : Nat → ClassId} {v1 : Int32} {v2 : Int32} {v3 : Int32} {w : Wd} {r : Int32} {w1 : Wd} (htr : l.stackTraces = false)  (hf : f_L_find v1 v2 v3 w = some (r, w1)) : LM l D B Y yL_find cL_find 6 [(0, 12, 15, 21), (0, 12, 19, 13), (0, 12, 23, 15)] 6 4 [.ref (B + 0), .int v1, .int v2, .int v3, .ref (B + 746)] w r w1 :=
  LM_of (by decide +kernel) (Nat.le_of_ble_eq_true rfl) (fun p e s m args below meth c ls C htab hH hl => t_L_find C htab htr  hH hl hf)
set_option maxRecDepth 100000 in
set_option maxHeartbeats 4000000 in
theorem t_L_pattern {D : va_G} {B : Nat} {Y : Nat → ClassId} {p : Program} {l : Launch} {e : Env} {s : State} {m : MethodId} {args : Array Value} {below : List Frame} {meth : Method} {c : Code} {z : Int32 × Wd} {H : Heap} {locs : List Loc} {ls : Array Slot} {w : Wd}  (C : CX D B Y p s m args meth c cL_pattern 3 RL (some .int)) (htab : c.exceptionTable.toList = tableOf [(0, 8, 11, 15)]) (htr : l.stackTraces = false)  (hH : HS D B Y w s H locs) (hl : lv_has ls 3 [(0, .ref (B + 0)), (1, .ref (B + 746))]) (hf : f_L_pattern w = some z) : W p l e (RM 7 1 (6 * 1)) s m args below meth c H locs 0 0 (MQ below (QG D B Y (some (.int z.1)) z.2 True) args s 1 (6 * 1) (AB B)) (F0 m 0 ls []) := by
  have hx := C.1
  have hb := C.2.1
  unfold f_L_pattern at hf
  refine lv_aload_n hx hb dL_pattern_0 rfl (lv_at hl 1 rfl) ?_
  refine lv_iconst (v := (0 : Int32)) hx hb dL_pattern_1 (by decide) ?_
  refine lv_aload_n hx hb dL_pattern_2 rfl (lv_at hl 0 rfl) ?_
  rcases bdc_some hf with ⟨k, w1, hc, hf⟩ | ⟨x2, w1, hc, hf⟩
  · by_cases e_0 : k = 3
    · subst e_0
      rw [if_pos rfl] at hf
      refine q_xrunX (q_xV (As := []) C hH (ci := 10) rfl (by omega) gk_L_108 yd_X10_pattern (by omega) (by omega) kc_0 (c_X10_pattern htr hc) hl.1 rfl (Nat.le_of_ble_eq_true rfl) dL_pattern_3 ⟨by decide, by decide⟩) hH (fun H locs ce q hH h1 h2 h3 => ?_)
      refine q_catch C htab (pre := []) (x := (0, 8, 11, 15)) (suf := []) (E := 3) rfl (by decide) rfl (by decide) (by decide) h1 h2 h3 ?_
      refine lv_astore_n (lv' := [(2, .ref q), (0, .ref (B + 0)), (1, .ref (B + 746))]) hx hb dL_pattern_11 rfl hl (by decide) rfl (fun ls hl => ?_)
      refine lv_iconst (v := (1 : Int32)) hx hb dL_pattern_12 (by decide) ?_
      cases hf
      exact W.widen (k := 1) (n := 6 * 1) (by decide) (by decide) (q_reti C hH trivial dL_pattern_13)
    rw [if_neg e_0] at hf
    cases hf
  · refine q_xrun (ov := some (.int x2)) (q_xV (As := []) C hH (ci := 10) rfl (by omega) gk_L_108 yd_X10_pattern (by omega) (by omega) kc_0 (c_X10_pattern htr hc) hl.1 rfl (Nat.le_of_ble_eq_true rfl) dL_pattern_3 ⟨by decide, by decide⟩) hH (fun H locs hH hP => ?_)
    refine lv_i2l (v := x2.toInt64) hx hb dL_pattern_6 rfl ?_
    refine g_last C hH kc_746 (by decide +kernel) hf dL_pattern_7 (fun w3 H locs hf hH => ?_)
    refine lv_goto (tgt := 14) hx hb dL_pattern_8 (by decide) ?_
    refine lv_iconst (v := (0 : Int32)) hx hb dL_pattern_14 (by decide) ?_
    cases hf
    exact W.widen (k := 1) (n := 6 * 1) (by decide) (by decide) (q_reti C hH trivial dL_pattern_15)
set_option maxRecDepth 100000 in
theorem c_L_pattern {l : Launch} {D : va_G} {B : Nat} {Y : Nat → ClassId}  {w : Wd} {r : Int32} {w1 : Wd} (htr : l.stackTraces = false)  (hf : f_L_pattern w = some (r, w1)) : LM l D B Y yL_pattern cL_pattern 3 [(0, 8, 11, 15)] 7 1 [.ref (B + 0), .ref (B + 746)] w r w1 :=
  LM_of (by decide +kernel) (Nat.le_of_ble_eq_true rfl) (fun p e s m args below meth c ls C htab hH hl => t_L_pattern C htab htr  hH hl hf)
set_option maxRecDepth 100000 in
set_option maxHeartbeats 4000000 in
theorem t_L_match {D : va_G} {B : Nat} {Y : Nat → ClassId} {p : Program} {l : Launch} {e : Env} {s : State} {m : MethodId} {args : Array Value} {below : List Frame} {meth : Method} {c : Code} {z : Int32 × Wd} {H : Heap} {locs : List Loc} {ls : Array Slot} {w : Wd} {v1 : Int32} {v2 : Int32} (C : CX D B Y p s m args meth c cL_match 5 RL (some .int)) (htab : c.exceptionTable.toList = tableOf [(0, 10, 13, 21), (0, 10, 17, 15)]) (htr : l.stackTraces = false)  (hH : HS D B Y w s H locs) (hl : lv_has ls 5 [(0, .ref (B + 0)), (1, .int v1), (2, .int v2), (3, .ref (B + 746))]) (hf : f_L_match v1 v2 w = some z) : W p l e (RM 7 3 (6 * 3)) s m args below meth c H locs 0 0 (MQ below (QG D B Y (some (.int z.1)) z.2 True) args s 3 (6 * 3) (AB B)) (F0 m 0 ls []) := by
  have hx := C.1
  have hb := C.2.1
  unfold f_L_match at hf
  refine lv_aload_n hx hb dL_match_0 rfl (lv_at hl 3 rfl) ?_
  refine lv_iconst (v := (0 : Int32)) hx hb dL_match_1 (by decide) ?_
  refine lv_aload_n hx hb dL_match_2 rfl (lv_at hl 0 rfl) ?_
  refine lv_iload_n hx hb dL_match_3 rfl (lv_at hl 1 rfl) ?_
  refine lv_iload_n hx hb dL_match_4 rfl (lv_at hl 2 rfl) ?_
  rcases bdc_some hf with ⟨k, w1, hc, hf⟩ | ⟨x2, w1, hc, hf⟩
  · by_cases e_0 : k = 1
    · subst e_0
      rw [if_pos rfl] at hf
      refine q_xrunX (q_xV (As := [.int v1, .int v2]) C hH (ci := 10) rfl (by omega) gk_L_111 yd_X10_match (by omega) (by omega) kc_0 (c_X10_match htr hc) hl.1 rfl (Nat.le_of_ble_eq_true rfl) dL_match_5 ⟨by decide, by decide⟩) hH (fun H locs ce q hH h1 h2 h3 => ?_)
      refine q_catch C htab (pre := []) (x := (0, 10, 13, 21)) (suf := [(0, 10, 17, 15)]) (E := 1) rfl (by decide) rfl (by decide) (by decide) h1 h2 h3 ?_
      refine lv_astore (lv' := [(4, .ref q), (0, .ref (B + 0)), (1, .int v1), (2, .int v2), (3, .ref (B + 746))]) hx hb dL_match_13 hl (by decide) rfl (fun ls hl => ?_)
      refine lv_iconst (v := (1 : Int32)) hx hb dL_match_15 (by decide) ?_
      cases hf
      exact W.widen (k := 3) (n := 6 * 3) (by decide) (by decide) (q_reti C hH trivial dL_match_16)
    rw [if_neg e_0] at hf
    by_cases e_1 : k = 3
    · subst e_1
      rw [if_pos rfl] at hf
      refine q_xrunX (q_xV (As := [.int v1, .int v2]) C hH (ci := 10) rfl (by omega) gk_L_111 yd_X10_match (by omega) (by omega) kc_0 (c_X10_match htr hc) hl.1 rfl (Nat.le_of_ble_eq_true rfl) dL_match_5 ⟨by decide, by decide⟩) hH (fun H locs ce q hH h1 h2 h3 => ?_)
      refine q_catch C htab (pre := [(0, 10, 13, 21)]) (x := (0, 10, 17, 15)) (suf := []) (E := 3) rfl (by decide) rfl (by decide) (by decide) h1 h2 h3 ?_
      refine lv_astore (lv' := [(4, .ref q), (0, .ref (B + 0)), (1, .int v1), (2, .int v2), (3, .ref (B + 746))]) hx hb dL_match_17 hl (by decide) rfl (fun ls hl => ?_)
      refine lv_iconst (v := (2 : Int32)) hx hb dL_match_19 (by decide) ?_
      cases hf
      exact W.widen (k := 3) (n := 6 * 3) (by decide) (by decide) (q_reti C hH trivial dL_match_20)
    rw [if_neg e_1] at hf
    cases hf
  · refine q_xrun (ov := some (.int x2)) (q_xV (As := [.int v1, .int v2]) C hH (ci := 10) rfl (by omega) gk_L_111 yd_X10_match (by omega) (by omega) kc_0 (c_X10_match htr hc) hl.1 rfl (Nat.le_of_ble_eq_true rfl) dL_match_5 ⟨by decide, by decide⟩) hH (fun H locs hH hP => ?_)
    refine lv_i2l (v := x2.toInt64) hx hb dL_match_8 rfl ?_
    refine g_last C hH kc_746 (by decide +kernel) hf dL_match_9 (fun w3 H locs hf hH => ?_)
    refine lv_goto (tgt := 21) hx hb dL_match_10 (by decide) ?_
    refine lv_iconst (v := (0 : Int32)) hx hb dL_match_21 (by decide) ?_
    cases hf
    exact W.widen (k := 3) (n := 6 * 3) (by decide) (by decide) (q_reti C hH trivial dL_match_22)
set_option maxRecDepth 100000 in
theorem c_L_match {l : Launch} {D : va_G} {B : Nat} {Y : Nat → ClassId} {v1 : Int32} {v2 : Int32} {w : Wd} {r : Int32} {w1 : Wd} (htr : l.stackTraces = false)  (hf : f_L_match v1 v2 w = some (r, w1)) : LM l D B Y yL_match cL_match 5 [(0, 10, 13, 21), (0, 10, 17, 15)] 7 3 [.ref (B + 0), .int v1, .int v2, .ref (B + 746)] w r w1 :=
  LM_of (by decide +kernel) (Nat.le_of_ble_eq_true rfl) (fun p e s m args below meth c ls C htab hH hl => t_L_match C htab htr  hH hl hf)
set_option maxRecDepth 100000 in
set_option maxHeartbeats 4000000 in
theorem t_L_transliterate {D : va_G} {B : Nat} {Y : Nat → ClassId} {p : Program} {l : Launch} {e : Env} {s : State} {m : MethodId} {args : Array Value} {below : List Frame} {meth : Method} {c : Code} {z : Int32 × Wd} {H : Heap} {locs : List Loc} {ls : Array Slot} {w : Wd} {v1 : Int32} {v2 : Int32} {v3 : Int32} (C : CX D B Y p s m args meth c cL_transliterate 6 RL (some .int)) (htab : c.exceptionTable.toList = tableOf [(0, 12, 15, 21), (0, 12, 19, 15)]) (htr : l.stackTraces = false) (z_v3 : isZ v3) (hH : HS D B Y w s H locs) (hl : lv_has ls 6 [(0, .ref (B + 0)), (1, .int v1), (2, .int v2), (3, .int v3), (4, .ref (B + 746))]) (hf : f_L_transliterate v1 v2 v3 w = some z) : W p l e (RM 6 3 (6 * 3)) s m args below meth c H locs 0 0 (MQ below (QG D B Y (some (.int z.1)) z.2 True) args s 3 (6 * 3) (AB B)) (F0 m 0 ls []) := by
  have hx := C.1
  have hb := C.2.1
  unfold f_L_transliterate at hf
  refine lv_aload hx hb dL_transliterate_0 (lv_at hl 4 rfl) ?_
  refine lv_iconst (v := (0 : Int32)) hx hb dL_transliterate_2 (by decide) ?_
  refine lv_aload_n hx hb dL_transliterate_3 rfl (lv_at hl 0 rfl) ?_
  refine lv_iload_n hx hb dL_transliterate_4 rfl (lv_at hl 1 rfl) ?_
  refine lv_iload_n hx hb dL_transliterate_5 rfl (lv_at hl 2 rfl) ?_
  refine lv_iload_n hx hb dL_transliterate_6 rfl (lv_at hl 3 rfl) ?_
  rcases bdc_some hf with ⟨k, w1, hc, hf⟩ | ⟨x2, w1, hc, hf⟩
  · by_cases e_0 : k = 1
    · subst e_0
      rw [if_pos rfl] at hf
      refine q_xrunX (q_xV (As := [.int v1, .int v2, .int v3]) C hH (ci := 10) rfl (by omega) gk_L_114 yd_X10_transliterate (by omega) (by omega) kc_0 (c_X10_transliterate htr z_v3 hc) hl.1 rfl (Nat.le_of_ble_eq_true rfl) dL_transliterate_7 ⟨by decide, by decide⟩) hH (fun H locs ce q hH h1 h2 h3 => ?_)
      refine q_catch C htab (pre := []) (x := (0, 12, 15, 21)) (suf := [(0, 12, 19, 15)]) (E := 1) rfl (by decide) rfl (by decide) (by decide) h1 h2 h3 ?_
      refine lv_astore (lv' := [(5, .ref q), (0, .ref (B + 0)), (1, .int v1), (2, .int v2), (3, .int v3), (4, .ref (B + 746))]) hx hb dL_transliterate_15 hl (by decide) rfl (fun ls hl => ?_)
      refine lv_iconst (v := (1 : Int32)) hx hb dL_transliterate_17 (by decide) ?_
      cases hf
      exact W.widen (k := 3) (n := 6 * 3) (by decide) (by decide) (q_reti C hH trivial dL_transliterate_18)
    rw [if_neg e_0] at hf
    by_cases e_1 : k = 3
    · subst e_1
      rw [if_pos rfl] at hf
      refine q_xrunX (q_xV (As := [.int v1, .int v2, .int v3]) C hH (ci := 10) rfl (by omega) gk_L_114 yd_X10_transliterate (by omega) (by omega) kc_0 (c_X10_transliterate htr z_v3 hc) hl.1 rfl (Nat.le_of_ble_eq_true rfl) dL_transliterate_7 ⟨by decide, by decide⟩) hH (fun H locs ce q hH h1 h2 h3 => ?_)
      refine q_catch C htab (pre := [(0, 12, 15, 21)]) (x := (0, 12, 19, 15)) (suf := []) (E := 3) rfl (by decide) rfl (by decide) (by decide) h1 h2 h3 ?_
      refine lv_astore (lv' := [(5, .ref q), (0, .ref (B + 0)), (1, .int v1), (2, .int v2), (3, .int v3), (4, .ref (B + 746))]) hx hb dL_transliterate_19 hl (by decide) rfl (fun ls hl => ?_)
      refine lv_iconst (v := (2 : Int32)) hx hb dL_transliterate_21 (by decide) ?_
      cases hf
      exact W.widen (k := 3) (n := 6 * 3) (by decide) (by decide) (q_reti C hH trivial dL_transliterate_22)
    rw [if_neg e_1] at hf
    cases hf
  · refine q_xrun (ov := some (.int x2)) (q_xV (As := [.int v1, .int v2, .int v3]) C hH (ci := 10) rfl (by omega) gk_L_114 yd_X10_transliterate (by omega) (by omega) kc_0 (c_X10_transliterate htr z_v3 hc) hl.1 rfl (Nat.le_of_ble_eq_true rfl) dL_transliterate_7 ⟨by decide, by decide⟩) hH (fun H locs hH hP => ?_)
    refine lv_i2l (v := x2.toInt64) hx hb dL_transliterate_10 rfl ?_
    refine g_last C hH kc_746 (by decide +kernel) hf dL_transliterate_11 (fun w3 H locs hf hH => ?_)
    refine lv_goto (tgt := 23) hx hb dL_transliterate_12 (by decide) ?_
    refine lv_iconst (v := (0 : Int32)) hx hb dL_transliterate_23 (by decide) ?_
    cases hf
    exact W.widen (k := 3) (n := 6 * 3) (by decide) (by decide) (q_reti C hH trivial dL_transliterate_24)
set_option maxRecDepth 100000 in
theorem c_L_transliterate {l : Launch} {D : va_G} {B : Nat} {Y : Nat → ClassId} {v1 : Int32} {v2 : Int32} {v3 : Int32} {w : Wd} {r : Int32} {w1 : Wd} (htr : l.stackTraces = false) (z_v3 : isZ v3) (hf : f_L_transliterate v1 v2 v3 w = some (r, w1)) : LM l D B Y yL_transliterate cL_transliterate 6 [(0, 12, 15, 21), (0, 12, 19, 15)] 6 3 [.ref (B + 0), .int v1, .int v2, .int v3, .ref (B + 746)] w r w1 :=
  LM_of (by decide +kernel) (Nat.le_of_ble_eq_true rfl) (fun p e s m args below meth c ls C htab hH hl => t_L_transliterate C htab htr z_v3 hH hl hf)
set_option maxRecDepth 100000 in
set_option maxHeartbeats 4000000 in
theorem t_L_classOf {D : va_G} {B : Nat} {Y : Nat → ClassId} {p : Program} {l : Launch} {e : Env} {s : State} {m : MethodId} {args : Array Value} {below : List Frame} {meth : Method} {c : Code} {z : Int32 × Wd} {H : Heap} {locs : List Loc} {ls : Array Slot} {w : Wd} {v1 : Int32} {v2 : Int32} (C : CX D B Y p s m args meth c cL_classOf 5 RL (some .int)) (htab : c.exceptionTable.toList = tableOf [(0, 10, 13, 21), (0, 10, 17, 13)]) (htr : l.stackTraces = false)  (hH : HS D B Y w s H locs) (hl : lv_has ls 5 [(0, .ref (B + 0)), (1, .int v1), (2, .int v2), (3, .ref (B + 746))]) (hf : f_L_classOf v1 v2 w = some z) : W p l e (RM 4 2 (6 * 2)) s m args below meth c H locs 0 0 (MQ below (QG D B Y (some (.int z.1)) z.2 True) args s 2 (6 * 2) (AB B)) (F0 m 0 ls []) := by
  have hx := C.1
  have hb := C.2.1
  unfold f_L_classOf at hf
  refine lv_aload_n hx hb dL_classOf_0 rfl (lv_at hl 3 rfl) ?_
  refine lv_iconst (v := (0 : Int32)) hx hb dL_classOf_1 (by decide) ?_
  refine lv_aload_n hx hb dL_classOf_2 rfl (lv_at hl 0 rfl) ?_
  refine lv_iload_n hx hb dL_classOf_3 rfl (lv_at hl 1 rfl) ?_
  refine lv_iload_n hx hb dL_classOf_4 rfl (lv_at hl 2 rfl) ?_
  rcases bdc_some hf with ⟨k, w1, hc, hf⟩ | ⟨x2, w1, hc, hf⟩
  · by_cases e_0 : k = 1
    · subst e_0
      rw [if_pos rfl] at hf
      refine q_xrunX (q_xV (As := [.int v1, .int v2]) C hH (ci := 10) rfl (by omega) gk_L_117 yd_X10_classOf (by omega) (by omega) kc_0 (c_X10_classOf htr hc) hl.1 rfl (Nat.le_of_ble_eq_true rfl) dL_classOf_5 ⟨by decide, by decide⟩) hH (fun H locs ce q hH h1 h2 h3 => ?_)
      refine q_catch C htab (pre := []) (x := (0, 10, 13, 21)) (suf := [(0, 10, 17, 13)]) (E := 1) rfl (by decide) rfl (by decide) (by decide) h1 h2 h3 ?_
      refine lv_astore (lv' := [(4, .ref q), (0, .ref (B + 0)), (1, .int v1), (2, .int v2), (3, .ref (B + 746))]) hx hb dL_classOf_13 hl (by decide) rfl (fun ls hl => ?_)
      refine lv_iconst (v := (1 : Int32)) hx hb dL_classOf_15 (by decide) ?_
      cases hf
      exact W.widen (k := 2) (n := 6 * 2) (by decide) (by decide) (q_reti C hH trivial dL_classOf_16)
    rw [if_neg e_0] at hf
    by_cases e_1 : k = 2
    · subst e_1
      rw [if_pos rfl] at hf
      refine q_xrunX (q_xV (As := [.int v1, .int v2]) C hH (ci := 10) rfl (by omega) gk_L_117 yd_X10_classOf (by omega) (by omega) kc_0 (c_X10_classOf htr hc) hl.1 rfl (Nat.le_of_ble_eq_true rfl) dL_classOf_5 ⟨by decide, by decide⟩) hH (fun H locs ce q hH h1 h2 h3 => ?_)
      refine q_catch C htab (pre := [(0, 10, 13, 21)]) (x := (0, 10, 17, 13)) (suf := []) (E := 2) rfl (by decide) rfl (by decide) (by decide) h1 h2 h3 ?_
      refine lv_astore (lv' := [(4, .ref q), (0, .ref (B + 0)), (1, .int v1), (2, .int v2), (3, .ref (B + 746))]) hx hb dL_classOf_17 hl (by decide) rfl (fun ls hl => ?_)
      refine lv_iconst (v := (2 : Int32)) hx hb dL_classOf_19 (by decide) ?_
      cases hf
      exact W.widen (k := 2) (n := 6 * 2) (by decide) (by decide) (q_reti C hH trivial dL_classOf_20)
    rw [if_neg e_1] at hf
    cases hf
  · refine q_xrun (ov := some (.int x2)) (q_xV (As := [.int v1, .int v2]) C hH (ci := 10) rfl (by omega) gk_L_117 yd_X10_classOf (by omega) (by omega) kc_0 (c_X10_classOf htr hc) hl.1 rfl (Nat.le_of_ble_eq_true rfl) dL_classOf_5 ⟨by decide, by decide⟩) hH (fun H locs hH hP => ?_)
    refine lv_i2l (v := x2.toInt64) hx hb dL_classOf_8 rfl ?_
    refine g_last C hH kc_746 (by decide +kernel) hf dL_classOf_9 (fun w3 H locs hf hH => ?_)
    refine lv_goto (tgt := 21) hx hb dL_classOf_10 (by decide) ?_
    refine lv_iconst (v := (0 : Int32)) hx hb dL_classOf_21 (by decide) ?_
    cases hf
    exact W.widen (k := 2) (n := 6 * 2) (by decide) (by decide) (q_reti C hH trivial dL_classOf_22)
set_option maxRecDepth 100000 in
theorem c_L_classOf {l : Launch} {D : va_G} {B : Nat} {Y : Nat → ClassId} {v1 : Int32} {v2 : Int32} {w : Wd} {r : Int32} {w1 : Wd} (htr : l.stackTraces = false)  (hf : f_L_classOf v1 v2 w = some (r, w1)) : LM l D B Y yL_classOf cL_classOf 5 [(0, 10, 13, 21), (0, 10, 17, 13)] 4 2 [.ref (B + 0), .int v1, .int v2, .ref (B + 746)] w r w1 :=
  LM_of (by decide +kernel) (Nat.le_of_ble_eq_true rfl) (fun p e s m args below meth c ls C htab hH hl => t_L_classOf C htab htr  hH hl hf)
set_option maxRecDepth 100000 in
set_option maxHeartbeats 4000000 in
theorem t_L_message {D : va_G} {B : Nat} {Y : Nat → ClassId} {p : Program} {l : Launch} {e : Env} {s : State} {m : MethodId} {args : Array Value} {below : List Frame} {meth : Method} {c : Code} {z : Int32 × Wd} {H : Heap} {locs : List Loc} {ls : Array Slot} {w : Wd} {v1 : Int32} {v2 : Int32} {v3 : Int32} {v4 : Int32} {v5 : Int32} (C : CX D B Y p s m args meth c cL_message 8 RL (some .int)) (htab : c.exceptionTable.toList = tableOf [(0, 16, 19, 21), (0, 16, 23, 13), (0, 16, 27, 15)]) (htr : l.stackTraces = false)  (hH : HS D B Y w s H locs) (hl : lv_has ls 8 [(0, .ref (B + 0)), (1, .int v1), (2, .int v2), (3, .int v3), (4, .int v4), (5, .int v5), (6, .ref (B + 746))]) (hf : f_L_message v1 v2 v3 v4 v5 w = some z) : W p l e (RM 33 3 (6 * 3)) s m args below meth c H locs 0 0 (MQ below (QG D B Y (some (.int z.1)) z.2 True) args s 3 (6 * 3) (AB B)) (F0 m 0 ls []) := by
  have hx := C.1
  have hb := C.2.1
  unfold f_L_message at hf
  refine lv_aload hx hb dL_message_0 (lv_at hl 6 rfl) ?_
  refine lv_iconst (v := (0 : Int32)) hx hb dL_message_2 (by decide) ?_
  refine lv_aload_n hx hb dL_message_3 rfl (lv_at hl 0 rfl) ?_
  refine lv_iload_n hx hb dL_message_4 rfl (lv_at hl 1 rfl) ?_
  refine lv_iload_n hx hb dL_message_5 rfl (lv_at hl 2 rfl) ?_
  refine lv_iload_n hx hb dL_message_6 rfl (lv_at hl 3 rfl) ?_
  refine lv_iload hx hb dL_message_7 (lv_at hl 4 rfl) ?_
  refine lv_iload hx hb dL_message_9 (lv_at hl 5 rfl) ?_
  rcases bdc_some hf with ⟨k, w1, hc, hf⟩ | ⟨x2, w1, hc, hf⟩
  · by_cases e_0 : k = 1
    · subst e_0
      rw [if_pos rfl] at hf
      refine q_xrunX (q_xV (As := [.int v1, .int v2, .int v3, .int v4, .int v5]) C hH (ci := 10) rfl (by omega) gk_L_120 yd_X10_message (by omega) (by omega) kc_0 (c_X10_message htr hc) hl.1 rfl (Nat.le_of_ble_eq_true rfl) dL_message_11 ⟨by decide, by decide⟩) hH (fun H locs ce q hH h1 h2 h3 => ?_)
      refine q_catch C htab (pre := []) (x := (0, 16, 19, 21)) (suf := [(0, 16, 23, 13), (0, 16, 27, 15)]) (E := 1) rfl (by decide) rfl (by decide) (by decide) h1 h2 h3 ?_
      refine lv_astore (lv' := [(7, .ref q), (0, .ref (B + 0)), (1, .int v1), (2, .int v2), (3, .int v3), (4, .int v4), (5, .int v5), (6, .ref (B + 746))]) hx hb dL_message_19 hl (by decide) rfl (fun ls hl => ?_)
      refine lv_iconst (v := (1 : Int32)) hx hb dL_message_21 (by decide) ?_
      cases hf
      exact W.widen (k := 3) (n := 6 * 3) (by decide) (by decide) (q_reti C hH trivial dL_message_22)
    rw [if_neg e_0] at hf
    by_cases e_1 : k = 2
    · subst e_1
      rw [if_pos rfl] at hf
      refine q_xrunX (q_xV (As := [.int v1, .int v2, .int v3, .int v4, .int v5]) C hH (ci := 10) rfl (by omega) gk_L_120 yd_X10_message (by omega) (by omega) kc_0 (c_X10_message htr hc) hl.1 rfl (Nat.le_of_ble_eq_true rfl) dL_message_11 ⟨by decide, by decide⟩) hH (fun H locs ce q hH h1 h2 h3 => ?_)
      refine q_catch C htab (pre := [(0, 16, 19, 21)]) (x := (0, 16, 23, 13)) (suf := [(0, 16, 27, 15)]) (E := 2) rfl (by decide) rfl (by decide) (by decide) h1 h2 h3 ?_
      refine lv_astore (lv' := [(7, .ref q), (0, .ref (B + 0)), (1, .int v1), (2, .int v2), (3, .int v3), (4, .int v4), (5, .int v5), (6, .ref (B + 746))]) hx hb dL_message_23 hl (by decide) rfl (fun ls hl => ?_)
      refine lv_iconst (v := (2 : Int32)) hx hb dL_message_25 (by decide) ?_
      cases hf
      exact W.widen (k := 3) (n := 6 * 3) (by decide) (by decide) (q_reti C hH trivial dL_message_26)
    rw [if_neg e_1] at hf
    by_cases e_2 : k = 3
    · subst e_2
      rw [if_pos rfl] at hf
      refine q_xrunX (q_xV (As := [.int v1, .int v2, .int v3, .int v4, .int v5]) C hH (ci := 10) rfl (by omega) gk_L_120 yd_X10_message (by omega) (by omega) kc_0 (c_X10_message htr hc) hl.1 rfl (Nat.le_of_ble_eq_true rfl) dL_message_11 ⟨by decide, by decide⟩) hH (fun H locs ce q hH h1 h2 h3 => ?_)
      refine q_catch C htab (pre := [(0, 16, 19, 21), (0, 16, 23, 13)]) (x := (0, 16, 27, 15)) (suf := []) (E := 3) rfl (by decide) rfl (by decide) (by decide) h1 h2 h3 ?_
      refine lv_astore (lv' := [(7, .ref q), (0, .ref (B + 0)), (1, .int v1), (2, .int v2), (3, .int v3), (4, .int v4), (5, .int v5), (6, .ref (B + 746))]) hx hb dL_message_27 hl (by decide) rfl (fun ls hl => ?_)
      refine lv_iconst (v := (3 : Int32)) hx hb dL_message_29 (by decide) ?_
      cases hf
      exact W.widen (k := 3) (n := 6 * 3) (by decide) (by decide) (q_reti C hH trivial dL_message_30)
    rw [if_neg e_2] at hf
    cases hf
  · refine q_xrun (ov := some (.int x2)) (q_xV (As := [.int v1, .int v2, .int v3, .int v4, .int v5]) C hH (ci := 10) rfl (by omega) gk_L_120 yd_X10_message (by omega) (by omega) kc_0 (c_X10_message htr hc) hl.1 rfl (Nat.le_of_ble_eq_true rfl) dL_message_11 ⟨by decide, by decide⟩) hH (fun H locs hH hP => ?_)
    refine lv_i2l (v := x2.toInt64) hx hb dL_message_14 rfl ?_
    refine g_last C hH kc_746 (by decide +kernel) hf dL_message_15 (fun w3 H locs hf hH => ?_)
    refine lv_goto (tgt := 31) hx hb dL_message_16 (by decide) ?_
    refine lv_iconst (v := (0 : Int32)) hx hb dL_message_31 (by decide) ?_
    cases hf
    exact W.widen (k := 3) (n := 6 * 3) (by decide) (by decide) (q_reti C hH trivial dL_message_32)
set_option maxRecDepth 100000 in
theorem c_L_message {l : Launch} {D : va_G} {B : Nat} {Y : Nat → ClassId} {v1 : Int32} {v2 : Int32} {v3 : Int32} {v4 : Int32} {v5 : Int32} {w : Wd} {r : Int32} {w1 : Wd} (htr : l.stackTraces = false)  (hf : f_L_message v1 v2 v3 v4 v5 w = some (r, w1)) : LM l D B Y yL_message cL_message 8 [(0, 16, 19, 21), (0, 16, 23, 13), (0, 16, 27, 15)] 33 3 [.ref (B + 0), .int v1, .int v2, .int v3, .int v4, .int v5, .ref (B + 746)] w r w1 :=
  LM_of (by decide +kernel) (Nat.le_of_ble_eq_true rfl) (fun p e s m args below meth c ls C htab hH hl => t_L_message C htab htr  hH hl hf)
set_option maxRecDepth 100000 in
set_option maxHeartbeats 4000000 in
theorem t_L_encode {D : va_G} {B : Nat} {Y : Nat → ClassId} {p : Program} {l : Launch} {e : Env} {s : State} {m : MethodId} {args : Array Value} {below : List Frame} {meth : Method} {c : Code} {z : Int32 × Wd} {H : Heap} {locs : List Loc} {ls : Array Slot} {w : Wd} {v1 : Int32} (C : CX D B Y p s m args meth c cL_encode 4 RL (some .int)) (htab : c.exceptionTable.toList = tableOf [(0, 9, 12, 21)]) (htr : l.stackTraces = false)  (hH : HS D B Y w s H locs) (hl : lv_has ls 4 [(0, .ref (B + 0)), (1, .int v1), (2, .ref (B + 746))]) (hf : f_L_encode v1 w = some z) : W p l e (RM 2 1 (6 * 1)) s m args below meth c H locs 0 0 (MQ below (QG D B Y (some (.int z.1)) z.2 True) args s 1 (6 * 1) (AB B)) (F0 m 0 ls []) := by
  have hx := C.1
  have hb := C.2.1
  unfold f_L_encode at hf
  refine lv_aload_n hx hb dL_encode_0 rfl (lv_at hl 2 rfl) ?_
  refine lv_iconst (v := (0 : Int32)) hx hb dL_encode_1 (by decide) ?_
  refine lv_aload_n hx hb dL_encode_2 rfl (lv_at hl 0 rfl) ?_
  refine lv_iload_n hx hb dL_encode_3 rfl (lv_at hl 1 rfl) ?_
  rcases bdc_some hf with ⟨k, w1, hc, hf⟩ | ⟨x2, w1, hc, hf⟩
  · by_cases e_0 : k = 1
    · subst e_0
      rw [if_pos rfl] at hf
      refine q_xrunX (q_xV (As := [.int v1]) C hH (ci := 10) rfl (by omega) gk_L_123 yd_X10_encode (by omega) (by omega) kc_0 (c_X10_encode htr hc) hl.1 rfl (Nat.le_of_ble_eq_true rfl) dL_encode_4 ⟨by decide, by decide⟩) hH (fun H locs ce q hH h1 h2 h3 => ?_)
      refine q_catch C htab (pre := []) (x := (0, 9, 12, 21)) (suf := []) (E := 1) rfl (by decide) rfl (by decide) (by decide) h1 h2 h3 ?_
      refine lv_astore_n (lv' := [(3, .ref q), (0, .ref (B + 0)), (1, .int v1), (2, .ref (B + 746))]) hx hb dL_encode_12 rfl hl (by decide) rfl (fun ls hl => ?_)
      refine lv_iconst (v := (1 : Int32)) hx hb dL_encode_13 (by decide) ?_
      cases hf
      exact W.widen (k := 1) (n := 6 * 1) (by decide) (by decide) (q_reti C hH trivial dL_encode_14)
    rw [if_neg e_0] at hf
    cases hf
  · refine q_xrun (ov := some (.int x2)) (q_xV (As := [.int v1]) C hH (ci := 10) rfl (by omega) gk_L_123 yd_X10_encode (by omega) (by omega) kc_0 (c_X10_encode htr hc) hl.1 rfl (Nat.le_of_ble_eq_true rfl) dL_encode_4 ⟨by decide, by decide⟩) hH (fun H locs hH hP => ?_)
    refine lv_i2l (v := x2.toInt64) hx hb dL_encode_7 rfl ?_
    refine g_last C hH kc_746 (by decide +kernel) hf dL_encode_8 (fun w3 H locs hf hH => ?_)
    refine lv_goto (tgt := 15) hx hb dL_encode_9 (by decide) ?_
    refine lv_iconst (v := (0 : Int32)) hx hb dL_encode_15 (by decide) ?_
    cases hf
    exact W.widen (k := 1) (n := 6 * 1) (by decide) (by decide) (q_reti C hH trivial dL_encode_16)
set_option maxRecDepth 100000 in
theorem c_L_encode {l : Launch} {D : va_G} {B : Nat} {Y : Nat → ClassId} {v1 : Int32} {w : Wd} {r : Int32} {w1 : Wd} (htr : l.stackTraces = false)  (hf : f_L_encode v1 w = some (r, w1)) : LM l D B Y yL_encode cL_encode 4 [(0, 9, 12, 21)] 2 1 [.ref (B + 0), .int v1, .ref (B + 746)] w r w1 :=
  LM_of (by decide +kernel) (Nat.le_of_ble_eq_true rfl) (fun p e s m args below meth c ls C htab hH hl => t_L_encode C htab htr  hH hl hf)
set_option maxRecDepth 100000 in
set_option maxHeartbeats 4000000 in
theorem t_L_decode {D : va_G} {B : Nat} {Y : Nat → ClassId} {p : Program} {l : Launch} {e : Env} {s : State} {m : MethodId} {args : Array Value} {below : List Frame} {meth : Method} {c : Code} {z : Int32 × Wd} {H : Heap} {locs : List Loc} {ls : Array Slot} {w : Wd} {v1 : Int32} (C : CX D B Y p s m args meth c cL_decode 4 RL (some .int)) (htab : c.exceptionTable.toList = tableOf [(0, 9, 12, 21), (0, 9, 15, 15)]) (htr : l.stackTraces = false)  (hH : HS D B Y w s H locs) (hl : lv_has ls 4 [(0, .ref (B + 0)), (1, .int v1), (2, .ref (B + 746))]) (hf : f_L_decode v1 w = some z) : W p l e (RM 3 2 (6 * 2)) s m args below meth c H locs 0 0 (MQ below (QG D B Y (some (.int z.1)) z.2 True) args s 2 (6 * 2) (AB B)) (F0 m 0 ls []) := by
  have hx := C.1
  have hb := C.2.1
  unfold f_L_decode at hf
  refine lv_aload_n hx hb dL_decode_0 rfl (lv_at hl 2 rfl) ?_
  refine lv_iconst (v := (0 : Int32)) hx hb dL_decode_1 (by decide) ?_
  refine lv_aload_n hx hb dL_decode_2 rfl (lv_at hl 0 rfl) ?_
  refine lv_iload_n hx hb dL_decode_3 rfl (lv_at hl 1 rfl) ?_
  rcases bdc_some hf with ⟨k, w1, hc, hf⟩ | ⟨x2, w1, hc, hf⟩
  · by_cases e_0 : k = 1
    · subst e_0
      rw [if_pos rfl] at hf
      refine q_xrunX (q_xV (As := [.int v1]) C hH (ci := 10) rfl (by omega) gk_L_126 yd_X10_decode (by omega) (by omega) kc_0 (c_X10_decode htr hc) hl.1 rfl (Nat.le_of_ble_eq_true rfl) dL_decode_4 ⟨by decide, by decide⟩) hH (fun H locs ce q hH h1 h2 h3 => ?_)
      refine q_catch C htab (pre := []) (x := (0, 9, 12, 21)) (suf := [(0, 9, 15, 15)]) (E := 1) rfl (by decide) rfl (by decide) (by decide) h1 h2 h3 ?_
      refine lv_astore_n (lv' := [(3, .ref q), (0, .ref (B + 0)), (1, .int v1), (2, .ref (B + 746))]) hx hb dL_decode_12 rfl hl (by decide) rfl (fun ls hl => ?_)
      refine lv_iconst (v := (1 : Int32)) hx hb dL_decode_13 (by decide) ?_
      cases hf
      exact W.widen (k := 2) (n := 6 * 2) (by decide) (by decide) (q_reti C hH trivial dL_decode_14)
    rw [if_neg e_0] at hf
    by_cases e_1 : k = 3
    · subst e_1
      rw [if_pos rfl] at hf
      refine q_xrunX (q_xV (As := [.int v1]) C hH (ci := 10) rfl (by omega) gk_L_126 yd_X10_decode (by omega) (by omega) kc_0 (c_X10_decode htr hc) hl.1 rfl (Nat.le_of_ble_eq_true rfl) dL_decode_4 ⟨by decide, by decide⟩) hH (fun H locs ce q hH h1 h2 h3 => ?_)
      refine q_catch C htab (pre := [(0, 9, 12, 21)]) (x := (0, 9, 15, 15)) (suf := []) (E := 3) rfl (by decide) rfl (by decide) (by decide) h1 h2 h3 ?_
      refine lv_astore_n (lv' := [(3, .ref q), (0, .ref (B + 0)), (1, .int v1), (2, .ref (B + 746))]) hx hb dL_decode_15 rfl hl (by decide) rfl (fun ls hl => ?_)
      refine lv_iconst (v := (2 : Int32)) hx hb dL_decode_16 (by decide) ?_
      cases hf
      exact W.widen (k := 2) (n := 6 * 2) (by decide) (by decide) (q_reti C hH trivial dL_decode_17)
    rw [if_neg e_1] at hf
    cases hf
  · refine q_xrun (ov := some (.int x2)) (q_xV (As := [.int v1]) C hH (ci := 10) rfl (by omega) gk_L_126 yd_X10_decode (by omega) (by omega) kc_0 (c_X10_decode htr hc) hl.1 rfl (Nat.le_of_ble_eq_true rfl) dL_decode_4 ⟨by decide, by decide⟩) hH (fun H locs hH hP => ?_)
    refine lv_i2l (v := x2.toInt64) hx hb dL_decode_7 rfl ?_
    refine g_last C hH kc_746 (by decide +kernel) hf dL_decode_8 (fun w3 H locs hf hH => ?_)
    refine lv_goto (tgt := 18) hx hb dL_decode_9 (by decide) ?_
    refine lv_iconst (v := (0 : Int32)) hx hb dL_decode_18 (by decide) ?_
    cases hf
    exact W.widen (k := 2) (n := 6 * 2) (by decide) (by decide) (q_reti C hH trivial dL_decode_19)
set_option maxRecDepth 100000 in
theorem c_L_decode {l : Launch} {D : va_G} {B : Nat} {Y : Nat → ClassId} {v1 : Int32} {w : Wd} {r : Int32} {w1 : Wd} (htr : l.stackTraces = false)  (hf : f_L_decode v1 w = some (r, w1)) : LM l D B Y yL_decode cL_decode 4 [(0, 9, 12, 21), (0, 9, 15, 15)] 3 2 [.ref (B + 0), .int v1, .ref (B + 746)] w r w1 :=
  LM_of (by decide +kernel) (Nat.le_of_ble_eq_true rfl) (fun p e s m args below meth c ls C htab hH hl => t_L_decode C htab htr  hH hl hf)
