set_option maxRecDepth 100000 in
set_option maxHeartbeats 8000000 in
theorem tb2_L_areAlike_225 {D : va_G} {A : Nat → Prop} {B B' : Nat} {Y : Nat → ClassId} {p : Program} {l : Launch} {e : Env} {s : State} {m : MethodId} {args : Array Value} {below : List Frame} {meth : Method} {c : Code} {z : Int32 × Wd × Wd} {H : Heap} {locs : List Loc} {ls : Array Slot} {w v : Wd} {v2 : Int32} {v3 : Int32} {v4 : Int32} {v5 : Int32} {cells slots : Nat} {rc_94 : Int32 × Int32 × Wd × Wd → Option (Int32 × Wd × Wd)} {rc_225 : Int32 × Int32 × Int32 × Int32 × Wd × Wd → Option (Int32 × Wd × Wd)} (C : CX2 D A Y p s m args meth c cL_areAlike 6 RL (some .boolean)) (htr : l.stackTraces = false) (hcs : cells ≤ 50 ∧ slots ≤ 6 * 50) (hr_94 : ∀ (v2 : Int32) (v3 : Int32) (w v : Wd), rc_94 (v2, v3, w, v) = some z → isZ v2 → ∀ (H : Heap) (locs : List Loc) (ls : Array Slot), HT D A B B' Y w v s H locs → lv_has ls 6 [(0, .ref (B + 0)), (1, .ref (B' + 0)), (2, .int v2), (3, .int v3)] → W p l e (RM 34 50 (6 * 50)) s m args below meth c H locs cells slots (MQ below (QG2 D A B B' Y (some (.int z.1)) z.2.1 z.2.2 (isZ z.1)) args s 50 (6 * 50) A) (F0 m 94 ls [])) (hr_225 : ∀ (v2 : Int32) (v3 : Int32) (v4 : Int32) (v5 : Int32) (w v : Wd), rc_225 (v2, v3, v4, v5, w, v) = some z → isZ v2 → ∀ (H : Heap) (locs : List Loc) (ls : Array Slot), HT D A B B' Y w v s H locs → lv_has ls 6 [(0, .ref (B + 0)), (1, .ref (B' + 0)), (2, .int v2), (3, .int v3), (4, .int v4), (5, .int v5)] → W p l e (RM 34 50 (6 * 50)) s m args below meth c H locs cells slots (MQ below (QG2 D A B B' Y (some (.int z.1)) z.2.1 z.2.2 (isZ z.1)) args s 50 (6 * 50) A) (F0 m 225 ls [])) (z_v2 : isZ v2) (hH : HT D A B B' Y w v s H locs) (hl : lv_has ls 6 [(0, .ref (B + 0)), (1, .ref (B' + 0)), (2, .int v2), (3, .int v3), (4, .int v4), (5, .int v5)]) (hf : g2_L_areAlike_225 rc_94 rc_225 v2 v3 v4 v5 w v = some z) : W p l e (RM 34 50 (6 * 50)) s m args below meth c H locs cells slots (MQ below (QG2 D A B B' Y (some (.int z.1)) z.2.1 z.2.2 (isZ z.1)) args s 50 (6 * 50) A) (F0 m 225 ls []) := by
  have hx := C.1
  have hb := C.2.1
  unfold g2_L_areAlike_225 at hf
  refine lv_iload hx hb dL_areAlike_225 (lv_at hl 5 rfl) ?_
  refine lv_iload hx hb dL_areAlike_227 (lv_at hl 4 rfl) ?_
  refine b_icmp_ge (tgt := 290) hx hb hf dL_areAlike_229 (by decide) (fun hf => ?_) (fun hf => ?_)
  · refine b_let hf (fun x1 he hf => ?_)
    refine lv_iinc (v := x1) (lv' := [(3, .int x1), (0, .ref (B + 0)), (1, .ref (B' + 0)), (2, .int v2), (4, .int v4), (5, .int v5)]) hx hb dL_areAlike_290 hl (k := 3) rfl (by rw [← he]; rfl) (by decide) rfl (fun ls hl => ?_)
    refine lv_goto (tgt := 94) hx hb dL_areAlike_293 (by decide) ?_
    exact hr_94 v2 x1 w v hf z_v2 _ _ _ hH (lv_sub hl [1, 2, 3, 0] rfl)
  · refine lv_iload_n hx hb dL_areAlike_232 rfl (lv_at hl 2 rfl) ?_
    refine b_if_eq (tgt := 290) hx hb hf dL_areAlike_233 (by decide) (fun hf => ?_) (fun hf => ?_)
    · refine b_let hf (fun x2 he hf => ?_)
      refine lv_iinc (v := x2) (lv' := [(3, .int x2), (0, .ref (B + 0)), (1, .ref (B' + 0)), (2, .int v2), (4, .int v4), (5, .int v5)]) hx hb dL_areAlike_290 hl (k := 3) rfl (by rw [← he]; rfl) (by decide) rfl (fun ls hl => ?_)
      refine lv_goto (tgt := 94) hx hb dL_areAlike_293 (by decide) ?_
      exact hr_94 v2 x2 w v hf z_v2 _ _ _ hH (lv_sub hl [1, 2, 3, 0] rfl)
    · refine lv_aload_n hx hb dL_areAlike_236 rfl (lv_at hl 0 rfl) ?_
      refine lv_iload_n hx hb dL_areAlike_237 rfl (lv_at hl 3 rfl) ?_
      refine lv_iload hx hb dL_areAlike_238 (lv_at hl 5 rfl) ?_
      obtain ⟨x4, w3, hc, hf⟩ := bdr_some hf
      refine q2_xV (As := [.int v3, .int v5]) C hH gk_L_112 yd_X10_at (c_X10_at (r := .inr x4) htr hc) (by exact Nat.le_of_ble_eq_true rfl) (by exact Nat.le_of_ble_eq_true rfl) hl.1 rfl (Nat.le_of_ble_eq_true rfl) dL_areAlike_240 ⟨(show _ ≤ 50 by omega), (show _ ≤ 6 * 50 by omega)⟩ (fun H locs hH hP => ?_)
      refine lv_aload_n hx hb dL_areAlike_243 rfl (lv_at hl 1 rfl) ?_
      refine lv_iload_n hx hb dL_areAlike_244 rfl (lv_at hl 3 rfl) ?_
      refine lv_iload hx hb dL_areAlike_245 (lv_at hl 5 rfl) ?_
      obtain ⟨x6, w5, hc, hf⟩ := bdr_some hf
      refine q2_xV (As := [.int v3, .int v5]) C hH.sy gk_L_112 yd_X10_at (c_X10_at (r := .inr x6) htr hc) (by exact Nat.le_of_ble_eq_true rfl) (by exact Nat.le_of_ble_eq_true rfl) hl.1 rfl (Nat.le_of_ble_eq_true rfl) dL_areAlike_247 ⟨(show _ ≤ 50 by omega), (show _ ≤ 6 * 50 by omega)⟩ (fun H locs hH hP => ?_)
      replace hH := hH.sy
      refine b_icmp_ne (tgt := 282) hx hb hf dL_areAlike_250 (by decide) (fun hf => ?_) (fun hf => ?_)
      · refine lv_iconst (v := (0 : Int32)) hx hb dL_areAlike_282 (by decide) ?_
        refine lv_istore_n (lv' := [(2, .int (0 : Int32)), (0, .ref (B + 0)), (1, .ref (B' + 0)), (3, .int v3), (4, .int v4), (5, .int v5)]) hx hb dL_areAlike_283 rfl hl (by decide) rfl (fun ls hl => ?_)
        refine b_let hf (fun x7 he hf => ?_)
        refine lv_iinc (v := x7) (lv' := [(5, .int x7), (2, .int (0 : Int32)), (0, .ref (B + 0)), (1, .ref (B' + 0)), (3, .int v3), (4, .int v4)]) hx hb dL_areAlike_284 hl (k := 5) rfl (by rw [← he]; rfl) (by decide) rfl (fun ls hl => ?_)
        refine lv_goto (tgt := 225) hx hb dL_areAlike_287 (by decide) ?_
        exact hr_225 (0 : Int32) v3 v4 x7 w3 w5 hf isZ_0 _ _ _ hH (lv_sub hl [2, 3, 1, 4, 5, 0] rfl)
      · refine lv_iload hx hb dL_areAlike_253 (lv_at hl 5 rfl) ?_
        refine lv_iconst (v := (3 : Int32)) hx hb dL_areAlike_255 (by decide) ?_
        refine b_icmp_ne (tgt := 278) hx hb hf dL_areAlike_256 (by decide) (fun hf => ?_) (fun hf => ?_)
        · refine lv_iconst (v := (1 : Int32)) hx hb dL_areAlike_278 (by decide) ?_
          refine lv_goto (tgt := 283) hx hb dL_areAlike_279 (by decide) ?_
          refine lv_istore_n (lv' := [(2, .int (1 : Int32)), (0, .ref (B + 0)), (1, .ref (B' + 0)), (3, .int v3), (4, .int v4), (5, .int v5)]) hx hb dL_areAlike_283 rfl hl (by decide) rfl (fun ls hl => ?_)
          refine b_let hf (fun x8 he hf => ?_)
          refine lv_iinc (v := x8) (lv' := [(5, .int x8), (2, .int (1 : Int32)), (0, .ref (B + 0)), (1, .ref (B' + 0)), (3, .int v3), (4, .int v4)]) hx hb dL_areAlike_284 hl (k := 5) rfl (by rw [← he]; rfl) (by decide) rfl (fun ls hl => ?_)
          refine lv_goto (tgt := 225) hx hb dL_areAlike_287 (by decide) ?_
          exact hr_225 (1 : Int32) v3 v4 x8 w3 w5 hf isZ_1 _ _ _ hH (lv_sub hl [2, 3, 1, 4, 5, 0] rfl)
        · refine lv_aload_n hx hb dL_areAlike_259 rfl (lv_at hl 0 rfl) ?_
          refine lv_iload_n hx hb dL_areAlike_260 rfl (lv_at hl 3 rfl) ?_
          refine lv_iload hx hb dL_areAlike_261 (lv_at hl 5 rfl) ?_
          refine lv_iconst (v := (-1 : Int32)) hx hb dL_areAlike_263 (by decide) ?_
          obtain ⟨x10, w9, hc, hf⟩ := bdr_some hf
          refine q2_xV (As := [.int v3, .int v5, .int (-1 : Int32)]) C hH gk_L_17 yd_X10_level (c_X10_level (r := .inr x10) htr hc) (by exact Nat.le_of_ble_eq_true rfl) (by exact Nat.le_of_ble_eq_true rfl) hl.1 rfl (Nat.le_of_ble_eq_true rfl) dL_areAlike_264 ⟨(show _ ≤ 50 by omega), (show _ ≤ 6 * 50 by omega)⟩ (fun H locs hH hP => ?_)
          refine lv_aload_n hx hb dL_areAlike_267 rfl (lv_at hl 1 rfl) ?_
          refine lv_iload_n hx hb dL_areAlike_268 rfl (lv_at hl 3 rfl) ?_
          refine lv_iload hx hb dL_areAlike_269 (lv_at hl 5 rfl) ?_
          refine lv_iconst (v := (-1 : Int32)) hx hb dL_areAlike_271 (by decide) ?_
          obtain ⟨x12, w11, hc, hf⟩ := bdr_some hf
          refine q2_xV (As := [.int v3, .int v5, .int (-1 : Int32)]) C hH.sy gk_L_17 yd_X10_level (c_X10_level (r := .inr x12) htr hc) (by exact Nat.le_of_ble_eq_true rfl) (by exact Nat.le_of_ble_eq_true rfl) hl.1 rfl (Nat.le_of_ble_eq_true rfl) dL_areAlike_272 ⟨(show _ ≤ 50 by omega), (show _ ≤ 6 * 50 by omega)⟩ (fun H locs hH hP => ?_)
          replace hH := hH.sy
          refine b_icmp_ne (tgt := 282) hx hb hf dL_areAlike_275 (by decide) (fun hf => ?_) (fun hf => ?_)
          · refine lv_iconst (v := (0 : Int32)) hx hb dL_areAlike_282 (by decide) ?_
            refine lv_istore_n (lv' := [(2, .int (0 : Int32)), (0, .ref (B + 0)), (1, .ref (B' + 0)), (3, .int v3), (4, .int v4), (5, .int v5)]) hx hb dL_areAlike_283 rfl hl (by decide) rfl (fun ls hl => ?_)
            refine b_let hf (fun x13 he hf => ?_)
            refine lv_iinc (v := x13) (lv' := [(5, .int x13), (2, .int (0 : Int32)), (0, .ref (B + 0)), (1, .ref (B' + 0)), (3, .int v3), (4, .int v4)]) hx hb dL_areAlike_284 hl (k := 5) rfl (by rw [← he]; rfl) (by decide) rfl (fun ls hl => ?_)
            refine lv_goto (tgt := 225) hx hb dL_areAlike_287 (by decide) ?_
            exact hr_225 (0 : Int32) v3 v4 x13 w9 w11 hf isZ_0 _ _ _ hH (lv_sub hl [2, 3, 1, 4, 5, 0] rfl)
          · refine lv_iconst (v := (1 : Int32)) hx hb dL_areAlike_278 (by decide) ?_
            refine lv_goto (tgt := 283) hx hb dL_areAlike_279 (by decide) ?_
            refine lv_istore_n (lv' := [(2, .int (1 : Int32)), (0, .ref (B + 0)), (1, .ref (B' + 0)), (3, .int v3), (4, .int v4), (5, .int v5)]) hx hb dL_areAlike_283 rfl hl (by decide) rfl (fun ls hl => ?_)
            refine b_let hf (fun x14 he hf => ?_)
            refine lv_iinc (v := x14) (lv' := [(5, .int x14), (2, .int (1 : Int32)), (0, .ref (B + 0)), (1, .ref (B' + 0)), (3, .int v3), (4, .int v4)]) hx hb dL_areAlike_284 hl (k := 5) rfl (by rw [← he]; rfl) (by decide) rfl (fun ls hl => ?_)
            refine lv_goto (tgt := 225) hx hb dL_areAlike_287 (by decide) ?_
            exact hr_225 (1 : Int32) v3 v4 x14 w9 w11 hf isZ_1 _ _ _ hH (lv_sub hl [2, 3, 1, 4, 5, 0] rfl)
set_option maxRecDepth 100000 in
set_option maxHeartbeats 8000000 in
theorem t2_L_areAlike_225 {D : va_G} {A : Nat → Prop} {B B' : Nat} {Y : Nat → ClassId} {p : Program} {l : Launch} {e : Env} {s : State} {m : MethodId} {args : Array Value} {below : List Frame} {meth : Method} {c : Code} {z : Int32 × Wd × Wd} {H : Heap} {locs : List Loc} {ls : Array Slot} {w v : Wd} {v2 : Int32} {v3 : Int32} {v4 : Int32} {v5 : Int32} {cells slots : Nat} {rc_94 : Int32 × Int32 × Wd × Wd → Option (Int32 × Wd × Wd)} (C : CX2 D A Y p s m args meth c cL_areAlike 6 RL (some .boolean)) (htr : l.stackTraces = false) (hcs : cells ≤ 50 ∧ slots ≤ 6 * 50) (hr_94 : ∀ (v2 : Int32) (v3 : Int32) (w v : Wd), rc_94 (v2, v3, w, v) = some z → isZ v2 → ∀ (H : Heap) (locs : List Loc) (ls : Array Slot), HT D A B B' Y w v s H locs → lv_has ls 6 [(0, .ref (B + 0)), (1, .ref (B' + 0)), (2, .int v2), (3, .int v3)] → W p l e (RM 34 50 (6 * 50)) s m args below meth c H locs cells slots (MQ below (QG2 D A B B' Y (some (.int z.1)) z.2.1 z.2.2 (isZ z.1)) args s 50 (6 * 50) A) (F0 m 94 ls [])) (z_v2 : isZ v2) (hH : HT D A B B' Y w v s H locs) (hl : lv_has ls 6 [(0, .ref (B + 0)), (1, .ref (B' + 0)), (2, .int v2), (3, .int v3), (4, .int v4), (5, .int v5)]) (hf : f2_L_areAlike_225 rc_94 v2 v3 v4 v5 w v = some z) : W p l e (RM 34 50 (6 * 50)) s m args below meth c H locs cells slots (MQ below (QG2 D A B B' Y (some (.int z.1)) z.2.1 z.2.2 (isZ z.1)) args s 50 (6 * 50) A) (F0 m 225 ls []) := by
  exact loopN_ind (z := z) (body := fun rc σ => g2_L_areAlike_225 rc_94 rc σ.1 σ.2.1 σ.2.2.1 σ.2.2.2.1 σ.2.2.2.2.1 σ.2.2.2.2.2)
    (P := fun σ => isZ σ.1 → ∀ (H : Heap) (locs : List Loc) (ls : Array Slot), HT D A B B' Y σ.2.2.2.2.1 σ.2.2.2.2.2 s H locs → lv_has ls 6 [(0, .ref (B + 0)), (1, .ref (B' + 0)), (2, .int σ.1), (3, .int σ.2.1), (4, .int σ.2.2.1), (5, .int σ.2.2.2.1)] → W p l e (RM 34 50 (6 * 50)) s m args below meth c H locs cells slots (MQ below (QG2 D A B B' Y (some (.int z.1)) z.2.1 z.2.2 (isZ z.1)) args s 50 (6 * 50) A) (F0 m 225 ls []))
    (fun rc hrec σ hf z_v2 H locs ls hH hl => tb2_L_areAlike_225 C htr hcs hr_94 (fun v2 v3 v4 v5 w v q z_v2 H locs ls hH hl => hrec (v2, v3, v4, v5, w, v) q z_v2 H locs ls hH hl) z_v2 hH hl hf) FU (v2, v3, v4, v5, w, v) hf z_v2 H locs ls hH hl
set_option maxRecDepth 100000 in
set_option maxHeartbeats 8000000 in
theorem tb2_L_areAlike_94 {D : va_G} {A : Nat → Prop} {B B' : Nat} {Y : Nat → ClassId} {p : Program} {l : Launch} {e : Env} {s : State} {m : MethodId} {args : Array Value} {below : List Frame} {meth : Method} {c : Code} {z : Int32 × Wd × Wd} {H : Heap} {locs : List Loc} {ls : Array Slot} {w v : Wd} {v2 : Int32} {v3 : Int32} {cells slots : Nat} {rc_94 : Int32 × Int32 × Wd × Wd → Option (Int32 × Wd × Wd)} (C : CX2 D A Y p s m args meth c cL_areAlike 6 RL (some .boolean)) (htr : l.stackTraces = false) (hcs : cells + 6 ≤ 50 ∧ slots + 36 ≤ 6 * 50) (hr_94 : ∀ (v2 : Int32) (v3 : Int32) (w v : Wd), rc_94 (v2, v3, w, v) = some z → isZ v2 → ∀ (H : Heap) (locs : List Loc) (ls : Array Slot), HT D A B B' Y w v s H locs → lv_has ls 6 [(0, .ref (B + 0)), (1, .ref (B' + 0)), (2, .int v2), (3, .int v3)] → W p l e (RM 34 50 (6 * 50)) s m args below meth c H locs (cells + 6) (slots + 36) (MQ below (QG2 D A B B' Y (some (.int z.1)) z.2.1 z.2.2 (isZ z.1)) args s 50 (6 * 50) A) (F0 m 94 ls [])) (z_v2 : isZ v2) (hH : HT D A B B' Y w v s H locs) (hl : lv_has ls 6 [(0, .ref (B + 0)), (1, .ref (B' + 0)), (2, .int v2), (3, .int v3)]) (hf : g2_L_areAlike_94 rc_94 v2 v3 w v = some z) : W p l e (RM 34 50 (6 * 50)) s m args below meth c H locs cells slots (MQ below (QG2 D A B B' Y (some (.int z.1)) z.2.1 z.2.2 (isZ z.1)) args s 50 (6 * 50) A) (F0 m 94 ls []) := by
  have hx := C.1
  have hb := C.2.1
  unfold g2_L_areAlike_94 at hf
  refine lv_iload_n hx hb dL_areAlike_94 rfl (lv_at hl 3 rfl) ?_
  refine lv_bipush (v := (6 : Int32)) hx hb dL_areAlike_95 (by decide) ?_
  refine b_icmp_ge (tgt := 296) hx hb hf dL_areAlike_97 (by decide) (fun hf => ?_) (fun hf => ?_)
  · refine lv_iload_n hx hb dL_areAlike_296 rfl (lv_at hl 2 rfl) ?_
    cases hf
    exact W.widen (k := 50) (n := 6 * 50) (by omega) (by omega) (q2_retz C hH z_v2 z_v2 dL_areAlike_297)
  · refine lv_iload_n hx hb dL_areAlike_100 rfl (lv_at hl 2 rfl) ?_
    refine b_if_eq (tgt := 296) hx hb hf dL_areAlike_101 (by decide) (fun hf => ?_) (fun hf => ?_)
    · refine lv_iload_n hx hb dL_areAlike_296 rfl (lv_at hl 2 rfl) ?_
      cases hf
      exact W.widen (k := 50) (n := 6 * 50) (by omega) (by omega) (q2_retz C hH z_v2 z_v2 dL_areAlike_297)
    · refine lv_aload_n hx hb dL_areAlike_104 rfl (lv_at hl 0 rfl) ?_
      refine lv_iload_n hx hb dL_areAlike_105 rfl (lv_at hl 3 rfl) ?_
      refine lv_iconst (v := (-1 : Int32)) hx hb dL_areAlike_106 (by decide) ?_
      obtain ⟨x2, w1, hc, hf⟩ := bdr_some hf
      refine q2_xV (As := [.int v3, .int (-1 : Int32)]) C hH gk_L_112 yd_X10_at (c_X10_at (r := .inr x2) htr hc) (by exact Nat.le_of_ble_eq_true rfl) (by exact Nat.le_of_ble_eq_true rfl) hl.1 rfl (Nat.le_of_ble_eq_true rfl) dL_areAlike_107 ⟨(show _ ≤ 50 by omega), (show _ ≤ 6 * 50 by omega)⟩ (fun H locs hH hP => ?_)
      refine lv_istore (lv' := [(4, .int x2), (0, .ref (B + 0)), (1, .ref (B' + 0)), (2, .int v2), (3, .int v3)]) hx hb dL_areAlike_110 hl (by decide) rfl (fun ls hl => ?_)
      refine lv_aload_n hx hb dL_areAlike_112 rfl (lv_at hl 2 rfl) ?_
      refine lv_iload_n hx hb dL_areAlike_113 rfl (lv_at hl 4 rfl) ?_
      refine lv_iconst (v := (-1 : Int32)) hx hb dL_areAlike_114 (by decide) ?_
      obtain ⟨x4, w3, hc, hf⟩ := bdr_some hf
      refine q2_xV (As := [.int v3, .int (-1 : Int32)]) C hH.sy gk_L_112 yd_X10_at (c_X10_at (r := .inr x4) htr hc) (by exact Nat.le_of_ble_eq_true rfl) (by exact Nat.le_of_ble_eq_true rfl) hl.1 rfl (Nat.le_of_ble_eq_true rfl) dL_areAlike_115 ⟨(show _ ≤ 50 by omega), (show _ ≤ 6 * 50 by omega)⟩ (fun H locs hH hP => ?_)
      replace hH := hH.sy
      refine lv_iload hx hb dL_areAlike_118 (lv_at hl 0 rfl) ?_
      refine b_icmp_ne (tgt := 220) hx hb hf dL_areAlike_120 (by decide) (fun hf => ?_) (fun hf => ?_)
      · refine lv_iconst (v := (0 : Int32)) hx hb dL_areAlike_220 (by decide) ?_
        refine lv_istore_n (lv' := [(2, .int (0 : Int32)), (4, .int x2), (0, .ref (B + 0)), (1, .ref (B' + 0)), (3, .int v3)]) hx hb dL_areAlike_221 rfl hl (by decide) rfl (fun ls hl => ?_)
        refine lv_iconst (v := (0 : Int32)) hx hb dL_areAlike_222 (by decide) ?_
        refine lv_istore (lv' := [(5, .int (0 : Int32)), (2, .int (0 : Int32)), (4, .int x2), (0, .ref (B + 0)), (1, .ref (B' + 0)), (3, .int v3)]) hx hb dL_areAlike_223 hl (by decide) rfl (fun ls hl => ?_)
        refine W.widen (k := cells + 6) (n := slots + 36) (by omega) (by omega) ?_
        exact t2_L_areAlike_225 C htr (by omega) hr_94 isZ_0 hH (lv_sub hl [3, 4, 1, 5, 2, 0] rfl) hf
      · refine lv_aload_n hx hb dL_areAlike_123 rfl (lv_at hl 1 rfl) ?_
        refine lv_bipush (v := (14 : Int32)) hx hb dL_areAlike_124 (by decide) ?_
        refine lv_iload_n hx hb dL_areAlike_126 rfl (lv_at hl 4 rfl) ?_
        refine lv_iconst (v := (0 : Int32)) hx hb dL_areAlike_127 (by decide) ?_
        refine lv_iconst (v := (0 : Int32)) hx hb dL_areAlike_128 (by decide) ?_
        obtain ⟨x6, w5, hc, hf⟩ := bd_some hf
        refine q2_callLW (As := [.ref (B + 0), .int (14 : Int32), .int v3, .int (0 : Int32), .int (0 : Int32)]) C hH (k := x6) (goodSW wd_431 wd_432 wd_49 wd_433) yd_L_does (c_L_does htr hc) (by exact Nat.le_of_ble_eq_true rfl) (by exact Nat.le_of_ble_eq_true rfl) hl.1 rfl (Nat.le_of_ble_eq_true rfl) dL_areAlike_129 ⟨(show _ ≤ 50 by omega), (show _ ≤ 6 * 50 by omega)⟩ (fun H locs hH => ?_)
        refine lv_aload_n hx hb dL_areAlike_132 rfl (lv_at hl 2 rfl) ?_
        refine lv_bipush (v := (14 : Int32)) hx hb dL_areAlike_133 (by decide) ?_
        refine lv_iload_n hx hb dL_areAlike_135 rfl (lv_at hl 4 rfl) ?_
        refine lv_iconst (v := (0 : Int32)) hx hb dL_areAlike_136 (by decide) ?_
        refine lv_iconst (v := (0 : Int32)) hx hb dL_areAlike_137 (by decide) ?_
        obtain ⟨x8, w7, hc, hf⟩ := bd_some hf
        refine q2_callLW (As := [.ref (B' + 0), .int (14 : Int32), .int v3, .int (0 : Int32), .int (0 : Int32)]) C hH.sy (k := x8) (goodSW wd_431 wd_432 wd_49 wd_433) yd_L_does (c_L_does htr hc) (by exact Nat.le_of_ble_eq_true rfl) (by exact Nat.le_of_ble_eq_true rfl) hl.1 rfl (Nat.le_of_ble_eq_true rfl) dL_areAlike_138 ⟨(show _ ≤ 50 by omega), (show _ ≤ 6 * 50 by omega)⟩ (fun H locs hH => ?_)
        replace hH := hH.sy
        refine b_icmp_ne (tgt := 220) hx hb hf dL_areAlike_141 (by decide) (fun hf => ?_) (fun hf => ?_)
        · refine lv_iconst (v := (0 : Int32)) hx hb dL_areAlike_220 (by decide) ?_
          refine lv_istore_n (lv' := [(2, .int (0 : Int32)), (4, .int x2), (0, .ref (B + 0)), (1, .ref (B' + 0)), (3, .int v3)]) hx hb dL_areAlike_221 rfl hl (by decide) rfl (fun ls hl => ?_)
          refine lv_iconst (v := (0 : Int32)) hx hb dL_areAlike_222 (by decide) ?_
          refine lv_istore (lv' := [(5, .int (0 : Int32)), (2, .int (0 : Int32)), (4, .int x2), (0, .ref (B + 0)), (1, .ref (B' + 0)), (3, .int v3)]) hx hb dL_areAlike_223 hl (by decide) rfl (fun ls hl => ?_)
          refine W.widen (k := cells + 6) (n := slots + 36) (by omega) (by omega) ?_
          exact t2_L_areAlike_225 C htr (by omega) hr_94 isZ_0 hH (lv_sub hl [3, 4, 1, 5, 2, 0] rfl) hf
        · refine lv_aload_n hx hb dL_areAlike_144 rfl (lv_at hl 1 rfl) ?_
          refine lv_iload_n hx hb dL_areAlike_145 rfl (lv_at hl 4 rfl) ?_
          obtain ⟨y10, w9, hc, hf⟩ := bd_some hf
          refine q2_callV (As := [.int v3]) C hH gk_L_173 yd_X10_word (c_X10_word hc) (by exact Nat.le_of_ble_eq_true rfl) (by exact Nat.le_of_ble_eq_true rfl) hl.1 rfl (Nat.le_of_ble_eq_true rfl) dL_areAlike_146 ⟨(show _ ≤ 50 by omega), (show _ ≤ 6 * 50 by omega)⟩ (fun H locs hH hP => ?_)
          refine lv_aload_n hx hb dL_areAlike_149 rfl (lv_at hl 2 rfl) ?_
          refine lv_iload_n hx hb dL_areAlike_150 rfl (lv_at hl 4 rfl) ?_
          obtain ⟨y12, w11, hc, hf⟩ := bd_some hf
          refine q2_callV (As := [.int v3]) C hH.sy gk_L_173 yd_X10_word (c_X10_word hc) (by exact Nat.le_of_ble_eq_true rfl) (by exact Nat.le_of_ble_eq_true rfl) hl.1 rfl (Nat.le_of_ble_eq_true rfl) dL_areAlike_151 ⟨(show _ ≤ 50 by omega), (show _ ≤ 6 * 50 by omega)⟩ (fun H locs hH hP => ?_)
          replace hH := hH.sy
          refine W.lcmp hx hb dL_areAlike_154 ?_
          refine b_if_ne (tgt := 220) hx hb hf dL_areAlike_155 (by decide) (fun hf => ?_) (fun hf => ?_)
          · refine lv_iconst (v := (0 : Int32)) hx hb dL_areAlike_220 (by decide) ?_
            refine lv_istore_n (lv' := [(2, .int (0 : Int32)), (4, .int x2), (0, .ref (B + 0)), (1, .ref (B' + 0)), (3, .int v3)]) hx hb dL_areAlike_221 rfl hl (by decide) rfl (fun ls hl => ?_)
            refine lv_iconst (v := (0 : Int32)) hx hb dL_areAlike_222 (by decide) ?_
            refine lv_istore (lv' := [(5, .int (0 : Int32)), (2, .int (0 : Int32)), (4, .int x2), (0, .ref (B + 0)), (1, .ref (B' + 0)), (3, .int v3)]) hx hb dL_areAlike_223 hl (by decide) rfl (fun ls hl => ?_)
            refine W.widen (k := cells + 6) (n := slots + 36) (by omega) (by omega) ?_
            exact t2_L_areAlike_225 C htr (by omega) hr_94 isZ_0 hH (lv_sub hl [3, 4, 1, 5, 2, 0] rfl) hf
          · refine lv_aload_n hx hb dL_areAlike_158 rfl (lv_at hl 1 rfl) ?_
            refine lv_iload_n hx hb dL_areAlike_159 rfl (lv_at hl 4 rfl) ?_
            refine lv_iconst (v := (2 : Int32)) hx hb dL_areAlike_160 (by decide) ?_
            obtain ⟨y14, w13, hc, hf⟩ := bdr_some hf
            refine q2_xV (As := [.int v3, .int (2 : Int32)]) C hH gk_L_177 yd_X10_breaks (c_X10_breaks (r := .inr y14) htr hc) (by exact Nat.le_of_ble_eq_true rfl) (by exact Nat.le_of_ble_eq_true rfl) hl.1 rfl (Nat.le_of_ble_eq_true rfl) dL_areAlike_161 ⟨(show _ ≤ 50 by omega), (show _ ≤ 6 * 50 by omega)⟩ (fun H locs hH hP => ?_)
            refine lv_aload_n hx hb dL_areAlike_164 rfl (lv_at hl 2 rfl) ?_
            refine lv_iload_n hx hb dL_areAlike_165 rfl (lv_at hl 4 rfl) ?_
            refine lv_iconst (v := (2 : Int32)) hx hb dL_areAlike_166 (by decide) ?_
            obtain ⟨y16, w15, hc, hf⟩ := bdr_some hf
            refine q2_xV (As := [.int v3, .int (2 : Int32)]) C hH.sy gk_L_177 yd_X10_breaks (c_X10_breaks (r := .inr y16) htr hc) (by exact Nat.le_of_ble_eq_true rfl) (by exact Nat.le_of_ble_eq_true rfl) hl.1 rfl (Nat.le_of_ble_eq_true rfl) dL_areAlike_167 ⟨(show _ ≤ 50 by omega), (show _ ≤ 6 * 50 by omega)⟩ (fun H locs hH hP => ?_)
            replace hH := hH.sy
            refine W.lcmp hx hb dL_areAlike_170 ?_
            refine b_if_ne (tgt := 220) hx hb hf dL_areAlike_171 (by decide) (fun hf => ?_) (fun hf => ?_)
            · refine lv_iconst (v := (0 : Int32)) hx hb dL_areAlike_220 (by decide) ?_
              refine lv_istore_n (lv' := [(2, .int (0 : Int32)), (4, .int x2), (0, .ref (B + 0)), (1, .ref (B' + 0)), (3, .int v3)]) hx hb dL_areAlike_221 rfl hl (by decide) rfl (fun ls hl => ?_)
              refine lv_iconst (v := (0 : Int32)) hx hb dL_areAlike_222 (by decide) ?_
              refine lv_istore (lv' := [(5, .int (0 : Int32)), (2, .int (0 : Int32)), (4, .int x2), (0, .ref (B + 0)), (1, .ref (B' + 0)), (3, .int v3)]) hx hb dL_areAlike_223 hl (by decide) rfl (fun ls hl => ?_)
              refine W.widen (k := cells + 6) (n := slots + 36) (by omega) (by omega) ?_
              exact t2_L_areAlike_225 C htr (by omega) hr_94 isZ_0 hH (lv_sub hl [3, 4, 1, 5, 2, 0] rfl) hf
            · refine lv_aload_n hx hb dL_areAlike_174 rfl (lv_at hl 1 rfl) ?_
              refine lv_bipush (v := (20 : Int32)) hx hb dL_areAlike_175 (by decide) ?_
              refine lv_iconst (v := (0 : Int32)) hx hb dL_areAlike_177 (by decide) ?_
              refine lv_iload_n hx hb dL_areAlike_178 rfl (lv_at hl 4 rfl) ?_
              refine lv_iconst (v := (-1 : Int32)) hx hb dL_areAlike_179 (by decide) ?_
              obtain ⟨x18, w17, hc, hf⟩ := bd_some hf
              refine q2_callLW (As := [.ref (B + 0), .int (20 : Int32), .int (0 : Int32), .int v3, .int (-1 : Int32)]) C hH (k := x18) (goodSW wd_431 wd_432 wd_49 wd_433) yd_L_does (c_L_does htr hc) (by exact Nat.le_of_ble_eq_true rfl) (by exact Nat.le_of_ble_eq_true rfl) hl.1 rfl (Nat.le_of_ble_eq_true rfl) dL_areAlike_180 ⟨(show _ ≤ 50 by omega), (show _ ≤ 6 * 50 by omega)⟩ (fun H locs hH => ?_)
              refine lv_aload_n hx hb dL_areAlike_183 rfl (lv_at hl 2 rfl) ?_
              refine lv_bipush (v := (20 : Int32)) hx hb dL_areAlike_184 (by decide) ?_
              refine lv_iconst (v := (0 : Int32)) hx hb dL_areAlike_186 (by decide) ?_
              refine lv_iload_n hx hb dL_areAlike_187 rfl (lv_at hl 4 rfl) ?_
              refine lv_iconst (v := (-1 : Int32)) hx hb dL_areAlike_188 (by decide) ?_
              obtain ⟨x20, w19, hc, hf⟩ := bd_some hf
              refine q2_callLW (As := [.ref (B' + 0), .int (20 : Int32), .int (0 : Int32), .int v3, .int (-1 : Int32)]) C hH.sy (k := x20) (goodSW wd_431 wd_432 wd_49 wd_433) yd_L_does (c_L_does htr hc) (by exact Nat.le_of_ble_eq_true rfl) (by exact Nat.le_of_ble_eq_true rfl) hl.1 rfl (Nat.le_of_ble_eq_true rfl) dL_areAlike_189 ⟨(show _ ≤ 50 by omega), (show _ ≤ 6 * 50 by omega)⟩ (fun H locs hH => ?_)
              replace hH := hH.sy
              refine b_icmp_ne (tgt := 220) hx hb hf dL_areAlike_192 (by decide) (fun hf => ?_) (fun hf => ?_)
              · refine lv_iconst (v := (0 : Int32)) hx hb dL_areAlike_220 (by decide) ?_
                refine lv_istore_n (lv' := [(2, .int (0 : Int32)), (4, .int x2), (0, .ref (B + 0)), (1, .ref (B' + 0)), (3, .int v3)]) hx hb dL_areAlike_221 rfl hl (by decide) rfl (fun ls hl => ?_)
                refine lv_iconst (v := (0 : Int32)) hx hb dL_areAlike_222 (by decide) ?_
                refine lv_istore (lv' := [(5, .int (0 : Int32)), (2, .int (0 : Int32)), (4, .int x2), (0, .ref (B + 0)), (1, .ref (B' + 0)), (3, .int v3)]) hx hb dL_areAlike_223 hl (by decide) rfl (fun ls hl => ?_)
                refine W.widen (k := cells + 6) (n := slots + 36) (by omega) (by omega) ?_
                exact t2_L_areAlike_225 C htr (by omega) hr_94 isZ_0 hH (lv_sub hl [3, 4, 1, 5, 2, 0] rfl) hf
              · refine lv_aload_n hx hb dL_areAlike_195 rfl (lv_at hl 1 rfl) ?_
                refine lv_bipush (v := (23 : Int32)) hx hb dL_areAlike_196 (by decide) ?_
                refine lv_iload_n hx hb dL_areAlike_198 rfl (lv_at hl 4 rfl) ?_
                refine lv_iconst (v := (0 : Int32)) hx hb dL_areAlike_199 (by decide) ?_
                refine lv_iconst (v := (0 : Int32)) hx hb dL_areAlike_200 (by decide) ?_
                obtain ⟨x22, w21, hc, hf⟩ := bd_some hf
                refine q2_callLW (As := [.ref (B + 0), .int (23 : Int32), .int v3, .int (0 : Int32), .int (0 : Int32)]) C hH (k := x22) (goodSW wd_431 wd_432 wd_49 wd_433) yd_L_does (c_L_does htr hc) (by exact Nat.le_of_ble_eq_true rfl) (by exact Nat.le_of_ble_eq_true rfl) hl.1 rfl (Nat.le_of_ble_eq_true rfl) dL_areAlike_201 ⟨(show _ ≤ 50 by omega), (show _ ≤ 6 * 50 by omega)⟩ (fun H locs hH => ?_)
                refine lv_aload_n hx hb dL_areAlike_204 rfl (lv_at hl 2 rfl) ?_
                refine lv_bipush (v := (23 : Int32)) hx hb dL_areAlike_205 (by decide) ?_
                refine lv_iload_n hx hb dL_areAlike_207 rfl (lv_at hl 4 rfl) ?_
                refine lv_iconst (v := (0 : Int32)) hx hb dL_areAlike_208 (by decide) ?_
                refine lv_iconst (v := (0 : Int32)) hx hb dL_areAlike_209 (by decide) ?_
                obtain ⟨x24, w23, hc, hf⟩ := bd_some hf
                refine q2_callLW (As := [.ref (B' + 0), .int (23 : Int32), .int v3, .int (0 : Int32), .int (0 : Int32)]) C hH.sy (k := x24) (goodSW wd_431 wd_432 wd_49 wd_433) yd_L_does (c_L_does htr hc) (by exact Nat.le_of_ble_eq_true rfl) (by exact Nat.le_of_ble_eq_true rfl) hl.1 rfl (Nat.le_of_ble_eq_true rfl) dL_areAlike_210 ⟨(show _ ≤ 50 by omega), (show _ ≤ 6 * 50 by omega)⟩ (fun H locs hH => ?_)
                replace hH := hH.sy
                refine b_icmp_ne (tgt := 220) hx hb hf dL_areAlike_213 (by decide) (fun hf => ?_) (fun hf => ?_)
                · refine lv_iconst (v := (0 : Int32)) hx hb dL_areAlike_220 (by decide) ?_
                  refine lv_istore_n (lv' := [(2, .int (0 : Int32)), (4, .int x2), (0, .ref (B + 0)), (1, .ref (B' + 0)), (3, .int v3)]) hx hb dL_areAlike_221 rfl hl (by decide) rfl (fun ls hl => ?_)
                  refine lv_iconst (v := (0 : Int32)) hx hb dL_areAlike_222 (by decide) ?_
                  refine lv_istore (lv' := [(5, .int (0 : Int32)), (2, .int (0 : Int32)), (4, .int x2), (0, .ref (B + 0)), (1, .ref (B' + 0)), (3, .int v3)]) hx hb dL_areAlike_223 hl (by decide) rfl (fun ls hl => ?_)
                  refine W.widen (k := cells + 6) (n := slots + 36) (by omega) (by omega) ?_
                  exact t2_L_areAlike_225 C htr (by omega) hr_94 isZ_0 hH (lv_sub hl [3, 4, 1, 5, 2, 0] rfl) hf
                · refine lv_iconst (v := (1 : Int32)) hx hb dL_areAlike_216 (by decide) ?_
                  refine lv_goto (tgt := 221) hx hb dL_areAlike_217 (by decide) ?_
                  refine lv_istore_n (lv' := [(2, .int (1 : Int32)), (4, .int x2), (0, .ref (B + 0)), (1, .ref (B' + 0)), (3, .int v3)]) hx hb dL_areAlike_221 rfl hl (by decide) rfl (fun ls hl => ?_)
                  refine lv_iconst (v := (0 : Int32)) hx hb dL_areAlike_222 (by decide) ?_
                  refine lv_istore (lv' := [(5, .int (0 : Int32)), (2, .int (1 : Int32)), (4, .int x2), (0, .ref (B + 0)), (1, .ref (B' + 0)), (3, .int v3)]) hx hb dL_areAlike_223 hl (by decide) rfl (fun ls hl => ?_)
                  refine W.widen (k := cells + 6) (n := slots + 36) (by omega) (by omega) ?_
                  exact t2_L_areAlike_225 C htr (by omega) hr_94 isZ_1 hH (lv_sub hl [3, 4, 1, 5, 2, 0] rfl) hf
set_option maxRecDepth 100000 in
set_option maxHeartbeats 8000000 in
theorem t2_L_areAlike_94 {D : va_G} {A : Nat → Prop} {B B' : Nat} {Y : Nat → ClassId} {p : Program} {l : Launch} {e : Env} {s : State} {m : MethodId} {args : Array Value} {below : List Frame} {meth : Method} {c : Code} {z : Int32 × Wd × Wd} (C : CX2 D A Y p s m args meth c cL_areAlike 6 RL (some .boolean)) (htr : l.stackTraces = false) : ∀ (n : Nat) (σ : Int32 × Int32 × Wd × Wd), loopN (fun rc σ => g2_L_areAlike_94 rc σ.1 σ.2.1 σ.2.2.1 σ.2.2.2) n σ = some z → n ≤ 7 → isZ σ.1 → ∀ (H : Heap) (locs : List Loc) (ls : Array Slot), HT D A B B' Y σ.2.2.1 σ.2.2.2 s H locs → lv_has ls 6 [(0, .ref (B + 0)), (1, .ref (B' + 0)), (2, .int σ.1), (3, .int σ.2.1)] → W p l e (RM 34 50 (6 * 50)) s m args below meth c H locs (8 + (7 - n) * 6) (48 + (7 - n) * 36) (MQ below (QG2 D A B B' Y (some (.int z.1)) z.2.1 z.2.2 (isZ z.1)) args s 50 (6 * 50) A) (F0 m 94 ls []) := by
  refine loopN_indN (z := z) (P := fun (n : Nat) (σ : Int32 × Int32 × Wd × Wd) => n ≤ 7 → isZ σ.1 → ∀ (H : Heap) (locs : List Loc) (ls : Array Slot), HT D A B B' Y σ.2.2.1 σ.2.2.2 s H locs → lv_has ls 6 [(0, .ref (B + 0)), (1, .ref (B' + 0)), (2, .int σ.1), (3, .int σ.2.1)] → W p l e (RM 34 50 (6 * 50)) s m args below meth c H locs (8 + (7 - n) * 6) (48 + (7 - n) * 36) (MQ below (QG2 D A B B' Y (some (.int z.1)) z.2.1 z.2.2 (isZ z.1)) args s 50 (6 * 50) A) (F0 m 94 ls [])) (fun n rc hrec σ hf hn z_v2 H locs ls hH hl => ?_)
  refine tb2_L_areAlike_94 C htr (cells := 8 + (7 - (n + 1)) * 6) (slots := 48 + (7 - (n + 1)) * 36) (by omega) (fun v2 v3 w v q z_v2 H locs ls hH hl => ?_) z_v2 hH hl hf
  have h := hrec (v2, v3, w, v) q (by omega) z_v2 H locs ls hH hl
  rw [show 8 + (7 - (n + 1)) * 6 + 6 = 8 + (7 - n) * 6 by omega, show 48 + (7 - (n + 1)) * 36 + 36 = 48 + (7 - n) * 36 by omega]
  exact h
set_option maxRecDepth 100000 in
set_option maxHeartbeats 8000000 in
theorem t2_L_areAlike_0 {D : va_G} {A : Nat → Prop} {B B' : Nat} {Y : Nat → ClassId} {p : Program} {l : Launch} {e : Env} {s : State} {m : MethodId} {args : Array Value} {below : List Frame} {meth : Method} {c : Code} {z : Int32 × Wd × Wd} {H : Heap} {locs : List Loc} {ls : Array Slot} {w v : Wd} (C : CX2 D A Y p s m args meth c cL_areAlike 6 RL (some .boolean)) (htr : l.stackTraces = false) (hH : HT D A B B' Y w v s H locs) (hl : lv_has ls 6 [(0, .ref (B + 0)), (1, .ref (B' + 0))]) (hf : f2_L_areAlike w v = some z) : W p l e (RM 34 50 (6 * 50)) s m args below meth c H locs 0 0 (MQ below (QG2 D A B B' Y (some (.int z.1)) z.2.1 z.2.2 (isZ z.1)) args s 50 (6 * 50) A) (F0 m 0 ls []) := by
  have hx := C.1
  have hb := C.2.1
  unfold f2_L_areAlike at hf
  refine lv_aload_n hx hb dL_areAlike_0 rfl (lv_at hl 0 rfl) ?_
  refine lv_bipush (v := (13 : Int32)) hx hb dL_areAlike_1 (by decide) ?_
  refine lv_iconst (v := (0 : Int32)) hx hb dL_areAlike_3 (by decide) ?_
  refine lv_iconst (v := (1 : Int32)) hx hb dL_areAlike_4 (by decide) ?_
  refine lv_iconst (v := (0 : Int32)) hx hb dL_areAlike_5 (by decide) ?_
  obtain ⟨x2, w1, hc, hf⟩ := bd_some hf
  refine q2_callLW (As := [.ref (B + 0), .int (13 : Int32), .int (0 : Int32), .int (1 : Int32), .int (0 : Int32)]) C hH (k := x2) (goodSW wd_431 wd_432 wd_49 wd_433) yd_L_does (c_L_does htr hc) (by exact Nat.le_of_ble_eq_true rfl) (by exact Nat.le_of_ble_eq_true rfl) hl.1 rfl (Nat.le_of_ble_eq_true rfl) dL_areAlike_6 ⟨(show _ ≤ 50 by omega), (show _ ≤ 6 * 50 by omega)⟩ (fun H locs hH => ?_)
  refine lv_aload_n hx hb dL_areAlike_9 rfl (lv_at hl 1 rfl) ?_
  refine lv_bipush (v := (13 : Int32)) hx hb dL_areAlike_10 (by decide) ?_
  refine lv_iconst (v := (0 : Int32)) hx hb dL_areAlike_12 (by decide) ?_
  refine lv_iconst (v := (1 : Int32)) hx hb dL_areAlike_13 (by decide) ?_
  refine lv_iconst (v := (0 : Int32)) hx hb dL_areAlike_14 (by decide) ?_
  obtain ⟨x4, w3, hc, hf⟩ := bd_some hf
  refine q2_callLW (As := [.ref (B' + 0), .int (13 : Int32), .int (0 : Int32), .int (1 : Int32), .int (0 : Int32)]) C hH.sy (k := x4) (goodSW wd_431 wd_432 wd_49 wd_433) yd_L_does (c_L_does htr hc) (by exact Nat.le_of_ble_eq_true rfl) (by exact Nat.le_of_ble_eq_true rfl) hl.1 rfl (Nat.le_of_ble_eq_true rfl) dL_areAlike_15 ⟨(show _ ≤ 50 by omega), (show _ ≤ 6 * 50 by omega)⟩ (fun H locs hH => ?_)
  replace hH := hH.sy
  refine b_icmp_ne (tgt := 90) hx hb hf dL_areAlike_18 (by decide) (fun hf => ?_) (fun hf => ?_)
  · refine lv_iconst (v := (0 : Int32)) hx hb dL_areAlike_90 (by decide) ?_
    refine lv_istore_n (lv' := [(2, .int (0 : Int32)), (0, .ref (B + 0)), (1, .ref (B' + 0))]) hx hb dL_areAlike_91 rfl hl (by decide) rfl (fun ls hl => ?_)
    refine lv_iconst (v := (0 : Int32)) hx hb dL_areAlike_92 (by decide) ?_
    refine lv_istore_n (lv' := [(3, .int (0 : Int32)), (2, .int (0 : Int32)), (0, .ref (B + 0)), (1, .ref (B' + 0))]) hx hb dL_areAlike_93 rfl hl (by decide) rfl (fun ls hl => ?_)
    refine W.widen (k := 8 + (7 - 7) * 6) (n := 48 + (7 - 7) * 36) (by omega) (by omega) ?_
    exact t2_L_areAlike_94 C htr 7 _ hf (Nat.le_refl _) isZ_0 _ _ _ hH (lv_sub hl [2, 3, 1, 0] rfl)
  · refine lv_aload_n hx hb dL_areAlike_21 rfl (lv_at hl 0 rfl) ?_
    refine lv_bipush (v := (19 : Int32)) hx hb dL_areAlike_22 (by decide) ?_
    refine lv_iconst (v := (0 : Int32)) hx hb dL_areAlike_24 (by decide) ?_
    refine lv_iconst (v := (0 : Int32)) hx hb dL_areAlike_25 (by decide) ?_
    refine lv_iconst (v := (1 : Int32)) hx hb dL_areAlike_26 (by decide) ?_
    obtain ⟨x6, w5, hc, hf⟩ := bd_some hf
    refine q2_callLW (As := [.ref (B + 0), .int (19 : Int32), .int (0 : Int32), .int (0 : Int32), .int (1 : Int32)]) C hH (k := x6) (goodSW wd_431 wd_432 wd_49 wd_433) yd_L_does (c_L_does htr hc) (by exact Nat.le_of_ble_eq_true rfl) (by exact Nat.le_of_ble_eq_true rfl) hl.1 rfl (Nat.le_of_ble_eq_true rfl) dL_areAlike_27 ⟨(show _ ≤ 50 by omega), (show _ ≤ 6 * 50 by omega)⟩ (fun H locs hH => ?_)
    refine lv_aload_n hx hb dL_areAlike_30 rfl (lv_at hl 1 rfl) ?_
    refine lv_bipush (v := (19 : Int32)) hx hb dL_areAlike_31 (by decide) ?_
    refine lv_iconst (v := (0 : Int32)) hx hb dL_areAlike_33 (by decide) ?_
    refine lv_iconst (v := (0 : Int32)) hx hb dL_areAlike_34 (by decide) ?_
    refine lv_iconst (v := (1 : Int32)) hx hb dL_areAlike_35 (by decide) ?_
    obtain ⟨x8, w7, hc, hf⟩ := bd_some hf
    refine q2_callLW (As := [.ref (B' + 0), .int (19 : Int32), .int (0 : Int32), .int (0 : Int32), .int (1 : Int32)]) C hH.sy (k := x8) (goodSW wd_431 wd_432 wd_49 wd_433) yd_L_does (c_L_does htr hc) (by exact Nat.le_of_ble_eq_true rfl) (by exact Nat.le_of_ble_eq_true rfl) hl.1 rfl (Nat.le_of_ble_eq_true rfl) dL_areAlike_36 ⟨(show _ ≤ 50 by omega), (show _ ≤ 6 * 50 by omega)⟩ (fun H locs hH => ?_)
    replace hH := hH.sy
    refine b_icmp_ne (tgt := 90) hx hb hf dL_areAlike_39 (by decide) (fun hf => ?_) (fun hf => ?_)
    · refine lv_iconst (v := (0 : Int32)) hx hb dL_areAlike_90 (by decide) ?_
      refine lv_istore_n (lv' := [(2, .int (0 : Int32)), (0, .ref (B + 0)), (1, .ref (B' + 0))]) hx hb dL_areAlike_91 rfl hl (by decide) rfl (fun ls hl => ?_)
      refine lv_iconst (v := (0 : Int32)) hx hb dL_areAlike_92 (by decide) ?_
      refine lv_istore_n (lv' := [(3, .int (0 : Int32)), (2, .int (0 : Int32)), (0, .ref (B + 0)), (1, .ref (B' + 0))]) hx hb dL_areAlike_93 rfl hl (by decide) rfl (fun ls hl => ?_)
      refine W.widen (k := 8 + (7 - 7) * 6) (n := 48 + (7 - 7) * 36) (by omega) (by omega) ?_
      exact t2_L_areAlike_94 C htr 7 _ hf (Nat.le_refl _) isZ_0 _ _ _ hH (lv_sub hl [2, 3, 1, 0] rfl)
    · refine lv_aload_n hx hb dL_areAlike_42 rfl (lv_at hl 0 rfl) ?_
      refine lv_bipush (v := (21 : Int32)) hx hb dL_areAlike_43 (by decide) ?_
      refine lv_iconst (v := (0 : Int32)) hx hb dL_areAlike_45 (by decide) ?_
      refine lv_iconst (v := (1 : Int32)) hx hb dL_areAlike_46 (by decide) ?_
      refine lv_iconst (v := (0 : Int32)) hx hb dL_areAlike_47 (by decide) ?_
      obtain ⟨x10, w9, hc, hf⟩ := bd_some hf
      refine q2_callLW (As := [.ref (B + 0), .int (21 : Int32), .int (0 : Int32), .int (1 : Int32), .int (0 : Int32)]) C hH (k := x10) (goodSW wd_431 wd_432 wd_49 wd_433) yd_L_does (c_L_does htr hc) (by exact Nat.le_of_ble_eq_true rfl) (by exact Nat.le_of_ble_eq_true rfl) hl.1 rfl (Nat.le_of_ble_eq_true rfl) dL_areAlike_48 ⟨(show _ ≤ 50 by omega), (show _ ≤ 6 * 50 by omega)⟩ (fun H locs hH => ?_)
      refine lv_aload_n hx hb dL_areAlike_51 rfl (lv_at hl 1 rfl) ?_
      refine lv_bipush (v := (21 : Int32)) hx hb dL_areAlike_52 (by decide) ?_
      refine lv_iconst (v := (0 : Int32)) hx hb dL_areAlike_54 (by decide) ?_
      refine lv_iconst (v := (1 : Int32)) hx hb dL_areAlike_55 (by decide) ?_
      refine lv_iconst (v := (0 : Int32)) hx hb dL_areAlike_56 (by decide) ?_
      obtain ⟨x12, w11, hc, hf⟩ := bd_some hf
      refine q2_callLW (As := [.ref (B' + 0), .int (21 : Int32), .int (0 : Int32), .int (1 : Int32), .int (0 : Int32)]) C hH.sy (k := x12) (goodSW wd_431 wd_432 wd_49 wd_433) yd_L_does (c_L_does htr hc) (by exact Nat.le_of_ble_eq_true rfl) (by exact Nat.le_of_ble_eq_true rfl) hl.1 rfl (Nat.le_of_ble_eq_true rfl) dL_areAlike_57 ⟨(show _ ≤ 50 by omega), (show _ ≤ 6 * 50 by omega)⟩ (fun H locs hH => ?_)
      replace hH := hH.sy
      refine b_icmp_ne (tgt := 90) hx hb hf dL_areAlike_60 (by decide) (fun hf => ?_) (fun hf => ?_)
      · refine lv_iconst (v := (0 : Int32)) hx hb dL_areAlike_90 (by decide) ?_
        refine lv_istore_n (lv' := [(2, .int (0 : Int32)), (0, .ref (B + 0)), (1, .ref (B' + 0))]) hx hb dL_areAlike_91 rfl hl (by decide) rfl (fun ls hl => ?_)
        refine lv_iconst (v := (0 : Int32)) hx hb dL_areAlike_92 (by decide) ?_
        refine lv_istore_n (lv' := [(3, .int (0 : Int32)), (2, .int (0 : Int32)), (0, .ref (B + 0)), (1, .ref (B' + 0))]) hx hb dL_areAlike_93 rfl hl (by decide) rfl (fun ls hl => ?_)
        refine W.widen (k := 8 + (7 - 7) * 6) (n := 48 + (7 - 7) * 36) (by omega) (by omega) ?_
        exact t2_L_areAlike_94 C htr 7 _ hf (Nat.le_refl _) isZ_0 _ _ _ hH (lv_sub hl [2, 3, 1, 0] rfl)
      · refine lv_aload_n hx hb dL_areAlike_63 rfl (lv_at hl 0 rfl) ?_
        refine lv_bipush (v := (25 : Int32)) hx hb dL_areAlike_64 (by decide) ?_
        refine lv_iconst (v := (0 : Int32)) hx hb dL_areAlike_66 (by decide) ?_
        refine lv_bipush (v := (7 : Int32)) hx hb dL_areAlike_67 (by decide) ?_
        refine lv_iconst (v := (0 : Int32)) hx hb dL_areAlike_69 (by decide) ?_
        obtain ⟨x14, w13, hc, hf⟩ := bd_some hf
        refine q2_callLW (As := [.ref (B + 0), .int (25 : Int32), .int (0 : Int32), .int (7 : Int32), .int (0 : Int32)]) C hH (k := x14) (goodSW wd_431 wd_432 wd_49 wd_433) yd_L_does (c_L_does htr hc) (by exact Nat.le_of_ble_eq_true rfl) (by exact Nat.le_of_ble_eq_true rfl) hl.1 rfl (Nat.le_of_ble_eq_true rfl) dL_areAlike_70 ⟨(show _ ≤ 50 by omega), (show _ ≤ 6 * 50 by omega)⟩ (fun H locs hH => ?_)
        refine lv_aload_n hx hb dL_areAlike_73 rfl (lv_at hl 1 rfl) ?_
        refine lv_bipush (v := (25 : Int32)) hx hb dL_areAlike_74 (by decide) ?_
        refine lv_iconst (v := (0 : Int32)) hx hb dL_areAlike_76 (by decide) ?_
        refine lv_bipush (v := (7 : Int32)) hx hb dL_areAlike_77 (by decide) ?_
        refine lv_iconst (v := (0 : Int32)) hx hb dL_areAlike_79 (by decide) ?_
        obtain ⟨x16, w15, hc, hf⟩ := bd_some hf
        refine q2_callLW (As := [.ref (B' + 0), .int (25 : Int32), .int (0 : Int32), .int (7 : Int32), .int (0 : Int32)]) C hH.sy (k := x16) (goodSW wd_431 wd_432 wd_49 wd_433) yd_L_does (c_L_does htr hc) (by exact Nat.le_of_ble_eq_true rfl) (by exact Nat.le_of_ble_eq_true rfl) hl.1 rfl (Nat.le_of_ble_eq_true rfl) dL_areAlike_80 ⟨(show _ ≤ 50 by omega), (show _ ≤ 6 * 50 by omega)⟩ (fun H locs hH => ?_)
        replace hH := hH.sy
        refine b_icmp_ne (tgt := 90) hx hb hf dL_areAlike_83 (by decide) (fun hf => ?_) (fun hf => ?_)
        · refine lv_iconst (v := (0 : Int32)) hx hb dL_areAlike_90 (by decide) ?_
          refine lv_istore_n (lv' := [(2, .int (0 : Int32)), (0, .ref (B + 0)), (1, .ref (B' + 0))]) hx hb dL_areAlike_91 rfl hl (by decide) rfl (fun ls hl => ?_)
          refine lv_iconst (v := (0 : Int32)) hx hb dL_areAlike_92 (by decide) ?_
          refine lv_istore_n (lv' := [(3, .int (0 : Int32)), (2, .int (0 : Int32)), (0, .ref (B + 0)), (1, .ref (B' + 0))]) hx hb dL_areAlike_93 rfl hl (by decide) rfl (fun ls hl => ?_)
          refine W.widen (k := 8 + (7 - 7) * 6) (n := 48 + (7 - 7) * 36) (by omega) (by omega) ?_
          exact t2_L_areAlike_94 C htr 7 _ hf (Nat.le_refl _) isZ_0 _ _ _ hH (lv_sub hl [2, 3, 1, 0] rfl)
        · refine lv_iconst (v := (1 : Int32)) hx hb dL_areAlike_86 (by decide) ?_
          refine lv_goto (tgt := 91) hx hb dL_areAlike_87 (by decide) ?_
          refine lv_istore_n (lv' := [(2, .int (1 : Int32)), (0, .ref (B + 0)), (1, .ref (B' + 0))]) hx hb dL_areAlike_91 rfl hl (by decide) rfl (fun ls hl => ?_)
          refine lv_iconst (v := (0 : Int32)) hx hb dL_areAlike_92 (by decide) ?_
          refine lv_istore_n (lv' := [(3, .int (0 : Int32)), (2, .int (1 : Int32)), (0, .ref (B + 0)), (1, .ref (B' + 0))]) hx hb dL_areAlike_93 rfl hl (by decide) rfl (fun ls hl => ?_)
          refine W.widen (k := 8 + (7 - 7) * 6) (n := 48 + (7 - 7) * 36) (by omega) (by omega) ?_
          exact t2_L_areAlike_94 C htr 7 _ hf (Nat.le_refl _) isZ_1 _ _ _ hH (lv_sub hl [2, 3, 1, 0] rfl)
set_option maxRecDepth 100000 in
theorem c2_L_areAlike {l : Launch} {D : va_G} {A : Nat → Prop} {B B' : Nat} {Y : Nat → ClassId} {w v : Wd} {r : Int32} {w1 v1 : Wd} (htr : l.stackTraces = false) (hf : f2_L_areAlike w v = some (r, w1, v1)) : C2 l D A B B' Y yL_areAlike cL_areAlike 6 (some .boolean) 34 50 [.ref (B + 0), .ref (B' + 0)] w v (some (.int r)) w1 v1 (isZ r) :=
  C2_of (by decide +kernel) (Nat.le_of_ble_eq_true rfl) (fun p e s m args below meth c ls C hH hl => t2_L_areAlike_0 C htr hH (lv_sub hl [0, 1] rfl) hf)
