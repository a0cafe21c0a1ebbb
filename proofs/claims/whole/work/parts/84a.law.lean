set_option maxRecDepth 100000 in
set_option maxHeartbeats 8000000 in
theorem t_L_law_192 {D : va_G} {B : Nat} {Y : Nat → ClassId} {p : Program} {l : Launch} {e : Env} {s : State} {m : MethodId} {below : List Frame} {meth : Method} {c : Code} {b L : Nat} {xs : Nat → Int32} {rc : Int32 × Wd → Option Unit} {cells slots : Nat} {H : Heap} {locs : List Loc} {ls : Array Slot} {w : Wd} {v4 : Int32} {z : Unit} (C : CX D B Y p s m #[.ref b] meth c cL_law 8 RL (some .boolean)) (htr : l.stackTraces = false) (hL : LXS b L xs s B) (hcs : cells + 6 ≤ room_1.cells ∧ slots + 36 ≤ room_1.slots) (hr : ∀ (v4 : Int32) (w : Wd), rc (v4, w) = some z → ∀ (H : Heap) (locs : List Loc) (ls : Array Slot), HS D B Y w s H locs → lv_has ls 8 [(0, .ref b), (1, .ref (B + 0)), (2, .ref (B + 713)), (3, .ref (B + 746)), (4, .int v4)] → W p l e room_1 s m #[.ref b] below meth c H locs (cells + 6) (slots + 36) (lw_Z below #[.ref b] s) (F0 m 23 ls [])) (hH : HS D B Y w s H locs) (hl : lv_has ls 8 [(0, .ref b), (1, .ref (B + 0)), (2, .ref (B + 713)), (3, .ref (B + 746)), (4, .int v4)]) (hf : f_L_law_192 L xs rc v4 w = some z) : W p l e room_1 s m #[.ref b] below meth c H locs cells slots (lw_Z below #[.ref b] s) (F0 m 192 ls []) := by
  have hx := C.1
  have hb := C.2.1
  unfold f_L_law_192 at hf
  refine lv_aload_n hx hb dL_law_192 rfl (lv_at hl 1 rfl) ?_
  refine lv_aload_n hx hb dL_law_193 rfl (lv_at hl 0 rfl) ?_
  refine lv_iload hx hb dL_law_194 (lv_at hl 4 rfl) ?_
  refine lv_iconst (v := (1 : Int32)) hx hb dL_law_196 (by decide) ?_
  refine lv_iadd hx hb dL_law_197 ?_
  refine g_sld C hL hH hf dL_law_198 (fun x1 hf => ?_)
  refine lv_i2l (v := x1.toInt64) hx hb dL_law_199 rfl ?_
  refine lv_bipush (v := (32 : Int32)) hx hb dL_law_200 (by decide) ?_
  refine lv_lshl (v := x1.toInt64 <<< ((32 : Int32).toInt64 &&& 63)) hx hb dL_law_202 rfl ?_
  refine lv_aload_n hx hb dL_law_203 rfl (lv_at hl 0 rfl) ?_
  refine lv_iload hx hb dL_law_204 (lv_at hl 4 rfl) ?_
  refine lv_iconst (v := (2 : Int32)) hx hb dL_law_206 (by decide) ?_
  refine lv_iadd hx hb dL_law_207 ?_
  refine g_sld C hL hH hf dL_law_208 (fun x2 hf => ?_)
  refine lv_i2l (v := x2.toInt64) hx hb dL_law_209 rfl ?_
  refine lv_ldc2 (v := (4294967295 : Int64)) hx hb C.2.2.2.1 (C.2.2.2.2.1 _ wd_2001) dL_law_210 ?_
  refine lv_land hx hb dL_law_213 ?_
  refine lv_lor hx hb dL_law_214 ?_
  refine lv_aload_n hx hb dL_law_215 rfl (lv_at hl 0 rfl) ?_
  refine lv_iload hx hb dL_law_216 (lv_at hl 4 rfl) ?_
  refine lv_iconst (v := (3 : Int32)) hx hb dL_law_218 (by decide) ?_
  refine lv_iadd hx hb dL_law_219 ?_
  refine g_sld C hL hH hf dL_law_220 (fun x3 hf => ?_)
  refine lv_aload_n hx hb dL_law_221 rfl (lv_at hl 3 rfl) ?_
  obtain ⟨x5, w4, hc, hf⟩ := bd_some hf
  refine q_callLW (As := [.ref (B + 0), .long ((x1.toInt64 <<< ((32 : Int32).toInt64 &&& 63)) ||| (x2.toInt64 &&& (4294967295 : Int64))), .int x3, .ref (B + 746)]) C hH (k := x5) (goodSW wd_494 wd_495 wd_108 wd_496) yd_L_feed (c_L_feed htr hc) (by exact Nat.le_of_ble_eq_true rfl) (by exact Nat.le_of_ble_eq_true rfl) hl.1 rfl (Nat.le_of_ble_eq_true rfl) dL_law_222 ⟨by omega, by omega⟩ (fun H locs hH => ?_)
  refine lv_istore (lv' := [(5, .int x5), (0, .ref b), (1, .ref (B + 0)), (2, .ref (B + 713)), (3, .ref (B + 746)), (4, .int v4)]) hx hb dL_law_225 hl (by decide) rfl (fun ls hl => ?_)
  refine lv_aload_n hx hb dL_law_227 rfl (lv_at hl 3 rfl) ?_
  refine lv_aload_n hx hb dL_law_228 rfl (lv_at hl 1 rfl) ?_
  refine lv_iload hx hb dL_law_229 (lv_at hl 5 rfl) ?_
  refine lv_iconst (v := (1 : Int32)) hx hb dL_law_231 (by decide) ?_
  refine lv_iadd hx hb dL_law_232 ?_
  refine g_sld C hL hH hf dL_law_233 (fun x6 hf => ?_)
  refine lv_i2l (v := x6.toInt64) hx hb dL_law_234 rfl ?_
  refine lv_bipush (v := (32 : Int32)) hx hb dL_law_235 (by decide) ?_
  refine lv_lshl (v := x6.toInt64 <<< ((32 : Int32).toInt64 &&& 63)) hx hb dL_law_237 rfl ?_
  refine lv_aload_n hx hb dL_law_238 rfl (lv_at hl 1 rfl) ?_
  refine lv_iload hx hb dL_law_239 (lv_at hl 5 rfl) ?_
  refine lv_iconst (v := (2 : Int32)) hx hb dL_law_241 (by decide) ?_
  refine lv_iadd hx hb dL_law_242 ?_
  refine g_sld C hL hH hf dL_law_243 (fun x7 hf => ?_)
  refine lv_i2l (v := x7.toInt64) hx hb dL_law_244 rfl ?_
  refine lv_ldc2 (v := (4294967295 : Int64)) hx hb C.2.2.2.1 (C.2.2.2.2.1 _ wd_2001) dL_law_245 ?_
  refine lv_land hx hb dL_law_248 ?_
  refine lv_lor hx hb dL_law_249 ?_
  refine lv_aload_n hx hb dL_law_250 rfl (lv_at hl 1 rfl) ?_
  refine lv_iload hx hb dL_law_251 (lv_at hl 5 rfl) ?_
  refine lv_iconst (v := (3 : Int32)) hx hb dL_law_253 (by decide) ?_
  refine lv_iadd hx hb dL_law_254 ?_
  refine g_sld C hL hH hf dL_law_255 (fun x8 hf => ?_)
  obtain ⟨x10, w9, hc, hf⟩ := bd_some hf
  refine q_callRV1 (v := .int x10) (As := [.long ((x6.toInt64 <<< ((32 : Int32).toInt64 &&& 63)) ||| (x7.toInt64 &&& (4294967295 : Int64))), .int x8]) C hH (ci := 11) rfl (by omega) gk_L_140 yd_X11_feed kc_713 (c_X11_feed hc) (by exact Nat.le_of_ble_eq_true rfl) (by exact Nat.le_of_ble_eq_true rfl) hl.1 rfl (Nat.le_of_ble_eq_true rfl) dL_law_256 ⟨by omega, by omega⟩ (fun H locs hH hP => ?_)
  refine lv_istore (lv' := [(6, .int x10), (5, .int x5), (0, .ref b), (1, .ref (B + 0)), (2, .ref (B + 713)), (3, .ref (B + 746)), (4, .int v4)]) hx hb dL_law_259 hl (by decide) rfl (fun ls hl => ?_)
  refine lv_aload_n hx hb dL_law_261 rfl (lv_at hl 4 rfl) ?_
  obtain ⟨x12, w11, hc, hf⟩ := bd_some hf
  refine q_callRV1 (v := .int x12) (As := []) C hH (ci := 11) rfl (by omega) gk_L_141 yd_X11_thrown kc_713 (c_X11_thrown hc) (by exact Nat.le_of_ble_eq_true rfl) (by exact Nat.le_of_ble_eq_true rfl) hl.1 rfl (Nat.le_of_ble_eq_true rfl) dL_law_262 ⟨by omega, by omega⟩ (fun H locs hH hP => ?_)
  refine lv_iload hx hb dL_law_265 (lv_at hl 1 rfl) ?_
  refine b_icmp_eq (tgt := 272) hx hb hf dL_law_267 (by decide) (fun hf => ?_) (fun hf => ?_)
  · refine lv_iload hx hb dL_law_272 (lv_at hl 1 rfl) ?_
    refine b_if_ne (tgt := 289) hx hb hf dL_law_274 (by decide) (fun hf => ?_) (fun hf => ?_)
    · refine lv_goto (tgt := 2712) hx hb dL_law_289 (by decide) ?_
      refine b_let hf (fun x13 he hf => ?_)
      refine lv_iinc (v := x13) (lv' := [(4, .int x13), (6, .int x10), (5, .int x5), (0, .ref b), (1, .ref (B + 0)), (2, .ref (B + 713)), (3, .ref (B + 746))]) hx hb dL_law_2712 hl (k := 6) rfl (by rw [← he]; rfl) (by decide) rfl (fun ls hl => ?_)
      refine lv_goto (tgt := 23) hx hb dL_law_2715 (by decide) ?_
      refine W.widen (k := cells + 6) (n := slots + 36) (by omega) (by omega) ?_
      exact hr x13 w11 hf _ _ _ hH (lv_sub hl [3, 4, 5, 6, 0] rfl)
    · refine lv_aload_n hx hb dL_law_277 rfl (lv_at hl 5 rfl) ?_
      refine lv_iconst (v := (0 : Int32)) hx hb dL_law_278 (by decide) ?_
      refine g_lald C hH kc_746 hf dL_law_279 (fun y14 hf => ?_)
      refine lv_iload hx hb dL_law_280 (lv_at hl 0 rfl) ?_
      refine lv_i2l (v := x10.toInt64) hx hb dL_law_282 rfl ?_
      refine W.lcmp hx hb dL_law_283 ?_
      refine b_if_eq (tgt := 289) hx hb hf dL_law_284 (by decide) (fun hf => ?_) (fun hf => ?_)
      · refine lv_goto (tgt := 2712) hx hb dL_law_289 (by decide) ?_
        refine b_let hf (fun x15 he hf => ?_)
        refine lv_iinc (v := x15) (lv' := [(4, .int x15), (6, .int x10), (5, .int x5), (0, .ref b), (1, .ref (B + 0)), (2, .ref (B + 713)), (3, .ref (B + 746))]) hx hb dL_law_2712 hl (k := 6) rfl (by rw [← he]; rfl) (by decide) rfl (fun ls hl => ?_)
        refine lv_goto (tgt := 23) hx hb dL_law_2715 (by decide) ?_
        refine W.widen (k := cells + 6) (n := slots + 36) (by omega) (by omega) ?_
        exact hr x15 w11 hf _ _ _ hH (lv_sub hl [3, 4, 5, 6, 0] rfl)
      · refine lv_iconst (v := (0 : Int32)) hx hb dL_law_287 (by decide) ?_
        cases hf
  · refine lv_iconst (v := (0 : Int32)) hx hb dL_law_270 (by decide) ?_
    cases hf
set_option maxRecDepth 100000 in
set_option maxHeartbeats 8000000 in
theorem t_L_law_292 {D : va_G} {B : Nat} {Y : Nat → ClassId} {p : Program} {l : Launch} {e : Env} {s : State} {m : MethodId} {below : List Frame} {meth : Method} {c : Code} {b L : Nat} {xs : Nat → Int32} {rc : Int32 × Wd → Option Unit} {cells slots : Nat} {H : Heap} {locs : List Loc} {ls : Array Slot} {w : Wd} {v4 : Int32} {z : Unit} (C : CX D B Y p s m #[.ref b] meth c cL_law 8 RL (some .boolean)) (htr : l.stackTraces = false) (hL : LXS b L xs s B) (hcs : cells + 6 ≤ room_1.cells ∧ slots + 36 ≤ room_1.slots) (hr : ∀ (v4 : Int32) (w : Wd), rc (v4, w) = some z → ∀ (H : Heap) (locs : List Loc) (ls : Array Slot), HS D B Y w s H locs → lv_has ls 8 [(0, .ref b), (1, .ref (B + 0)), (2, .ref (B + 713)), (3, .ref (B + 746)), (4, .int v4)] → W p l e room_1 s m #[.ref b] below meth c H locs (cells + 6) (slots + 36) (lw_Z below #[.ref b] s) (F0 m 23 ls [])) (hH : HS D B Y w s H locs) (hl : lv_has ls 8 [(0, .ref b), (1, .ref (B + 0)), (2, .ref (B + 713)), (3, .ref (B + 746)), (4, .int v4)]) (hf : f_L_law_292 L xs rc v4 w = some z) : W p l e room_1 s m #[.ref b] below meth c H locs cells slots (lw_Z below #[.ref b] s) (F0 m 292 ls []) := by
  have hx := C.1
  have hb := C.2.1
  unfold f_L_law_292 at hf
  refine lv_aload_n hx hb dL_law_292 rfl (lv_at hl 1 rfl) ?_
  refine lv_aload_n hx hb dL_law_293 rfl (lv_at hl 0 rfl) ?_
  refine lv_iload hx hb dL_law_294 (lv_at hl 4 rfl) ?_
  refine lv_iconst (v := (1 : Int32)) hx hb dL_law_296 (by decide) ?_
  refine lv_iadd hx hb dL_law_297 ?_
  refine g_sld C hL hH hf dL_law_298 (fun x1 hf => ?_)
  refine lv_aload_n hx hb dL_law_299 rfl (lv_at hl 0 rfl) ?_
  refine lv_iload hx hb dL_law_300 (lv_at hl 4 rfl) ?_
  refine lv_iconst (v := (2 : Int32)) hx hb dL_law_302 (by decide) ?_
  refine lv_iadd hx hb dL_law_303 ?_
  refine g_sld C hL hH hf dL_law_304 (fun x2 hf => ?_)
  refine lv_aload_n hx hb dL_law_305 rfl (lv_at hl 0 rfl) ?_
  refine lv_iload hx hb dL_law_306 (lv_at hl 4 rfl) ?_
  refine lv_iconst (v := (3 : Int32)) hx hb dL_law_308 (by decide) ?_
  refine lv_iadd hx hb dL_law_309 ?_
  refine g_sld C hL hH hf dL_law_310 (fun x3 hf => ?_)
  refine lv_aload_n hx hb dL_law_311 rfl (lv_at hl 0 rfl) ?_
  refine lv_iload hx hb dL_law_312 (lv_at hl 4 rfl) ?_
  refine lv_iconst (v := (4 : Int32)) hx hb dL_law_314 (by decide) ?_
  refine lv_iadd hx hb dL_law_315 ?_
  refine g_sld C hL hH hf dL_law_316 (fun x4 hf => ?_)
  refine lv_aload_n hx hb dL_law_317 rfl (lv_at hl 0 rfl) ?_
  refine lv_iload hx hb dL_law_318 (lv_at hl 4 rfl) ?_
  refine lv_iconst (v := (5 : Int32)) hx hb dL_law_320 (by decide) ?_
  refine lv_iadd hx hb dL_law_321 ?_
  refine g_sld C hL hH hf dL_law_322 (fun x5 hf => ?_)
  obtain ⟨x7, w6, hc, hf⟩ := bd_some hf
  refine q_callLW (As := [.ref (B + 0), .int x1, .int x2, .int x3, .int x4, .int x5]) C hH (k := x7) (goodSW wd_598 wd_599 wd_108 wd_600) yd_L_letter (c_L_letter htr hc) (by exact Nat.le_of_ble_eq_true rfl) (by exact Nat.le_of_ble_eq_true rfl) hl.1 rfl (Nat.le_of_ble_eq_true rfl) dL_law_323 ⟨by omega, by omega⟩ (fun H locs hH => ?_)
  refine lv_istore (lv' := [(5, .int x7), (0, .ref b), (1, .ref (B + 0)), (2, .ref (B + 713)), (3, .ref (B + 746)), (4, .int v4)]) hx hb dL_law_326 hl (by decide) rfl (fun ls hl => ?_)
  refine lv_aload_n hx hb dL_law_328 rfl (lv_at hl 3 rfl) ?_
  refine lv_aload_n hx hb dL_law_329 rfl (lv_at hl 1 rfl) ?_
  refine lv_iload hx hb dL_law_330 (lv_at hl 5 rfl) ?_
  refine lv_iconst (v := (1 : Int32)) hx hb dL_law_332 (by decide) ?_
  refine lv_iadd hx hb dL_law_333 ?_
  refine g_sld C hL hH hf dL_law_334 (fun x8 hf => ?_)
  refine lv_aload_n hx hb dL_law_335 rfl (lv_at hl 1 rfl) ?_
  refine lv_iload hx hb dL_law_336 (lv_at hl 5 rfl) ?_
  refine lv_iconst (v := (2 : Int32)) hx hb dL_law_338 (by decide) ?_
  refine lv_iadd hx hb dL_law_339 ?_
  refine g_sld C hL hH hf dL_law_340 (fun x9 hf => ?_)
  refine lv_aload_n hx hb dL_law_341 rfl (lv_at hl 1 rfl) ?_
  refine lv_iload hx hb dL_law_342 (lv_at hl 5 rfl) ?_
  refine lv_iconst (v := (3 : Int32)) hx hb dL_law_344 (by decide) ?_
  refine lv_iadd hx hb dL_law_345 ?_
  refine g_sld C hL hH hf dL_law_346 (fun x10 hf => ?_)
  refine lv_aload_n hx hb dL_law_347 rfl (lv_at hl 1 rfl) ?_
  refine lv_iload hx hb dL_law_348 (lv_at hl 5 rfl) ?_
  refine lv_iconst (v := (4 : Int32)) hx hb dL_law_350 (by decide) ?_
  refine lv_iadd hx hb dL_law_351 ?_
  refine g_sld C hL hH hf dL_law_352 (fun x11 hf => ?_)
  refine lv_aload_n hx hb dL_law_353 rfl (lv_at hl 1 rfl) ?_
  refine lv_iload hx hb dL_law_354 (lv_at hl 5 rfl) ?_
  refine lv_iconst (v := (5 : Int32)) hx hb dL_law_356 (by decide) ?_
  refine lv_iadd hx hb dL_law_357 ?_
  refine g_sld C hL hH hf dL_law_358 (fun x12 hf => ?_)
  obtain ⟨u, w13, hc, hf⟩ := bd_some hf
  refine q_callRV0 (As := [.int x8, .int x9, .int x10, .int x11, .int x12]) C hH (ci := 11) rfl (by omega) gk_L_147 yd_X11_letter kc_713 (c_X11_letter hc) (by exact Nat.le_of_ble_eq_true rfl) (by exact Nat.le_of_ble_eq_true rfl) hl.1 rfl (Nat.le_of_ble_eq_true rfl) dL_law_359 ⟨by omega, by omega⟩ (fun H locs hH hP => ?_)
  refine lv_aload_n hx hb dL_law_362 rfl (lv_at hl 3 rfl) ?_
  obtain ⟨x15, w14, hc, hf⟩ := bd_some hf
  refine q_callRV1 (v := .int x15) (As := []) C hH (ci := 11) rfl (by omega) gk_L_141 yd_X11_thrown kc_713 (c_X11_thrown hc) (by exact Nat.le_of_ble_eq_true rfl) (by exact Nat.le_of_ble_eq_true rfl) hl.1 rfl (Nat.le_of_ble_eq_true rfl) dL_law_363 ⟨by omega, by omega⟩ (fun H locs hH hP => ?_)
  refine lv_iload hx hb dL_law_366 (lv_at hl 0 rfl) ?_
  refine b_icmp_eq (tgt := 373) hx hb hf dL_law_368 (by decide) (fun hf => ?_) (fun hf => ?_)
  · refine lv_goto (tgt := 2712) hx hb dL_law_373 (by decide) ?_
    refine b_let hf (fun x16 he hf => ?_)
    refine lv_iinc (v := x16) (lv' := [(4, .int x16), (5, .int x7), (0, .ref b), (1, .ref (B + 0)), (2, .ref (B + 713)), (3, .ref (B + 746))]) hx hb dL_law_2712 hl (k := 5) rfl (by rw [← he]; rfl) (by decide) rfl (fun ls hl => ?_)
    refine lv_goto (tgt := 23) hx hb dL_law_2715 (by decide) ?_
    refine W.widen (k := cells + 6) (n := slots + 36) (by omega) (by omega) ?_
    exact hr x16 w14 hf _ _ _ hH (lv_sub hl [2, 3, 4, 5, 0] rfl)
  · refine lv_iconst (v := (0 : Int32)) hx hb dL_law_371 (by decide) ?_
    cases hf
set_option maxRecDepth 100000 in
set_option maxHeartbeats 8000000 in
theorem t_L_law_376 {D : va_G} {B : Nat} {Y : Nat → ClassId} {p : Program} {l : Launch} {e : Env} {s : State} {m : MethodId} {below : List Frame} {meth : Method} {c : Code} {b L : Nat} {xs : Nat → Int32} {rc : Int32 × Wd → Option Unit} {cells slots : Nat} {H : Heap} {locs : List Loc} {ls : Array Slot} {w : Wd} {v4 : Int32} {z : Unit} (C : CX D B Y p s m #[.ref b] meth c cL_law 8 RL (some .boolean)) (htr : l.stackTraces = false) (hL : LXS b L xs s B) (hcs : cells + 6 ≤ room_1.cells ∧ slots + 36 ≤ room_1.slots) (hr : ∀ (v4 : Int32) (w : Wd), rc (v4, w) = some z → ∀ (H : Heap) (locs : List Loc) (ls : Array Slot), HS D B Y w s H locs → lv_has ls 8 [(0, .ref b), (1, .ref (B + 0)), (2, .ref (B + 713)), (3, .ref (B + 746)), (4, .int v4)] → W p l e room_1 s m #[.ref b] below meth c H locs (cells + 6) (slots + 36) (lw_Z below #[.ref b] s) (F0 m 23 ls [])) (hH : HS D B Y w s H locs) (hl : lv_has ls 8 [(0, .ref b), (1, .ref (B + 0)), (2, .ref (B + 713)), (3, .ref (B + 746)), (4, .int v4)]) (hf : f_L_law_376 L xs rc v4 w = some z) : W p l e room_1 s m #[.ref b] below meth c H locs cells slots (lw_Z below #[.ref b] s) (F0 m 376 ls []) := by
  have hx := C.1
  have hb := C.2.1
  unfold f_L_law_376 at hf
  refine lv_aload_n hx hb dL_law_376 rfl (lv_at hl 1 rfl) ?_
  refine lv_aload_n hx hb dL_law_377 rfl (lv_at hl 0 rfl) ?_
  refine lv_iload hx hb dL_law_378 (lv_at hl 4 rfl) ?_
  refine lv_iconst (v := (1 : Int32)) hx hb dL_law_380 (by decide) ?_
  refine lv_iadd hx hb dL_law_381 ?_
  refine g_sld C hL hH hf dL_law_382 (fun x1 hf => ?_)
  refine lv_aload_n hx hb dL_law_383 rfl (lv_at hl 0 rfl) ?_
  refine lv_iload hx hb dL_law_384 (lv_at hl 4 rfl) ?_
  refine lv_iconst (v := (2 : Int32)) hx hb dL_law_386 (by decide) ?_
  refine lv_iadd hx hb dL_law_387 ?_
  refine g_sld C hL hH hf dL_law_388 (fun x2 hf => ?_)
  refine lv_aload_n hx hb dL_law_389 rfl (lv_at hl 0 rfl) ?_
  refine lv_iload hx hb dL_law_390 (lv_at hl 4 rfl) ?_
  refine lv_iconst (v := (3 : Int32)) hx hb dL_law_392 (by decide) ?_
  refine lv_iadd hx hb dL_law_393 ?_
  refine g_sld C hL hH hf dL_law_394 (fun x3 hf => ?_)
  obtain ⟨x5, w4, hc, hf⟩ := bd_some hf
  refine q_callLW (As := [.ref (B + 0), .int x1, .int x2, .int x3]) C hH (k := x5) (goodSW wd_635 wd_636 wd_108 wd_637) yd_L_split (c_L_split htr hc) (by exact Nat.le_of_ble_eq_true rfl) (by exact Nat.le_of_ble_eq_true rfl) hl.1 rfl (Nat.le_of_ble_eq_true rfl) dL_law_395 ⟨by omega, by omega⟩ (fun H locs hH => ?_)
  refine lv_istore (lv' := [(5, .int x5), (0, .ref b), (1, .ref (B + 0)), (2, .ref (B + 713)), (3, .ref (B + 746)), (4, .int v4)]) hx hb dL_law_398 hl (by decide) rfl (fun ls hl => ?_)
  refine lv_aload_n hx hb dL_law_400 rfl (lv_at hl 3 rfl) ?_
  refine lv_aload_n hx hb dL_law_401 rfl (lv_at hl 1 rfl) ?_
  refine lv_iload hx hb dL_law_402 (lv_at hl 5 rfl) ?_
  refine lv_iconst (v := (1 : Int32)) hx hb dL_law_404 (by decide) ?_
  refine lv_iadd hx hb dL_law_405 ?_
  refine g_sld C hL hH hf dL_law_406 (fun x6 hf => ?_)
  refine lv_aload_n hx hb dL_law_407 rfl (lv_at hl 1 rfl) ?_
  refine lv_iload hx hb dL_law_408 (lv_at hl 5 rfl) ?_
  refine lv_iconst (v := (2 : Int32)) hx hb dL_law_410 (by decide) ?_
  refine lv_iadd hx hb dL_law_411 ?_
  refine g_sld C hL hH hf dL_law_412 (fun x7 hf => ?_)
  refine lv_aload_n hx hb dL_law_413 rfl (lv_at hl 1 rfl) ?_
  refine lv_iload hx hb dL_law_414 (lv_at hl 5 rfl) ?_
  refine lv_iconst (v := (3 : Int32)) hx hb dL_law_416 (by decide) ?_
  refine lv_iadd hx hb dL_law_417 ?_
  refine g_sld C hL hH hf dL_law_418 (fun x8 hf => ?_)
  obtain ⟨u, w9, hc, hf⟩ := bd_some hf
  refine q_callRV0 (As := [.int x6, .int x7, .int x8]) C hH (ci := 11) rfl (by omega) gk_L_151 yd_X11_split kc_713 (c_X11_split hc) (by exact Nat.le_of_ble_eq_true rfl) (by exact Nat.le_of_ble_eq_true rfl) hl.1 rfl (Nat.le_of_ble_eq_true rfl) dL_law_419 ⟨by omega, by omega⟩ (fun H locs hH hP => ?_)
  refine lv_aload_n hx hb dL_law_422 rfl (lv_at hl 3 rfl) ?_
  obtain ⟨x11, w10, hc, hf⟩ := bd_some hf
  refine q_callRV1 (v := .int x11) (As := []) C hH (ci := 11) rfl (by omega) gk_L_141 yd_X11_thrown kc_713 (c_X11_thrown hc) (by exact Nat.le_of_ble_eq_true rfl) (by exact Nat.le_of_ble_eq_true rfl) hl.1 rfl (Nat.le_of_ble_eq_true rfl) dL_law_423 ⟨by omega, by omega⟩ (fun H locs hH hP => ?_)
  refine lv_iload hx hb dL_law_426 (lv_at hl 0 rfl) ?_
  refine b_icmp_eq (tgt := 433) hx hb hf dL_law_428 (by decide) (fun hf => ?_) (fun hf => ?_)
  · refine lv_goto (tgt := 2712) hx hb dL_law_433 (by decide) ?_
    refine b_let hf (fun x12 he hf => ?_)
    refine lv_iinc (v := x12) (lv' := [(4, .int x12), (5, .int x5), (0, .ref b), (1, .ref (B + 0)), (2, .ref (B + 713)), (3, .ref (B + 746))]) hx hb dL_law_2712 hl (k := 5) rfl (by rw [← he]; rfl) (by decide) rfl (fun ls hl => ?_)
    refine lv_goto (tgt := 23) hx hb dL_law_2715 (by decide) ?_
    refine W.widen (k := cells + 6) (n := slots + 36) (by omega) (by omega) ?_
    exact hr x12 w10 hf _ _ _ hH (lv_sub hl [2, 3, 4, 5, 0] rfl)
  · refine lv_iconst (v := (0 : Int32)) hx hb dL_law_431 (by decide) ?_
    cases hf
set_option maxRecDepth 100000 in
set_option maxHeartbeats 8000000 in
theorem t_L_law_436 {D : va_G} {B : Nat} {Y : Nat → ClassId} {p : Program} {l : Launch} {e : Env} {s : State} {m : MethodId} {below : List Frame} {meth : Method} {c : Code} {b L : Nat} {xs : Nat → Int32} {rc : Int32 × Wd → Option Unit} {cells slots : Nat} {H : Heap} {locs : List Loc} {ls : Array Slot} {w : Wd} {v4 : Int32} {z : Unit} (C : CX D B Y p s m #[.ref b] meth c cL_law 8 RL (some .boolean)) (htr : l.stackTraces = false) (hL : LXS b L xs s B) (hcs : cells + 6 ≤ room_1.cells ∧ slots + 36 ≤ room_1.slots) (hr : ∀ (v4 : Int32) (w : Wd), rc (v4, w) = some z → ∀ (H : Heap) (locs : List Loc) (ls : Array Slot), HS D B Y w s H locs → lv_has ls 8 [(0, .ref b), (1, .ref (B + 0)), (2, .ref (B + 713)), (3, .ref (B + 746)), (4, .int v4)] → W p l e room_1 s m #[.ref b] below meth c H locs (cells + 6) (slots + 36) (lw_Z below #[.ref b] s) (F0 m 23 ls [])) (hH : HS D B Y w s H locs) (hl : lv_has ls 8 [(0, .ref b), (1, .ref (B + 0)), (2, .ref (B + 713)), (3, .ref (B + 746)), (4, .int v4)]) (hf : f_L_law_436 L xs rc v4 w = some z) : W p l e room_1 s m #[.ref b] below meth c H locs cells slots (lw_Z below #[.ref b] s) (F0 m 436 ls []) := by
  have hx := C.1
  have hb := C.2.1
  unfold f_L_law_436 at hf
  refine lv_aload_n hx hb dL_law_436 rfl (lv_at hl 1 rfl) ?_
  refine lv_aload_n hx hb dL_law_437 rfl (lv_at hl 0 rfl) ?_
  refine lv_iload hx hb dL_law_438 (lv_at hl 4 rfl) ?_
  refine lv_iconst (v := (1 : Int32)) hx hb dL_law_440 (by decide) ?_
  refine lv_iadd hx hb dL_law_441 ?_
  refine g_sld C hL hH hf dL_law_442 (fun x1 hf => ?_)
  refine lv_aload_n hx hb dL_law_443 rfl (lv_at hl 0 rfl) ?_
  refine lv_iload hx hb dL_law_444 (lv_at hl 4 rfl) ?_
  refine lv_iconst (v := (2 : Int32)) hx hb dL_law_446 (by decide) ?_
  refine lv_iadd hx hb dL_law_447 ?_
  refine g_sld C hL hH hf dL_law_448 (fun x2 hf => ?_)
  refine lv_aload_n hx hb dL_law_449 rfl (lv_at hl 0 rfl) ?_
  refine lv_iload hx hb dL_law_450 (lv_at hl 4 rfl) ?_
  refine lv_iconst (v := (3 : Int32)) hx hb dL_law_452 (by decide) ?_
  refine lv_iadd hx hb dL_law_453 ?_
  refine g_sld C hL hH hf dL_law_454 (fun x3 hf => ?_)
  obtain ⟨x5, w4, hc, hf⟩ := bd_some hf
  refine q_callLW (As := [.ref (B + 0), .int x1, .int x2, .int x3]) C hH (k := x5) (goodSW wd_646 wd_647 wd_108 wd_648) yd_L_capital (c_L_capital htr hc) (by exact Nat.le_of_ble_eq_true rfl) (by exact Nat.le_of_ble_eq_true rfl) hl.1 rfl (Nat.le_of_ble_eq_true rfl) dL_law_455 ⟨by omega, by omega⟩ (fun H locs hH => ?_)
  refine lv_istore (lv' := [(5, .int x5), (0, .ref b), (1, .ref (B + 0)), (2, .ref (B + 713)), (3, .ref (B + 746)), (4, .int v4)]) hx hb dL_law_458 hl (by decide) rfl (fun ls hl => ?_)
  refine lv_aload_n hx hb dL_law_460 rfl (lv_at hl 3 rfl) ?_
  refine lv_aload_n hx hb dL_law_461 rfl (lv_at hl 1 rfl) ?_
  refine lv_iload hx hb dL_law_462 (lv_at hl 5 rfl) ?_
  refine lv_iconst (v := (1 : Int32)) hx hb dL_law_464 (by decide) ?_
  refine lv_iadd hx hb dL_law_465 ?_
  refine g_sld C hL hH hf dL_law_466 (fun x6 hf => ?_)
  refine lv_aload_n hx hb dL_law_467 rfl (lv_at hl 1 rfl) ?_
  refine lv_iload hx hb dL_law_468 (lv_at hl 5 rfl) ?_
  refine lv_iconst (v := (2 : Int32)) hx hb dL_law_470 (by decide) ?_
  refine lv_iadd hx hb dL_law_471 ?_
  refine g_sld C hL hH hf dL_law_472 (fun x7 hf => ?_)
  refine lv_aload_n hx hb dL_law_473 rfl (lv_at hl 1 rfl) ?_
  refine lv_iload hx hb dL_law_474 (lv_at hl 5 rfl) ?_
  refine lv_iconst (v := (3 : Int32)) hx hb dL_law_476 (by decide) ?_
  refine lv_iadd hx hb dL_law_477 ?_
  refine g_sld C hL hH hf dL_law_478 (fun x8 hf => ?_)
  obtain ⟨u, w9, hc, hf⟩ := bd_some hf
  refine q_callRV0 (As := [.int x6, .int x7, .int x8]) C hH (ci := 11) rfl (by omega) gk_L_154 yd_X11_capital kc_713 (c_X11_capital hc) (by exact Nat.le_of_ble_eq_true rfl) (by exact Nat.le_of_ble_eq_true rfl) hl.1 rfl (Nat.le_of_ble_eq_true rfl) dL_law_479 ⟨by omega, by omega⟩ (fun H locs hH hP => ?_)
  refine lv_aload_n hx hb dL_law_482 rfl (lv_at hl 3 rfl) ?_
  obtain ⟨x11, w10, hc, hf⟩ := bd_some hf
  refine q_callRV1 (v := .int x11) (As := []) C hH (ci := 11) rfl (by omega) gk_L_141 yd_X11_thrown kc_713 (c_X11_thrown hc) (by exact Nat.le_of_ble_eq_true rfl) (by exact Nat.le_of_ble_eq_true rfl) hl.1 rfl (Nat.le_of_ble_eq_true rfl) dL_law_483 ⟨by omega, by omega⟩ (fun H locs hH hP => ?_)
  refine lv_iload hx hb dL_law_486 (lv_at hl 0 rfl) ?_
  refine b_icmp_eq (tgt := 493) hx hb hf dL_law_488 (by decide) (fun hf => ?_) (fun hf => ?_)
  · refine lv_goto (tgt := 2712) hx hb dL_law_493 (by decide) ?_
    refine b_let hf (fun x12 he hf => ?_)
    refine lv_iinc (v := x12) (lv' := [(4, .int x12), (5, .int x5), (0, .ref b), (1, .ref (B + 0)), (2, .ref (B + 713)), (3, .ref (B + 746))]) hx hb dL_law_2712 hl (k := 5) rfl (by rw [← he]; rfl) (by decide) rfl (fun ls hl => ?_)
    refine lv_goto (tgt := 23) hx hb dL_law_2715 (by decide) ?_
    refine W.widen (k := cells + 6) (n := slots + 36) (by omega) (by omega) ?_
    exact hr x12 w10 hf _ _ _ hH (lv_sub hl [2, 3, 4, 5, 0] rfl)
  · refine lv_iconst (v := (0 : Int32)) hx hb dL_law_491 (by decide) ?_
    cases hf
set_option maxRecDepth 100000 in
set_option maxHeartbeats 8000000 in
theorem t_L_law_496 {D : va_G} {B : Nat} {Y : Nat → ClassId} {p : Program} {l : Launch} {e : Env} {s : State} {m : MethodId} {below : List Frame} {meth : Method} {c : Code} {b L : Nat} {xs : Nat → Int32} {rc : Int32 × Wd → Option Unit} {cells slots : Nat} {H : Heap} {locs : List Loc} {ls : Array Slot} {w : Wd} {v4 : Int32} {z : Unit} (C : CX D B Y p s m #[.ref b] meth c cL_law 8 RL (some .boolean)) (htr : l.stackTraces = false) (hL : LXS b L xs s B) (hcs : cells + 6 ≤ room_1.cells ∧ slots + 36 ≤ room_1.slots) (hr : ∀ (v4 : Int32) (w : Wd), rc (v4, w) = some z → ∀ (H : Heap) (locs : List Loc) (ls : Array Slot), HS D B Y w s H locs → lv_has ls 8 [(0, .ref b), (1, .ref (B + 0)), (2, .ref (B + 713)), (3, .ref (B + 746)), (4, .int v4)] → W p l e room_1 s m #[.ref b] below meth c H locs (cells + 6) (slots + 36) (lw_Z below #[.ref b] s) (F0 m 23 ls [])) (hH : HS D B Y w s H locs) (hl : lv_has ls 8 [(0, .ref b), (1, .ref (B + 0)), (2, .ref (B + 713)), (3, .ref (B + 746)), (4, .int v4)]) (hf : f_L_law_496 L xs rc v4 w = some z) : W p l e room_1 s m #[.ref b] below meth c H locs cells slots (lw_Z below #[.ref b] s) (F0 m 496 ls []) := by
  have hx := C.1
  have hb := C.2.1
  unfold f_L_law_496 at hf
  refine lv_aload_n hx hb dL_law_496 rfl (lv_at hl 1 rfl) ?_
  refine lv_aload_n hx hb dL_law_497 rfl (lv_at hl 0 rfl) ?_
  refine lv_iload hx hb dL_law_498 (lv_at hl 4 rfl) ?_
  refine lv_iconst (v := (1 : Int32)) hx hb dL_law_500 (by decide) ?_
  refine lv_iadd hx hb dL_law_501 ?_
  refine g_sld C hL hH hf dL_law_502 (fun x1 hf => ?_)
  refine lv_aload_n hx hb dL_law_503 rfl (lv_at hl 0 rfl) ?_
  refine lv_iload hx hb dL_law_504 (lv_at hl 4 rfl) ?_
  refine lv_iconst (v := (2 : Int32)) hx hb dL_law_506 (by decide) ?_
  refine lv_iadd hx hb dL_law_507 ?_
  refine g_sld C hL hH hf dL_law_508 (fun x2 hf => ?_)
  obtain ⟨x4, w3, hc, hf⟩ := bd_some hf
  refine q_callLW (As := [.ref (B + 0), .int x1, .int x2]) C hH (k := x4) (goodSW wd_657 wd_658 wd_108 wd_659) yd_L_partners (c_L_partners htr hc) (by exact Nat.le_of_ble_eq_true rfl) (by exact Nat.le_of_ble_eq_true rfl) hl.1 rfl (Nat.le_of_ble_eq_true rfl) dL_law_509 ⟨by omega, by omega⟩ (fun H locs hH => ?_)
  refine lv_istore (lv' := [(5, .int x4), (0, .ref b), (1, .ref (B + 0)), (2, .ref (B + 713)), (3, .ref (B + 746)), (4, .int v4)]) hx hb dL_law_512 hl (by decide) rfl (fun ls hl => ?_)
  refine lv_aload_n hx hb dL_law_514 rfl (lv_at hl 3 rfl) ?_
  refine lv_aload_n hx hb dL_law_515 rfl (lv_at hl 1 rfl) ?_
  refine lv_iload hx hb dL_law_516 (lv_at hl 5 rfl) ?_
  refine lv_iconst (v := (1 : Int32)) hx hb dL_law_518 (by decide) ?_
  refine lv_iadd hx hb dL_law_519 ?_
  refine g_sld C hL hH hf dL_law_520 (fun x5 hf => ?_)
  refine lv_aload_n hx hb dL_law_521 rfl (lv_at hl 1 rfl) ?_
  refine lv_iload hx hb dL_law_522 (lv_at hl 5 rfl) ?_
  refine lv_iconst (v := (2 : Int32)) hx hb dL_law_524 (by decide) ?_
  refine lv_iadd hx hb dL_law_525 ?_
  refine g_sld C hL hH hf dL_law_526 (fun x6 hf => ?_)
  obtain ⟨u, w7, hc, hf⟩ := bd_some hf
  refine q_callRV0 (As := [.int x5, .int x6]) C hH (ci := 11) rfl (by omega) gk_L_158 yd_X11_partners kc_713 (c_X11_partners hc) (by exact Nat.le_of_ble_eq_true rfl) (by exact Nat.le_of_ble_eq_true rfl) hl.1 rfl (Nat.le_of_ble_eq_true rfl) dL_law_527 ⟨by omega, by omega⟩ (fun H locs hH hP => ?_)
  refine lv_aload_n hx hb dL_law_530 rfl (lv_at hl 3 rfl) ?_
  obtain ⟨x9, w8, hc, hf⟩ := bd_some hf
  refine q_callRV1 (v := .int x9) (As := []) C hH (ci := 11) rfl (by omega) gk_L_141 yd_X11_thrown kc_713 (c_X11_thrown hc) (by exact Nat.le_of_ble_eq_true rfl) (by exact Nat.le_of_ble_eq_true rfl) hl.1 rfl (Nat.le_of_ble_eq_true rfl) dL_law_531 ⟨by omega, by omega⟩ (fun H locs hH hP => ?_)
  refine lv_iload hx hb dL_law_534 (lv_at hl 0 rfl) ?_
  refine b_icmp_eq (tgt := 541) hx hb hf dL_law_536 (by decide) (fun hf => ?_) (fun hf => ?_)
  · refine lv_goto (tgt := 2712) hx hb dL_law_541 (by decide) ?_
    refine b_let hf (fun x10 he hf => ?_)
    refine lv_iinc (v := x10) (lv' := [(4, .int x10), (5, .int x4), (0, .ref b), (1, .ref (B + 0)), (2, .ref (B + 713)), (3, .ref (B + 746))]) hx hb dL_law_2712 hl (k := 5) rfl (by rw [← he]; rfl) (by decide) rfl (fun ls hl => ?_)
    refine lv_goto (tgt := 23) hx hb dL_law_2715 (by decide) ?_
    refine W.widen (k := cells + 6) (n := slots + 36) (by omega) (by omega) ?_
    exact hr x10 w8 hf _ _ _ hH (lv_sub hl [2, 3, 4, 5, 0] rfl)
  · refine lv_iconst (v := (0 : Int32)) hx hb dL_law_539 (by decide) ?_
    cases hf
set_option maxRecDepth 100000 in
set_option maxHeartbeats 8000000 in
theorem t_L_law_544 {D : va_G} {B : Nat} {Y : Nat → ClassId} {p : Program} {l : Launch} {e : Env} {s : State} {m : MethodId} {below : List Frame} {meth : Method} {c : Code} {b L : Nat} {xs : Nat → Int32} {rc : Int32 × Wd → Option Unit} {cells slots : Nat} {H : Heap} {locs : List Loc} {ls : Array Slot} {w : Wd} {v4 : Int32} {z : Unit} (C : CX D B Y p s m #[.ref b] meth c cL_law 8 RL (some .boolean)) (htr : l.stackTraces = false) (hL : LXS b L xs s B) (hcs : cells + 6 ≤ room_1.cells ∧ slots + 36 ≤ room_1.slots) (hr : ∀ (v4 : Int32) (w : Wd), rc (v4, w) = some z → ∀ (H : Heap) (locs : List Loc) (ls : Array Slot), HS D B Y w s H locs → lv_has ls 8 [(0, .ref b), (1, .ref (B + 0)), (2, .ref (B + 713)), (3, .ref (B + 746)), (4, .int v4)] → W p l e room_1 s m #[.ref b] below meth c H locs (cells + 6) (slots + 36) (lw_Z below #[.ref b] s) (F0 m 23 ls [])) (hH : HS D B Y w s H locs) (hl : lv_has ls 8 [(0, .ref b), (1, .ref (B + 0)), (2, .ref (B + 713)), (3, .ref (B + 746)), (4, .int v4)]) (hf : f_L_law_544 L xs rc v4 w = some z) : W p l e room_1 s m #[.ref b] below meth c H locs cells slots (lw_Z below #[.ref b] s) (F0 m 544 ls []) := by
  have hx := C.1
  have hb := C.2.1
  unfold f_L_law_544 at hf
  refine lv_aload_n hx hb dL_law_544 rfl (lv_at hl 1 rfl) ?_
  refine lv_aload_n hx hb dL_law_545 rfl (lv_at hl 0 rfl) ?_
  refine lv_iload hx hb dL_law_546 (lv_at hl 4 rfl) ?_
  refine lv_iconst (v := (1 : Int32)) hx hb dL_law_548 (by decide) ?_
  refine lv_iadd hx hb dL_law_549 ?_
  refine g_sld C hL hH hf dL_law_550 (fun x1 hf => ?_)
  refine lv_aload_n hx hb dL_law_551 rfl (lv_at hl 0 rfl) ?_
  refine lv_iload hx hb dL_law_552 (lv_at hl 4 rfl) ?_
  refine lv_iconst (v := (2 : Int32)) hx hb dL_law_554 (by decide) ?_
  refine lv_iadd hx hb dL_law_555 ?_
  refine g_sld C hL hH hf dL_law_556 (fun x2 hf => ?_)
  refine lv_aload_n hx hb dL_law_557 rfl (lv_at hl 0 rfl) ?_
  refine lv_iload hx hb dL_law_558 (lv_at hl 4 rfl) ?_
  refine lv_iconst (v := (3 : Int32)) hx hb dL_law_560 (by decide) ?_
  refine lv_iadd hx hb dL_law_561 ?_
  refine g_sld C hL hH hf dL_law_562 (fun x3 hf => ?_)
  refine lv_aload_n hx hb dL_law_563 rfl (lv_at hl 0 rfl) ?_
  refine lv_iload hx hb dL_law_564 (lv_at hl 4 rfl) ?_
  refine lv_iconst (v := (4 : Int32)) hx hb dL_law_566 (by decide) ?_
  refine lv_iadd hx hb dL_law_567 ?_
  refine g_sld C hL hH hf dL_law_568 (fun x4 hf => ?_)
  refine lv_aload_n hx hb dL_law_569 rfl (lv_at hl 0 rfl) ?_
  refine lv_iload hx hb dL_law_570 (lv_at hl 4 rfl) ?_
  refine lv_iconst (v := (5 : Int32)) hx hb dL_law_572 (by decide) ?_
  refine lv_iadd hx hb dL_law_573 ?_
  refine g_sld C hL hH hf dL_law_574 (fun x5 hf => ?_)
  obtain ⟨x7, w6, hc, hf⟩ := bd_some hf
  refine q_callLW (As := [.ref (B + 0), .int x1, .int x2, .int x3, .int x4, .int x5]) C hH (k := x7) (goodSW wd_676 wd_677 wd_108 wd_678) yd_L_weigh (c_L_weigh htr hc) (by exact Nat.le_of_ble_eq_true rfl) (by exact Nat.le_of_ble_eq_true rfl) hl.1 rfl (Nat.le_of_ble_eq_true rfl) dL_law_575 ⟨by omega, by omega⟩ (fun H locs hH => ?_)
  refine lv_istore (lv' := [(5, .int x7), (0, .ref b), (1, .ref (B + 0)), (2, .ref (B + 713)), (3, .ref (B + 746)), (4, .int v4)]) hx hb dL_law_578 hl (by decide) rfl (fun ls hl => ?_)
  refine lv_aload_n hx hb dL_law_580 rfl (lv_at hl 3 rfl) ?_
  refine lv_aload_n hx hb dL_law_581 rfl (lv_at hl 1 rfl) ?_
  refine lv_iload hx hb dL_law_582 (lv_at hl 5 rfl) ?_
  refine lv_iconst (v := (1 : Int32)) hx hb dL_law_584 (by decide) ?_
  refine lv_iadd hx hb dL_law_585 ?_
  refine g_sld C hL hH hf dL_law_586 (fun x8 hf => ?_)
  refine lv_aload_n hx hb dL_law_587 rfl (lv_at hl 1 rfl) ?_
  refine lv_iload hx hb dL_law_588 (lv_at hl 5 rfl) ?_
  refine lv_iconst (v := (2 : Int32)) hx hb dL_law_590 (by decide) ?_
  refine lv_iadd hx hb dL_law_591 ?_
  refine g_sld C hL hH hf dL_law_592 (fun x9 hf => ?_)
  refine lv_aload_n hx hb dL_law_593 rfl (lv_at hl 1 rfl) ?_
  refine lv_iload hx hb dL_law_594 (lv_at hl 5 rfl) ?_
  refine lv_iconst (v := (3 : Int32)) hx hb dL_law_596 (by decide) ?_
  refine lv_iadd hx hb dL_law_597 ?_
  refine g_sld C hL hH hf dL_law_598 (fun x10 hf => ?_)
  refine lv_aload_n hx hb dL_law_599 rfl (lv_at hl 1 rfl) ?_
  refine lv_iload hx hb dL_law_600 (lv_at hl 5 rfl) ?_
  refine lv_iconst (v := (4 : Int32)) hx hb dL_law_602 (by decide) ?_
  refine lv_iadd hx hb dL_law_603 ?_
  refine g_sld C hL hH hf dL_law_604 (fun x11 hf => ?_)
  refine lv_aload_n hx hb dL_law_605 rfl (lv_at hl 1 rfl) ?_
  refine lv_iload hx hb dL_law_606 (lv_at hl 5 rfl) ?_
  refine lv_iconst (v := (5 : Int32)) hx hb dL_law_608 (by decide) ?_
  refine lv_iadd hx hb dL_law_609 ?_
  refine g_sld C hL hH hf dL_law_610 (fun x12 hf => ?_)
  obtain ⟨u, w13, hc, hf⟩ := bd_some hf
  refine q_callRV0 (As := [.int x8, .int x9, .int x10, .int x11, .int x12]) C hH (ci := 11) rfl (by omega) gk_L_161 yd_X11_weigh kc_713 (c_X11_weigh hc) (by exact Nat.le_of_ble_eq_true rfl) (by exact Nat.le_of_ble_eq_true rfl) hl.1 rfl (Nat.le_of_ble_eq_true rfl) dL_law_611 ⟨by omega, by omega⟩ (fun H locs hH hP => ?_)
  refine lv_aload_n hx hb dL_law_614 rfl (lv_at hl 3 rfl) ?_
  obtain ⟨x15, w14, hc, hf⟩ := bd_some hf
  refine q_callRV1 (v := .int x15) (As := []) C hH (ci := 11) rfl (by omega) gk_L_141 yd_X11_thrown kc_713 (c_X11_thrown hc) (by exact Nat.le_of_ble_eq_true rfl) (by exact Nat.le_of_ble_eq_true rfl) hl.1 rfl (Nat.le_of_ble_eq_true rfl) dL_law_615 ⟨by omega, by omega⟩ (fun H locs hH hP => ?_)
  refine lv_iload hx hb dL_law_618 (lv_at hl 0 rfl) ?_
  refine b_icmp_eq (tgt := 625) hx hb hf dL_law_620 (by decide) (fun hf => ?_) (fun hf => ?_)
  · refine lv_goto (tgt := 2712) hx hb dL_law_625 (by decide) ?_
    refine b_let hf (fun x16 he hf => ?_)
    refine lv_iinc (v := x16) (lv' := [(4, .int x16), (5, .int x7), (0, .ref b), (1, .ref (B + 0)), (2, .ref (B + 713)), (3, .ref (B + 746))]) hx hb dL_law_2712 hl (k := 5) rfl (by rw [← he]; rfl) (by decide) rfl (fun ls hl => ?_)
    refine lv_goto (tgt := 23) hx hb dL_law_2715 (by decide) ?_
    refine W.widen (k := cells + 6) (n := slots + 36) (by omega) (by omega) ?_
    exact hr x16 w14 hf _ _ _ hH (lv_sub hl [2, 3, 4, 5, 0] rfl)
  · refine lv_iconst (v := (0 : Int32)) hx hb dL_law_623 (by decide) ?_
    cases hf
set_option maxRecDepth 100000 in
set_option maxHeartbeats 8000000 in
theorem t_L_law_628 {D : va_G} {B : Nat} {Y : Nat → ClassId} {p : Program} {l : Launch} {e : Env} {s : State} {m : MethodId} {below : List Frame} {meth : Method} {c : Code} {b L : Nat} {xs : Nat → Int32} {rc : Int32 × Wd → Option Unit} {cells slots : Nat} {H : Heap} {locs : List Loc} {ls : Array Slot} {w : Wd} {v4 : Int32} {z : Unit} (C : CX D B Y p s m #[.ref b] meth c cL_law 8 RL (some .boolean)) (htr : l.stackTraces = false) (hL : LXS b L xs s B) (hcs : cells + 6 ≤ room_1.cells ∧ slots + 36 ≤ room_1.slots) (hr : ∀ (v4 : Int32) (w : Wd), rc (v4, w) = some z → ∀ (H : Heap) (locs : List Loc) (ls : Array Slot), HS D B Y w s H locs → lv_has ls 8 [(0, .ref b), (1, .ref (B + 0)), (2, .ref (B + 713)), (3, .ref (B + 746)), (4, .int v4)] → W p l e room_1 s m #[.ref b] below meth c H locs (cells + 6) (slots + 36) (lw_Z below #[.ref b] s) (F0 m 23 ls [])) (hH : HS D B Y w s H locs) (hl : lv_has ls 8 [(0, .ref b), (1, .ref (B + 0)), (2, .ref (B + 713)), (3, .ref (B + 746)), (4, .int v4)]) (hf : f_L_law_628 L xs rc v4 w = some z) : W p l e room_1 s m #[.ref b] below meth c H locs cells slots (lw_Z below #[.ref b] s) (F0 m 628 ls []) := by
  have hx := C.1
  have hb := C.2.1
  unfold f_L_law_628 at hf
  refine lv_aload_n hx hb dL_law_628 rfl (lv_at hl 1 rfl) ?_
  refine lv_aload_n hx hb dL_law_629 rfl (lv_at hl 0 rfl) ?_
  refine lv_iload hx hb dL_law_630 (lv_at hl 4 rfl) ?_
  refine lv_iconst (v := (1 : Int32)) hx hb dL_law_632 (by decide) ?_
  refine lv_iadd hx hb dL_law_633 ?_
  refine g_sld C hL hH hf dL_law_634 (fun x1 hf => ?_)
  refine lv_aload_n hx hb dL_law_635 rfl (lv_at hl 0 rfl) ?_
  refine lv_iload hx hb dL_law_636 (lv_at hl 4 rfl) ?_
  refine lv_iconst (v := (2 : Int32)) hx hb dL_law_638 (by decide) ?_
  refine lv_iadd hx hb dL_law_639 ?_
  refine g_sld C hL hH hf dL_law_640 (fun x2 hf => ?_)
  refine lv_aload_n hx hb dL_law_641 rfl (lv_at hl 0 rfl) ?_
  refine lv_iload hx hb dL_law_642 (lv_at hl 4 rfl) ?_
  refine lv_iconst (v := (3 : Int32)) hx hb dL_law_644 (by decide) ?_
  refine lv_iadd hx hb dL_law_645 ?_
  refine g_sld C hL hH hf dL_law_646 (fun x3 hf => ?_)
  refine lv_aload_n hx hb dL_law_647 rfl (lv_at hl 0 rfl) ?_
  refine lv_iload hx hb dL_law_648 (lv_at hl 4 rfl) ?_
  refine lv_iconst (v := (4 : Int32)) hx hb dL_law_650 (by decide) ?_
  refine lv_iadd hx hb dL_law_651 ?_
  refine g_sld C hL hH hf dL_law_652 (fun x4 hf => ?_)
  refine lv_aload_n hx hb dL_law_653 rfl (lv_at hl 0 rfl) ?_
  refine lv_iload hx hb dL_law_654 (lv_at hl 4 rfl) ?_
  refine lv_iconst (v := (5 : Int32)) hx hb dL_law_656 (by decide) ?_
  refine lv_iadd hx hb dL_law_657 ?_
  refine g_sld C hL hH hf dL_law_658 (fun x5 hf => ?_)
  refine lv_aload_n hx hb dL_law_659 rfl (lv_at hl 0 rfl) ?_
  refine lv_iload hx hb dL_law_660 (lv_at hl 4 rfl) ?_
  refine lv_bipush (v := (6 : Int32)) hx hb dL_law_662 (by decide) ?_
  refine lv_iadd hx hb dL_law_664 ?_
  refine g_sld C hL hH hf dL_law_665 (fun x6 hf => ?_)
  refine lv_aload_n hx hb dL_law_666 rfl (lv_at hl 3 rfl) ?_
  obtain ⟨x8, w7, hc, hf⟩ := bd_some hf
  refine q_callLW (As := [.ref (B + 0), .int x1, .int x2, .int x3, .int x4, .int x5, .int x6, .ref (B + 746)]) C hH (k := x8) (goodSW wd_700 wd_701 wd_108 wd_702) yd_L_contract (c_L_contract htr hc) (by exact Nat.le_of_ble_eq_true rfl) (by exact Nat.le_of_ble_eq_true rfl) hl.1 rfl (Nat.le_of_ble_eq_true rfl) dL_law_667 ⟨by omega, by omega⟩ (fun H locs hH => ?_)
  refine lv_istore (lv' := [(5, .int x8), (0, .ref b), (1, .ref (B + 0)), (2, .ref (B + 713)), (3, .ref (B + 746)), (4, .int v4)]) hx hb dL_law_670 hl (by decide) rfl (fun ls hl => ?_)
  refine lv_aload_n hx hb dL_law_672 rfl (lv_at hl 3 rfl) ?_
  refine lv_aload_n hx hb dL_law_673 rfl (lv_at hl 1 rfl) ?_
  refine lv_iload hx hb dL_law_674 (lv_at hl 5 rfl) ?_
  refine lv_iconst (v := (1 : Int32)) hx hb dL_law_676 (by decide) ?_
  refine lv_iadd hx hb dL_law_677 ?_
  refine g_sld C hL hH hf dL_law_678 (fun x9 hf => ?_)
  refine lv_aload_n hx hb dL_law_679 rfl (lv_at hl 1 rfl) ?_
  refine lv_iload hx hb dL_law_680 (lv_at hl 5 rfl) ?_
  refine lv_iconst (v := (2 : Int32)) hx hb dL_law_682 (by decide) ?_
  refine lv_iadd hx hb dL_law_683 ?_
  refine g_sld C hL hH hf dL_law_684 (fun x10 hf => ?_)
  refine lv_aload_n hx hb dL_law_685 rfl (lv_at hl 1 rfl) ?_
  refine lv_iload hx hb dL_law_686 (lv_at hl 5 rfl) ?_
  refine lv_iconst (v := (3 : Int32)) hx hb dL_law_688 (by decide) ?_
  refine lv_iadd hx hb dL_law_689 ?_
  refine g_sld C hL hH hf dL_law_690 (fun x11 hf => ?_)
  refine lv_aload_n hx hb dL_law_691 rfl (lv_at hl 1 rfl) ?_
  refine lv_iload hx hb dL_law_692 (lv_at hl 5 rfl) ?_
  refine lv_iconst (v := (4 : Int32)) hx hb dL_law_694 (by decide) ?_
  refine lv_iadd hx hb dL_law_695 ?_
  refine g_sld C hL hH hf dL_law_696 (fun x12 hf => ?_)
  refine lv_aload_n hx hb dL_law_697 rfl (lv_at hl 1 rfl) ?_
  refine lv_iload hx hb dL_law_698 (lv_at hl 5 rfl) ?_
  refine lv_iconst (v := (5 : Int32)) hx hb dL_law_700 (by decide) ?_
  refine lv_iadd hx hb dL_law_701 ?_
  refine g_sld C hL hH hf dL_law_702 (fun x13 hf => ?_)
  refine lv_aload_n hx hb dL_law_703 rfl (lv_at hl 1 rfl) ?_
  refine lv_iload hx hb dL_law_704 (lv_at hl 5 rfl) ?_
  refine lv_bipush (v := (6 : Int32)) hx hb dL_law_706 (by decide) ?_
  refine lv_iadd hx hb dL_law_708 ?_
  refine g_sld C hL hH hf dL_law_709 (fun x14 hf => ?_)
  obtain ⟨x16, w15, hc, hf⟩ := bd_some hf
  refine q_callRV1 (v := .int x16) (As := [.int x9, .int x10, .int x11, .int x12, .int x13, .int x14]) C hH (ci := 11) rfl (by omega) gk_L_165 yd_X11_contract kc_713 (c_X11_contract hc) (by exact Nat.le_of_ble_eq_true rfl) (by exact Nat.le_of_ble_eq_true rfl) hl.1 rfl (Nat.le_of_ble_eq_true rfl) dL_law_710 ⟨by omega, by omega⟩ (fun H locs hH hP => ?_)
  refine lv_istore (lv' := [(6, .int x16), (5, .int x8), (0, .ref b), (1, .ref (B + 0)), (2, .ref (B + 713)), (3, .ref (B + 746)), (4, .int v4)]) hx hb dL_law_713 hl (by decide) rfl (fun ls hl => ?_)
  refine lv_aload_n hx hb dL_law_715 rfl (lv_at hl 4 rfl) ?_
  obtain ⟨x18, w17, hc, hf⟩ := bd_some hf
  refine q_callRV1 (v := .int x18) (As := []) C hH (ci := 11) rfl (by omega) gk_L_141 yd_X11_thrown kc_713 (c_X11_thrown hc) (by exact Nat.le_of_ble_eq_true rfl) (by exact Nat.le_of_ble_eq_true rfl) hl.1 rfl (Nat.le_of_ble_eq_true rfl) dL_law_716 ⟨by omega, by omega⟩ (fun H locs hH hP => ?_)
  refine lv_iload hx hb dL_law_719 (lv_at hl 1 rfl) ?_
  refine b_icmp_eq (tgt := 726) hx hb hf dL_law_721 (by decide) (fun hf => ?_) (fun hf => ?_)
  · refine lv_iload hx hb dL_law_726 (lv_at hl 1 rfl) ?_
    refine b_if_ne (tgt := 743) hx hb hf dL_law_728 (by decide) (fun hf => ?_) (fun hf => ?_)
    · refine lv_goto (tgt := 2712) hx hb dL_law_743 (by decide) ?_
      refine b_let hf (fun x19 he hf => ?_)
      refine lv_iinc (v := x19) (lv' := [(4, .int x19), (6, .int x16), (5, .int x8), (0, .ref b), (1, .ref (B + 0)), (2, .ref (B + 713)), (3, .ref (B + 746))]) hx hb dL_law_2712 hl (k := 6) rfl (by rw [← he]; rfl) (by decide) rfl (fun ls hl => ?_)
      refine lv_goto (tgt := 23) hx hb dL_law_2715 (by decide) ?_
      refine W.widen (k := cells + 6) (n := slots + 36) (by omega) (by omega) ?_
      exact hr x19 w17 hf _ _ _ hH (lv_sub hl [3, 4, 5, 6, 0] rfl)
    · refine lv_aload_n hx hb dL_law_731 rfl (lv_at hl 5 rfl) ?_
      refine lv_iconst (v := (0 : Int32)) hx hb dL_law_732 (by decide) ?_
      refine g_lald C hH kc_746 hf dL_law_733 (fun y20 hf => ?_)
      refine lv_iload hx hb dL_law_734 (lv_at hl 0 rfl) ?_
      refine lv_i2l (v := x16.toInt64) hx hb dL_law_736 rfl ?_
      refine W.lcmp hx hb dL_law_737 ?_
      refine b_if_eq (tgt := 743) hx hb hf dL_law_738 (by decide) (fun hf => ?_) (fun hf => ?_)
      · refine lv_goto (tgt := 2712) hx hb dL_law_743 (by decide) ?_
        refine b_let hf (fun x21 he hf => ?_)
        refine lv_iinc (v := x21) (lv' := [(4, .int x21), (6, .int x16), (5, .int x8), (0, .ref b), (1, .ref (B + 0)), (2, .ref (B + 713)), (3, .ref (B + 746))]) hx hb dL_law_2712 hl (k := 6) rfl (by rw [← he]; rfl) (by decide) rfl (fun ls hl => ?_)
        refine lv_goto (tgt := 23) hx hb dL_law_2715 (by decide) ?_
        refine W.widen (k := cells + 6) (n := slots + 36) (by omega) (by omega) ?_
        exact hr x21 w17 hf _ _ _ hH (lv_sub hl [3, 4, 5, 6, 0] rfl)
      · refine lv_iconst (v := (0 : Int32)) hx hb dL_law_741 (by decide) ?_
        cases hf
  · refine lv_iconst (v := (0 : Int32)) hx hb dL_law_724 (by decide) ?_
    cases hf
set_option maxRecDepth 100000 in
set_option maxHeartbeats 8000000 in
theorem t_L_law_746 {D : va_G} {B : Nat} {Y : Nat → ClassId} {p : Program} {l : Launch} {e : Env} {s : State} {m : MethodId} {below : List Frame} {meth : Method} {c : Code} {b L : Nat} {xs : Nat → Int32} {rc : Int32 × Wd → Option Unit} {cells slots : Nat} {H : Heap} {locs : List Loc} {ls : Array Slot} {w : Wd} {v4 : Int32} {z : Unit} (C : CX D B Y p s m #[.ref b] meth c cL_law 8 RL (some .boolean)) (htr : l.stackTraces = false) (hL : LXS b L xs s B) (hcs : cells + 6 ≤ room_1.cells ∧ slots + 36 ≤ room_1.slots) (hr : ∀ (v4 : Int32) (w : Wd), rc (v4, w) = some z → ∀ (H : Heap) (locs : List Loc) (ls : Array Slot), HS D B Y w s H locs → lv_has ls 8 [(0, .ref b), (1, .ref (B + 0)), (2, .ref (B + 713)), (3, .ref (B + 746)), (4, .int v4)] → W p l e room_1 s m #[.ref b] below meth c H locs (cells + 6) (slots + 36) (lw_Z below #[.ref b] s) (F0 m 23 ls [])) (hH : HS D B Y w s H locs) (hl : lv_has ls 8 [(0, .ref b), (1, .ref (B + 0)), (2, .ref (B + 713)), (3, .ref (B + 746)), (4, .int v4)]) (hf : f_L_law_746 L xs rc v4 w = some z) : W p l e room_1 s m #[.ref b] below meth c H locs cells slots (lw_Z below #[.ref b] s) (F0 m 746 ls []) := by
  have hx := C.1
  have hb := C.2.1
  unfold f_L_law_746 at hf
  refine lv_aload_n hx hb dL_law_746 rfl (lv_at hl 1 rfl) ?_
  refine lv_aload_n hx hb dL_law_747 rfl (lv_at hl 0 rfl) ?_
  refine lv_iload hx hb dL_law_748 (lv_at hl 4 rfl) ?_
  refine lv_iconst (v := (1 : Int32)) hx hb dL_law_750 (by decide) ?_
  refine lv_iadd hx hb dL_law_751 ?_
  refine g_sld C hL hH hf dL_law_752 (fun x1 hf => ?_)
  refine lv_aload_n hx hb dL_law_753 rfl (lv_at hl 0 rfl) ?_
  refine lv_iload hx hb dL_law_754 (lv_at hl 4 rfl) ?_
  refine lv_iconst (v := (2 : Int32)) hx hb dL_law_756 (by decide) ?_
  refine lv_iadd hx hb dL_law_757 ?_
  refine g_sld C hL hH hf dL_law_758 (fun x2 hf => ?_)
  refine lv_aload_n hx hb dL_law_759 rfl (lv_at hl 0 rfl) ?_
  refine lv_iload hx hb dL_law_760 (lv_at hl 4 rfl) ?_
  refine lv_iconst (v := (3 : Int32)) hx hb dL_law_762 (by decide) ?_
  refine lv_iadd hx hb dL_law_763 ?_
  refine g_sld C hL hH hf dL_law_764 (fun x3 hf => ?_)
  refine lv_aload_n hx hb dL_law_765 rfl (lv_at hl 0 rfl) ?_
  refine lv_iload hx hb dL_law_766 (lv_at hl 4 rfl) ?_
  refine lv_iconst (v := (4 : Int32)) hx hb dL_law_768 (by decide) ?_
  refine lv_iadd hx hb dL_law_769 ?_
  refine g_sld C hL hH hf dL_law_770 (fun x4 hf => ?_)
  refine lv_aload_n hx hb dL_law_771 rfl (lv_at hl 0 rfl) ?_
  refine lv_iload hx hb dL_law_772 (lv_at hl 4 rfl) ?_
  refine lv_iconst (v := (5 : Int32)) hx hb dL_law_774 (by decide) ?_
  refine lv_iadd hx hb dL_law_775 ?_
  refine g_sld C hL hH hf dL_law_776 (fun x5 hf => ?_)
  refine lv_aload_n hx hb dL_law_777 rfl (lv_at hl 0 rfl) ?_
  refine lv_iload hx hb dL_law_778 (lv_at hl 4 rfl) ?_
  refine lv_bipush (v := (6 : Int32)) hx hb dL_law_780 (by decide) ?_
  refine lv_iadd hx hb dL_law_782 ?_
  refine g_sld C hL hH hf dL_law_783 (fun x6 hf => ?_)
  refine lv_aload_n hx hb dL_law_784 rfl (lv_at hl 0 rfl) ?_
  refine lv_iload hx hb dL_law_785 (lv_at hl 4 rfl) ?_
  refine lv_bipush (v := (7 : Int32)) hx hb dL_law_787 (by decide) ?_
  refine lv_iadd hx hb dL_law_789 ?_
  refine g_sld C hL hH hf dL_law_790 (fun x7 hf => ?_)
  refine lv_aload_n hx hb dL_law_791 rfl (lv_at hl 0 rfl) ?_
  refine lv_iload hx hb dL_law_792 (lv_at hl 4 rfl) ?_
  refine lv_bipush (v := (8 : Int32)) hx hb dL_law_794 (by decide) ?_
  refine lv_iadd hx hb dL_law_796 ?_
  refine g_sld C hL hH hf dL_law_797 (fun x8 hf => ?_)
  refine lv_aload_n hx hb dL_law_798 rfl (lv_at hl 3 rfl) ?_
  obtain ⟨x10, w9, hc, hf⟩ := bd_some hf
  refine q_callLW (As := [.ref (B + 0), .int x1, .int x2, .int x3, .int x4, .int x5, .int x6, .int x7, .int x8, .ref (B + 746)]) C hH (k := x10) (goodSW wd_723 wd_724 wd_108 wd_725) yd_L_plural (c_L_plural htr hc) (by exact Nat.le_of_ble_eq_true rfl) (by exact Nat.le_of_ble_eq_true rfl) hl.1 rfl (Nat.le_of_ble_eq_true rfl) dL_law_799 ⟨by omega, by omega⟩ (fun H locs hH => ?_)
  refine lv_istore (lv' := [(5, .int x10), (0, .ref b), (1, .ref (B + 0)), (2, .ref (B + 713)), (3, .ref (B + 746)), (4, .int v4)]) hx hb dL_law_802 hl (by decide) rfl (fun ls hl => ?_)
  refine lv_aload_n hx hb dL_law_804 rfl (lv_at hl 3 rfl) ?_
  refine lv_aload_n hx hb dL_law_805 rfl (lv_at hl 1 rfl) ?_
  refine lv_iload hx hb dL_law_806 (lv_at hl 5 rfl) ?_
  refine lv_iconst (v := (1 : Int32)) hx hb dL_law_808 (by decide) ?_
  refine lv_iadd hx hb dL_law_809 ?_
  refine g_sld C hL hH hf dL_law_810 (fun x11 hf => ?_)
  refine lv_aload_n hx hb dL_law_811 rfl (lv_at hl 1 rfl) ?_
  refine lv_iload hx hb dL_law_812 (lv_at hl 5 rfl) ?_
  refine lv_iconst (v := (2 : Int32)) hx hb dL_law_814 (by decide) ?_
  refine lv_iadd hx hb dL_law_815 ?_
  refine g_sld C hL hH hf dL_law_816 (fun x12 hf => ?_)
  refine lv_aload_n hx hb dL_law_817 rfl (lv_at hl 1 rfl) ?_
  refine lv_iload hx hb dL_law_818 (lv_at hl 5 rfl) ?_
  refine lv_iconst (v := (3 : Int32)) hx hb dL_law_820 (by decide) ?_
  refine lv_iadd hx hb dL_law_821 ?_
  refine g_sld C hL hH hf dL_law_822 (fun x13 hf => ?_)
  refine lv_aload_n hx hb dL_law_823 rfl (lv_at hl 1 rfl) ?_
  refine lv_iload hx hb dL_law_824 (lv_at hl 5 rfl) ?_
  refine lv_iconst (v := (4 : Int32)) hx hb dL_law_826 (by decide) ?_
  refine lv_iadd hx hb dL_law_827 ?_
  refine g_sld C hL hH hf dL_law_828 (fun x14 hf => ?_)
  refine lv_aload_n hx hb dL_law_829 rfl (lv_at hl 1 rfl) ?_
  refine lv_iload hx hb dL_law_830 (lv_at hl 5 rfl) ?_
  refine lv_iconst (v := (5 : Int32)) hx hb dL_law_832 (by decide) ?_
  refine lv_iadd hx hb dL_law_833 ?_
  refine g_sld C hL hH hf dL_law_834 (fun x15 hf => ?_)
  refine lv_aload_n hx hb dL_law_835 rfl (lv_at hl 1 rfl) ?_
  refine lv_iload hx hb dL_law_836 (lv_at hl 5 rfl) ?_
  refine lv_bipush (v := (6 : Int32)) hx hb dL_law_838 (by decide) ?_
  refine lv_iadd hx hb dL_law_840 ?_
  refine g_sld C hL hH hf dL_law_841 (fun x16 hf => ?_)
  refine lv_aload_n hx hb dL_law_842 rfl (lv_at hl 1 rfl) ?_
  refine lv_iload hx hb dL_law_843 (lv_at hl 5 rfl) ?_
  refine lv_bipush (v := (7 : Int32)) hx hb dL_law_845 (by decide) ?_
  refine lv_iadd hx hb dL_law_847 ?_
  refine g_sld C hL hH hf dL_law_848 (fun x17 hf => ?_)
  refine lv_aload_n hx hb dL_law_849 rfl (lv_at hl 1 rfl) ?_
  refine lv_iload hx hb dL_law_850 (lv_at hl 5 rfl) ?_
  refine lv_bipush (v := (8 : Int32)) hx hb dL_law_852 (by decide) ?_
  refine lv_iadd hx hb dL_law_854 ?_
  refine g_sld C hL hH hf dL_law_855 (fun x18 hf => ?_)
  obtain ⟨x20, w19, hc, hf⟩ := bd_some hf
  refine q_callRV1 (v := .int x20) (As := [.int x11, .int x12, .int x13, .int x14, .int x15, .int x16, .int x17, .int x18]) C hH (ci := 11) rfl (by omega) gk_L_169 yd_X11_plural kc_713 (c_X11_plural hc) (by exact Nat.le_of_ble_eq_true rfl) (by exact Nat.le_of_ble_eq_true rfl) hl.1 rfl (Nat.le_of_ble_eq_true rfl) dL_law_856 ⟨by omega, by omega⟩ (fun H locs hH hP => ?_)
  refine lv_istore (lv' := [(6, .int x20), (5, .int x10), (0, .ref b), (1, .ref (B + 0)), (2, .ref (B + 713)), (3, .ref (B + 746)), (4, .int v4)]) hx hb dL_law_859 hl (by decide) rfl (fun ls hl => ?_)
  refine lv_aload_n hx hb dL_law_861 rfl (lv_at hl 4 rfl) ?_
  obtain ⟨x22, w21, hc, hf⟩ := bd_some hf
  refine q_callRV1 (v := .int x22) (As := []) C hH (ci := 11) rfl (by omega) gk_L_141 yd_X11_thrown kc_713 (c_X11_thrown hc) (by exact Nat.le_of_ble_eq_true rfl) (by exact Nat.le_of_ble_eq_true rfl) hl.1 rfl (Nat.le_of_ble_eq_true rfl) dL_law_862 ⟨by omega, by omega⟩ (fun H locs hH hP => ?_)
  refine lv_iload hx hb dL_law_865 (lv_at hl 1 rfl) ?_
  refine b_icmp_eq (tgt := 872) hx hb hf dL_law_867 (by decide) (fun hf => ?_) (fun hf => ?_)
  · refine lv_iload hx hb dL_law_872 (lv_at hl 1 rfl) ?_
    refine b_if_ne (tgt := 889) hx hb hf dL_law_874 (by decide) (fun hf => ?_) (fun hf => ?_)
    · refine lv_goto (tgt := 2712) hx hb dL_law_889 (by decide) ?_
      refine b_let hf (fun x23 he hf => ?_)
      refine lv_iinc (v := x23) (lv' := [(4, .int x23), (6, .int x20), (5, .int x10), (0, .ref b), (1, .ref (B + 0)), (2, .ref (B + 713)), (3, .ref (B + 746))]) hx hb dL_law_2712 hl (k := 6) rfl (by rw [← he]; rfl) (by decide) rfl (fun ls hl => ?_)
      refine lv_goto (tgt := 23) hx hb dL_law_2715 (by decide) ?_
      refine W.widen (k := cells + 6) (n := slots + 36) (by omega) (by omega) ?_
      exact hr x23 w21 hf _ _ _ hH (lv_sub hl [3, 4, 5, 6, 0] rfl)
    · refine lv_aload_n hx hb dL_law_877 rfl (lv_at hl 5 rfl) ?_
      refine lv_iconst (v := (0 : Int32)) hx hb dL_law_878 (by decide) ?_
      refine g_lald C hH kc_746 hf dL_law_879 (fun y24 hf => ?_)
      refine lv_iload hx hb dL_law_880 (lv_at hl 0 rfl) ?_
      refine lv_i2l (v := x20.toInt64) hx hb dL_law_882 rfl ?_
      refine W.lcmp hx hb dL_law_883 ?_
      refine b_if_eq (tgt := 889) hx hb hf dL_law_884 (by decide) (fun hf => ?_) (fun hf => ?_)
      · refine lv_goto (tgt := 2712) hx hb dL_law_889 (by decide) ?_
        refine b_let hf (fun x25 he hf => ?_)
        refine lv_iinc (v := x25) (lv' := [(4, .int x25), (6, .int x20), (5, .int x10), (0, .ref b), (1, .ref (B + 0)), (2, .ref (B + 713)), (3, .ref (B + 746))]) hx hb dL_law_2712 hl (k := 6) rfl (by rw [← he]; rfl) (by decide) rfl (fun ls hl => ?_)
        refine lv_goto (tgt := 23) hx hb dL_law_2715 (by decide) ?_
        refine W.widen (k := cells + 6) (n := slots + 36) (by omega) (by omega) ?_
        exact hr x25 w21 hf _ _ _ hH (lv_sub hl [3, 4, 5, 6, 0] rfl)
      · refine lv_iconst (v := (0 : Int32)) hx hb dL_law_887 (by decide) ?_
        cases hf
  · refine lv_iconst (v := (0 : Int32)) hx hb dL_law_870 (by decide) ?_
    cases hf
set_option maxRecDepth 100000 in
set_option maxHeartbeats 8000000 in
theorem t_L_law_892 {D : va_G} {B : Nat} {Y : Nat → ClassId} {p : Program} {l : Launch} {e : Env} {s : State} {m : MethodId} {below : List Frame} {meth : Method} {c : Code} {b L : Nat} {xs : Nat → Int32} {rc : Int32 × Wd → Option Unit} {cells slots : Nat} {H : Heap} {locs : List Loc} {ls : Array Slot} {w : Wd} {v4 : Int32} {z : Unit} (C : CX D B Y p s m #[.ref b] meth c cL_law 8 RL (some .boolean)) (htr : l.stackTraces = false) (hL : LXS b L xs s B) (hcs : cells + 6 ≤ room_1.cells ∧ slots + 36 ≤ room_1.slots) (hr : ∀ (v4 : Int32) (w : Wd), rc (v4, w) = some z → ∀ (H : Heap) (locs : List Loc) (ls : Array Slot), HS D B Y w s H locs → lv_has ls 8 [(0, .ref b), (1, .ref (B + 0)), (2, .ref (B + 713)), (3, .ref (B + 746)), (4, .int v4)] → W p l e room_1 s m #[.ref b] below meth c H locs (cells + 6) (slots + 36) (lw_Z below #[.ref b] s) (F0 m 23 ls [])) (hH : HS D B Y w s H locs) (hl : lv_has ls 8 [(0, .ref b), (1, .ref (B + 0)), (2, .ref (B + 713)), (3, .ref (B + 746)), (4, .int v4)]) (hf : f_L_law_892 L xs rc v4 w = some z) : W p l e room_1 s m #[.ref b] below meth c H locs cells slots (lw_Z below #[.ref b] s) (F0 m 892 ls []) := by
  have hx := C.1
  have hb := C.2.1
  unfold f_L_law_892 at hf
  refine lv_aload_n hx hb dL_law_892 rfl (lv_at hl 1 rfl) ?_
  refine lv_aload_n hx hb dL_law_893 rfl (lv_at hl 0 rfl) ?_
  refine lv_iload hx hb dL_law_894 (lv_at hl 4 rfl) ?_
  refine lv_iconst (v := (1 : Int32)) hx hb dL_law_896 (by decide) ?_
  refine lv_iadd hx hb dL_law_897 ?_
  refine g_sld C hL hH hf dL_law_898 (fun x1 hf => ?_)
  refine lv_aload_n hx hb dL_law_899 rfl (lv_at hl 3 rfl) ?_
  obtain ⟨x3, w2, hc, hf⟩ := bd_some hf
  refine q_callLW (As := [.ref (B + 0), .int x1, .ref (B + 746)]) C hH (k := x3) (goodSW wd_746 wd_747 wd_108 wd_748) yd_L_addWord (c_L_addWord htr hc) (by exact Nat.le_of_ble_eq_true rfl) (by exact Nat.le_of_ble_eq_true rfl) hl.1 rfl (Nat.le_of_ble_eq_true rfl) dL_law_900 ⟨by omega, by omega⟩ (fun H locs hH => ?_)
  refine lv_istore (lv' := [(5, .int x3), (0, .ref b), (1, .ref (B + 0)), (2, .ref (B + 713)), (3, .ref (B + 746)), (4, .int v4)]) hx hb dL_law_903 hl (by decide) rfl (fun ls hl => ?_)
  refine lv_aload_n hx hb dL_law_905 rfl (lv_at hl 3 rfl) ?_
  refine lv_aload_n hx hb dL_law_906 rfl (lv_at hl 1 rfl) ?_
  refine lv_iload hx hb dL_law_907 (lv_at hl 5 rfl) ?_
  refine lv_iconst (v := (1 : Int32)) hx hb dL_law_909 (by decide) ?_
  refine lv_iadd hx hb dL_law_910 ?_
  refine g_sld C hL hH hf dL_law_911 (fun x4 hf => ?_)
  obtain ⟨x6, w5, hc, hf⟩ := bd_some hf
  refine q_callRV1 (v := .int x6) (As := [.int x4]) C hH (ci := 11) rfl (by omega) gk_L_173 yd_X11_addWord kc_713 (c_X11_addWord hc) (by exact Nat.le_of_ble_eq_true rfl) (by exact Nat.le_of_ble_eq_true rfl) hl.1 rfl (Nat.le_of_ble_eq_true rfl) dL_law_912 ⟨by omega, by omega⟩ (fun H locs hH hP => ?_)
  refine lv_istore (lv' := [(6, .int x6), (5, .int x3), (0, .ref b), (1, .ref (B + 0)), (2, .ref (B + 713)), (3, .ref (B + 746)), (4, .int v4)]) hx hb dL_law_915 hl (by decide) rfl (fun ls hl => ?_)
  refine lv_aload_n hx hb dL_law_917 rfl (lv_at hl 4 rfl) ?_
  obtain ⟨x8, w7, hc, hf⟩ := bd_some hf
  refine q_callRV1 (v := .int x8) (As := []) C hH (ci := 11) rfl (by omega) gk_L_141 yd_X11_thrown kc_713 (c_X11_thrown hc) (by exact Nat.le_of_ble_eq_true rfl) (by exact Nat.le_of_ble_eq_true rfl) hl.1 rfl (Nat.le_of_ble_eq_true rfl) dL_law_918 ⟨by omega, by omega⟩ (fun H locs hH hP => ?_)
  refine lv_iload hx hb dL_law_921 (lv_at hl 1 rfl) ?_
  refine b_icmp_eq (tgt := 928) hx hb hf dL_law_923 (by decide) (fun hf => ?_) (fun hf => ?_)
  · refine lv_iload hx hb dL_law_928 (lv_at hl 1 rfl) ?_
    refine b_if_ne (tgt := 945) hx hb hf dL_law_930 (by decide) (fun hf => ?_) (fun hf => ?_)
    · refine lv_goto (tgt := 2712) hx hb dL_law_945 (by decide) ?_
      refine b_let hf (fun x9 he hf => ?_)
      refine lv_iinc (v := x9) (lv' := [(4, .int x9), (6, .int x6), (5, .int x3), (0, .ref b), (1, .ref (B + 0)), (2, .ref (B + 713)), (3, .ref (B + 746))]) hx hb dL_law_2712 hl (k := 6) rfl (by rw [← he]; rfl) (by decide) rfl (fun ls hl => ?_)
      refine lv_goto (tgt := 23) hx hb dL_law_2715 (by decide) ?_
      refine W.widen (k := cells + 6) (n := slots + 36) (by omega) (by omega) ?_
      exact hr x9 w7 hf _ _ _ hH (lv_sub hl [3, 4, 5, 6, 0] rfl)
    · refine lv_aload_n hx hb dL_law_933 rfl (lv_at hl 5 rfl) ?_
      refine lv_iconst (v := (0 : Int32)) hx hb dL_law_934 (by decide) ?_
      refine g_lald C hH kc_746 hf dL_law_935 (fun y10 hf => ?_)
      refine lv_iload hx hb dL_law_936 (lv_at hl 0 rfl) ?_
      refine lv_i2l (v := x6.toInt64) hx hb dL_law_938 rfl ?_
      refine W.lcmp hx hb dL_law_939 ?_
      refine b_if_eq (tgt := 945) hx hb hf dL_law_940 (by decide) (fun hf => ?_) (fun hf => ?_)
      · refine lv_goto (tgt := 2712) hx hb dL_law_945 (by decide) ?_
        refine b_let hf (fun x11 he hf => ?_)
        refine lv_iinc (v := x11) (lv' := [(4, .int x11), (6, .int x6), (5, .int x3), (0, .ref b), (1, .ref (B + 0)), (2, .ref (B + 713)), (3, .ref (B + 746))]) hx hb dL_law_2712 hl (k := 6) rfl (by rw [← he]; rfl) (by decide) rfl (fun ls hl => ?_)
        refine lv_goto (tgt := 23) hx hb dL_law_2715 (by decide) ?_
        refine W.widen (k := cells + 6) (n := slots + 36) (by omega) (by omega) ?_
        exact hr x11 w7 hf _ _ _ hH (lv_sub hl [3, 4, 5, 6, 0] rfl)
      · refine lv_iconst (v := (0 : Int32)) hx hb dL_law_943 (by decide) ?_
        cases hf
  · refine lv_iconst (v := (0 : Int32)) hx hb dL_law_926 (by decide) ?_
    cases hf
set_option maxRecDepth 100000 in
set_option maxHeartbeats 8000000 in
theorem t_L_law_948 {D : va_G} {B : Nat} {Y : Nat → ClassId} {p : Program} {l : Launch} {e : Env} {s : State} {m : MethodId} {below : List Frame} {meth : Method} {c : Code} {b L : Nat} {xs : Nat → Int32} {rc : Int32 × Wd → Option Unit} {cells slots : Nat} {H : Heap} {locs : List Loc} {ls : Array Slot} {w : Wd} {v4 : Int32} {z : Unit} (C : CX D B Y p s m #[.ref b] meth c cL_law 8 RL (some .boolean)) (htr : l.stackTraces = false) (hL : LXS b L xs s B) (hcs : cells + 6 ≤ room_1.cells ∧ slots + 36 ≤ room_1.slots) (hr : ∀ (v4 : Int32) (w : Wd), rc (v4, w) = some z → ∀ (H : Heap) (locs : List Loc) (ls : Array Slot), HS D B Y w s H locs → lv_has ls 8 [(0, .ref b), (1, .ref (B + 0)), (2, .ref (B + 713)), (3, .ref (B + 746)), (4, .int v4)] → W p l e room_1 s m #[.ref b] below meth c H locs (cells + 6) (slots + 36) (lw_Z below #[.ref b] s) (F0 m 23 ls [])) (hH : HS D B Y w s H locs) (hl : lv_has ls 8 [(0, .ref b), (1, .ref (B + 0)), (2, .ref (B + 713)), (3, .ref (B + 746)), (4, .int v4)]) (hf : f_L_law_948 L xs rc v4 w = some z) : W p l e room_1 s m #[.ref b] below meth c H locs cells slots (lw_Z below #[.ref b] s) (F0 m 948 ls []) := by
  have hx := C.1
  have hb := C.2.1
  unfold f_L_law_948 at hf
  refine lv_aload_n hx hb dL_law_948 rfl (lv_at hl 1 rfl) ?_
  refine lv_aload_n hx hb dL_law_949 rfl (lv_at hl 0 rfl) ?_
  refine lv_iload hx hb dL_law_950 (lv_at hl 4 rfl) ?_
  refine lv_iconst (v := (1 : Int32)) hx hb dL_law_952 (by decide) ?_
  refine lv_iadd hx hb dL_law_953 ?_
  refine g_sld C hL hH hf dL_law_954 (fun x1 hf => ?_)
  refine lv_aload_n hx hb dL_law_955 rfl (lv_at hl 0 rfl) ?_
  refine lv_iload hx hb dL_law_956 (lv_at hl 4 rfl) ?_
  refine lv_iconst (v := (2 : Int32)) hx hb dL_law_958 (by decide) ?_
  refine lv_iadd hx hb dL_law_959 ?_
  refine g_sld C hL hH hf dL_law_960 (fun x2 hf => ?_)
  refine lv_aload_n hx hb dL_law_961 rfl (lv_at hl 0 rfl) ?_
  refine lv_iload hx hb dL_law_962 (lv_at hl 4 rfl) ?_
  refine lv_iconst (v := (3 : Int32)) hx hb dL_law_964 (by decide) ?_
  refine lv_iadd hx hb dL_law_965 ?_
  refine g_sld C hL hH hf dL_law_966 (fun x3 hf => ?_)
  refine lv_aload_n hx hb dL_law_967 rfl (lv_at hl 0 rfl) ?_
  refine lv_iload hx hb dL_law_968 (lv_at hl 4 rfl) ?_
  refine lv_iconst (v := (4 : Int32)) hx hb dL_law_970 (by decide) ?_
  refine lv_iadd hx hb dL_law_971 ?_
  refine g_sld C hL hH hf dL_law_972 (fun x4 hf => ?_)
  refine lv_aload_n hx hb dL_law_973 rfl (lv_at hl 0 rfl) ?_
  refine lv_iload hx hb dL_law_974 (lv_at hl 4 rfl) ?_
  refine lv_iconst (v := (5 : Int32)) hx hb dL_law_976 (by decide) ?_
  refine lv_iadd hx hb dL_law_977 ?_
  refine g_sld C hL hH hf dL_law_978 (fun x5 hf => ?_)
  refine lv_aload_n hx hb dL_law_979 rfl (lv_at hl 3 rfl) ?_
  obtain ⟨x7, w6, hc, hf⟩ := bd_some hf
  refine q_callLW (As := [.ref (B + 0), .int x1, .int x2, .int x3, .int x4, .int x5, .ref (B + 746)]) C hH (k := x7) (goodSW wd_773 wd_774 wd_108 wd_775) yd_L_addRule (c_L_addRule htr hc) (by exact Nat.le_of_ble_eq_true rfl) (by exact Nat.le_of_ble_eq_true rfl) hl.1 rfl (Nat.le_of_ble_eq_true rfl) dL_law_980 ⟨by omega, by omega⟩ (fun H locs hH => ?_)
  refine lv_istore (lv' := [(5, .int x7), (0, .ref b), (1, .ref (B + 0)), (2, .ref (B + 713)), (3, .ref (B + 746)), (4, .int v4)]) hx hb dL_law_983 hl (by decide) rfl (fun ls hl => ?_)
  refine lv_aload_n hx hb dL_law_985 rfl (lv_at hl 3 rfl) ?_
  refine lv_aload_n hx hb dL_law_986 rfl (lv_at hl 1 rfl) ?_
  refine lv_iload hx hb dL_law_987 (lv_at hl 5 rfl) ?_
  refine lv_iconst (v := (1 : Int32)) hx hb dL_law_989 (by decide) ?_
  refine lv_iadd hx hb dL_law_990 ?_
  refine g_sld C hL hH hf dL_law_991 (fun x8 hf => ?_)
  refine lv_aload_n hx hb dL_law_992 rfl (lv_at hl 1 rfl) ?_
  refine lv_iload hx hb dL_law_993 (lv_at hl 5 rfl) ?_
  refine lv_iconst (v := (2 : Int32)) hx hb dL_law_995 (by decide) ?_
  refine lv_iadd hx hb dL_law_996 ?_
  refine g_sld C hL hH hf dL_law_997 (fun x9 hf => ?_)
  refine lv_aload_n hx hb dL_law_998 rfl (lv_at hl 1 rfl) ?_
  refine lv_iload hx hb dL_law_999 (lv_at hl 5 rfl) ?_
  refine lv_iconst (v := (3 : Int32)) hx hb dL_law_1001 (by decide) ?_
  refine lv_iadd hx hb dL_law_1002 ?_
  refine g_sld C hL hH hf dL_law_1003 (fun x10 hf => ?_)
  refine lv_aload_n hx hb dL_law_1004 rfl (lv_at hl 1 rfl) ?_
  refine lv_iload hx hb dL_law_1005 (lv_at hl 5 rfl) ?_
  refine lv_iconst (v := (4 : Int32)) hx hb dL_law_1007 (by decide) ?_
  refine lv_iadd hx hb dL_law_1008 ?_
  refine g_sld C hL hH hf dL_law_1009 (fun x11 hf => ?_)
  refine lv_aload_n hx hb dL_law_1010 rfl (lv_at hl 1 rfl) ?_
  refine lv_iload hx hb dL_law_1011 (lv_at hl 5 rfl) ?_
  refine lv_iconst (v := (5 : Int32)) hx hb dL_law_1013 (by decide) ?_
  refine lv_iadd hx hb dL_law_1014 ?_
  refine g_sld C hL hH hf dL_law_1015 (fun x12 hf => ?_)
  obtain ⟨x14, w13, hc, hf⟩ := bd_some hf
  refine q_callRV1 (v := .int x14) (As := [.int x8, .int x9, .int x10, .int x11, .int x12]) C hH (ci := 11) rfl (by omega) gk_L_177 yd_X11_addRule kc_713 (c_X11_addRule hc) (by exact Nat.le_of_ble_eq_true rfl) (by exact Nat.le_of_ble_eq_true rfl) hl.1 rfl (Nat.le_of_ble_eq_true rfl) dL_law_1016 ⟨by omega, by omega⟩ (fun H locs hH hP => ?_)
  refine lv_istore (lv' := [(6, .int x14), (5, .int x7), (0, .ref b), (1, .ref (B + 0)), (2, .ref (B + 713)), (3, .ref (B + 746)), (4, .int v4)]) hx hb dL_law_1019 hl (by decide) rfl (fun ls hl => ?_)
  refine lv_aload_n hx hb dL_law_1021 rfl (lv_at hl 4 rfl) ?_
  obtain ⟨x16, w15, hc, hf⟩ := bd_some hf
  refine q_callRV1 (v := .int x16) (As := []) C hH (ci := 11) rfl (by omega) gk_L_141 yd_X11_thrown kc_713 (c_X11_thrown hc) (by exact Nat.le_of_ble_eq_true rfl) (by exact Nat.le_of_ble_eq_true rfl) hl.1 rfl (Nat.le_of_ble_eq_true rfl) dL_law_1022 ⟨by omega, by omega⟩ (fun H locs hH hP => ?_)
  refine lv_iload hx hb dL_law_1025 (lv_at hl 1 rfl) ?_
  refine b_icmp_eq (tgt := 1032) hx hb hf dL_law_1027 (by decide) (fun hf => ?_) (fun hf => ?_)
  · refine lv_iload hx hb dL_law_1032 (lv_at hl 1 rfl) ?_
    refine b_if_ne (tgt := 1049) hx hb hf dL_law_1034 (by decide) (fun hf => ?_) (fun hf => ?_)
    · refine lv_goto (tgt := 2712) hx hb dL_law_1049 (by decide) ?_
      refine b_let hf (fun x17 he hf => ?_)
      refine lv_iinc (v := x17) (lv' := [(4, .int x17), (6, .int x14), (5, .int x7), (0, .ref b), (1, .ref (B + 0)), (2, .ref (B + 713)), (3, .ref (B + 746))]) hx hb dL_law_2712 hl (k := 6) rfl (by rw [← he]; rfl) (by decide) rfl (fun ls hl => ?_)
      refine lv_goto (tgt := 23) hx hb dL_law_2715 (by decide) ?_
      refine W.widen (k := cells + 6) (n := slots + 36) (by omega) (by omega) ?_
      exact hr x17 w15 hf _ _ _ hH (lv_sub hl [3, 4, 5, 6, 0] rfl)
    · refine lv_aload_n hx hb dL_law_1037 rfl (lv_at hl 5 rfl) ?_
      refine lv_iconst (v := (0 : Int32)) hx hb dL_law_1038 (by decide) ?_
      refine g_lald C hH kc_746 hf dL_law_1039 (fun y18 hf => ?_)
      refine lv_iload hx hb dL_law_1040 (lv_at hl 0 rfl) ?_
      refine lv_i2l (v := x14.toInt64) hx hb dL_law_1042 rfl ?_
      refine W.lcmp hx hb dL_law_1043 ?_
      refine b_if_eq (tgt := 1049) hx hb hf dL_law_1044 (by decide) (fun hf => ?_) (fun hf => ?_)
      · refine lv_goto (tgt := 2712) hx hb dL_law_1049 (by decide) ?_
        refine b_let hf (fun x19 he hf => ?_)
        refine lv_iinc (v := x19) (lv' := [(4, .int x19), (6, .int x14), (5, .int x7), (0, .ref b), (1, .ref (B + 0)), (2, .ref (B + 713)), (3, .ref (B + 746))]) hx hb dL_law_2712 hl (k := 6) rfl (by rw [← he]; rfl) (by decide) rfl (fun ls hl => ?_)
        refine lv_goto (tgt := 23) hx hb dL_law_2715 (by decide) ?_
        refine W.widen (k := cells + 6) (n := slots + 36) (by omega) (by omega) ?_
        exact hr x19 w15 hf _ _ _ hH (lv_sub hl [3, 4, 5, 6, 0] rfl)
      · refine lv_iconst (v := (0 : Int32)) hx hb dL_law_1047 (by decide) ?_
        cases hf
  · refine lv_iconst (v := (0 : Int32)) hx hb dL_law_1030 (by decide) ?_
    cases hf
set_option maxRecDepth 100000 in
set_option maxHeartbeats 8000000 in
theorem t_L_law_1052 {D : va_G} {B : Nat} {Y : Nat → ClassId} {p : Program} {l : Launch} {e : Env} {s : State} {m : MethodId} {below : List Frame} {meth : Method} {c : Code} {b L : Nat} {xs : Nat → Int32} {rc : Int32 × Wd → Option Unit} {cells slots : Nat} {H : Heap} {locs : List Loc} {ls : Array Slot} {w : Wd} {v4 : Int32} {z : Unit} (C : CX D B Y p s m #[.ref b] meth c cL_law 8 RL (some .boolean)) (htr : l.stackTraces = false) (hL : LXS b L xs s B) (hcs : cells + 6 ≤ room_1.cells ∧ slots + 36 ≤ room_1.slots) (hr : ∀ (v4 : Int32) (w : Wd), rc (v4, w) = some z → ∀ (H : Heap) (locs : List Loc) (ls : Array Slot), HS D B Y w s H locs → lv_has ls 8 [(0, .ref b), (1, .ref (B + 0)), (2, .ref (B + 713)), (3, .ref (B + 746)), (4, .int v4)] → W p l e room_1 s m #[.ref b] below meth c H locs (cells + 6) (slots + 36) (lw_Z below #[.ref b] s) (F0 m 23 ls [])) (hH : HS D B Y w s H locs) (hl : lv_has ls 8 [(0, .ref b), (1, .ref (B + 0)), (2, .ref (B + 713)), (3, .ref (B + 746)), (4, .int v4)]) (hf : f_L_law_1052 L xs rc v4 w = some z) : W p l e room_1 s m #[.ref b] below meth c H locs cells slots (lw_Z below #[.ref b] s) (F0 m 1052 ls []) := by
  have hx := C.1
  have hb := C.2.1
  unfold f_L_law_1052 at hf
  refine lv_aload_n hx hb dL_law_1052 rfl (lv_at hl 1 rfl) ?_
  refine lv_aload_n hx hb dL_law_1053 rfl (lv_at hl 3 rfl) ?_
  obtain ⟨x2, w1, hc, hf⟩ := bd_some hf
  refine q_callLW (As := [.ref (B + 0), .ref (B + 746)]) C hH (k := x2) (goodSW wd_794 wd_795 wd_108 wd_796) yd_L_save (c_L_save htr hc) (by exact Nat.le_of_ble_eq_true rfl) (by exact Nat.le_of_ble_eq_true rfl) hl.1 rfl (Nat.le_of_ble_eq_true rfl) dL_law_1054 ⟨by omega, by omega⟩ (fun H locs hH => ?_)
  refine lv_istore (lv' := [(5, .int x2), (0, .ref b), (1, .ref (B + 0)), (2, .ref (B + 713)), (3, .ref (B + 746)), (4, .int v4)]) hx hb dL_law_1057 hl (by decide) rfl (fun ls hl => ?_)
  refine lv_aload_n hx hb dL_law_1059 rfl (lv_at hl 3 rfl) ?_
  obtain ⟨x4, w3, hc, hf⟩ := bd_some hf
  refine q_callRV1 (v := .int x4) (As := []) C hH (ci := 11) rfl (by omega) gk_L_181 yd_X11_save kc_713 (c_X11_save hc) (by exact Nat.le_of_ble_eq_true rfl) (by exact Nat.le_of_ble_eq_true rfl) hl.1 rfl (Nat.le_of_ble_eq_true rfl) dL_law_1060 ⟨by omega, by omega⟩ (fun H locs hH hP => ?_)
  refine lv_istore (lv' := [(6, .int x4), (5, .int x2), (0, .ref b), (1, .ref (B + 0)), (2, .ref (B + 713)), (3, .ref (B + 746)), (4, .int v4)]) hx hb dL_law_1063 hl (by decide) rfl (fun ls hl => ?_)
  refine lv_aload_n hx hb dL_law_1065 rfl (lv_at hl 4 rfl) ?_
  obtain ⟨x6, w5, hc, hf⟩ := bd_some hf
  refine q_callRV1 (v := .int x6) (As := []) C hH (ci := 11) rfl (by omega) gk_L_141 yd_X11_thrown kc_713 (c_X11_thrown hc) (by exact Nat.le_of_ble_eq_true rfl) (by exact Nat.le_of_ble_eq_true rfl) hl.1 rfl (Nat.le_of_ble_eq_true rfl) dL_law_1066 ⟨by omega, by omega⟩ (fun H locs hH hP => ?_)
  refine lv_iload hx hb dL_law_1069 (lv_at hl 1 rfl) ?_
  refine b_icmp_eq (tgt := 1076) hx hb hf dL_law_1071 (by decide) (fun hf => ?_) (fun hf => ?_)
  · refine lv_iload hx hb dL_law_1076 (lv_at hl 1 rfl) ?_
    refine b_if_ne (tgt := 1093) hx hb hf dL_law_1078 (by decide) (fun hf => ?_) (fun hf => ?_)
    · refine lv_goto (tgt := 2712) hx hb dL_law_1093 (by decide) ?_
      refine b_let hf (fun x7 he hf => ?_)
      refine lv_iinc (v := x7) (lv' := [(4, .int x7), (6, .int x4), (5, .int x2), (0, .ref b), (1, .ref (B + 0)), (2, .ref (B + 713)), (3, .ref (B + 746))]) hx hb dL_law_2712 hl (k := 6) rfl (by rw [← he]; rfl) (by decide) rfl (fun ls hl => ?_)
      refine lv_goto (tgt := 23) hx hb dL_law_2715 (by decide) ?_
      refine W.widen (k := cells + 6) (n := slots + 36) (by omega) (by omega) ?_
      exact hr x7 w5 hf _ _ _ hH (lv_sub hl [3, 4, 5, 6, 0] rfl)
    · refine lv_aload_n hx hb dL_law_1081 rfl (lv_at hl 5 rfl) ?_
      refine lv_iconst (v := (0 : Int32)) hx hb dL_law_1082 (by decide) ?_
      refine g_lald C hH kc_746 hf dL_law_1083 (fun y8 hf => ?_)
      refine lv_iload hx hb dL_law_1084 (lv_at hl 0 rfl) ?_
      refine lv_i2l (v := x4.toInt64) hx hb dL_law_1086 rfl ?_
      refine W.lcmp hx hb dL_law_1087 ?_
      refine b_if_eq (tgt := 1093) hx hb hf dL_law_1088 (by decide) (fun hf => ?_) (fun hf => ?_)
      · refine lv_goto (tgt := 2712) hx hb dL_law_1093 (by decide) ?_
        refine b_let hf (fun x9 he hf => ?_)
        refine lv_iinc (v := x9) (lv' := [(4, .int x9), (6, .int x4), (5, .int x2), (0, .ref b), (1, .ref (B + 0)), (2, .ref (B + 713)), (3, .ref (B + 746))]) hx hb dL_law_2712 hl (k := 6) rfl (by rw [← he]; rfl) (by decide) rfl (fun ls hl => ?_)
        refine lv_goto (tgt := 23) hx hb dL_law_2715 (by decide) ?_
        refine W.widen (k := cells + 6) (n := slots + 36) (by omega) (by omega) ?_
        exact hr x9 w5 hf _ _ _ hH (lv_sub hl [3, 4, 5, 6, 0] rfl)
      · refine lv_iconst (v := (0 : Int32)) hx hb dL_law_1091 (by decide) ?_
        cases hf
  · refine lv_iconst (v := (0 : Int32)) hx hb dL_law_1074 (by decide) ?_
    cases hf
