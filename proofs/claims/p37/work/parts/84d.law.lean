set_option maxRecDepth 100000 in
set_option maxHeartbeats 8000000 in
theorem t2_L_law_120 {D : va_G} {B : Nat} {Y : Nat → ClassId} {p : Program} {l : Launch} {e : Env} {s : State} {m : MethodId} {below : List Frame} {meth : Method} {c : Code} {b L : Nat} {xs : Nat → Int32} {cells slots : Nat} {rc_21 : Int32 × Int32 × Wd × Wd → Option Unit} {z : Unit} {H : Heap} {locs : List Loc} {ls : Array Slot} {w v : Wd} {v3 : Int32} {v4 : Int32} {v5 : Int32} (C : CX2 D (A2 B) Y p s m #[.ref b] meth c cL_law 9 RL (some .boolean)) (htr : l.stackTraces = false) (hX : LX2 b L xs s B) (hcs : cells + 66 ≤ room_1.cells ∧ slots + 396 ≤ room_1.slots) (hr_21 : ∀ (v3 : Int32) (v4 : Int32) (w v : Wd), rc_21 (v3, v4, w, v) = some z → isZ v3 → ∀ (H : Heap) (locs : List Loc) (ls : Array Slot), HT D (A2 B) B (B + 713) Y w v s H locs → lv_has ls 9 [(0, .ref b), (1, .ref (B + 0)), (2, .ref (B + 713 + 0)), (3, .int v3), (4, .int v4)] → W p l e room_1 s m #[.ref b] below meth c H locs (cells + 16) (slots + 96) (lw_Z below #[.ref b] s) (F0 m 21 ls [])) (z_v3 : isZ v3) (hH : HT D (A2 B) B (B + 713) Y w v s H locs) (hl : lv_has ls 9 [(0, .ref b), (1, .ref (B + 0)), (2, .ref (B + 713 + 0)), (3, .int v3), (4, .int v4), (5, .int v5)]) (hf : f2_L_law_120 L xs rc_21 v3 v4 v5 w v = some z) : W p l e room_1 s m #[.ref b] below meth c H locs cells slots (lw_Z below #[.ref b] s) (F0 m 120 ls []) := by
  have hx := C.1
  have hb := C.2.1
  unfold f2_L_law_120 at hf
  refine lv_iload hx hb dL_law_120 (lv_at hl 4 rfl) ?_
  refine lv_bipush (v := (7 : Int32)) hx hb dL_law_122 (by decide) ?_
  refine lv_irem hx hb dL_law_124 (by decide) ?_
  refine lv_iconst (v := (3 : Int32)) hx hb dL_law_125 (by decide) ?_
  refine b_icmp_ne (tgt := 196) hx hb hf dL_law_126 (by decide) (fun hf => ?_) (fun hf => ?_)
  · refine b_let hf (fun x1 he hf => ?_)
    refine lv_iinc (v := x1) (lv' := [(4, .int x1), (0, .ref b), (1, .ref (B + 0)), (2, .ref (B + 713 + 0)), (3, .int v3), (5, .int v5)]) hx hb dL_law_196 hl (k := 4) rfl (by rw [← he]; rfl) (by decide) rfl (fun ls hl => ?_)
    refine lv_goto (tgt := 21) hx hb dL_law_199 (by decide) ?_
    refine W.widen (k := cells + 16) (n := slots + 96) (by omega) (by omega) ?_
    exact hr_21 v3 x1 w v hf z_v3 _ _ _ hH (lv_sub hl [1, 2, 3, 4, 0] rfl)
  · refine lv_iload_n hx hb dL_law_129 rfl (lv_at hl 3 rfl) ?_
    refine b_if_eq (tgt := 196) hx hb hf dL_law_130 (by decide) (fun hf => ?_) (fun hf => ?_)
    · refine b_let hf (fun x2 he hf => ?_)
      refine lv_iinc (v := x2) (lv' := [(4, .int x2), (0, .ref b), (1, .ref (B + 0)), (2, .ref (B + 713 + 0)), (3, .int v3), (5, .int v5)]) hx hb dL_law_196 hl (k := 4) rfl (by rw [← he]; rfl) (by decide) rfl (fun ls hl => ?_)
      refine lv_goto (tgt := 21) hx hb dL_law_199 (by decide) ?_
      refine W.widen (k := cells + 16) (n := slots + 96) (by omega) (by omega) ?_
      exact hr_21 v3 x2 w v hf z_v3 _ _ _ hH (lv_sub hl [1, 2, 3, 4, 0] rfl)
    · refine lv_iload hx hb dL_law_133 (lv_at hl 5 rfl) ?_
      refine lv_iconst (v := (4 : Int32)) hx hb dL_law_135 (by decide) ?_
      refine lv_ishr hx hb dL_law_136 ?_
      refine lv_iconst (v := (3 : Int32)) hx hb dL_law_137 (by decide) ?_
      obtain ⟨x4, w3, hc, hf⟩ := bd_some hf
      refine q2_callS (As := [.int (v5 >>> ((4 : Int32) &&& 31)), .int (3 : Int32)]) C hH gk_L_137 yd_L_low (c_L_low hc) (by exact Nat.le_of_ble_eq_true rfl) (by exact Nat.le_of_ble_eq_true rfl) hl.1 rfl (Nat.le_of_ble_eq_true rfl) dL_law_138 ⟨by omega, by omega⟩ (fun H locs hH hP => ?_)
      refine lv_istore (lv' := [(8, .int x4), (0, .ref b), (1, .ref (B + 0)), (2, .ref (B + 713 + 0)), (3, .int v3), (4, .int v4), (5, .int v5)]) hx hb dL_law_141 hl (by decide) rfl (fun ls hl => ?_)
      refine lv_aload_n hx hb dL_law_143 rfl (lv_at hl 2 rfl) ?_
      refine lv_iload hx hb dL_law_144 (lv_at hl 0 rfl) ?_
      obtain ⟨x6, w5, hc, hf⟩ := bdr_some hf
      refine q2_xK (As := [.ref (B + 0), .int x4]) C hH gk_L_200 yd_L_areFormsSo (c_L_areFormsSo (r := .inr x6) htr hc) (by exact Nat.le_of_ble_eq_true rfl) (by exact Nat.le_of_ble_eq_true rfl) hl.1 rfl (Nat.le_of_ble_eq_true rfl) dL_law_146 ⟨by omega, by omega⟩ (fun H locs hH z_x6 => ?_)
      refine b_if_eq (tgt := 194) hx hb hf dL_law_149 (by decide) (fun hf => ?_) (fun hf => ?_)
      · refine lv_iconst (v := (0 : Int32)) hx hb dL_law_194 (by decide) ?_
        refine lv_istore_n (lv' := [(3, .int (0 : Int32)), (8, .int x4), (0, .ref b), (1, .ref (B + 0)), (2, .ref (B + 713 + 0)), (4, .int v4), (5, .int v5)]) hx hb dL_law_195 rfl hl (by decide) rfl (fun ls hl => ?_)
        refine b_let hf (fun x7 he hf => ?_)
        refine lv_iinc (v := x7) (lv' := [(4, .int x7), (3, .int (0 : Int32)), (8, .int x4), (0, .ref b), (1, .ref (B + 0)), (2, .ref (B + 713 + 0)), (5, .int v5)]) hx hb dL_law_196 hl (k := 5) rfl (by rw [← he]; rfl) (by decide) rfl (fun ls hl => ?_)
        refine lv_goto (tgt := 21) hx hb dL_law_199 (by decide) ?_
        refine W.widen (k := cells + 16) (n := slots + 96) (by omega) (by omega) ?_
        exact hr_21 (0 : Int32) x7 w5 v hf isZ_0 _ _ _ hH (lv_sub hl [3, 4, 5, 1, 0] rfl)
      · refine lv_aload_n hx hb dL_law_152 rfl (lv_at hl 3 rfl) ?_
        refine lv_iload hx hb dL_law_153 (lv_at hl 0 rfl) ?_
        obtain ⟨x9, w8, hc, hf⟩ := bdr_some hf
        refine q2_xK (As := [.ref (B + 713 + 0), .int x4]) C hH.sy gk_L_200 yd_L_areFormsSo (c_L_areFormsSo (r := .inr x9) htr hc) (by exact Nat.le_of_ble_eq_true rfl) (by exact Nat.le_of_ble_eq_true rfl) hl.1 rfl (Nat.le_of_ble_eq_true rfl) dL_law_155 ⟨by omega, by omega⟩ (fun H locs hH z_x9 => ?_)
        replace hH := hH.sy
        refine b_if_eq (tgt := 194) hx hb hf dL_law_158 (by decide) (fun hf => ?_) (fun hf => ?_)
        · refine lv_iconst (v := (0 : Int32)) hx hb dL_law_194 (by decide) ?_
          refine lv_istore_n (lv' := [(3, .int (0 : Int32)), (8, .int x4), (0, .ref b), (1, .ref (B + 0)), (2, .ref (B + 713 + 0)), (4, .int v4), (5, .int v5)]) hx hb dL_law_195 rfl hl (by decide) rfl (fun ls hl => ?_)
          refine b_let hf (fun x10 he hf => ?_)
          refine lv_iinc (v := x10) (lv' := [(4, .int x10), (3, .int (0 : Int32)), (8, .int x4), (0, .ref b), (1, .ref (B + 0)), (2, .ref (B + 713 + 0)), (5, .int v5)]) hx hb dL_law_196 hl (k := 5) rfl (by rw [← he]; rfl) (by decide) rfl (fun ls hl => ?_)
          refine lv_goto (tgt := 21) hx hb dL_law_199 (by decide) ?_
          refine W.widen (k := cells + 16) (n := slots + 96) (by omega) (by omega) ?_
          exact hr_21 (0 : Int32) x10 w5 w8 hf isZ_0 _ _ _ hH (lv_sub hl [3, 4, 5, 1, 0] rfl)
        · refine lv_aload_n hx hb dL_law_161 rfl (lv_at hl 2 rfl) ?_
          refine lv_iload hx hb dL_law_162 (lv_at hl 0 rfl) ?_
          refine lv_iload hx hb dL_law_164 (lv_at hl 6 rfl) ?_
          refine lv_bipush (v := (6 : Int32)) hx hb dL_law_166 (by decide) ?_
          refine lv_ishr hx hb dL_law_168 ?_
          refine lv_iconst (v := (3 : Int32)) hx hb dL_law_169 (by decide) ?_
          obtain ⟨x12, w11, hc, hf⟩ := bd_some hf
          refine q2_callS (As := [.int (v5 >>> ((6 : Int32) &&& 31)), .int (3 : Int32)]) C hH gk_L_137 yd_L_low (c_L_low hc) (by exact Nat.le_of_ble_eq_true rfl) (by exact Nat.le_of_ble_eq_true rfl) hl.1 rfl (Nat.le_of_ble_eq_true rfl) dL_law_170 ⟨by omega, by omega⟩ (fun H locs hH hP => ?_)
          refine lv_iconst (v := (1 : Int32)) hx hb dL_law_173 (by decide) ?_
          refine lv_isub hx hb dL_law_174 ?_
          obtain ⟨x14, w13, hc, hf⟩ := bdr_some hf
          refine q2_xS (As := [.ref (B + 0), .int x4, .int (x12 - (1 : Int32))]) C hH gk_L_204 yd_L_isShownSo (c_L_isShownSo (r := .inr x14) htr hc) (by exact Nat.le_of_ble_eq_true rfl) (by exact Nat.le_of_ble_eq_true rfl) hl.1 rfl (Nat.le_of_ble_eq_true rfl) dL_law_175 ⟨by omega, by omega⟩ (fun H locs hH z_x14 => ?_)
          refine b_if_eq (tgt := 194) hx hb hf dL_law_178 (by decide) (fun hf => ?_) (fun hf => ?_)
          · refine lv_iconst (v := (0 : Int32)) hx hb dL_law_194 (by decide) ?_
            refine lv_istore_n (lv' := [(3, .int (0 : Int32)), (8, .int x4), (0, .ref b), (1, .ref (B + 0)), (2, .ref (B + 713 + 0)), (4, .int v4), (5, .int v5)]) hx hb dL_law_195 rfl hl (by decide) rfl (fun ls hl => ?_)
            refine b_let hf (fun x15 he hf => ?_)
            refine lv_iinc (v := x15) (lv' := [(4, .int x15), (3, .int (0 : Int32)), (8, .int x4), (0, .ref b), (1, .ref (B + 0)), (2, .ref (B + 713 + 0)), (5, .int v5)]) hx hb dL_law_196 hl (k := 5) rfl (by rw [← he]; rfl) (by decide) rfl (fun ls hl => ?_)
            refine lv_goto (tgt := 21) hx hb dL_law_199 (by decide) ?_
            refine W.widen (k := cells + 16) (n := slots + 96) (by omega) (by omega) ?_
            exact hr_21 (0 : Int32) x15 w13 w8 hf isZ_0 _ _ _ hH (lv_sub hl [3, 4, 5, 1, 0] rfl)
          · refine lv_aload_n hx hb dL_law_181 rfl (lv_at hl 2 rfl) ?_
            refine lv_iload hx hb dL_law_182 (lv_at hl 0 rfl) ?_
            obtain ⟨x17, w16, hc, hf⟩ := bdr_some hf
            refine q2_xS (As := [.ref (B + 0), .int x4]) C hH gk_L_207 yd_L_areBreaksSo (c_L_areBreaksSo (r := .inr x17) htr hc) (by exact Nat.le_of_ble_eq_true rfl) (by exact Nat.le_of_ble_eq_true rfl) hl.1 rfl (Nat.le_of_ble_eq_true rfl) dL_law_184 ⟨by omega, by omega⟩ (fun H locs hH z_x17 => ?_)
            refine b_if_eq (tgt := 194) hx hb hf dL_law_187 (by decide) (fun hf => ?_) (fun hf => ?_)
            · refine lv_iconst (v := (0 : Int32)) hx hb dL_law_194 (by decide) ?_
              refine lv_istore_n (lv' := [(3, .int (0 : Int32)), (8, .int x4), (0, .ref b), (1, .ref (B + 0)), (2, .ref (B + 713 + 0)), (4, .int v4), (5, .int v5)]) hx hb dL_law_195 rfl hl (by decide) rfl (fun ls hl => ?_)
              refine b_let hf (fun x18 he hf => ?_)
              refine lv_iinc (v := x18) (lv' := [(4, .int x18), (3, .int (0 : Int32)), (8, .int x4), (0, .ref b), (1, .ref (B + 0)), (2, .ref (B + 713 + 0)), (5, .int v5)]) hx hb dL_law_196 hl (k := 5) rfl (by rw [← he]; rfl) (by decide) rfl (fun ls hl => ?_)
              refine lv_goto (tgt := 21) hx hb dL_law_199 (by decide) ?_
              refine W.widen (k := cells + 16) (n := slots + 96) (by omega) (by omega) ?_
              exact hr_21 (0 : Int32) x18 w16 w8 hf isZ_0 _ _ _ hH (lv_sub hl [3, 4, 5, 1, 0] rfl)
            · refine lv_iconst (v := (1 : Int32)) hx hb dL_law_190 (by decide) ?_
              refine lv_goto (tgt := 195) hx hb dL_law_191 (by decide) ?_
              refine lv_istore_n (lv' := [(3, .int (1 : Int32)), (8, .int x4), (0, .ref b), (1, .ref (B + 0)), (2, .ref (B + 713 + 0)), (4, .int v4), (5, .int v5)]) hx hb dL_law_195 rfl hl (by decide) rfl (fun ls hl => ?_)
              refine b_let hf (fun x19 he hf => ?_)
              refine lv_iinc (v := x19) (lv' := [(4, .int x19), (3, .int (1 : Int32)), (8, .int x4), (0, .ref b), (1, .ref (B + 0)), (2, .ref (B + 713 + 0)), (5, .int v5)]) hx hb dL_law_196 hl (k := 5) rfl (by rw [← he]; rfl) (by decide) rfl (fun ls hl => ?_)
              refine lv_goto (tgt := 21) hx hb dL_law_199 (by decide) ?_
              refine W.widen (k := cells + 16) (n := slots + 96) (by omega) (by omega) ?_
              exact hr_21 (1 : Int32) x19 w16 w8 hf isZ_1 _ _ _ hH (lv_sub hl [3, 4, 5, 1, 0] rfl)
set_option maxRecDepth 100000 in
set_option maxHeartbeats 8000000 in
theorem t2_L_law_96 {D : va_G} {B : Nat} {Y : Nat → ClassId} {p : Program} {l : Launch} {e : Env} {s : State} {m : MethodId} {below : List Frame} {meth : Method} {c : Code} {b L : Nat} {xs : Nat → Int32} {cells slots : Nat} {rc_21 : Int32 × Int32 × Wd × Wd → Option Unit} {z : Unit} {H : Heap} {locs : List Loc} {ls : Array Slot} {w v : Wd} {v4 : Int32} {v5 : Int32} (C : CX2 D (A2 B) Y p s m #[.ref b] meth c cL_law 9 RL (some .boolean)) (htr : l.stackTraces = false) (hX : LX2 b L xs s B) (hcs : cells + 116 ≤ room_1.cells ∧ slots + 696 ≤ room_1.slots) (hr_21 : ∀ (v3 : Int32) (v4 : Int32) (w v : Wd), rc_21 (v3, v4, w, v) = some z → isZ v3 → ∀ (H : Heap) (locs : List Loc) (ls : Array Slot), HT D (A2 B) B (B + 713) Y w v s H locs → lv_has ls 9 [(0, .ref b), (1, .ref (B + 0)), (2, .ref (B + 713 + 0)), (3, .int v3), (4, .int v4)] → W p l e room_1 s m #[.ref b] below meth c H locs (cells + 66) (slots + 396) (lw_Z below #[.ref b] s) (F0 m 21 ls []))  (hH : HT D (A2 B) B (B + 713) Y w v s H locs) (hl : lv_has ls 9 [(0, .ref b), (1, .ref (B + 0)), (2, .ref (B + 713 + 0)), (4, .int v4), (5, .int v5)]) (hf : f2_L_law_96 L xs rc_21 v4 v5 w v = some z) : W p l e room_1 s m #[.ref b] below meth c H locs cells slots (lw_Z below #[.ref b] s) (F0 m 96 ls []) := by
  have hx := C.1
  have hb := C.2.1
  unfold f2_L_law_96 at hf
  refine lv_iload hx hb dL_law_96 (lv_at hl 3 rfl) ?_
  refine lv_bipush (v := (9 : Int32)) hx hb dL_law_98 (by decide) ?_
  refine lv_irem hx hb dL_law_100 (by decide) ?_
  refine lv_bipush (v := (8 : Int32)) hx hb dL_law_101 (by decide) ?_
  refine b_icmp_ne (tgt := 114) hx hb hf dL_law_103 (by decide) (fun hf => ?_) (fun hf => ?_)
  · refine lv_iconst (v := (1 : Int32)) hx hb dL_law_114 (by decide) ?_
    refine lv_goto (tgt := 119) hx hb dL_law_115 (by decide) ?_
    refine lv_istore_n (lv' := [(3, .int (1 : Int32)), (0, .ref b), (1, .ref (B + 0)), (2, .ref (B + 713 + 0)), (4, .int v4), (5, .int v5)]) hx hb dL_law_119 rfl hl (by decide) rfl (fun ls hl => ?_)
    refine W.widen (k := cells + 50) (n := slots + 300) (by omega) (by omega) ?_
    exact t2_L_law_120 C htr hX (by omega) hr_21 isZ_1 hH (lv_sub hl [1, 2, 3, 0, 4, 5] rfl) hf
  · refine lv_aload_n hx hb dL_law_106 rfl (lv_at hl 1 rfl) ?_
    refine lv_aload_n hx hb dL_law_107 rfl (lv_at hl 2 rfl) ?_
    obtain ⟨x2, w1, w3, hc, hf⟩ := bd2_some hf
    refine q2_call2 (As := [.ref (B + 0), .ref (B + 713 + 0)]) C hH gk_L_196 yd_L_areAlike (c2_L_areAlike htr hc) (by exact Nat.le_of_ble_eq_true rfl) (by exact Nat.le_of_ble_eq_true rfl) hl.1 rfl (Nat.le_of_ble_eq_true rfl) dL_law_108 ⟨by omega, by omega⟩ (fun H locs hH z_x2 => ?_)
    refine b_if_eq (tgt := 118) hx hb hf dL_law_111 (by decide) (fun hf => ?_) (fun hf => ?_)
    · refine lv_iconst (v := (0 : Int32)) hx hb dL_law_118 (by decide) ?_
      refine lv_istore_n (lv' := [(3, .int (0 : Int32)), (0, .ref b), (1, .ref (B + 0)), (2, .ref (B + 713 + 0)), (4, .int v4), (5, .int v5)]) hx hb dL_law_119 rfl hl (by decide) rfl (fun ls hl => ?_)
      refine W.widen (k := cells + 50) (n := slots + 300) (by omega) (by omega) ?_
      exact t2_L_law_120 C htr hX (by omega) hr_21 isZ_0 hH (lv_sub hl [1, 2, 3, 0, 4, 5] rfl) hf
    · refine lv_iconst (v := (1 : Int32)) hx hb dL_law_114 (by decide) ?_
      refine lv_goto (tgt := 119) hx hb dL_law_115 (by decide) ?_
      refine lv_istore_n (lv' := [(3, .int (1 : Int32)), (0, .ref b), (1, .ref (B + 0)), (2, .ref (B + 713 + 0)), (4, .int v4), (5, .int v5)]) hx hb dL_law_119 rfl hl (by decide) rfl (fun ls hl => ?_)
      refine W.widen (k := cells + 50) (n := slots + 300) (by omega) (by omega) ?_
      exact t2_L_law_120 C htr hX (by omega) hr_21 isZ_1 hH (lv_sub hl [1, 2, 3, 0, 4, 5] rfl) hf
set_option maxRecDepth 100000 in
set_option maxHeartbeats 8000000 in
theorem t2_L_law_21 {D : va_G} {B : Nat} {Y : Nat → ClassId} {p : Program} {l : Launch} {e : Env} {s : State} {m : MethodId} {below : List Frame} {meth : Method} {c : Code} {b L : Nat} {xs : Nat → Int32} {cells slots : Nat} {rc_21 : Int32 × Int32 × Wd × Wd → Option Unit} {z : Unit} {H : Heap} {locs : List Loc} {ls : Array Slot} {w v : Wd} {v3 : Int32} {v4 : Int32} (C : CX2 D (A2 B) Y p s m #[.ref b] meth c cL_law 9 RL (some .boolean)) (htr : l.stackTraces = false) (hX : LX2 b L xs s B) (hcs : cells + 118 ≤ room_1.cells ∧ slots + 708 ≤ room_1.slots) (hr_21 : ∀ (v3 : Int32) (v4 : Int32) (w v : Wd), rc_21 (v3, v4, w, v) = some z → isZ v3 → ∀ (H : Heap) (locs : List Loc) (ls : Array Slot), HT D (A2 B) B (B + 713) Y w v s H locs → lv_has ls 9 [(0, .ref b), (1, .ref (B + 0)), (2, .ref (B + 713 + 0)), (3, .int v3), (4, .int v4)] → W p l e room_1 s m #[.ref b] below meth c H locs (cells + 68) (slots + 408) (lw_Z below #[.ref b] s) (F0 m 21 ls [])) (z_v3 : isZ v3) (hH : HT D (A2 B) B (B + 713) Y w v s H locs) (hl : lv_has ls 9 [(0, .ref b), (1, .ref (B + 0)), (2, .ref (B + 713 + 0)), (3, .int v3), (4, .int v4)]) (hf : f2_L_law_21 L xs rc_21 v3 v4 w v = some z) : W p l e room_1 s m #[.ref b] below meth c H locs cells slots (lw_Z below #[.ref b] s) (F0 m 21 ls []) := by
  have hx := C.1
  have hb := C.2.1
  unfold f2_L_law_21 at hf
  refine lv_iload hx hb dL_law_21 (lv_at hl 4 rfl) ?_
  refine lv_sipush (v := (140 : Int32)) hx hb dL_law_23 (by decide) ?_
  refine b_icmp_ge (tgt := 202) hx hb hf dL_law_26 (by decide) (fun hf => ?_) (fun hf => ?_)
  · refine lv_iload_n hx hb dL_law_202 rfl (lv_at hl 3 rfl) ?_
    refine b_if_eq (tgt := 218) hx hb hf dL_law_203 (by decide) (fun hf => ?_) (fun hf => ?_)
    · refine lv_iconst (v := (0 : Int32)) hx hb dL_law_218 (by decide) ?_
      cases hf
    · refine lv_aload_n hx hb dL_law_206 rfl (lv_at hl 1 rfl) ?_
      refine lv_aload_n hx hb dL_law_207 rfl (lv_at hl 2 rfl) ?_
      obtain ⟨x2, w1, w3, hc, hf⟩ := bd2_some hf
      refine q2_call2 (As := [.ref (B + 0), .ref (B + 713 + 0)]) C hH gk_L_196 yd_L_areAlike (c2_L_areAlike htr hc) (by exact Nat.le_of_ble_eq_true rfl) (by exact Nat.le_of_ble_eq_true rfl) hl.1 rfl (Nat.le_of_ble_eq_true rfl) dL_law_208 ⟨by omega, by omega⟩ (fun H locs hH z_x2 => ?_)
      refine b_if_eq (tgt := 218) hx hb hf dL_law_211 (by decide) (fun hf => ?_) (fun hf => ?_)
      · refine lv_iconst (v := (0 : Int32)) hx hb dL_law_218 (by decide) ?_
        cases hf
      · refine lv_iconst (v := (1 : Int32)) hx hb dL_law_214 (by decide) ?_
        refine lv_goto (tgt := 219) hx hb dL_law_215 (by decide) ?_
        exact q2_lawret C hX (by omega) hH dL_law_219
  · refine lv_iload_n hx hb dL_law_29 rfl (lv_at hl 3 rfl) ?_
    refine b_if_eq (tgt := 202) hx hb hf dL_law_30 (by decide) (fun hf => ?_) (fun hf => ?_)
    · refine lv_iload_n hx hb dL_law_202 rfl (lv_at hl 3 rfl) ?_
      refine b_if_eq (tgt := 218) hx hb hf dL_law_203 (by decide) (fun hf => ?_) (fun hf => ?_)
      · refine lv_iconst (v := (0 : Int32)) hx hb dL_law_218 (by decide) ?_
        cases hf
      · refine lv_aload_n hx hb dL_law_206 rfl (lv_at hl 1 rfl) ?_
        refine lv_aload_n hx hb dL_law_207 rfl (lv_at hl 2 rfl) ?_
        obtain ⟨x5, w4, w6, hc, hf⟩ := bd2_some hf
        refine q2_call2 (As := [.ref (B + 0), .ref (B + 713 + 0)]) C hH gk_L_196 yd_L_areAlike (c2_L_areAlike htr hc) (by exact Nat.le_of_ble_eq_true rfl) (by exact Nat.le_of_ble_eq_true rfl) hl.1 rfl (Nat.le_of_ble_eq_true rfl) dL_law_208 ⟨by omega, by omega⟩ (fun H locs hH z_x5 => ?_)
        refine b_if_eq (tgt := 218) hx hb hf dL_law_211 (by decide) (fun hf => ?_) (fun hf => ?_)
        · refine lv_iconst (v := (0 : Int32)) hx hb dL_law_218 (by decide) ?_
          cases hf
        · refine lv_iconst (v := (1 : Int32)) hx hb dL_law_214 (by decide) ?_
          refine lv_goto (tgt := 219) hx hb dL_law_215 (by decide) ?_
          exact q2_lawret C hX (by omega) hH dL_law_219
    · refine lv_aload_n hx hb dL_law_33 rfl (lv_at hl 0 rfl) ?_
      refine lv_iload hx hb dL_law_34 (lv_at hl 4 rfl) ?_
      refine lv_bipush (v := (61 : Int32)) hx hb dL_law_36 (by decide) ?_
      refine lv_irem hx hb dL_law_38 (by decide) ?_
      refine b_cel hf (fun x7 hc hf => ?_)
      refine q2_cell C hX hH hc gk_L_188 yd_L_cell (by exact Nat.le_of_ble_eq_true rfl) (by exact Nat.le_of_ble_eq_true rfl) hl.1 rfl (Nat.le_of_ble_eq_true rfl) dL_law_39 ⟨by omega, by omega⟩ (fun H locs hH => ?_)
      refine lv_sipush (v := (1571 : Int32)) hx hb dL_law_42 (by decide) ?_
      refine lv_iload hx hb dL_law_45 (lv_at hl 4 rfl) ?_
      refine lv_bipush (v := (61 : Int32)) hx hb dL_law_47 (by decide) ?_
      refine lv_idiv hx hb dL_law_49 (by decide) ?_
      refine lv_imul hx hb dL_law_50 ?_
      refine lv_iadd hx hb dL_law_51 ?_
      refine b_leti hf (fun x8 hf => ?_)
      refine lv_istore (lv' := [(5, .int x8), (0, .ref b), (1, .ref (B + 0)), (2, .ref (B + 713 + 0)), (3, .int v3), (4, .int v4)]) hx hb dL_law_52 hl (by decide) rfl (fun ls hl => ?_)
      refine lv_iload hx hb dL_law_54 (lv_at hl 0 rfl) ?_
      refine lv_bipush (v := (56 : Int32)) hx hb dL_law_56 (by decide) ?_
      obtain ⟨x10, w9, hc, hf⟩ := bd_some hf
      refine q2_callS (As := [.int x8, .int (56 : Int32)]) C hH gk_L_137 yd_L_low (c_L_low hc) (by exact Nat.le_of_ble_eq_true rfl) (by exact Nat.le_of_ble_eq_true rfl) hl.1 rfl (Nat.le_of_ble_eq_true rfl) dL_law_58 ⟨by omega, by omega⟩ (fun H locs hH hP => ?_)
      refine lv_istore (lv' := [(6, .int x10), (5, .int x8), (0, .ref b), (1, .ref (B + 0)), (2, .ref (B + 713 + 0)), (3, .int v3), (4, .int v4)]) hx hb dL_law_61 hl (by decide) rfl (fun ls hl => ?_)
      refine lv_aload_n hx hb dL_law_63 rfl (lv_at hl 3 rfl) ?_
      refine lv_iload hx hb dL_law_64 (lv_at hl 1 rfl) ?_
      obtain ⟨x12, w11, hc, hf⟩ := bd_some hf
      refine q2_callCK (As := [.ref (B + 0), .int x8]) C hH gk_L_192 yd_L_act (c_L_act htr hc) (by exact Nat.le_of_ble_eq_true rfl) (by exact Nat.le_of_ble_eq_true rfl) hl.1 rfl (Nat.le_of_ble_eq_true rfl) dL_law_66 ⟨by omega, by omega⟩ (fun H locs hH hP => ?_)
      refine lv_istore (lv' := [(7, .int x12), (6, .int x10), (5, .int x8), (0, .ref b), (1, .ref (B + 0)), (2, .ref (B + 713 + 0)), (3, .int v3), (4, .int v4)]) hx hb dL_law_69 hl (by decide) rfl (fun ls hl => ?_)
      refine lv_iload hx hb dL_law_71 (lv_at hl 0 rfl) ?_
      refine lv_ldc (v := (-9999999 : Int32)) hx hb C.2.2.2.1 (C.2.2.2.2.1 _ wd_1247) dL_law_73 ?_
      refine b_icmp_ne (tgt := 85) hx hb hf dL_law_75 (by decide) (fun hf => ?_) (fun hf => ?_)
      · refine lv_aload_n hx hb dL_law_85 rfl (lv_at hl 5 rfl) ?_
        refine lv_iload hx hb dL_law_86 (lv_at hl 2 rfl) ?_
        obtain ⟨x14, w13, hc, hf⟩ := bd_some hf
        refine q2_callCK (As := [.ref (B + 713 + 0), .int x8]) C hH.sy gk_L_192 yd_L_act (c_L_act htr hc) (by exact Nat.le_of_ble_eq_true rfl) (by exact Nat.le_of_ble_eq_true rfl) hl.1 rfl (Nat.le_of_ble_eq_true rfl) dL_law_88 ⟨by omega, by omega⟩ (fun H locs hH hP => ?_)
        replace hH := hH.sy
        refine lv_iload hx hb dL_law_91 (lv_at hl 0 rfl) ?_
        refine b_icmp_ne (tgt := 118) hx hb hf dL_law_93 (by decide) (fun hf => ?_) (fun hf => ?_)
        · refine lv_iconst (v := (0 : Int32)) hx hb dL_law_118 (by decide) ?_
          refine lv_istore_n (lv' := [(3, .int (0 : Int32)), (7, .int x12), (6, .int x10), (5, .int x8), (0, .ref b), (1, .ref (B + 0)), (2, .ref (B + 713 + 0)), (4, .int v4)]) hx hb dL_law_119 rfl hl (by decide) rfl (fun ls hl => ?_)
          refine W.widen (k := cells + 52) (n := slots + 312) (by omega) (by omega) ?_
          exact t2_L_law_120 C htr hX (by omega) hr_21 isZ_0 hH (lv_sub hl [4, 5, 6, 0, 7, 3] rfl) hf
        · refine W.widen (k := cells + 2) (n := slots + 12) (by omega) (by omega) ?_
          exact t2_L_law_96 C htr hX (by omega) hr_21  hH (lv_sub hl [3, 4, 5, 7, 2] rfl) hf
      · refine lv_iload hx hb dL_law_78 (lv_at hl 1 rfl) ?_
        refine lv_bipush (v := (47 : Int32)) hx hb dL_law_80 (by decide) ?_
        refine b_icmp_lt (tgt := 96) hx hb hf dL_law_82 (by decide) (fun hf => ?_) (fun hf => ?_)
        · refine W.widen (k := cells + 2) (n := slots + 12) (by omega) (by omega) ?_
          exact t2_L_law_96 C htr hX (by omega) hr_21  hH (lv_sub hl [3, 4, 5, 7, 2] rfl) hf
        · refine lv_aload_n hx hb dL_law_85 rfl (lv_at hl 5 rfl) ?_
          refine lv_iload hx hb dL_law_86 (lv_at hl 2 rfl) ?_
          obtain ⟨x16, w15, hc, hf⟩ := bd_some hf
          refine q2_callCK (As := [.ref (B + 713 + 0), .int x8]) C hH.sy gk_L_192 yd_L_act (c_L_act htr hc) (by exact Nat.le_of_ble_eq_true rfl) (by exact Nat.le_of_ble_eq_true rfl) hl.1 rfl (Nat.le_of_ble_eq_true rfl) dL_law_88 ⟨by omega, by omega⟩ (fun H locs hH hP => ?_)
          replace hH := hH.sy
          refine lv_iload hx hb dL_law_91 (lv_at hl 0 rfl) ?_
          refine b_icmp_ne (tgt := 118) hx hb hf dL_law_93 (by decide) (fun hf => ?_) (fun hf => ?_)
          · refine lv_iconst (v := (0 : Int32)) hx hb dL_law_118 (by decide) ?_
            refine lv_istore_n (lv' := [(3, .int (0 : Int32)), (7, .int x12), (6, .int x10), (5, .int x8), (0, .ref b), (1, .ref (B + 0)), (2, .ref (B + 713 + 0)), (4, .int v4)]) hx hb dL_law_119 rfl hl (by decide) rfl (fun ls hl => ?_)
            refine W.widen (k := cells + 52) (n := slots + 312) (by omega) (by omega) ?_
            exact t2_L_law_120 C htr hX (by omega) hr_21 isZ_0 hH (lv_sub hl [4, 5, 6, 0, 7, 3] rfl) hf
          · refine W.widen (k := cells + 2) (n := slots + 12) (by omega) (by omega) ?_
            exact t2_L_law_96 C htr hX (by omega) hr_21  hH (lv_sub hl [3, 4, 5, 7, 2] rfl) hf
