set_option maxRecDepth 100000 in
set_option maxHeartbeats 8000000 in
theorem t_L_law_1096 {D : va_G} {B : Nat} {Y : Nat → ClassId} {p : Program} {l : Launch} {e : Env} {s : State} {m : MethodId} {below : List Frame} {meth : Method} {c : Code} {b L : Nat} {xs : Nat → Int32} {rc : Int32 × Wd → Option Unit} {cells slots : Nat} {H : Heap} {locs : List Loc} {ls : Array Slot} {w : Wd} {v4 : Int32} {z : Unit} (C : CX D B Y p s m #[.ref b] meth c cL_law 8 RL (some .boolean)) (htr : l.stackTraces = false) (hL : LXS b L xs s B) (hcs : cells + 6 ≤ room_1.cells ∧ slots + 36 ≤ room_1.slots) (hr : ∀ (v4 : Int32) (w : Wd), rc (v4, w) = some z → ∀ (H : Heap) (locs : List Loc) (ls : Array Slot), HS D B Y w s H locs → lv_has ls 8 [(0, .ref b), (1, .ref (B + 0)), (2, .ref (B + 713)), (3, .ref (B + 746)), (4, .int v4)] → W p l e room_1 s m #[.ref b] below meth c H locs (cells + 6) (slots + 36) (lw_Z below #[.ref b] s) (F0 m 23 ls [])) (hH : HS D B Y w s H locs) (hl : lv_has ls 8 [(0, .ref b), (1, .ref (B + 0)), (2, .ref (B + 713)), (3, .ref (B + 746)), (4, .int v4)]) (hf : f_L_law_1096 L xs rc v4 w = some z) : W p l e room_1 s m #[.ref b] below meth c H locs cells slots (lw_Z below #[.ref b] s) (F0 m 1096 ls []) := by
  have hx := C.1
  have hb := C.2.1
  unfold f_L_law_1096 at hf
  refine lv_aload_n hx hb dL_law_1096 rfl (lv_at hl 1 rfl) ?_
  refine lv_aload_n hx hb dL_law_1097 rfl (lv_at hl 0 rfl) ?_
  refine lv_iload hx hb dL_law_1098 (lv_at hl 4 rfl) ?_
  refine lv_iconst (v := (1 : Int32)) hx hb dL_law_1100 (by decide) ?_
  refine lv_iadd hx hb dL_law_1101 ?_
  refine g_sld C hL hH hf dL_law_1102 (fun x1 hf => ?_)
  obtain ⟨x3, w2, hc, hf⟩ := bd_some hf
  refine q_callLW (As := [.ref (B + 0), .int x1]) C hH (k := x3) (goodSW wd_825 wd_826 wd_108 wd_827) yd_L_use (c_L_use htr hc) (by exact Nat.le_of_ble_eq_true rfl) (by exact Nat.le_of_ble_eq_true rfl) hl.1 rfl (Nat.le_of_ble_eq_true rfl) dL_law_1103 ⟨by omega, by omega⟩ (fun H locs hH => ?_)
  refine lv_istore (lv' := [(5, .int x3), (0, .ref b), (1, .ref (B + 0)), (2, .ref (B + 713)), (3, .ref (B + 746)), (4, .int v4)]) hx hb dL_law_1106 hl (by decide) rfl (fun ls hl => ?_)
  refine lv_aload_n hx hb dL_law_1108 rfl (lv_at hl 3 rfl) ?_
  refine lv_aload_n hx hb dL_law_1109 rfl (lv_at hl 1 rfl) ?_
  refine lv_iload hx hb dL_law_1110 (lv_at hl 5 rfl) ?_
  refine lv_iconst (v := (1 : Int32)) hx hb dL_law_1112 (by decide) ?_
  refine lv_iadd hx hb dL_law_1113 ?_
  refine g_sld C hL hH hf dL_law_1114 (fun x4 hf => ?_)
  obtain ⟨u, w5, hc, hf⟩ := bd_some hf
  refine q_callRV0 (As := [.int x4]) C hH (ci := 11) rfl (by omega) gk_L_185 yd_X11_use kc_713 (c_X11_use hc) (by exact Nat.le_of_ble_eq_true rfl) (by exact Nat.le_of_ble_eq_true rfl) hl.1 rfl (Nat.le_of_ble_eq_true rfl) dL_law_1115 ⟨by omega, by omega⟩ (fun H locs hH hP => ?_)
  refine lv_aload_n hx hb dL_law_1118 rfl (lv_at hl 3 rfl) ?_
  obtain ⟨x7, w6, hc, hf⟩ := bd_some hf
  refine q_callRV1 (v := .int x7) (As := []) C hH (ci := 11) rfl (by omega) gk_L_141 yd_X11_thrown kc_713 (c_X11_thrown hc) (by exact Nat.le_of_ble_eq_true rfl) (by exact Nat.le_of_ble_eq_true rfl) hl.1 rfl (Nat.le_of_ble_eq_true rfl) dL_law_1119 ⟨by omega, by omega⟩ (fun H locs hH hP => ?_)
  refine lv_iload hx hb dL_law_1122 (lv_at hl 0 rfl) ?_
  refine b_icmp_eq (tgt := 1129) hx hb hf dL_law_1124 (by decide) (fun hf => ?_) (fun hf => ?_)
  · refine lv_goto (tgt := 2712) hx hb dL_law_1129 (by decide) ?_
    refine b_let hf (fun x8 he hf => ?_)
    refine lv_iinc (v := x8) (lv' := [(4, .int x8), (5, .int x3), (0, .ref b), (1, .ref (B + 0)), (2, .ref (B + 713)), (3, .ref (B + 746))]) hx hb dL_law_2712 hl (k := 5) rfl (by rw [← he]; rfl) (by decide) rfl (fun ls hl => ?_)
    refine lv_goto (tgt := 23) hx hb dL_law_2715 (by decide) ?_
    refine W.widen (k := cells + 6) (n := slots + 36) (by omega) (by omega) ?_
    exact hr x8 w6 hf _ _ _ hH (lv_sub hl [2, 3, 4, 5, 0] rfl)
  · refine lv_iconst (v := (0 : Int32)) hx hb dL_law_1127 (by decide) ?_
    cases hf
set_option maxRecDepth 100000 in
set_option maxHeartbeats 8000000 in
theorem t_L_law_1132 {D : va_G} {B : Nat} {Y : Nat → ClassId} {p : Program} {l : Launch} {e : Env} {s : State} {m : MethodId} {below : List Frame} {meth : Method} {c : Code} {b L : Nat} {xs : Nat → Int32} {rc : Int32 × Wd → Option Unit} {cells slots : Nat} {H : Heap} {locs : List Loc} {ls : Array Slot} {w : Wd} {v4 : Int32} {z : Unit} (C : CX D B Y p s m #[.ref b] meth c cL_law 8 RL (some .boolean)) (htr : l.stackTraces = false) (hL : LXS b L xs s B) (hcs : cells + 6 ≤ room_1.cells ∧ slots + 36 ≤ room_1.slots) (hr : ∀ (v4 : Int32) (w : Wd), rc (v4, w) = some z → ∀ (H : Heap) (locs : List Loc) (ls : Array Slot), HS D B Y w s H locs → lv_has ls 8 [(0, .ref b), (1, .ref (B + 0)), (2, .ref (B + 713)), (3, .ref (B + 746)), (4, .int v4)] → W p l e room_1 s m #[.ref b] below meth c H locs (cells + 6) (slots + 36) (lw_Z below #[.ref b] s) (F0 m 23 ls [])) (hH : HS D B Y w s H locs) (hl : lv_has ls 8 [(0, .ref b), (1, .ref (B + 0)), (2, .ref (B + 713)), (3, .ref (B + 746)), (4, .int v4)]) (hf : f_L_law_1132 L xs rc v4 w = some z) : W p l e room_1 s m #[.ref b] below meth c H locs cells slots (lw_Z below #[.ref b] s) (F0 m 1132 ls []) := by
  have hx := C.1
  have hb := C.2.1
  unfold f_L_law_1132 at hf
  refine lv_aload_n hx hb dL_law_1132 rfl (lv_at hl 1 rfl) ?_
  refine lv_aload_n hx hb dL_law_1133 rfl (lv_at hl 0 rfl) ?_
  refine lv_iload hx hb dL_law_1134 (lv_at hl 4 rfl) ?_
  refine lv_iconst (v := (1 : Int32)) hx hb dL_law_1136 (by decide) ?_
  refine lv_iadd hx hb dL_law_1137 ?_
  refine g_sld C hL hH hf dL_law_1138 (fun x1 hf => ?_)
  refine lv_aload_n hx hb dL_law_1139 rfl (lv_at hl 0 rfl) ?_
  refine lv_iload hx hb dL_law_1140 (lv_at hl 4 rfl) ?_
  refine lv_iconst (v := (2 : Int32)) hx hb dL_law_1142 (by decide) ?_
  refine lv_iadd hx hb dL_law_1143 ?_
  refine g_sld C hL hH hf dL_law_1144 (fun x2 hf => ?_)
  refine lv_aload_n hx hb dL_law_1145 rfl (lv_at hl 3 rfl) ?_
  obtain ⟨x4, w3, hc, hf⟩ := bd_some hf
  refine q_callLW (As := [.ref (B + 0), .int x1, .int x2, .ref (B + 746)]) C hH (k := x4) (goodSW wd_833 wd_834 wd_108 wd_835) yd_L_put (c_L_put htr hc) (by exact Nat.le_of_ble_eq_true rfl) (by exact Nat.le_of_ble_eq_true rfl) hl.1 rfl (Nat.le_of_ble_eq_true rfl) dL_law_1146 ⟨by omega, by omega⟩ (fun H locs hH => ?_)
  refine lv_istore (lv' := [(5, .int x4), (0, .ref b), (1, .ref (B + 0)), (2, .ref (B + 713)), (3, .ref (B + 746)), (4, .int v4)]) hx hb dL_law_1149 hl (by decide) rfl (fun ls hl => ?_)
  refine lv_aload_n hx hb dL_law_1151 rfl (lv_at hl 3 rfl) ?_
  refine lv_aload_n hx hb dL_law_1152 rfl (lv_at hl 1 rfl) ?_
  refine lv_iload hx hb dL_law_1153 (lv_at hl 5 rfl) ?_
  refine lv_iconst (v := (1 : Int32)) hx hb dL_law_1155 (by decide) ?_
  refine lv_iadd hx hb dL_law_1156 ?_
  refine g_sld C hL hH hf dL_law_1157 (fun x5 hf => ?_)
  refine lv_aload_n hx hb dL_law_1158 rfl (lv_at hl 1 rfl) ?_
  refine lv_iload hx hb dL_law_1159 (lv_at hl 5 rfl) ?_
  refine lv_iconst (v := (2 : Int32)) hx hb dL_law_1161 (by decide) ?_
  refine lv_iadd hx hb dL_law_1162 ?_
  refine g_sld C hL hH hf dL_law_1163 (fun x6 hf => ?_)
  obtain ⟨x8, w7, hc, hf⟩ := bd_some hf
  refine q_callRV1 (v := .int x8) (As := [.int x5, .int x6]) C hH (ci := 11) rfl (by omega) gk_L_189 yd_X11_put kc_713 (c_X11_put hc) (by exact Nat.le_of_ble_eq_true rfl) (by exact Nat.le_of_ble_eq_true rfl) hl.1 rfl (Nat.le_of_ble_eq_true rfl) dL_law_1164 ⟨by omega, by omega⟩ (fun H locs hH hP => ?_)
  refine lv_istore (lv' := [(6, .int x8), (5, .int x4), (0, .ref b), (1, .ref (B + 0)), (2, .ref (B + 713)), (3, .ref (B + 746)), (4, .int v4)]) hx hb dL_law_1167 hl (by decide) rfl (fun ls hl => ?_)
  refine lv_aload_n hx hb dL_law_1169 rfl (lv_at hl 4 rfl) ?_
  obtain ⟨x10, w9, hc, hf⟩ := bd_some hf
  refine q_callRV1 (v := .int x10) (As := []) C hH (ci := 11) rfl (by omega) gk_L_141 yd_X11_thrown kc_713 (c_X11_thrown hc) (by exact Nat.le_of_ble_eq_true rfl) (by exact Nat.le_of_ble_eq_true rfl) hl.1 rfl (Nat.le_of_ble_eq_true rfl) dL_law_1170 ⟨by omega, by omega⟩ (fun H locs hH hP => ?_)
  refine lv_iload hx hb dL_law_1173 (lv_at hl 1 rfl) ?_
  refine b_icmp_eq (tgt := 1180) hx hb hf dL_law_1175 (by decide) (fun hf => ?_) (fun hf => ?_)
  · refine lv_iload hx hb dL_law_1180 (lv_at hl 1 rfl) ?_
    refine b_if_ne (tgt := 1197) hx hb hf dL_law_1182 (by decide) (fun hf => ?_) (fun hf => ?_)
    · refine lv_goto (tgt := 2712) hx hb dL_law_1197 (by decide) ?_
      refine b_let hf (fun x11 he hf => ?_)
      refine lv_iinc (v := x11) (lv' := [(4, .int x11), (6, .int x8), (5, .int x4), (0, .ref b), (1, .ref (B + 0)), (2, .ref (B + 713)), (3, .ref (B + 746))]) hx hb dL_law_2712 hl (k := 6) rfl (by rw [← he]; rfl) (by decide) rfl (fun ls hl => ?_)
      refine lv_goto (tgt := 23) hx hb dL_law_2715 (by decide) ?_
      refine W.widen (k := cells + 6) (n := slots + 36) (by omega) (by omega) ?_
      exact hr x11 w9 hf _ _ _ hH (lv_sub hl [3, 4, 5, 6, 0] rfl)
    · refine lv_aload_n hx hb dL_law_1185 rfl (lv_at hl 5 rfl) ?_
      refine lv_iconst (v := (0 : Int32)) hx hb dL_law_1186 (by decide) ?_
      refine g_lald C hH kc_746 hf dL_law_1187 (fun y12 hf => ?_)
      refine lv_iload hx hb dL_law_1188 (lv_at hl 0 rfl) ?_
      refine lv_i2l (v := x8.toInt64) hx hb dL_law_1190 rfl ?_
      refine W.lcmp hx hb dL_law_1191 ?_
      refine b_if_eq (tgt := 1197) hx hb hf dL_law_1192 (by decide) (fun hf => ?_) (fun hf => ?_)
      · refine lv_goto (tgt := 2712) hx hb dL_law_1197 (by decide) ?_
        refine b_let hf (fun x13 he hf => ?_)
        refine lv_iinc (v := x13) (lv' := [(4, .int x13), (6, .int x8), (5, .int x4), (0, .ref b), (1, .ref (B + 0)), (2, .ref (B + 713)), (3, .ref (B + 746))]) hx hb dL_law_2712 hl (k := 6) rfl (by rw [← he]; rfl) (by decide) rfl (fun ls hl => ?_)
        refine lv_goto (tgt := 23) hx hb dL_law_2715 (by decide) ?_
        refine W.widen (k := cells + 6) (n := slots + 36) (by omega) (by omega) ?_
        exact hr x13 w9 hf _ _ _ hH (lv_sub hl [3, 4, 5, 6, 0] rfl)
      · refine lv_iconst (v := (0 : Int32)) hx hb dL_law_1195 (by decide) ?_
        cases hf
  · refine lv_iconst (v := (0 : Int32)) hx hb dL_law_1178 (by decide) ?_
    cases hf
set_option maxRecDepth 100000 in
set_option maxHeartbeats 8000000 in
theorem t_L_law_1200 {D : va_G} {B : Nat} {Y : Nat → ClassId} {p : Program} {l : Launch} {e : Env} {s : State} {m : MethodId} {below : List Frame} {meth : Method} {c : Code} {b L : Nat} {xs : Nat → Int32} {rc : Int32 × Wd → Option Unit} {cells slots : Nat} {H : Heap} {locs : List Loc} {ls : Array Slot} {w : Wd} {v4 : Int32} {z : Unit} (C : CX D B Y p s m #[.ref b] meth c cL_law 8 RL (some .boolean)) (htr : l.stackTraces = false) (hL : LXS b L xs s B) (hcs : cells + 6 ≤ room_1.cells ∧ slots + 36 ≤ room_1.slots) (hr : ∀ (v4 : Int32) (w : Wd), rc (v4, w) = some z → ∀ (H : Heap) (locs : List Loc) (ls : Array Slot), HS D B Y w s H locs → lv_has ls 8 [(0, .ref b), (1, .ref (B + 0)), (2, .ref (B + 713)), (3, .ref (B + 746)), (4, .int v4)] → W p l e room_1 s m #[.ref b] below meth c H locs (cells + 6) (slots + 36) (lw_Z below #[.ref b] s) (F0 m 23 ls [])) (hH : HS D B Y w s H locs) (hl : lv_has ls 8 [(0, .ref b), (1, .ref (B + 0)), (2, .ref (B + 713)), (3, .ref (B + 746)), (4, .int v4)]) (hf : f_L_law_1200 L xs rc v4 w = some z) : W p l e room_1 s m #[.ref b] below meth c H locs cells slots (lw_Z below #[.ref b] s) (F0 m 1200 ls []) := by
  have hx := C.1
  have hb := C.2.1
  unfold f_L_law_1200 at hf
  refine lv_aload_n hx hb dL_law_1200 rfl (lv_at hl 1 rfl) ?_
  refine lv_aload_n hx hb dL_law_1201 rfl (lv_at hl 0 rfl) ?_
  refine lv_iload hx hb dL_law_1202 (lv_at hl 4 rfl) ?_
  refine lv_iconst (v := (1 : Int32)) hx hb dL_law_1204 (by decide) ?_
  refine lv_iadd hx hb dL_law_1205 ?_
  refine g_sld C hL hH hf dL_law_1206 (fun x1 hf => ?_)
  refine lv_aload_n hx hb dL_law_1207 rfl (lv_at hl 3 rfl) ?_
  obtain ⟨x3, w2, hc, hf⟩ := bd_some hf
  refine q_callLW (As := [.ref (B + 0), .int x1, .ref (B + 746)]) C hH (k := x3) (goodSW wd_841 wd_842 wd_108 wd_843) yd_L_clear (c_L_clear htr hc) (by exact Nat.le_of_ble_eq_true rfl) (by exact Nat.le_of_ble_eq_true rfl) hl.1 rfl (Nat.le_of_ble_eq_true rfl) dL_law_1208 ⟨by omega, by omega⟩ (fun H locs hH => ?_)
  refine lv_istore (lv' := [(5, .int x3), (0, .ref b), (1, .ref (B + 0)), (2, .ref (B + 713)), (3, .ref (B + 746)), (4, .int v4)]) hx hb dL_law_1211 hl (by decide) rfl (fun ls hl => ?_)
  refine lv_aload_n hx hb dL_law_1213 rfl (lv_at hl 3 rfl) ?_
  refine lv_aload_n hx hb dL_law_1214 rfl (lv_at hl 1 rfl) ?_
  refine lv_iload hx hb dL_law_1215 (lv_at hl 5 rfl) ?_
  refine lv_iconst (v := (1 : Int32)) hx hb dL_law_1217 (by decide) ?_
  refine lv_iadd hx hb dL_law_1218 ?_
  refine g_sld C hL hH hf dL_law_1219 (fun x4 hf => ?_)
  obtain ⟨x6, w5, hc, hf⟩ := bd_some hf
  refine q_callRV1 (v := .int x6) (As := [.int x4]) C hH (ci := 11) rfl (by omega) gk_L_192 yd_X11_clear kc_713 (c_X11_clear hc) (by exact Nat.le_of_ble_eq_true rfl) (by exact Nat.le_of_ble_eq_true rfl) hl.1 rfl (Nat.le_of_ble_eq_true rfl) dL_law_1220 ⟨by omega, by omega⟩ (fun H locs hH hP => ?_)
  refine lv_istore (lv' := [(6, .int x6), (5, .int x3), (0, .ref b), (1, .ref (B + 0)), (2, .ref (B + 713)), (3, .ref (B + 746)), (4, .int v4)]) hx hb dL_law_1223 hl (by decide) rfl (fun ls hl => ?_)
  refine lv_aload_n hx hb dL_law_1225 rfl (lv_at hl 4 rfl) ?_
  obtain ⟨x8, w7, hc, hf⟩ := bd_some hf
  refine q_callRV1 (v := .int x8) (As := []) C hH (ci := 11) rfl (by omega) gk_L_141 yd_X11_thrown kc_713 (c_X11_thrown hc) (by exact Nat.le_of_ble_eq_true rfl) (by exact Nat.le_of_ble_eq_true rfl) hl.1 rfl (Nat.le_of_ble_eq_true rfl) dL_law_1226 ⟨by omega, by omega⟩ (fun H locs hH hP => ?_)
  refine lv_iload hx hb dL_law_1229 (lv_at hl 1 rfl) ?_
  refine b_icmp_eq (tgt := 1236) hx hb hf dL_law_1231 (by decide) (fun hf => ?_) (fun hf => ?_)
  · refine lv_iload hx hb dL_law_1236 (lv_at hl 1 rfl) ?_
    refine b_if_ne (tgt := 1253) hx hb hf dL_law_1238 (by decide) (fun hf => ?_) (fun hf => ?_)
    · refine lv_goto (tgt := 2712) hx hb dL_law_1253 (by decide) ?_
      refine b_let hf (fun x9 he hf => ?_)
      refine lv_iinc (v := x9) (lv' := [(4, .int x9), (6, .int x6), (5, .int x3), (0, .ref b), (1, .ref (B + 0)), (2, .ref (B + 713)), (3, .ref (B + 746))]) hx hb dL_law_2712 hl (k := 6) rfl (by rw [← he]; rfl) (by decide) rfl (fun ls hl => ?_)
      refine lv_goto (tgt := 23) hx hb dL_law_2715 (by decide) ?_
      refine W.widen (k := cells + 6) (n := slots + 36) (by omega) (by omega) ?_
      exact hr x9 w7 hf _ _ _ hH (lv_sub hl [3, 4, 5, 6, 0] rfl)
    · refine lv_aload_n hx hb dL_law_1241 rfl (lv_at hl 5 rfl) ?_
      refine lv_iconst (v := (0 : Int32)) hx hb dL_law_1242 (by decide) ?_
      refine g_lald C hH kc_746 hf dL_law_1243 (fun y10 hf => ?_)
      refine lv_iload hx hb dL_law_1244 (lv_at hl 0 rfl) ?_
      refine lv_i2l (v := x6.toInt64) hx hb dL_law_1246 rfl ?_
      refine W.lcmp hx hb dL_law_1247 ?_
      refine b_if_eq (tgt := 1253) hx hb hf dL_law_1248 (by decide) (fun hf => ?_) (fun hf => ?_)
      · refine lv_goto (tgt := 2712) hx hb dL_law_1253 (by decide) ?_
        refine b_let hf (fun x11 he hf => ?_)
        refine lv_iinc (v := x11) (lv' := [(4, .int x11), (6, .int x6), (5, .int x3), (0, .ref b), (1, .ref (B + 0)), (2, .ref (B + 713)), (3, .ref (B + 746))]) hx hb dL_law_2712 hl (k := 6) rfl (by rw [← he]; rfl) (by decide) rfl (fun ls hl => ?_)
        refine lv_goto (tgt := 23) hx hb dL_law_2715 (by decide) ?_
        refine W.widen (k := cells + 6) (n := slots + 36) (by omega) (by omega) ?_
        exact hr x11 w7 hf _ _ _ hH (lv_sub hl [3, 4, 5, 6, 0] rfl)
      · refine lv_iconst (v := (0 : Int32)) hx hb dL_law_1251 (by decide) ?_
        cases hf
  · refine lv_iconst (v := (0 : Int32)) hx hb dL_law_1234 (by decide) ?_
    cases hf
set_option maxRecDepth 100000 in
set_option maxHeartbeats 8000000 in
theorem t_L_law_1256 {D : va_G} {B : Nat} {Y : Nat → ClassId} {p : Program} {l : Launch} {e : Env} {s : State} {m : MethodId} {below : List Frame} {meth : Method} {c : Code} {b L : Nat} {xs : Nat → Int32} {rc : Int32 × Wd → Option Unit} {cells slots : Nat} {H : Heap} {locs : List Loc} {ls : Array Slot} {w : Wd} {v4 : Int32} {z : Unit} (C : CX D B Y p s m #[.ref b] meth c cL_law 8 RL (some .boolean)) (htr : l.stackTraces = false) (hL : LXS b L xs s B) (hcs : cells + 6 ≤ room_1.cells ∧ slots + 36 ≤ room_1.slots) (hr : ∀ (v4 : Int32) (w : Wd), rc (v4, w) = some z → ∀ (H : Heap) (locs : List Loc) (ls : Array Slot), HS D B Y w s H locs → lv_has ls 8 [(0, .ref b), (1, .ref (B + 0)), (2, .ref (B + 713)), (3, .ref (B + 746)), (4, .int v4)] → W p l e room_1 s m #[.ref b] below meth c H locs (cells + 6) (slots + 36) (lw_Z below #[.ref b] s) (F0 m 23 ls [])) (hH : HS D B Y w s H locs) (hl : lv_has ls 8 [(0, .ref b), (1, .ref (B + 0)), (2, .ref (B + 713)), (3, .ref (B + 746)), (4, .int v4)]) (hf : f_L_law_1256 L xs rc v4 w = some z) : W p l e room_1 s m #[.ref b] below meth c H locs cells slots (lw_Z below #[.ref b] s) (F0 m 1256 ls []) := by
  have hx := C.1
  have hb := C.2.1
  unfold f_L_law_1256 at hf
  refine lv_aload_n hx hb dL_law_1256 rfl (lv_at hl 1 rfl) ?_
  refine lv_aload_n hx hb dL_law_1257 rfl (lv_at hl 0 rfl) ?_
  refine lv_iload hx hb dL_law_1258 (lv_at hl 4 rfl) ?_
  refine lv_iconst (v := (1 : Int32)) hx hb dL_law_1260 (by decide) ?_
  refine lv_iadd hx hb dL_law_1261 ?_
  refine g_sld C hL hH hf dL_law_1262 (fun x1 hf => ?_)
  refine lv_aload_n hx hb dL_law_1263 rfl (lv_at hl 0 rfl) ?_
  refine lv_iload hx hb dL_law_1264 (lv_at hl 4 rfl) ?_
  refine lv_iconst (v := (2 : Int32)) hx hb dL_law_1266 (by decide) ?_
  refine lv_iadd hx hb dL_law_1267 ?_
  refine g_sld C hL hH hf dL_law_1268 (fun x2 hf => ?_)
  refine lv_aload_n hx hb dL_law_1269 rfl (lv_at hl 3 rfl) ?_
  obtain ⟨x4, w3, hc, hf⟩ := bd_some hf
  refine q_callLW (As := [.ref (B + 0), .int x1, .int x2, .ref (B + 746)]) C hH (k := x4) (goodSW wd_852 wd_853 wd_108 wd_854) yd_L_at (c_L_at htr hc) (by exact Nat.le_of_ble_eq_true rfl) (by exact Nat.le_of_ble_eq_true rfl) hl.1 rfl (Nat.le_of_ble_eq_true rfl) dL_law_1270 ⟨by omega, by omega⟩ (fun H locs hH => ?_)
  refine lv_istore (lv' := [(5, .int x4), (0, .ref b), (1, .ref (B + 0)), (2, .ref (B + 713)), (3, .ref (B + 746)), (4, .int v4)]) hx hb dL_law_1273 hl (by decide) rfl (fun ls hl => ?_)
  refine lv_aload_n hx hb dL_law_1275 rfl (lv_at hl 3 rfl) ?_
  refine lv_aload_n hx hb dL_law_1276 rfl (lv_at hl 1 rfl) ?_
  refine lv_iload hx hb dL_law_1277 (lv_at hl 5 rfl) ?_
  refine lv_iconst (v := (1 : Int32)) hx hb dL_law_1279 (by decide) ?_
  refine lv_iadd hx hb dL_law_1280 ?_
  refine g_sld C hL hH hf dL_law_1281 (fun x5 hf => ?_)
  refine lv_aload_n hx hb dL_law_1282 rfl (lv_at hl 1 rfl) ?_
  refine lv_iload hx hb dL_law_1283 (lv_at hl 5 rfl) ?_
  refine lv_iconst (v := (2 : Int32)) hx hb dL_law_1285 (by decide) ?_
  refine lv_iadd hx hb dL_law_1286 ?_
  refine g_sld C hL hH hf dL_law_1287 (fun x6 hf => ?_)
  obtain ⟨x8, w7, hc, hf⟩ := bd_some hf
  refine q_callRV1 (v := .int x8) (As := [.int x5, .int x6]) C hH (ci := 11) rfl (by omega) gk_L_195 yd_X11_at kc_713 (c_X11_at hc) (by exact Nat.le_of_ble_eq_true rfl) (by exact Nat.le_of_ble_eq_true rfl) hl.1 rfl (Nat.le_of_ble_eq_true rfl) dL_law_1288 ⟨by omega, by omega⟩ (fun H locs hH hP => ?_)
  refine lv_istore (lv' := [(6, .int x8), (5, .int x4), (0, .ref b), (1, .ref (B + 0)), (2, .ref (B + 713)), (3, .ref (B + 746)), (4, .int v4)]) hx hb dL_law_1291 hl (by decide) rfl (fun ls hl => ?_)
  refine lv_aload_n hx hb dL_law_1293 rfl (lv_at hl 4 rfl) ?_
  obtain ⟨x10, w9, hc, hf⟩ := bd_some hf
  refine q_callRV1 (v := .int x10) (As := []) C hH (ci := 11) rfl (by omega) gk_L_141 yd_X11_thrown kc_713 (c_X11_thrown hc) (by exact Nat.le_of_ble_eq_true rfl) (by exact Nat.le_of_ble_eq_true rfl) hl.1 rfl (Nat.le_of_ble_eq_true rfl) dL_law_1294 ⟨by omega, by omega⟩ (fun H locs hH hP => ?_)
  refine lv_iload hx hb dL_law_1297 (lv_at hl 1 rfl) ?_
  refine b_icmp_eq (tgt := 1304) hx hb hf dL_law_1299 (by decide) (fun hf => ?_) (fun hf => ?_)
  · refine lv_iload hx hb dL_law_1304 (lv_at hl 1 rfl) ?_
    refine b_if_ne (tgt := 1321) hx hb hf dL_law_1306 (by decide) (fun hf => ?_) (fun hf => ?_)
    · refine lv_goto (tgt := 2712) hx hb dL_law_1321 (by decide) ?_
      refine b_let hf (fun x11 he hf => ?_)
      refine lv_iinc (v := x11) (lv' := [(4, .int x11), (6, .int x8), (5, .int x4), (0, .ref b), (1, .ref (B + 0)), (2, .ref (B + 713)), (3, .ref (B + 746))]) hx hb dL_law_2712 hl (k := 6) rfl (by rw [← he]; rfl) (by decide) rfl (fun ls hl => ?_)
      refine lv_goto (tgt := 23) hx hb dL_law_2715 (by decide) ?_
      refine W.widen (k := cells + 6) (n := slots + 36) (by omega) (by omega) ?_
      exact hr x11 w9 hf _ _ _ hH (lv_sub hl [3, 4, 5, 6, 0] rfl)
    · refine lv_aload_n hx hb dL_law_1309 rfl (lv_at hl 5 rfl) ?_
      refine lv_iconst (v := (0 : Int32)) hx hb dL_law_1310 (by decide) ?_
      refine g_lald C hH kc_746 hf dL_law_1311 (fun y12 hf => ?_)
      refine lv_iload hx hb dL_law_1312 (lv_at hl 0 rfl) ?_
      refine lv_i2l (v := x8.toInt64) hx hb dL_law_1314 rfl ?_
      refine W.lcmp hx hb dL_law_1315 ?_
      refine b_if_eq (tgt := 1321) hx hb hf dL_law_1316 (by decide) (fun hf => ?_) (fun hf => ?_)
      · refine lv_goto (tgt := 2712) hx hb dL_law_1321 (by decide) ?_
        refine b_let hf (fun x13 he hf => ?_)
        refine lv_iinc (v := x13) (lv' := [(4, .int x13), (6, .int x8), (5, .int x4), (0, .ref b), (1, .ref (B + 0)), (2, .ref (B + 713)), (3, .ref (B + 746))]) hx hb dL_law_2712 hl (k := 6) rfl (by rw [← he]; rfl) (by decide) rfl (fun ls hl => ?_)
        refine lv_goto (tgt := 23) hx hb dL_law_2715 (by decide) ?_
        refine W.widen (k := cells + 6) (n := slots + 36) (by omega) (by omega) ?_
        exact hr x13 w9 hf _ _ _ hH (lv_sub hl [3, 4, 5, 6, 0] rfl)
      · refine lv_iconst (v := (0 : Int32)) hx hb dL_law_1319 (by decide) ?_
        cases hf
  · refine lv_iconst (v := (0 : Int32)) hx hb dL_law_1302 (by decide) ?_
    cases hf
set_option maxRecDepth 100000 in
set_option maxHeartbeats 8000000 in
theorem t_L_law_1324 {D : va_G} {B : Nat} {Y : Nat → ClassId} {p : Program} {l : Launch} {e : Env} {s : State} {m : MethodId} {below : List Frame} {meth : Method} {c : Code} {b L : Nat} {xs : Nat → Int32} {rc : Int32 × Wd → Option Unit} {cells slots : Nat} {H : Heap} {locs : List Loc} {ls : Array Slot} {w : Wd} {v4 : Int32} {z : Unit} (C : CX D B Y p s m #[.ref b] meth c cL_law 8 RL (some .boolean)) (htr : l.stackTraces = false) (hL : LXS b L xs s B) (hcs : cells + 6 ≤ room_1.cells ∧ slots + 36 ≤ room_1.slots) (hr : ∀ (v4 : Int32) (w : Wd), rc (v4, w) = some z → ∀ (H : Heap) (locs : List Loc) (ls : Array Slot), HS D B Y w s H locs → lv_has ls 8 [(0, .ref b), (1, .ref (B + 0)), (2, .ref (B + 713)), (3, .ref (B + 746)), (4, .int v4)] → W p l e room_1 s m #[.ref b] below meth c H locs (cells + 6) (slots + 36) (lw_Z below #[.ref b] s) (F0 m 23 ls [])) (hH : HS D B Y w s H locs) (hl : lv_has ls 8 [(0, .ref b), (1, .ref (B + 0)), (2, .ref (B + 713)), (3, .ref (B + 746)), (4, .int v4)]) (hf : f_L_law_1324 L xs rc v4 w = some z) : W p l e room_1 s m #[.ref b] below meth c H locs cells slots (lw_Z below #[.ref b] s) (F0 m 1324 ls []) := by
  have hx := C.1
  have hb := C.2.1
  unfold f_L_law_1324 at hf
  refine lv_aload_n hx hb dL_law_1324 rfl (lv_at hl 1 rfl) ?_
  refine lv_aload_n hx hb dL_law_1325 rfl (lv_at hl 0 rfl) ?_
  refine lv_iload hx hb dL_law_1326 (lv_at hl 4 rfl) ?_
  refine lv_iconst (v := (1 : Int32)) hx hb dL_law_1328 (by decide) ?_
  refine lv_iadd hx hb dL_law_1329 ?_
  refine g_sld C hL hH hf dL_law_1330 (fun x1 hf => ?_)
  refine lv_aload_n hx hb dL_law_1331 rfl (lv_at hl 0 rfl) ?_
  refine lv_iload hx hb dL_law_1332 (lv_at hl 4 rfl) ?_
  refine lv_iconst (v := (2 : Int32)) hx hb dL_law_1334 (by decide) ?_
  refine lv_iadd hx hb dL_law_1335 ?_
  refine g_sld C hL hH hf dL_law_1336 (fun x2 hf => ?_)
  refine lv_aload_n hx hb dL_law_1337 rfl (lv_at hl 0 rfl) ?_
  refine lv_iload hx hb dL_law_1338 (lv_at hl 4 rfl) ?_
  refine lv_iconst (v := (3 : Int32)) hx hb dL_law_1340 (by decide) ?_
  refine lv_iadd hx hb dL_law_1341 ?_
  refine g_sld C hL hH hf dL_law_1342 (fun x3 hf => ?_)
  refine lv_aload_n hx hb dL_law_1343 rfl (lv_at hl 3 rfl) ?_
  obtain ⟨x5, w4, hc, hf⟩ := bd_some hf
  refine q_callLW (As := [.ref (B + 0), .int x1, .int x2, .int x3, .ref (B + 746)]) C hH (k := x5) (goodSW wd_863 wd_864 wd_108 wd_865) yd_L_form (c_L_form htr hc) (by exact Nat.le_of_ble_eq_true rfl) (by exact Nat.le_of_ble_eq_true rfl) hl.1 rfl (Nat.le_of_ble_eq_true rfl) dL_law_1344 ⟨by omega, by omega⟩ (fun H locs hH => ?_)
  refine lv_istore (lv' := [(5, .int x5), (0, .ref b), (1, .ref (B + 0)), (2, .ref (B + 713)), (3, .ref (B + 746)), (4, .int v4)]) hx hb dL_law_1347 hl (by decide) rfl (fun ls hl => ?_)
  refine lv_aload_n hx hb dL_law_1349 rfl (lv_at hl 3 rfl) ?_
  refine lv_aload_n hx hb dL_law_1350 rfl (lv_at hl 1 rfl) ?_
  refine lv_iload hx hb dL_law_1351 (lv_at hl 5 rfl) ?_
  refine lv_iconst (v := (1 : Int32)) hx hb dL_law_1353 (by decide) ?_
  refine lv_iadd hx hb dL_law_1354 ?_
  refine g_sld C hL hH hf dL_law_1355 (fun x6 hf => ?_)
  refine lv_aload_n hx hb dL_law_1356 rfl (lv_at hl 1 rfl) ?_
  refine lv_iload hx hb dL_law_1357 (lv_at hl 5 rfl) ?_
  refine lv_iconst (v := (2 : Int32)) hx hb dL_law_1359 (by decide) ?_
  refine lv_iadd hx hb dL_law_1360 ?_
  refine g_sld C hL hH hf dL_law_1361 (fun x7 hf => ?_)
  refine lv_aload_n hx hb dL_law_1362 rfl (lv_at hl 1 rfl) ?_
  refine lv_iload hx hb dL_law_1363 (lv_at hl 5 rfl) ?_
  refine lv_iconst (v := (3 : Int32)) hx hb dL_law_1365 (by decide) ?_
  refine lv_iadd hx hb dL_law_1366 ?_
  refine g_sld C hL hH hf dL_law_1367 (fun x8 hf => ?_)
  obtain ⟨x10, w9, hc, hf⟩ := bd_some hf
  refine q_callRV1 (v := .int x10) (As := [.int x6, .int x7, .int x8]) C hH (ci := 11) rfl (by omega) gk_L_199 yd_X11_form kc_713 (c_X11_form hc) (by exact Nat.le_of_ble_eq_true rfl) (by exact Nat.le_of_ble_eq_true rfl) hl.1 rfl (Nat.le_of_ble_eq_true rfl) dL_law_1368 ⟨by omega, by omega⟩ (fun H locs hH hP => ?_)
  refine lv_istore (lv' := [(6, .int x10), (5, .int x5), (0, .ref b), (1, .ref (B + 0)), (2, .ref (B + 713)), (3, .ref (B + 746)), (4, .int v4)]) hx hb dL_law_1371 hl (by decide) rfl (fun ls hl => ?_)
  refine lv_aload_n hx hb dL_law_1373 rfl (lv_at hl 4 rfl) ?_
  obtain ⟨x12, w11, hc, hf⟩ := bd_some hf
  refine q_callRV1 (v := .int x12) (As := []) C hH (ci := 11) rfl (by omega) gk_L_141 yd_X11_thrown kc_713 (c_X11_thrown hc) (by exact Nat.le_of_ble_eq_true rfl) (by exact Nat.le_of_ble_eq_true rfl) hl.1 rfl (Nat.le_of_ble_eq_true rfl) dL_law_1374 ⟨by omega, by omega⟩ (fun H locs hH hP => ?_)
  refine lv_iload hx hb dL_law_1377 (lv_at hl 1 rfl) ?_
  refine b_icmp_eq (tgt := 1384) hx hb hf dL_law_1379 (by decide) (fun hf => ?_) (fun hf => ?_)
  · refine lv_iload hx hb dL_law_1384 (lv_at hl 1 rfl) ?_
    refine b_if_ne (tgt := 1401) hx hb hf dL_law_1386 (by decide) (fun hf => ?_) (fun hf => ?_)
    · refine lv_goto (tgt := 2712) hx hb dL_law_1401 (by decide) ?_
      refine b_let hf (fun x13 he hf => ?_)
      refine lv_iinc (v := x13) (lv' := [(4, .int x13), (6, .int x10), (5, .int x5), (0, .ref b), (1, .ref (B + 0)), (2, .ref (B + 713)), (3, .ref (B + 746))]) hx hb dL_law_2712 hl (k := 6) rfl (by rw [← he]; rfl) (by decide) rfl (fun ls hl => ?_)
      refine lv_goto (tgt := 23) hx hb dL_law_2715 (by decide) ?_
      refine W.widen (k := cells + 6) (n := slots + 36) (by omega) (by omega) ?_
      exact hr x13 w11 hf _ _ _ hH (lv_sub hl [3, 4, 5, 6, 0] rfl)
    · refine lv_aload_n hx hb dL_law_1389 rfl (lv_at hl 5 rfl) ?_
      refine lv_iconst (v := (0 : Int32)) hx hb dL_law_1390 (by decide) ?_
      refine g_lald C hH kc_746 hf dL_law_1391 (fun y14 hf => ?_)
      refine lv_iload hx hb dL_law_1392 (lv_at hl 0 rfl) ?_
      refine lv_i2l (v := x10.toInt64) hx hb dL_law_1394 rfl ?_
      refine W.lcmp hx hb dL_law_1395 ?_
      refine b_if_eq (tgt := 1401) hx hb hf dL_law_1396 (by decide) (fun hf => ?_) (fun hf => ?_)
      · refine lv_goto (tgt := 2712) hx hb dL_law_1401 (by decide) ?_
        refine b_let hf (fun x15 he hf => ?_)
        refine lv_iinc (v := x15) (lv' := [(4, .int x15), (6, .int x10), (5, .int x5), (0, .ref b), (1, .ref (B + 0)), (2, .ref (B + 713)), (3, .ref (B + 746))]) hx hb dL_law_2712 hl (k := 6) rfl (by rw [← he]; rfl) (by decide) rfl (fun ls hl => ?_)
        refine lv_goto (tgt := 23) hx hb dL_law_2715 (by decide) ?_
        refine W.widen (k := cells + 6) (n := slots + 36) (by omega) (by omega) ?_
        exact hr x15 w11 hf _ _ _ hH (lv_sub hl [3, 4, 5, 6, 0] rfl)
      · refine lv_iconst (v := (0 : Int32)) hx hb dL_law_1399 (by decide) ?_
        cases hf
  · refine lv_iconst (v := (0 : Int32)) hx hb dL_law_1382 (by decide) ?_
    cases hf
set_option maxRecDepth 100000 in
set_option maxHeartbeats 8000000 in
theorem t_L_law_1404 {D : va_G} {B : Nat} {Y : Nat → ClassId} {p : Program} {l : Launch} {e : Env} {s : State} {m : MethodId} {below : List Frame} {meth : Method} {c : Code} {b L : Nat} {xs : Nat → Int32} {rc : Int32 × Wd → Option Unit} {cells slots : Nat} {H : Heap} {locs : List Loc} {ls : Array Slot} {w : Wd} {v4 : Int32} {z : Unit} (C : CX D B Y p s m #[.ref b] meth c cL_law 8 RL (some .boolean)) (htr : l.stackTraces = false) (hL : LXS b L xs s B) (hcs : cells + 6 ≤ room_1.cells ∧ slots + 36 ≤ room_1.slots) (hr : ∀ (v4 : Int32) (w : Wd), rc (v4, w) = some z → ∀ (H : Heap) (locs : List Loc) (ls : Array Slot), HS D B Y w s H locs → lv_has ls 8 [(0, .ref b), (1, .ref (B + 0)), (2, .ref (B + 713)), (3, .ref (B + 746)), (4, .int v4)] → W p l e room_1 s m #[.ref b] below meth c H locs (cells + 6) (slots + 36) (lw_Z below #[.ref b] s) (F0 m 23 ls [])) (hH : HS D B Y w s H locs) (hl : lv_has ls 8 [(0, .ref b), (1, .ref (B + 0)), (2, .ref (B + 713)), (3, .ref (B + 746)), (4, .int v4)]) (hf : f_L_law_1404 L xs rc v4 w = some z) : W p l e room_1 s m #[.ref b] below meth c H locs cells slots (lw_Z below #[.ref b] s) (F0 m 1404 ls []) := by
  have hx := C.1
  have hb := C.2.1
  unfold f_L_law_1404 at hf
  refine lv_aload_n hx hb dL_law_1404 rfl (lv_at hl 1 rfl) ?_
  refine lv_aload_n hx hb dL_law_1405 rfl (lv_at hl 0 rfl) ?_
  refine lv_iload hx hb dL_law_1406 (lv_at hl 4 rfl) ?_
  refine lv_iconst (v := (1 : Int32)) hx hb dL_law_1408 (by decide) ?_
  refine lv_iadd hx hb dL_law_1409 ?_
  refine g_sld C hL hH hf dL_law_1410 (fun x1 hf => ?_)
  refine lv_aload_n hx hb dL_law_1411 rfl (lv_at hl 0 rfl) ?_
  refine lv_iload hx hb dL_law_1412 (lv_at hl 4 rfl) ?_
  refine lv_iconst (v := (2 : Int32)) hx hb dL_law_1414 (by decide) ?_
  refine lv_iadd hx hb dL_law_1415 ?_
  refine g_sld C hL hH hf dL_law_1416 (fun x2 hf => ?_)
  refine lv_aload_n hx hb dL_law_1417 rfl (lv_at hl 3 rfl) ?_
  obtain ⟨x4, w3, hc, hf⟩ := bd_some hf
  refine q_callLW (As := [.ref (B + 0), .int x1, .int x2, .ref (B + 746)]) C hH (k := x4) (goodSW wd_958 wd_959 wd_108 wd_960) yd_L_looksLike (c_L_looksLike htr hc) (by exact Nat.le_of_ble_eq_true rfl) (by exact Nat.le_of_ble_eq_true rfl) hl.1 rfl (Nat.le_of_ble_eq_true rfl) dL_law_1418 ⟨by omega, by omega⟩ (fun H locs hH => ?_)
  refine lv_istore (lv' := [(5, .int x4), (0, .ref b), (1, .ref (B + 0)), (2, .ref (B + 713)), (3, .ref (B + 746)), (4, .int v4)]) hx hb dL_law_1421 hl (by decide) rfl (fun ls hl => ?_)
  refine lv_aload_n hx hb dL_law_1423 rfl (lv_at hl 3 rfl) ?_
  refine lv_aload_n hx hb dL_law_1424 rfl (lv_at hl 1 rfl) ?_
  refine lv_iload hx hb dL_law_1425 (lv_at hl 5 rfl) ?_
  refine lv_iconst (v := (1 : Int32)) hx hb dL_law_1427 (by decide) ?_
  refine lv_iadd hx hb dL_law_1428 ?_
  refine g_sld C hL hH hf dL_law_1429 (fun x5 hf => ?_)
  refine lv_aload_n hx hb dL_law_1430 rfl (lv_at hl 1 rfl) ?_
  refine lv_iload hx hb dL_law_1431 (lv_at hl 5 rfl) ?_
  refine lv_iconst (v := (2 : Int32)) hx hb dL_law_1433 (by decide) ?_
  refine lv_iadd hx hb dL_law_1434 ?_
  refine g_sld C hL hH hf dL_law_1435 (fun x6 hf => ?_)
  obtain ⟨x8, w7, hc, hf⟩ := bd_some hf
  refine q_callRV1 (v := .int x8) (As := [.int x5, .int x6]) C hH (ci := 11) rfl (by omega) gk_L_202 yd_X11_looksLike kc_713 (c_X11_looksLike hc) (by exact Nat.le_of_ble_eq_true rfl) (by exact Nat.le_of_ble_eq_true rfl) hl.1 rfl (Nat.le_of_ble_eq_true rfl) dL_law_1436 ⟨by omega, by omega⟩ (fun H locs hH z_x8 => ?_)
  refine lv_istore (lv' := [(6, .int x8), (5, .int x4), (0, .ref b), (1, .ref (B + 0)), (2, .ref (B + 713)), (3, .ref (B + 746)), (4, .int v4)]) hx hb dL_law_1439 hl (by decide) rfl (fun ls hl => ?_)
  refine lv_aload_n hx hb dL_law_1441 rfl (lv_at hl 4 rfl) ?_
  obtain ⟨x10, w9, hc, hf⟩ := bd_some hf
  refine q_callRV1 (v := .int x10) (As := []) C hH (ci := 11) rfl (by omega) gk_L_141 yd_X11_thrown kc_713 (c_X11_thrown hc) (by exact Nat.le_of_ble_eq_true rfl) (by exact Nat.le_of_ble_eq_true rfl) hl.1 rfl (Nat.le_of_ble_eq_true rfl) dL_law_1442 ⟨by omega, by omega⟩ (fun H locs hH hP => ?_)
  refine lv_iload hx hb dL_law_1445 (lv_at hl 1 rfl) ?_
  refine b_icmp_eq (tgt := 1452) hx hb hf dL_law_1447 (by decide) (fun hf => ?_) (fun hf => ?_)
  · refine lv_iload hx hb dL_law_1452 (lv_at hl 1 rfl) ?_
    refine b_if_ne (tgt := 1476) hx hb hf dL_law_1454 (by decide) (fun hf => ?_) (fun hf => ?_)
    · refine lv_goto (tgt := 2712) hx hb dL_law_1476 (by decide) ?_
      refine b_let hf (fun x11 he hf => ?_)
      refine lv_iinc (v := x11) (lv' := [(4, .int x11), (6, .int x8), (5, .int x4), (0, .ref b), (1, .ref (B + 0)), (2, .ref (B + 713)), (3, .ref (B + 746))]) hx hb dL_law_2712 hl (k := 6) rfl (by rw [← he]; rfl) (by decide) rfl (fun ls hl => ?_)
      refine lv_goto (tgt := 23) hx hb dL_law_2715 (by decide) ?_
      refine W.widen (k := cells + 6) (n := slots + 36) (by omega) (by omega) ?_
      exact hr x11 w9 hf _ _ _ hH (lv_sub hl [3, 4, 5, 6, 0] rfl)
    · refine lv_aload_n hx hb dL_law_1457 rfl (lv_at hl 5 rfl) ?_
      refine lv_iconst (v := (0 : Int32)) hx hb dL_law_1458 (by decide) ?_
      refine g_lald C hH kc_746 hf dL_law_1459 (fun y12 hf => ?_)
      refine lv_iload hx hb dL_law_1460 (lv_at hl 0 rfl) ?_
      refine b_if_eq (tgt := 1469) hx hb hf dL_law_1462 (by decide) (fun hf => ?_) (fun hf => ?_)
      · refine lv_lconst (v := (0 : Int64)) hx hb dL_law_1469 (by decide) ?_
        refine W.lcmp hx hb dL_law_1470 ?_
        refine b_if_eq (tgt := 1476) hx hb hf dL_law_1471 (by decide) (fun hf => ?_) (fun hf => ?_)
        · refine lv_goto (tgt := 2712) hx hb dL_law_1476 (by decide) ?_
          refine b_let hf (fun x13 he hf => ?_)
          refine lv_iinc (v := x13) (lv' := [(4, .int x13), (6, .int x8), (5, .int x4), (0, .ref b), (1, .ref (B + 0)), (2, .ref (B + 713)), (3, .ref (B + 746))]) hx hb dL_law_2712 hl (k := 6) rfl (by rw [← he]; rfl) (by decide) rfl (fun ls hl => ?_)
          refine lv_goto (tgt := 23) hx hb dL_law_2715 (by decide) ?_
          refine W.widen (k := cells + 6) (n := slots + 36) (by omega) (by omega) ?_
          exact hr x13 w9 hf _ _ _ hH (lv_sub hl [3, 4, 5, 6, 0] rfl)
        · refine lv_iconst (v := (0 : Int32)) hx hb dL_law_1474 (by decide) ?_
          cases hf
      · refine lv_lconst (v := (1 : Int64)) hx hb dL_law_1465 (by decide) ?_
        refine lv_goto (tgt := 1470) hx hb dL_law_1466 (by decide) ?_
        refine W.lcmp hx hb dL_law_1470 ?_
        refine b_if_eq (tgt := 1476) hx hb hf dL_law_1471 (by decide) (fun hf => ?_) (fun hf => ?_)
        · refine lv_goto (tgt := 2712) hx hb dL_law_1476 (by decide) ?_
          refine b_let hf (fun x14 he hf => ?_)
          refine lv_iinc (v := x14) (lv' := [(4, .int x14), (6, .int x8), (5, .int x4), (0, .ref b), (1, .ref (B + 0)), (2, .ref (B + 713)), (3, .ref (B + 746))]) hx hb dL_law_2712 hl (k := 6) rfl (by rw [← he]; rfl) (by decide) rfl (fun ls hl => ?_)
          refine lv_goto (tgt := 23) hx hb dL_law_2715 (by decide) ?_
          refine W.widen (k := cells + 6) (n := slots + 36) (by omega) (by omega) ?_
          exact hr x14 w9 hf _ _ _ hH (lv_sub hl [3, 4, 5, 6, 0] rfl)
        · refine lv_iconst (v := (0 : Int32)) hx hb dL_law_1474 (by decide) ?_
          cases hf
  · refine lv_iconst (v := (0 : Int32)) hx hb dL_law_1450 (by decide) ?_
    cases hf
set_option maxRecDepth 100000 in
set_option maxHeartbeats 8000000 in
theorem t_L_law_1479 {D : va_G} {B : Nat} {Y : Nat → ClassId} {p : Program} {l : Launch} {e : Env} {s : State} {m : MethodId} {below : List Frame} {meth : Method} {c : Code} {b L : Nat} {xs : Nat → Int32} {rc : Int32 × Wd → Option Unit} {cells slots : Nat} {H : Heap} {locs : List Loc} {ls : Array Slot} {w : Wd} {v4 : Int32} {z : Unit} (C : CX D B Y p s m #[.ref b] meth c cL_law 8 RL (some .boolean)) (htr : l.stackTraces = false) (hL : LXS b L xs s B) (hcs : cells + 6 ≤ room_1.cells ∧ slots + 36 ≤ room_1.slots) (hr : ∀ (v4 : Int32) (w : Wd), rc (v4, w) = some z → ∀ (H : Heap) (locs : List Loc) (ls : Array Slot), HS D B Y w s H locs → lv_has ls 8 [(0, .ref b), (1, .ref (B + 0)), (2, .ref (B + 713)), (3, .ref (B + 746)), (4, .int v4)] → W p l e room_1 s m #[.ref b] below meth c H locs (cells + 6) (slots + 36) (lw_Z below #[.ref b] s) (F0 m 23 ls [])) (hH : HS D B Y w s H locs) (hl : lv_has ls 8 [(0, .ref b), (1, .ref (B + 0)), (2, .ref (B + 713)), (3, .ref (B + 746)), (4, .int v4)]) (hf : f_L_law_1479 L xs rc v4 w = some z) : W p l e room_1 s m #[.ref b] below meth c H locs cells slots (lw_Z below #[.ref b] s) (F0 m 1479 ls []) := by
  have hx := C.1
  have hb := C.2.1
  unfold f_L_law_1479 at hf
  refine lv_aload_n hx hb dL_law_1479 rfl (lv_at hl 1 rfl) ?_
  refine lv_aload_n hx hb dL_law_1480 rfl (lv_at hl 0 rfl) ?_
  refine lv_iload hx hb dL_law_1481 (lv_at hl 4 rfl) ?_
  refine lv_iconst (v := (1 : Int32)) hx hb dL_law_1483 (by decide) ?_
  refine lv_iadd hx hb dL_law_1484 ?_
  refine g_sld C hL hH hf dL_law_1485 (fun x1 hf => ?_)
  refine lv_aload_n hx hb dL_law_1486 rfl (lv_at hl 3 rfl) ?_
  obtain ⟨x3, w2, hc, hf⟩ := bd_some hf
  refine q_callLW (As := [.ref (B + 0), .int x1, .ref (B + 746)]) C hH (k := x3) (goodSW wd_974 wd_975 wd_108 wd_976) yd_L_base (c_L_base htr hc) (by exact Nat.le_of_ble_eq_true rfl) (by exact Nat.le_of_ble_eq_true rfl) hl.1 rfl (Nat.le_of_ble_eq_true rfl) dL_law_1487 ⟨by omega, by omega⟩ (fun H locs hH => ?_)
  refine lv_istore (lv' := [(5, .int x3), (0, .ref b), (1, .ref (B + 0)), (2, .ref (B + 713)), (3, .ref (B + 746)), (4, .int v4)]) hx hb dL_law_1490 hl (by decide) rfl (fun ls hl => ?_)
  refine lv_aload_n hx hb dL_law_1492 rfl (lv_at hl 3 rfl) ?_
  refine lv_aload_n hx hb dL_law_1493 rfl (lv_at hl 1 rfl) ?_
  refine lv_iload hx hb dL_law_1494 (lv_at hl 5 rfl) ?_
  refine lv_iconst (v := (1 : Int32)) hx hb dL_law_1496 (by decide) ?_
  refine lv_iadd hx hb dL_law_1497 ?_
  refine g_sld C hL hH hf dL_law_1498 (fun x4 hf => ?_)
  obtain ⟨x6, w5, hc, hf⟩ := bd_some hf
  refine q_callRV1 (v := .int x6) (As := [.int x4]) C hH (ci := 11) rfl (by omega) gk_L_205 yd_X11_base kc_713 (c_X11_base hc) (by exact Nat.le_of_ble_eq_true rfl) (by exact Nat.le_of_ble_eq_true rfl) hl.1 rfl (Nat.le_of_ble_eq_true rfl) dL_law_1499 ⟨by omega, by omega⟩ (fun H locs hH hP => ?_)
  refine lv_istore (lv' := [(6, .int x6), (5, .int x3), (0, .ref b), (1, .ref (B + 0)), (2, .ref (B + 713)), (3, .ref (B + 746)), (4, .int v4)]) hx hb dL_law_1502 hl (by decide) rfl (fun ls hl => ?_)
  refine lv_aload_n hx hb dL_law_1504 rfl (lv_at hl 4 rfl) ?_
  obtain ⟨x8, w7, hc, hf⟩ := bd_some hf
  refine q_callRV1 (v := .int x8) (As := []) C hH (ci := 11) rfl (by omega) gk_L_141 yd_X11_thrown kc_713 (c_X11_thrown hc) (by exact Nat.le_of_ble_eq_true rfl) (by exact Nat.le_of_ble_eq_true rfl) hl.1 rfl (Nat.le_of_ble_eq_true rfl) dL_law_1505 ⟨by omega, by omega⟩ (fun H locs hH hP => ?_)
  refine lv_iload hx hb dL_law_1508 (lv_at hl 1 rfl) ?_
  refine b_icmp_eq (tgt := 1515) hx hb hf dL_law_1510 (by decide) (fun hf => ?_) (fun hf => ?_)
  · refine lv_iload hx hb dL_law_1515 (lv_at hl 1 rfl) ?_
    refine b_if_ne (tgt := 1532) hx hb hf dL_law_1517 (by decide) (fun hf => ?_) (fun hf => ?_)
    · refine lv_goto (tgt := 2712) hx hb dL_law_1532 (by decide) ?_
      refine b_let hf (fun x9 he hf => ?_)
      refine lv_iinc (v := x9) (lv' := [(4, .int x9), (6, .int x6), (5, .int x3), (0, .ref b), (1, .ref (B + 0)), (2, .ref (B + 713)), (3, .ref (B + 746))]) hx hb dL_law_2712 hl (k := 6) rfl (by rw [← he]; rfl) (by decide) rfl (fun ls hl => ?_)
      refine lv_goto (tgt := 23) hx hb dL_law_2715 (by decide) ?_
      refine W.widen (k := cells + 6) (n := slots + 36) (by omega) (by omega) ?_
      exact hr x9 w7 hf _ _ _ hH (lv_sub hl [3, 4, 5, 6, 0] rfl)
    · refine lv_aload_n hx hb dL_law_1520 rfl (lv_at hl 5 rfl) ?_
      refine lv_iconst (v := (0 : Int32)) hx hb dL_law_1521 (by decide) ?_
      refine g_lald C hH kc_746 hf dL_law_1522 (fun y10 hf => ?_)
      refine lv_iload hx hb dL_law_1523 (lv_at hl 0 rfl) ?_
      refine lv_i2l (v := x6.toInt64) hx hb dL_law_1525 rfl ?_
      refine W.lcmp hx hb dL_law_1526 ?_
      refine b_if_eq (tgt := 1532) hx hb hf dL_law_1527 (by decide) (fun hf => ?_) (fun hf => ?_)
      · refine lv_goto (tgt := 2712) hx hb dL_law_1532 (by decide) ?_
        refine b_let hf (fun x11 he hf => ?_)
        refine lv_iinc (v := x11) (lv' := [(4, .int x11), (6, .int x6), (5, .int x3), (0, .ref b), (1, .ref (B + 0)), (2, .ref (B + 713)), (3, .ref (B + 746))]) hx hb dL_law_2712 hl (k := 6) rfl (by rw [← he]; rfl) (by decide) rfl (fun ls hl => ?_)
        refine lv_goto (tgt := 23) hx hb dL_law_2715 (by decide) ?_
        refine W.widen (k := cells + 6) (n := slots + 36) (by omega) (by omega) ?_
        exact hr x11 w7 hf _ _ _ hH (lv_sub hl [3, 4, 5, 6, 0] rfl)
      · refine lv_iconst (v := (0 : Int32)) hx hb dL_law_1530 (by decide) ?_
        cases hf
  · refine lv_iconst (v := (0 : Int32)) hx hb dL_law_1513 (by decide) ?_
    cases hf
set_option maxRecDepth 100000 in
set_option maxHeartbeats 8000000 in
theorem t_L_law_1535 {D : va_G} {B : Nat} {Y : Nat → ClassId} {p : Program} {l : Launch} {e : Env} {s : State} {m : MethodId} {below : List Frame} {meth : Method} {c : Code} {b L : Nat} {xs : Nat → Int32} {rc : Int32 × Wd → Option Unit} {cells slots : Nat} {H : Heap} {locs : List Loc} {ls : Array Slot} {w : Wd} {v4 : Int32} {z : Unit} (C : CX D B Y p s m #[.ref b] meth c cL_law 8 RL (some .boolean)) (htr : l.stackTraces = false) (hL : LXS b L xs s B) (hcs : cells + 6 ≤ room_1.cells ∧ slots + 36 ≤ room_1.slots) (hr : ∀ (v4 : Int32) (w : Wd), rc (v4, w) = some z → ∀ (H : Heap) (locs : List Loc) (ls : Array Slot), HS D B Y w s H locs → lv_has ls 8 [(0, .ref b), (1, .ref (B + 0)), (2, .ref (B + 713)), (3, .ref (B + 746)), (4, .int v4)] → W p l e room_1 s m #[.ref b] below meth c H locs (cells + 6) (slots + 36) (lw_Z below #[.ref b] s) (F0 m 23 ls [])) (hH : HS D B Y w s H locs) (hl : lv_has ls 8 [(0, .ref b), (1, .ref (B + 0)), (2, .ref (B + 713)), (3, .ref (B + 746)), (4, .int v4)]) (hf : f_L_law_1535 L xs rc v4 w = some z) : W p l e room_1 s m #[.ref b] below meth c H locs cells slots (lw_Z below #[.ref b] s) (F0 m 1535 ls []) := by
  have hx := C.1
  have hb := C.2.1
  unfold f_L_law_1535 at hf
  refine lv_aload_n hx hb dL_law_1535 rfl (lv_at hl 1 rfl) ?_
  refine lv_aload_n hx hb dL_law_1536 rfl (lv_at hl 0 rfl) ?_
  refine lv_iload hx hb dL_law_1537 (lv_at hl 4 rfl) ?_
  refine lv_iconst (v := (1 : Int32)) hx hb dL_law_1539 (by decide) ?_
  refine lv_iadd hx hb dL_law_1540 ?_
  refine g_sld C hL hH hf dL_law_1541 (fun x1 hf => ?_)
  refine lv_aload_n hx hb dL_law_1542 rfl (lv_at hl 0 rfl) ?_
  refine lv_iload hx hb dL_law_1543 (lv_at hl 4 rfl) ?_
  refine lv_iconst (v := (2 : Int32)) hx hb dL_law_1545 (by decide) ?_
  refine lv_iadd hx hb dL_law_1546 ?_
  refine g_sld C hL hH hf dL_law_1547 (fun x2 hf => ?_)
  refine lv_aload_n hx hb dL_law_1548 rfl (lv_at hl 0 rfl) ?_
  refine lv_iload hx hb dL_law_1549 (lv_at hl 4 rfl) ?_
  refine lv_iconst (v := (3 : Int32)) hx hb dL_law_1551 (by decide) ?_
  refine lv_iadd hx hb dL_law_1552 ?_
  refine g_sld C hL hH hf dL_law_1553 (fun x3 hf => ?_)
  refine lv_aload_n hx hb dL_law_1554 rfl (lv_at hl 3 rfl) ?_
  obtain ⟨x5, w4, hc, hf⟩ := bd_some hf
  refine q_callLW (As := [.ref (B + 0), .int x1, .int x2, .int x3, .ref (B + 746)]) C hH (k := x5) (goodSW wd_994 wd_995 wd_108 wd_996) yd_L_level (c_L_level htr hc) (by exact Nat.le_of_ble_eq_true rfl) (by exact Nat.le_of_ble_eq_true rfl) hl.1 rfl (Nat.le_of_ble_eq_true rfl) dL_law_1555 ⟨by omega, by omega⟩ (fun H locs hH => ?_)
  refine lv_istore (lv' := [(5, .int x5), (0, .ref b), (1, .ref (B + 0)), (2, .ref (B + 713)), (3, .ref (B + 746)), (4, .int v4)]) hx hb dL_law_1558 hl (by decide) rfl (fun ls hl => ?_)
  refine lv_aload_n hx hb dL_law_1560 rfl (lv_at hl 3 rfl) ?_
  refine lv_aload_n hx hb dL_law_1561 rfl (lv_at hl 1 rfl) ?_
  refine lv_iload hx hb dL_law_1562 (lv_at hl 5 rfl) ?_
  refine lv_iconst (v := (1 : Int32)) hx hb dL_law_1564 (by decide) ?_
  refine lv_iadd hx hb dL_law_1565 ?_
  refine g_sld C hL hH hf dL_law_1566 (fun x6 hf => ?_)
  refine lv_aload_n hx hb dL_law_1567 rfl (lv_at hl 1 rfl) ?_
  refine lv_iload hx hb dL_law_1568 (lv_at hl 5 rfl) ?_
  refine lv_iconst (v := (2 : Int32)) hx hb dL_law_1570 (by decide) ?_
  refine lv_iadd hx hb dL_law_1571 ?_
  refine g_sld C hL hH hf dL_law_1572 (fun x7 hf => ?_)
  refine lv_aload_n hx hb dL_law_1573 rfl (lv_at hl 1 rfl) ?_
  refine lv_iload hx hb dL_law_1574 (lv_at hl 5 rfl) ?_
  refine lv_iconst (v := (3 : Int32)) hx hb dL_law_1576 (by decide) ?_
  refine lv_iadd hx hb dL_law_1577 ?_
  refine g_sld C hL hH hf dL_law_1578 (fun x8 hf => ?_)
  obtain ⟨x10, w9, hc, hf⟩ := bd_some hf
  refine q_callRV1 (v := .int x10) (As := [.int x6, .int x7, .int x8]) C hH (ci := 11) rfl (by omega) gk_L_208 yd_X11_level kc_713 (c_X11_level hc) (by exact Nat.le_of_ble_eq_true rfl) (by exact Nat.le_of_ble_eq_true rfl) hl.1 rfl (Nat.le_of_ble_eq_true rfl) dL_law_1579 ⟨by omega, by omega⟩ (fun H locs hH hP => ?_)
  refine lv_istore (lv' := [(6, .int x10), (5, .int x5), (0, .ref b), (1, .ref (B + 0)), (2, .ref (B + 713)), (3, .ref (B + 746)), (4, .int v4)]) hx hb dL_law_1582 hl (by decide) rfl (fun ls hl => ?_)
  refine lv_aload_n hx hb dL_law_1584 rfl (lv_at hl 4 rfl) ?_
  obtain ⟨x12, w11, hc, hf⟩ := bd_some hf
  refine q_callRV1 (v := .int x12) (As := []) C hH (ci := 11) rfl (by omega) gk_L_141 yd_X11_thrown kc_713 (c_X11_thrown hc) (by exact Nat.le_of_ble_eq_true rfl) (by exact Nat.le_of_ble_eq_true rfl) hl.1 rfl (Nat.le_of_ble_eq_true rfl) dL_law_1585 ⟨by omega, by omega⟩ (fun H locs hH hP => ?_)
  refine lv_iload hx hb dL_law_1588 (lv_at hl 1 rfl) ?_
  refine b_icmp_eq (tgt := 1595) hx hb hf dL_law_1590 (by decide) (fun hf => ?_) (fun hf => ?_)
  · refine lv_iload hx hb dL_law_1595 (lv_at hl 1 rfl) ?_
    refine b_if_ne (tgt := 1612) hx hb hf dL_law_1597 (by decide) (fun hf => ?_) (fun hf => ?_)
    · refine lv_goto (tgt := 2712) hx hb dL_law_1612 (by decide) ?_
      refine b_let hf (fun x13 he hf => ?_)
      refine lv_iinc (v := x13) (lv' := [(4, .int x13), (6, .int x10), (5, .int x5), (0, .ref b), (1, .ref (B + 0)), (2, .ref (B + 713)), (3, .ref (B + 746))]) hx hb dL_law_2712 hl (k := 6) rfl (by rw [← he]; rfl) (by decide) rfl (fun ls hl => ?_)
      refine lv_goto (tgt := 23) hx hb dL_law_2715 (by decide) ?_
      refine W.widen (k := cells + 6) (n := slots + 36) (by omega) (by omega) ?_
      exact hr x13 w11 hf _ _ _ hH (lv_sub hl [3, 4, 5, 6, 0] rfl)
    · refine lv_aload_n hx hb dL_law_1600 rfl (lv_at hl 5 rfl) ?_
      refine lv_iconst (v := (0 : Int32)) hx hb dL_law_1601 (by decide) ?_
      refine g_lald C hH kc_746 hf dL_law_1602 (fun y14 hf => ?_)
      refine lv_iload hx hb dL_law_1603 (lv_at hl 0 rfl) ?_
      refine lv_i2l (v := x10.toInt64) hx hb dL_law_1605 rfl ?_
      refine W.lcmp hx hb dL_law_1606 ?_
      refine b_if_eq (tgt := 1612) hx hb hf dL_law_1607 (by decide) (fun hf => ?_) (fun hf => ?_)
      · refine lv_goto (tgt := 2712) hx hb dL_law_1612 (by decide) ?_
        refine b_let hf (fun x15 he hf => ?_)
        refine lv_iinc (v := x15) (lv' := [(4, .int x15), (6, .int x10), (5, .int x5), (0, .ref b), (1, .ref (B + 0)), (2, .ref (B + 713)), (3, .ref (B + 746))]) hx hb dL_law_2712 hl (k := 6) rfl (by rw [← he]; rfl) (by decide) rfl (fun ls hl => ?_)
        refine lv_goto (tgt := 23) hx hb dL_law_2715 (by decide) ?_
        refine W.widen (k := cells + 6) (n := slots + 36) (by omega) (by omega) ?_
        exact hr x15 w11 hf _ _ _ hH (lv_sub hl [3, 4, 5, 6, 0] rfl)
      · refine lv_iconst (v := (0 : Int32)) hx hb dL_law_1610 (by decide) ?_
        cases hf
  · refine lv_iconst (v := (0 : Int32)) hx hb dL_law_1593 (by decide) ?_
    cases hf
set_option maxRecDepth 100000 in
set_option maxHeartbeats 8000000 in
theorem t_L_law_1615 {D : va_G} {B : Nat} {Y : Nat → ClassId} {p : Program} {l : Launch} {e : Env} {s : State} {m : MethodId} {below : List Frame} {meth : Method} {c : Code} {b L : Nat} {xs : Nat → Int32} {rc : Int32 × Wd → Option Unit} {cells slots : Nat} {H : Heap} {locs : List Loc} {ls : Array Slot} {w : Wd} {v4 : Int32} {z : Unit} (C : CX D B Y p s m #[.ref b] meth c cL_law 8 RL (some .boolean)) (htr : l.stackTraces = false) (hL : LXS b L xs s B) (hcs : cells + 6 ≤ room_1.cells ∧ slots + 36 ≤ room_1.slots) (hr : ∀ (v4 : Int32) (w : Wd), rc (v4, w) = some z → ∀ (H : Heap) (locs : List Loc) (ls : Array Slot), HS D B Y w s H locs → lv_has ls 8 [(0, .ref b), (1, .ref (B + 0)), (2, .ref (B + 713)), (3, .ref (B + 746)), (4, .int v4)] → W p l e room_1 s m #[.ref b] below meth c H locs (cells + 6) (slots + 36) (lw_Z below #[.ref b] s) (F0 m 23 ls [])) (hH : HS D B Y w s H locs) (hl : lv_has ls 8 [(0, .ref b), (1, .ref (B + 0)), (2, .ref (B + 713)), (3, .ref (B + 746)), (4, .int v4)]) (hf : f_L_law_1615 L xs rc v4 w = some z) : W p l e room_1 s m #[.ref b] below meth c H locs cells slots (lw_Z below #[.ref b] s) (F0 m 1615 ls []) := by
  have hx := C.1
  have hb := C.2.1
  unfold f_L_law_1615 at hf
  refine lv_aload_n hx hb dL_law_1615 rfl (lv_at hl 1 rfl) ?_
  refine lv_aload_n hx hb dL_law_1616 rfl (lv_at hl 0 rfl) ?_
  refine lv_iload hx hb dL_law_1617 (lv_at hl 4 rfl) ?_
  refine lv_iconst (v := (1 : Int32)) hx hb dL_law_1619 (by decide) ?_
  refine lv_iadd hx hb dL_law_1620 ?_
  refine g_sld C hL hH hf dL_law_1621 (fun x1 hf => ?_)
  refine lv_aload_n hx hb dL_law_1622 rfl (lv_at hl 0 rfl) ?_
  refine lv_iload hx hb dL_law_1623 (lv_at hl 4 rfl) ?_
  refine lv_iconst (v := (2 : Int32)) hx hb dL_law_1625 (by decide) ?_
  refine lv_iadd hx hb dL_law_1626 ?_
  refine g_sld C hL hH hf dL_law_1627 (fun x2 hf => ?_)
  refine lv_aload_n hx hb dL_law_1628 rfl (lv_at hl 0 rfl) ?_
  refine lv_iload hx hb dL_law_1629 (lv_at hl 4 rfl) ?_
  refine lv_iconst (v := (3 : Int32)) hx hb dL_law_1631 (by decide) ?_
  refine lv_iadd hx hb dL_law_1632 ?_
  refine g_sld C hL hH hf dL_law_1633 (fun x3 hf => ?_)
  refine lv_aload_n hx hb dL_law_1634 rfl (lv_at hl 3 rfl) ?_
  obtain ⟨x5, w4, hc, hf⟩ := bd_some hf
  refine q_callLW (As := [.ref (B + 0), .int x1, .int x2, .int x3, .ref (B + 746)]) C hH (k := x5) (goodSW wd_1093 wd_1094 wd_108 wd_1095) yd_L_shown (c_L_shown htr hc) (by exact Nat.le_of_ble_eq_true rfl) (by exact Nat.le_of_ble_eq_true rfl) hl.1 rfl (Nat.le_of_ble_eq_true rfl) dL_law_1635 ⟨by omega, by omega⟩ (fun H locs hH => ?_)
  refine lv_istore (lv' := [(5, .int x5), (0, .ref b), (1, .ref (B + 0)), (2, .ref (B + 713)), (3, .ref (B + 746)), (4, .int v4)]) hx hb dL_law_1638 hl (by decide) rfl (fun ls hl => ?_)
  refine lv_aload_n hx hb dL_law_1640 rfl (lv_at hl 3 rfl) ?_
  refine lv_aload_n hx hb dL_law_1641 rfl (lv_at hl 1 rfl) ?_
  refine lv_iload hx hb dL_law_1642 (lv_at hl 5 rfl) ?_
  refine lv_iconst (v := (1 : Int32)) hx hb dL_law_1644 (by decide) ?_
  refine lv_iadd hx hb dL_law_1645 ?_
  refine g_sld C hL hH hf dL_law_1646 (fun x6 hf => ?_)
  refine lv_aload_n hx hb dL_law_1647 rfl (lv_at hl 1 rfl) ?_
  refine lv_iload hx hb dL_law_1648 (lv_at hl 5 rfl) ?_
  refine lv_iconst (v := (2 : Int32)) hx hb dL_law_1650 (by decide) ?_
  refine lv_iadd hx hb dL_law_1651 ?_
  refine g_sld C hL hH hf dL_law_1652 (fun x7 hf => ?_)
  refine lv_aload_n hx hb dL_law_1653 rfl (lv_at hl 1 rfl) ?_
  refine lv_iload hx hb dL_law_1654 (lv_at hl 5 rfl) ?_
  refine lv_iconst (v := (3 : Int32)) hx hb dL_law_1656 (by decide) ?_
  refine lv_iadd hx hb dL_law_1657 ?_
  refine g_sld C hL hH hf dL_law_1658 (fun x8 hf => ?_)
  obtain ⟨x10, w9, hc, hf⟩ := bd_some hf
  refine q_callRV1 (v := .int x10) (As := [.int x6, .int x7, .int x8]) C hH (ci := 11) rfl (by omega) gk_L_211 yd_X11_shown kc_713 (c_X11_shown hc) (by exact Nat.le_of_ble_eq_true rfl) (by exact Nat.le_of_ble_eq_true rfl) hl.1 rfl (Nat.le_of_ble_eq_true rfl) dL_law_1659 ⟨by omega, by omega⟩ (fun H locs hH hP => ?_)
  refine lv_istore (lv' := [(6, .int x10), (5, .int x5), (0, .ref b), (1, .ref (B + 0)), (2, .ref (B + 713)), (3, .ref (B + 746)), (4, .int v4)]) hx hb dL_law_1662 hl (by decide) rfl (fun ls hl => ?_)
  refine lv_aload_n hx hb dL_law_1664 rfl (lv_at hl 4 rfl) ?_
  obtain ⟨x12, w11, hc, hf⟩ := bd_some hf
  refine q_callRV1 (v := .int x12) (As := []) C hH (ci := 11) rfl (by omega) gk_L_141 yd_X11_thrown kc_713 (c_X11_thrown hc) (by exact Nat.le_of_ble_eq_true rfl) (by exact Nat.le_of_ble_eq_true rfl) hl.1 rfl (Nat.le_of_ble_eq_true rfl) dL_law_1665 ⟨by omega, by omega⟩ (fun H locs hH hP => ?_)
  refine lv_iload hx hb dL_law_1668 (lv_at hl 1 rfl) ?_
  refine b_icmp_eq (tgt := 1675) hx hb hf dL_law_1670 (by decide) (fun hf => ?_) (fun hf => ?_)
  · refine lv_iload hx hb dL_law_1675 (lv_at hl 1 rfl) ?_
    refine b_if_ne (tgt := 1692) hx hb hf dL_law_1677 (by decide) (fun hf => ?_) (fun hf => ?_)
    · refine lv_goto (tgt := 2712) hx hb dL_law_1692 (by decide) ?_
      refine b_let hf (fun x13 he hf => ?_)
      refine lv_iinc (v := x13) (lv' := [(4, .int x13), (6, .int x10), (5, .int x5), (0, .ref b), (1, .ref (B + 0)), (2, .ref (B + 713)), (3, .ref (B + 746))]) hx hb dL_law_2712 hl (k := 6) rfl (by rw [← he]; rfl) (by decide) rfl (fun ls hl => ?_)
      refine lv_goto (tgt := 23) hx hb dL_law_2715 (by decide) ?_
      refine W.widen (k := cells + 6) (n := slots + 36) (by omega) (by omega) ?_
      exact hr x13 w11 hf _ _ _ hH (lv_sub hl [3, 4, 5, 6, 0] rfl)
    · refine lv_aload_n hx hb dL_law_1680 rfl (lv_at hl 5 rfl) ?_
      refine lv_iconst (v := (0 : Int32)) hx hb dL_law_1681 (by decide) ?_
      refine g_lald C hH kc_746 hf dL_law_1682 (fun y14 hf => ?_)
      refine lv_iload hx hb dL_law_1683 (lv_at hl 0 rfl) ?_
      refine lv_i2l (v := x10.toInt64) hx hb dL_law_1685 rfl ?_
      refine W.lcmp hx hb dL_law_1686 ?_
      refine b_if_eq (tgt := 1692) hx hb hf dL_law_1687 (by decide) (fun hf => ?_) (fun hf => ?_)
      · refine lv_goto (tgt := 2712) hx hb dL_law_1692 (by decide) ?_
        refine b_let hf (fun x15 he hf => ?_)
        refine lv_iinc (v := x15) (lv' := [(4, .int x15), (6, .int x10), (5, .int x5), (0, .ref b), (1, .ref (B + 0)), (2, .ref (B + 713)), (3, .ref (B + 746))]) hx hb dL_law_2712 hl (k := 6) rfl (by rw [← he]; rfl) (by decide) rfl (fun ls hl => ?_)
        refine lv_goto (tgt := 23) hx hb dL_law_2715 (by decide) ?_
        refine W.widen (k := cells + 6) (n := slots + 36) (by omega) (by omega) ?_
        exact hr x15 w11 hf _ _ _ hH (lv_sub hl [3, 4, 5, 6, 0] rfl)
      · refine lv_iconst (v := (0 : Int32)) hx hb dL_law_1690 (by decide) ?_
        cases hf
  · refine lv_iconst (v := (0 : Int32)) hx hb dL_law_1673 (by decide) ?_
    cases hf
set_option maxRecDepth 100000 in
set_option maxHeartbeats 8000000 in
theorem t_L_law_1695 {D : va_G} {B : Nat} {Y : Nat → ClassId} {p : Program} {l : Launch} {e : Env} {s : State} {m : MethodId} {below : List Frame} {meth : Method} {c : Code} {b L : Nat} {xs : Nat → Int32} {rc : Int32 × Wd → Option Unit} {cells slots : Nat} {H : Heap} {locs : List Loc} {ls : Array Slot} {w : Wd} {v4 : Int32} {z : Unit} (C : CX D B Y p s m #[.ref b] meth c cL_law 8 RL (some .boolean)) (htr : l.stackTraces = false) (hL : LXS b L xs s B) (hcs : cells + 6 ≤ room_1.cells ∧ slots + 36 ≤ room_1.slots) (hr : ∀ (v4 : Int32) (w : Wd), rc (v4, w) = some z → ∀ (H : Heap) (locs : List Loc) (ls : Array Slot), HS D B Y w s H locs → lv_has ls 8 [(0, .ref b), (1, .ref (B + 0)), (2, .ref (B + 713)), (3, .ref (B + 746)), (4, .int v4)] → W p l e room_1 s m #[.ref b] below meth c H locs (cells + 6) (slots + 36) (lw_Z below #[.ref b] s) (F0 m 23 ls [])) (hH : HS D B Y w s H locs) (hl : lv_has ls 8 [(0, .ref b), (1, .ref (B + 0)), (2, .ref (B + 713)), (3, .ref (B + 746)), (4, .int v4)]) (hf : f_L_law_1695 L xs rc v4 w = some z) : W p l e room_1 s m #[.ref b] below meth c H locs cells slots (lw_Z below #[.ref b] s) (F0 m 1695 ls []) := by
  have hx := C.1
  have hb := C.2.1
  unfold f_L_law_1695 at hf
  refine lv_aload_n hx hb dL_law_1695 rfl (lv_at hl 1 rfl) ?_
  refine lv_aload_n hx hb dL_law_1696 rfl (lv_at hl 0 rfl) ?_
  refine lv_iload hx hb dL_law_1697 (lv_at hl 4 rfl) ?_
  refine lv_iconst (v := (1 : Int32)) hx hb dL_law_1699 (by decide) ?_
  refine lv_iadd hx hb dL_law_1700 ?_
  refine g_sld C hL hH hf dL_law_1701 (fun x1 hf => ?_)
  refine lv_aload_n hx hb dL_law_1702 rfl (lv_at hl 0 rfl) ?_
  refine lv_iload hx hb dL_law_1703 (lv_at hl 4 rfl) ?_
  refine lv_iconst (v := (2 : Int32)) hx hb dL_law_1705 (by decide) ?_
  refine lv_iadd hx hb dL_law_1706 ?_
  refine g_sld C hL hH hf dL_law_1707 (fun x2 hf => ?_)
  refine lv_aload_n hx hb dL_law_1708 rfl (lv_at hl 0 rfl) ?_
  refine lv_iload hx hb dL_law_1709 (lv_at hl 4 rfl) ?_
  refine lv_iconst (v := (3 : Int32)) hx hb dL_law_1711 (by decide) ?_
  refine lv_iadd hx hb dL_law_1712 ?_
  refine g_sld C hL hH hf dL_law_1713 (fun x3 hf => ?_)
  refine b_if_eq (tgt := 1721) hx hb hf dL_law_1714 (by decide) (fun hf => ?_) (fun hf => ?_)
  · refine lv_iconst (v := (0 : Int32)) hx hb dL_law_1721 (by decide) ?_
    refine lv_aload_n hx hb dL_law_1722 rfl (lv_at hl 3 rfl) ?_
    obtain ⟨x5, w4, hc, hf⟩ := bd_some hf
    refine q_callLW (As := [.ref (B + 0), .int x1, .int x2, .int (0 : Int32), .ref (B + 746)]) C hH (k := x5) (goodSW wd_1113 wd_1114 wd_108 wd_1115) yd_L_bySight (c_L_bySight htr isZ_0 hc) (by exact Nat.le_of_ble_eq_true rfl) (by exact Nat.le_of_ble_eq_true rfl) hl.1 rfl (Nat.le_of_ble_eq_true rfl) dL_law_1723 ⟨by omega, by omega⟩ (fun H locs hH => ?_)
    refine lv_istore (lv' := [(5, .int x5), (0, .ref b), (1, .ref (B + 0)), (2, .ref (B + 713)), (3, .ref (B + 746)), (4, .int v4)]) hx hb dL_law_1726 hl (by decide) rfl (fun ls hl => ?_)
    refine lv_aload_n hx hb dL_law_1728 rfl (lv_at hl 3 rfl) ?_
    refine lv_aload_n hx hb dL_law_1729 rfl (lv_at hl 1 rfl) ?_
    refine lv_iload hx hb dL_law_1730 (lv_at hl 5 rfl) ?_
    refine lv_iconst (v := (1 : Int32)) hx hb dL_law_1732 (by decide) ?_
    refine lv_iadd hx hb dL_law_1733 ?_
    refine g_sld C hL hH hf dL_law_1734 (fun x6 hf => ?_)
    refine lv_aload_n hx hb dL_law_1735 rfl (lv_at hl 1 rfl) ?_
    refine lv_iload hx hb dL_law_1736 (lv_at hl 5 rfl) ?_
    refine lv_iconst (v := (2 : Int32)) hx hb dL_law_1738 (by decide) ?_
    refine lv_iadd hx hb dL_law_1739 ?_
    refine g_sld C hL hH hf dL_law_1740 (fun x7 hf => ?_)
    refine lv_aload_n hx hb dL_law_1741 rfl (lv_at hl 1 rfl) ?_
    refine lv_iload hx hb dL_law_1742 (lv_at hl 5 rfl) ?_
    refine lv_iconst (v := (3 : Int32)) hx hb dL_law_1744 (by decide) ?_
    refine lv_iadd hx hb dL_law_1745 ?_
    refine g_sld C hL hH hf dL_law_1746 (fun x8 hf => ?_)
    refine b_if_eq (tgt := 1754) hx hb hf dL_law_1747 (by decide) (fun hf => ?_) (fun hf => ?_)
    · refine lv_iconst (v := (0 : Int32)) hx hb dL_law_1754 (by decide) ?_
      obtain ⟨x10, w9, hc, hf⟩ := bd_some hf
      refine q_callRV1 (v := .int x10) (As := [.int x6, .int x7, .int (0 : Int32)]) C hH (ci := 11) rfl (by omega) gk_L_215 yd_X11_bySight kc_713 (c_X11_bySight isZ_0 hc) (by exact Nat.le_of_ble_eq_true rfl) (by exact Nat.le_of_ble_eq_true rfl) hl.1 rfl (Nat.le_of_ble_eq_true rfl) dL_law_1755 ⟨by omega, by omega⟩ (fun H locs hH hP => ?_)
      refine lv_istore (lv' := [(6, .int x10), (5, .int x5), (0, .ref b), (1, .ref (B + 0)), (2, .ref (B + 713)), (3, .ref (B + 746)), (4, .int v4)]) hx hb dL_law_1758 hl (by decide) rfl (fun ls hl => ?_)
      refine lv_aload_n hx hb dL_law_1760 rfl (lv_at hl 4 rfl) ?_
      obtain ⟨x12, w11, hc, hf⟩ := bd_some hf
      refine q_callRV1 (v := .int x12) (As := []) C hH (ci := 11) rfl (by omega) gk_L_141 yd_X11_thrown kc_713 (c_X11_thrown hc) (by exact Nat.le_of_ble_eq_true rfl) (by exact Nat.le_of_ble_eq_true rfl) hl.1 rfl (Nat.le_of_ble_eq_true rfl) dL_law_1761 ⟨by omega, by omega⟩ (fun H locs hH hP => ?_)
      refine lv_iload hx hb dL_law_1764 (lv_at hl 1 rfl) ?_
      refine b_icmp_eq (tgt := 1771) hx hb hf dL_law_1766 (by decide) (fun hf => ?_) (fun hf => ?_)
      · refine lv_iload hx hb dL_law_1771 (lv_at hl 1 rfl) ?_
        refine b_if_ne (tgt := 1788) hx hb hf dL_law_1773 (by decide) (fun hf => ?_) (fun hf => ?_)
        · refine lv_goto (tgt := 2712) hx hb dL_law_1788 (by decide) ?_
          refine b_let hf (fun x13 he hf => ?_)
          refine lv_iinc (v := x13) (lv' := [(4, .int x13), (6, .int x10), (5, .int x5), (0, .ref b), (1, .ref (B + 0)), (2, .ref (B + 713)), (3, .ref (B + 746))]) hx hb dL_law_2712 hl (k := 6) rfl (by rw [← he]; rfl) (by decide) rfl (fun ls hl => ?_)
          refine lv_goto (tgt := 23) hx hb dL_law_2715 (by decide) ?_
          refine W.widen (k := cells + 6) (n := slots + 36) (by omega) (by omega) ?_
          exact hr x13 w11 hf _ _ _ hH (lv_sub hl [3, 4, 5, 6, 0] rfl)
        · refine lv_aload_n hx hb dL_law_1776 rfl (lv_at hl 5 rfl) ?_
          refine lv_iconst (v := (0 : Int32)) hx hb dL_law_1777 (by decide) ?_
          refine g_lald C hH kc_746 hf dL_law_1778 (fun y14 hf => ?_)
          refine lv_iload hx hb dL_law_1779 (lv_at hl 0 rfl) ?_
          refine lv_i2l (v := x10.toInt64) hx hb dL_law_1781 rfl ?_
          refine W.lcmp hx hb dL_law_1782 ?_
          refine b_if_eq (tgt := 1788) hx hb hf dL_law_1783 (by decide) (fun hf => ?_) (fun hf => ?_)
          · refine lv_goto (tgt := 2712) hx hb dL_law_1788 (by decide) ?_
            refine b_let hf (fun x15 he hf => ?_)
            refine lv_iinc (v := x15) (lv' := [(4, .int x15), (6, .int x10), (5, .int x5), (0, .ref b), (1, .ref (B + 0)), (2, .ref (B + 713)), (3, .ref (B + 746))]) hx hb dL_law_2712 hl (k := 6) rfl (by rw [← he]; rfl) (by decide) rfl (fun ls hl => ?_)
            refine lv_goto (tgt := 23) hx hb dL_law_2715 (by decide) ?_
            refine W.widen (k := cells + 6) (n := slots + 36) (by omega) (by omega) ?_
            exact hr x15 w11 hf _ _ _ hH (lv_sub hl [3, 4, 5, 6, 0] rfl)
          · refine lv_iconst (v := (0 : Int32)) hx hb dL_law_1786 (by decide) ?_
            cases hf
      · refine lv_iconst (v := (0 : Int32)) hx hb dL_law_1769 (by decide) ?_
        cases hf
    · refine lv_iconst (v := (1 : Int32)) hx hb dL_law_1750 (by decide) ?_
      refine lv_goto (tgt := 1755) hx hb dL_law_1751 (by decide) ?_
      obtain ⟨x17, w16, hc, hf⟩ := bd_some hf
      refine q_callRV1 (v := .int x17) (As := [.int x6, .int x7, .int (1 : Int32)]) C hH (ci := 11) rfl (by omega) gk_L_215 yd_X11_bySight kc_713 (c_X11_bySight isZ_1 hc) (by exact Nat.le_of_ble_eq_true rfl) (by exact Nat.le_of_ble_eq_true rfl) hl.1 rfl (Nat.le_of_ble_eq_true rfl) dL_law_1755 ⟨by omega, by omega⟩ (fun H locs hH hP => ?_)
      refine lv_istore (lv' := [(6, .int x17), (5, .int x5), (0, .ref b), (1, .ref (B + 0)), (2, .ref (B + 713)), (3, .ref (B + 746)), (4, .int v4)]) hx hb dL_law_1758 hl (by decide) rfl (fun ls hl => ?_)
      refine lv_aload_n hx hb dL_law_1760 rfl (lv_at hl 4 rfl) ?_
      obtain ⟨x19, w18, hc, hf⟩ := bd_some hf
      refine q_callRV1 (v := .int x19) (As := []) C hH (ci := 11) rfl (by omega) gk_L_141 yd_X11_thrown kc_713 (c_X11_thrown hc) (by exact Nat.le_of_ble_eq_true rfl) (by exact Nat.le_of_ble_eq_true rfl) hl.1 rfl (Nat.le_of_ble_eq_true rfl) dL_law_1761 ⟨by omega, by omega⟩ (fun H locs hH hP => ?_)
      refine lv_iload hx hb dL_law_1764 (lv_at hl 1 rfl) ?_
      refine b_icmp_eq (tgt := 1771) hx hb hf dL_law_1766 (by decide) (fun hf => ?_) (fun hf => ?_)
      · refine lv_iload hx hb dL_law_1771 (lv_at hl 1 rfl) ?_
        refine b_if_ne (tgt := 1788) hx hb hf dL_law_1773 (by decide) (fun hf => ?_) (fun hf => ?_)
        · refine lv_goto (tgt := 2712) hx hb dL_law_1788 (by decide) ?_
          refine b_let hf (fun x20 he hf => ?_)
          refine lv_iinc (v := x20) (lv' := [(4, .int x20), (6, .int x17), (5, .int x5), (0, .ref b), (1, .ref (B + 0)), (2, .ref (B + 713)), (3, .ref (B + 746))]) hx hb dL_law_2712 hl (k := 6) rfl (by rw [← he]; rfl) (by decide) rfl (fun ls hl => ?_)
          refine lv_goto (tgt := 23) hx hb dL_law_2715 (by decide) ?_
          refine W.widen (k := cells + 6) (n := slots + 36) (by omega) (by omega) ?_
          exact hr x20 w18 hf _ _ _ hH (lv_sub hl [3, 4, 5, 6, 0] rfl)
        · refine lv_aload_n hx hb dL_law_1776 rfl (lv_at hl 5 rfl) ?_
          refine lv_iconst (v := (0 : Int32)) hx hb dL_law_1777 (by decide) ?_
          refine g_lald C hH kc_746 hf dL_law_1778 (fun y21 hf => ?_)
          refine lv_iload hx hb dL_law_1779 (lv_at hl 0 rfl) ?_
          refine lv_i2l (v := x17.toInt64) hx hb dL_law_1781 rfl ?_
          refine W.lcmp hx hb dL_law_1782 ?_
          refine b_if_eq (tgt := 1788) hx hb hf dL_law_1783 (by decide) (fun hf => ?_) (fun hf => ?_)
          · refine lv_goto (tgt := 2712) hx hb dL_law_1788 (by decide) ?_
            refine b_let hf (fun x22 he hf => ?_)
            refine lv_iinc (v := x22) (lv' := [(4, .int x22), (6, .int x17), (5, .int x5), (0, .ref b), (1, .ref (B + 0)), (2, .ref (B + 713)), (3, .ref (B + 746))]) hx hb dL_law_2712 hl (k := 6) rfl (by rw [← he]; rfl) (by decide) rfl (fun ls hl => ?_)
            refine lv_goto (tgt := 23) hx hb dL_law_2715 (by decide) ?_
            refine W.widen (k := cells + 6) (n := slots + 36) (by omega) (by omega) ?_
            exact hr x22 w18 hf _ _ _ hH (lv_sub hl [3, 4, 5, 6, 0] rfl)
          · refine lv_iconst (v := (0 : Int32)) hx hb dL_law_1786 (by decide) ?_
            cases hf
      · refine lv_iconst (v := (0 : Int32)) hx hb dL_law_1769 (by decide) ?_
        cases hf
  · refine lv_iconst (v := (1 : Int32)) hx hb dL_law_1717 (by decide) ?_
    refine lv_goto (tgt := 1722) hx hb dL_law_1718 (by decide) ?_
    refine lv_aload_n hx hb dL_law_1722 rfl (lv_at hl 3 rfl) ?_
    obtain ⟨x24, w23, hc, hf⟩ := bd_some hf
    refine q_callLW (As := [.ref (B + 0), .int x1, .int x2, .int (1 : Int32), .ref (B + 746)]) C hH (k := x24) (goodSW wd_1113 wd_1114 wd_108 wd_1115) yd_L_bySight (c_L_bySight htr isZ_1 hc) (by exact Nat.le_of_ble_eq_true rfl) (by exact Nat.le_of_ble_eq_true rfl) hl.1 rfl (Nat.le_of_ble_eq_true rfl) dL_law_1723 ⟨by omega, by omega⟩ (fun H locs hH => ?_)
    refine lv_istore (lv' := [(5, .int x24), (0, .ref b), (1, .ref (B + 0)), (2, .ref (B + 713)), (3, .ref (B + 746)), (4, .int v4)]) hx hb dL_law_1726 hl (by decide) rfl (fun ls hl => ?_)
    refine lv_aload_n hx hb dL_law_1728 rfl (lv_at hl 3 rfl) ?_
    refine lv_aload_n hx hb dL_law_1729 rfl (lv_at hl 1 rfl) ?_
    refine lv_iload hx hb dL_law_1730 (lv_at hl 5 rfl) ?_
    refine lv_iconst (v := (1 : Int32)) hx hb dL_law_1732 (by decide) ?_
    refine lv_iadd hx hb dL_law_1733 ?_
    refine g_sld C hL hH hf dL_law_1734 (fun x25 hf => ?_)
    refine lv_aload_n hx hb dL_law_1735 rfl (lv_at hl 1 rfl) ?_
    refine lv_iload hx hb dL_law_1736 (lv_at hl 5 rfl) ?_
    refine lv_iconst (v := (2 : Int32)) hx hb dL_law_1738 (by decide) ?_
    refine lv_iadd hx hb dL_law_1739 ?_
    refine g_sld C hL hH hf dL_law_1740 (fun x26 hf => ?_)
    refine lv_aload_n hx hb dL_law_1741 rfl (lv_at hl 1 rfl) ?_
    refine lv_iload hx hb dL_law_1742 (lv_at hl 5 rfl) ?_
    refine lv_iconst (v := (3 : Int32)) hx hb dL_law_1744 (by decide) ?_
    refine lv_iadd hx hb dL_law_1745 ?_
    refine g_sld C hL hH hf dL_law_1746 (fun x27 hf => ?_)
    refine b_if_eq (tgt := 1754) hx hb hf dL_law_1747 (by decide) (fun hf => ?_) (fun hf => ?_)
    · refine lv_iconst (v := (0 : Int32)) hx hb dL_law_1754 (by decide) ?_
      obtain ⟨x29, w28, hc, hf⟩ := bd_some hf
      refine q_callRV1 (v := .int x29) (As := [.int x25, .int x26, .int (0 : Int32)]) C hH (ci := 11) rfl (by omega) gk_L_215 yd_X11_bySight kc_713 (c_X11_bySight isZ_0 hc) (by exact Nat.le_of_ble_eq_true rfl) (by exact Nat.le_of_ble_eq_true rfl) hl.1 rfl (Nat.le_of_ble_eq_true rfl) dL_law_1755 ⟨by omega, by omega⟩ (fun H locs hH hP => ?_)
      refine lv_istore (lv' := [(6, .int x29), (5, .int x24), (0, .ref b), (1, .ref (B + 0)), (2, .ref (B + 713)), (3, .ref (B + 746)), (4, .int v4)]) hx hb dL_law_1758 hl (by decide) rfl (fun ls hl => ?_)
      refine lv_aload_n hx hb dL_law_1760 rfl (lv_at hl 4 rfl) ?_
      obtain ⟨x31, w30, hc, hf⟩ := bd_some hf
      refine q_callRV1 (v := .int x31) (As := []) C hH (ci := 11) rfl (by omega) gk_L_141 yd_X11_thrown kc_713 (c_X11_thrown hc) (by exact Nat.le_of_ble_eq_true rfl) (by exact Nat.le_of_ble_eq_true rfl) hl.1 rfl (Nat.le_of_ble_eq_true rfl) dL_law_1761 ⟨by omega, by omega⟩ (fun H locs hH hP => ?_)
      refine lv_iload hx hb dL_law_1764 (lv_at hl 1 rfl) ?_
      refine b_icmp_eq (tgt := 1771) hx hb hf dL_law_1766 (by decide) (fun hf => ?_) (fun hf => ?_)
      · refine lv_iload hx hb dL_law_1771 (lv_at hl 1 rfl) ?_
        refine b_if_ne (tgt := 1788) hx hb hf dL_law_1773 (by decide) (fun hf => ?_) (fun hf => ?_)
        · refine lv_goto (tgt := 2712) hx hb dL_law_1788 (by decide) ?_
          refine b_let hf (fun x32 he hf => ?_)
          refine lv_iinc (v := x32) (lv' := [(4, .int x32), (6, .int x29), (5, .int x24), (0, .ref b), (1, .ref (B + 0)), (2, .ref (B + 713)), (3, .ref (B + 746))]) hx hb dL_law_2712 hl (k := 6) rfl (by rw [← he]; rfl) (by decide) rfl (fun ls hl => ?_)
          refine lv_goto (tgt := 23) hx hb dL_law_2715 (by decide) ?_
          refine W.widen (k := cells + 6) (n := slots + 36) (by omega) (by omega) ?_
          exact hr x32 w30 hf _ _ _ hH (lv_sub hl [3, 4, 5, 6, 0] rfl)
        · refine lv_aload_n hx hb dL_law_1776 rfl (lv_at hl 5 rfl) ?_
          refine lv_iconst (v := (0 : Int32)) hx hb dL_law_1777 (by decide) ?_
          refine g_lald C hH kc_746 hf dL_law_1778 (fun y33 hf => ?_)
          refine lv_iload hx hb dL_law_1779 (lv_at hl 0 rfl) ?_
          refine lv_i2l (v := x29.toInt64) hx hb dL_law_1781 rfl ?_
          refine W.lcmp hx hb dL_law_1782 ?_
          refine b_if_eq (tgt := 1788) hx hb hf dL_law_1783 (by decide) (fun hf => ?_) (fun hf => ?_)
          · refine lv_goto (tgt := 2712) hx hb dL_law_1788 (by decide) ?_
            refine b_let hf (fun x34 he hf => ?_)
            refine lv_iinc (v := x34) (lv' := [(4, .int x34), (6, .int x29), (5, .int x24), (0, .ref b), (1, .ref (B + 0)), (2, .ref (B + 713)), (3, .ref (B + 746))]) hx hb dL_law_2712 hl (k := 6) rfl (by rw [← he]; rfl) (by decide) rfl (fun ls hl => ?_)
            refine lv_goto (tgt := 23) hx hb dL_law_2715 (by decide) ?_
            refine W.widen (k := cells + 6) (n := slots + 36) (by omega) (by omega) ?_
            exact hr x34 w30 hf _ _ _ hH (lv_sub hl [3, 4, 5, 6, 0] rfl)
          · refine lv_iconst (v := (0 : Int32)) hx hb dL_law_1786 (by decide) ?_
            cases hf
      · refine lv_iconst (v := (0 : Int32)) hx hb dL_law_1769 (by decide) ?_
        cases hf
    · refine lv_iconst (v := (1 : Int32)) hx hb dL_law_1750 (by decide) ?_
      refine lv_goto (tgt := 1755) hx hb dL_law_1751 (by decide) ?_
      obtain ⟨x36, w35, hc, hf⟩ := bd_some hf
      refine q_callRV1 (v := .int x36) (As := [.int x25, .int x26, .int (1 : Int32)]) C hH (ci := 11) rfl (by omega) gk_L_215 yd_X11_bySight kc_713 (c_X11_bySight isZ_1 hc) (by exact Nat.le_of_ble_eq_true rfl) (by exact Nat.le_of_ble_eq_true rfl) hl.1 rfl (Nat.le_of_ble_eq_true rfl) dL_law_1755 ⟨by omega, by omega⟩ (fun H locs hH hP => ?_)
      refine lv_istore (lv' := [(6, .int x36), (5, .int x24), (0, .ref b), (1, .ref (B + 0)), (2, .ref (B + 713)), (3, .ref (B + 746)), (4, .int v4)]) hx hb dL_law_1758 hl (by decide) rfl (fun ls hl => ?_)
      refine lv_aload_n hx hb dL_law_1760 rfl (lv_at hl 4 rfl) ?_
      obtain ⟨x38, w37, hc, hf⟩ := bd_some hf
      refine q_callRV1 (v := .int x38) (As := []) C hH (ci := 11) rfl (by omega) gk_L_141 yd_X11_thrown kc_713 (c_X11_thrown hc) (by exact Nat.le_of_ble_eq_true rfl) (by exact Nat.le_of_ble_eq_true rfl) hl.1 rfl (Nat.le_of_ble_eq_true rfl) dL_law_1761 ⟨by omega, by omega⟩ (fun H locs hH hP => ?_)
      refine lv_iload hx hb dL_law_1764 (lv_at hl 1 rfl) ?_
      refine b_icmp_eq (tgt := 1771) hx hb hf dL_law_1766 (by decide) (fun hf => ?_) (fun hf => ?_)
      · refine lv_iload hx hb dL_law_1771 (lv_at hl 1 rfl) ?_
        refine b_if_ne (tgt := 1788) hx hb hf dL_law_1773 (by decide) (fun hf => ?_) (fun hf => ?_)
        · refine lv_goto (tgt := 2712) hx hb dL_law_1788 (by decide) ?_
          refine b_let hf (fun x39 he hf => ?_)
          refine lv_iinc (v := x39) (lv' := [(4, .int x39), (6, .int x36), (5, .int x24), (0, .ref b), (1, .ref (B + 0)), (2, .ref (B + 713)), (3, .ref (B + 746))]) hx hb dL_law_2712 hl (k := 6) rfl (by rw [← he]; rfl) (by decide) rfl (fun ls hl => ?_)
          refine lv_goto (tgt := 23) hx hb dL_law_2715 (by decide) ?_
          refine W.widen (k := cells + 6) (n := slots + 36) (by omega) (by omega) ?_
          exact hr x39 w37 hf _ _ _ hH (lv_sub hl [3, 4, 5, 6, 0] rfl)
        · refine lv_aload_n hx hb dL_law_1776 rfl (lv_at hl 5 rfl) ?_
          refine lv_iconst (v := (0 : Int32)) hx hb dL_law_1777 (by decide) ?_
          refine g_lald C hH kc_746 hf dL_law_1778 (fun y40 hf => ?_)
          refine lv_iload hx hb dL_law_1779 (lv_at hl 0 rfl) ?_
          refine lv_i2l (v := x36.toInt64) hx hb dL_law_1781 rfl ?_
          refine W.lcmp hx hb dL_law_1782 ?_
          refine b_if_eq (tgt := 1788) hx hb hf dL_law_1783 (by decide) (fun hf => ?_) (fun hf => ?_)
          · refine lv_goto (tgt := 2712) hx hb dL_law_1788 (by decide) ?_
            refine b_let hf (fun x41 he hf => ?_)
            refine lv_iinc (v := x41) (lv' := [(4, .int x41), (6, .int x36), (5, .int x24), (0, .ref b), (1, .ref (B + 0)), (2, .ref (B + 713)), (3, .ref (B + 746))]) hx hb dL_law_2712 hl (k := 6) rfl (by rw [← he]; rfl) (by decide) rfl (fun ls hl => ?_)
            refine lv_goto (tgt := 23) hx hb dL_law_2715 (by decide) ?_
            refine W.widen (k := cells + 6) (n := slots + 36) (by omega) (by omega) ?_
            exact hr x41 w37 hf _ _ _ hH (lv_sub hl [3, 4, 5, 6, 0] rfl)
          · refine lv_iconst (v := (0 : Int32)) hx hb dL_law_1786 (by decide) ?_
            cases hf
      · refine lv_iconst (v := (0 : Int32)) hx hb dL_law_1769 (by decide) ?_
        cases hf
set_option maxRecDepth 100000 in
set_option maxHeartbeats 8000000 in
theorem t_L_law_1791 {D : va_G} {B : Nat} {Y : Nat → ClassId} {p : Program} {l : Launch} {e : Env} {s : State} {m : MethodId} {below : List Frame} {meth : Method} {c : Code} {b L : Nat} {xs : Nat → Int32} {rc : Int32 × Wd → Option Unit} {cells slots : Nat} {H : Heap} {locs : List Loc} {ls : Array Slot} {w : Wd} {v4 : Int32} {z : Unit} (C : CX D B Y p s m #[.ref b] meth c cL_law 8 RL (some .boolean)) (htr : l.stackTraces = false) (hL : LXS b L xs s B) (hcs : cells + 6 ≤ room_1.cells ∧ slots + 36 ≤ room_1.slots) (hr : ∀ (v4 : Int32) (w : Wd), rc (v4, w) = some z → ∀ (H : Heap) (locs : List Loc) (ls : Array Slot), HS D B Y w s H locs → lv_has ls 8 [(0, .ref b), (1, .ref (B + 0)), (2, .ref (B + 713)), (3, .ref (B + 746)), (4, .int v4)] → W p l e room_1 s m #[.ref b] below meth c H locs (cells + 6) (slots + 36) (lw_Z below #[.ref b] s) (F0 m 23 ls [])) (hH : HS D B Y w s H locs) (hl : lv_has ls 8 [(0, .ref b), (1, .ref (B + 0)), (2, .ref (B + 713)), (3, .ref (B + 746)), (4, .int v4)]) (hf : f_L_law_1791 L xs rc v4 w = some z) : W p l e room_1 s m #[.ref b] below meth c H locs cells slots (lw_Z below #[.ref b] s) (F0 m 1791 ls []) := by
  have hx := C.1
  have hb := C.2.1
  unfold f_L_law_1791 at hf
  refine lv_aload_n hx hb dL_law_1791 rfl (lv_at hl 1 rfl) ?_
  refine lv_aload_n hx hb dL_law_1792 rfl (lv_at hl 0 rfl) ?_
  refine lv_iload hx hb dL_law_1793 (lv_at hl 4 rfl) ?_
  refine lv_iconst (v := (1 : Int32)) hx hb dL_law_1795 (by decide) ?_
  refine lv_iadd hx hb dL_law_1796 ?_
  refine g_sld C hL hH hf dL_law_1797 (fun x1 hf => ?_)
  refine lv_aload_n hx hb dL_law_1798 rfl (lv_at hl 0 rfl) ?_
  refine lv_iload hx hb dL_law_1799 (lv_at hl 4 rfl) ?_
  refine lv_iconst (v := (2 : Int32)) hx hb dL_law_1801 (by decide) ?_
  refine lv_iadd hx hb dL_law_1802 ?_
  refine g_sld C hL hH hf dL_law_1803 (fun x2 hf => ?_)
  refine lv_aload_n hx hb dL_law_1804 rfl (lv_at hl 3 rfl) ?_
  obtain ⟨x4, w3, hc, hf⟩ := bd_some hf
  refine q_callLW (As := [.ref (B + 0), .int x1, .int x2, .ref (B + 746)]) C hH (k := x4) (goodSW wd_1144 wd_1145 wd_108 wd_1146) yd_L_breaks (c_L_breaks htr hc) (by exact Nat.le_of_ble_eq_true rfl) (by exact Nat.le_of_ble_eq_true rfl) hl.1 rfl (Nat.le_of_ble_eq_true rfl) dL_law_1805 ⟨by omega, by omega⟩ (fun H locs hH => ?_)
  refine lv_istore (lv' := [(5, .int x4), (0, .ref b), (1, .ref (B + 0)), (2, .ref (B + 713)), (3, .ref (B + 746)), (4, .int v4)]) hx hb dL_law_1808 hl (by decide) rfl (fun ls hl => ?_)
  refine lv_aload_n hx hb dL_law_1810 rfl (lv_at hl 3 rfl) ?_
  refine lv_aload_n hx hb dL_law_1811 rfl (lv_at hl 1 rfl) ?_
  refine lv_iload hx hb dL_law_1812 (lv_at hl 5 rfl) ?_
  refine lv_iconst (v := (1 : Int32)) hx hb dL_law_1814 (by decide) ?_
  refine lv_iadd hx hb dL_law_1815 ?_
  refine g_sld C hL hH hf dL_law_1816 (fun x5 hf => ?_)
  refine lv_aload_n hx hb dL_law_1817 rfl (lv_at hl 1 rfl) ?_
  refine lv_iload hx hb dL_law_1818 (lv_at hl 5 rfl) ?_
  refine lv_iconst (v := (2 : Int32)) hx hb dL_law_1820 (by decide) ?_
  refine lv_iadd hx hb dL_law_1821 ?_
  refine g_sld C hL hH hf dL_law_1822 (fun x6 hf => ?_)
  obtain ⟨y8, w7, hc, hf⟩ := bd_some hf
  refine q_callRV1 (v := .long y8) (As := [.int x5, .int x6]) C hH (ci := 11) rfl (by omega) gk_L_218 yd_X11_breaks kc_713 (c_X11_breaks hc) (by exact Nat.le_of_ble_eq_true rfl) (by exact Nat.le_of_ble_eq_true rfl) hl.1 rfl (Nat.le_of_ble_eq_true rfl) dL_law_1823 ⟨by omega, by omega⟩ (fun H locs hH hP => ?_)
  refine lv_lstore (lv' := [(6, .long y8), (5, .int x4), (0, .ref b), (1, .ref (B + 0)), (2, .ref (B + 713)), (3, .ref (B + 746)), (4, .int v4)]) hx hb dL_law_1826 hl (by decide) rfl (fun ls hl => ?_)
  refine lv_aload_n hx hb dL_law_1828 rfl (lv_at hl 4 rfl) ?_
  obtain ⟨x10, w9, hc, hf⟩ := bd_some hf
  refine q_callRV1 (v := .int x10) (As := []) C hH (ci := 11) rfl (by omega) gk_L_141 yd_X11_thrown kc_713 (c_X11_thrown hc) (by exact Nat.le_of_ble_eq_true rfl) (by exact Nat.le_of_ble_eq_true rfl) hl.1 rfl (Nat.le_of_ble_eq_true rfl) dL_law_1829 ⟨by omega, by omega⟩ (fun H locs hH hP => ?_)
  refine lv_iload hx hb dL_law_1832 (lv_at hl 1 rfl) ?_
  refine b_icmp_eq (tgt := 1839) hx hb hf dL_law_1834 (by decide) (fun hf => ?_) (fun hf => ?_)
  · refine lv_iload hx hb dL_law_1839 (lv_at hl 1 rfl) ?_
    refine b_if_ne (tgt := 1855) hx hb hf dL_law_1841 (by decide) (fun hf => ?_) (fun hf => ?_)
    · refine lv_goto (tgt := 2712) hx hb dL_law_1855 (by decide) ?_
      refine b_let hf (fun x11 he hf => ?_)
      refine lv_iinc (v := x11) (lv' := [(4, .int x11), (6, .long y8), (5, .int x4), (0, .ref b), (1, .ref (B + 0)), (2, .ref (B + 713)), (3, .ref (B + 746))]) hx hb dL_law_2712 hl (k := 6) rfl (by rw [← he]; rfl) (by decide) rfl (fun ls hl => ?_)
      refine lv_goto (tgt := 23) hx hb dL_law_2715 (by decide) ?_
      refine W.widen (k := cells + 6) (n := slots + 36) (by omega) (by omega) ?_
      exact hr x11 w9 hf _ _ _ hH (lv_sub hl [3, 4, 5, 6, 0] rfl)
    · refine lv_aload_n hx hb dL_law_1844 rfl (lv_at hl 5 rfl) ?_
      refine lv_iconst (v := (0 : Int32)) hx hb dL_law_1845 (by decide) ?_
      refine g_lald C hH kc_746 hf dL_law_1846 (fun y12 hf => ?_)
      refine lv_lload hx hb dL_law_1847 (lv_at hl 0 rfl) ?_
      refine W.lcmp hx hb dL_law_1849 ?_
      refine b_if_eq (tgt := 1855) hx hb hf dL_law_1850 (by decide) (fun hf => ?_) (fun hf => ?_)
      · refine lv_goto (tgt := 2712) hx hb dL_law_1855 (by decide) ?_
        refine b_let hf (fun x13 he hf => ?_)
        refine lv_iinc (v := x13) (lv' := [(4, .int x13), (6, .long y8), (5, .int x4), (0, .ref b), (1, .ref (B + 0)), (2, .ref (B + 713)), (3, .ref (B + 746))]) hx hb dL_law_2712 hl (k := 6) rfl (by rw [← he]; rfl) (by decide) rfl (fun ls hl => ?_)
        refine lv_goto (tgt := 23) hx hb dL_law_2715 (by decide) ?_
        refine W.widen (k := cells + 6) (n := slots + 36) (by omega) (by omega) ?_
        exact hr x13 w9 hf _ _ _ hH (lv_sub hl [3, 4, 5, 6, 0] rfl)
      · refine lv_iconst (v := (0 : Int32)) hx hb dL_law_1853 (by decide) ?_
        cases hf
  · refine lv_iconst (v := (0 : Int32)) hx hb dL_law_1837 (by decide) ?_
    cases hf
