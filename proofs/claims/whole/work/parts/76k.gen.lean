/-! LetterTablesModel.settlesPartners -/
set_option maxRecDepth 100000 in
set_option maxHeartbeats 4000000 in
theorem t_X11_settlesPartners_160 {D : va_G} {B : Nat} {Y : Nat → ClassId} {p : Program} {l : Launch} {e : Env} {s : State} {m : MethodId} {args : Array Value} {below : List Frame} {meth : Method} {c : Code} {z : (Unit × Wd)} {H : Heap} {locs : List Loc} {ls : Array Slot} {w : Wd} {v1 : Int32} {v2 : Int32} {v3 : Int32} {t0 : Int32} (C : CX D B Y p s m args meth c cX11_settlesPartners 9 RX11 none)  {rc_2 : Int32 × Int32 × Int32 × Wd → Option (Unit × Wd)} (hr_2 : ∀ (v1 : Int32) (v2 : Int32) (v3 : Int32) (w : Wd), rc_2 (v1, v2, v3, w) = some z → ∀ (H : Heap) (locs : List Loc) (ls : Array Slot), HS D B Y w s H locs → lv_has ls 9 [(0, .ref (B + 713)), (1, .int v1), (2, .int v2), (3, .int v3)] → W p l e (RM 1 0 0) s m args below meth c H locs 0 0 (MQ below (QG D B Y none z.2 True) args s 0 0 (AB B)) (F0 m 2 ls []))    (hH : HS D B Y w s H locs) (hl : lv_has ls 9 [(0, .ref (B + 713)), (1, .int v1), (2, .int v2), (3, .int v3)]) (hf : f_X11_settlesPartners_160 rc_2 v1 v2 v3 t0 w = some z) : W p l e (RM 1 0 0) s m args below meth c H locs 0 0 (MQ below (QG D B Y none z.2 True) args s 0 0 (AB B)) (F0 m 160 ls [.int t0]) := by
  have hx := C.1
  have hb := C.2.1
  unfold f_X11_settlesPartners_160 at hf
  refine lv_istore (lv' := [(7, .int t0), (0, .ref (B + 713)), (1, .int v1), (2, .int v2), (3, .int v3)]) hx hb dX11_settlesPartners_160 hl (by decide) rfl (fun ls hl => ?_)
  refine lv_aload_n hx hb dX11_settlesPartners_162 rfl (lv_at hl 1 rfl) ?_
  refine fg_X11_40 C hH dX11_settlesPartners_163 ?_
  refine lv_aload_n hx hb dX11_settlesPartners_166 rfl (lv_at hl 1 rfl) ?_
  refine fg_X11_61 C hH dX11_settlesPartners_167 ?_
  refine lv_iload_n hx hb dX11_settlesPartners_170 rfl (lv_at hl 4 rfl) ?_
  refine g_iald C hH kc_731 hf dX11_settlesPartners_171 (fun x1 hf => ?_)
  refine lv_iload hx hb dX11_settlesPartners_172 (lv_at hl 0 rfl) ?_
  refine g_iast C hH kc_724 hf dX11_settlesPartners_174 (fun w2 H locs hf hH => ?_)
  refine lv_aload_n hx hb dX11_settlesPartners_175 rfl (lv_at hl 1 rfl) ?_
  refine fg_X11_40 C hH dX11_settlesPartners_176 ?_
  refine lv_aload_n hx hb dX11_settlesPartners_179 rfl (lv_at hl 1 rfl) ?_
  refine fg_X11_61 C hH dX11_settlesPartners_180 ?_
  refine lv_aload_n hx hb dX11_settlesPartners_183 rfl (lv_at hl 1 rfl) ?_
  refine fg_X11_64 C hH dX11_settlesPartners_184 ?_
  refine lv_iload_n hx hb dX11_settlesPartners_187 rfl (lv_at hl 4 rfl) ?_
  refine g_iald C hH kc_732 hf dX11_settlesPartners_188 (fun x3 hf => ?_)
  refine g_iald C hH kc_731 hf dX11_settlesPartners_189 (fun x4 hf => ?_)
  refine lv_iload hx hb dX11_settlesPartners_190 (lv_at hl 0 rfl) ?_
  refine g_iast C hH kc_724 hf dX11_settlesPartners_192 (fun w5 H locs hf hH => ?_)
  refine b_let hf (fun x6 he hf => ?_)
  refine lv_iinc (v := x6) (lv' := [(3, .int x6), (7, .int t0), (0, .ref (B + 713)), (1, .int v1), (2, .int v2)]) hx hb dX11_settlesPartners_193 hl (k := 4) rfl (by rw [← he]; rfl) (by decide) rfl (fun ls hl => ?_)
  refine lv_goto (tgt := 2) hx hb dX11_settlesPartners_196 (by decide) ?_
  exact hr_2 v1 v2 x6 w5 hf _ _ _ hH (lv_sub hl [2, 3, 4, 0] rfl)
set_option maxRecDepth 100000 in
set_option maxHeartbeats 4000000 in
theorem t_X11_settlesPartners_140 {D : va_G} {B : Nat} {Y : Nat → ClassId} {p : Program} {l : Launch} {e : Env} {s : State} {m : MethodId} {args : Array Value} {below : List Frame} {meth : Method} {c : Code} {z : (Unit × Wd)} {H : Heap} {locs : List Loc} {ls : Array Slot} {w : Wd} {v1 : Int32} {v2 : Int32} {v3 : Int32} {v4 : Int32} {v6 : Int32} (C : CX D B Y p s m args meth c cX11_settlesPartners 9 RX11 none)  {rc_2 : Int32 × Int32 × Int32 × Wd → Option (Unit × Wd)} (hr_2 : ∀ (v1 : Int32) (v2 : Int32) (v3 : Int32) (w : Wd), rc_2 (v1, v2, v3, w) = some z → ∀ (H : Heap) (locs : List Loc) (ls : Array Slot), HS D B Y w s H locs → lv_has ls 9 [(0, .ref (B + 713)), (1, .int v1), (2, .int v2), (3, .int v3)] → W p l e (RM 1 0 0) s m args below meth c H locs 0 0 (MQ below (QG D B Y none z.2 True) args s 0 0 (AB B)) (F0 m 2 ls []))   (z_v4 : isZ v4) (hH : HS D B Y w s H locs) (hl : lv_has ls 9 [(0, .ref (B + 713)), (1, .int v1), (2, .int v2), (3, .int v3), (4, .int v4), (6, .int v6)]) (hf : f_X11_settlesPartners_140 rc_2 v1 v2 v3 v4 v6 w = some z) : W p l e (RM 1 0 0) s m args below meth c H locs 0 0 (MQ below (QG D B Y none z.2 True) args s 0 0 (AB B)) (F0 m 140 ls []) := by
  have hx := C.1
  have hb := C.2.1
  unfold f_X11_settlesPartners_140 at hf
  refine lv_iload hx hb dX11_settlesPartners_140 (lv_at hl 4 rfl) ?_
  refine b_if_ne (tgt := 153) hx hb hf dX11_settlesPartners_142 (by decide) (fun hf => ?_) (fun hf => ?_)
  · refine lv_iload_n hx hb dX11_settlesPartners_153 rfl (lv_at hl 2 rfl) ?_
    refine lv_goto (tgt := 160) hx hb dX11_settlesPartners_154 (by decide) ?_
    exact t_X11_settlesPartners_160 C hr_2 hH (lv_sub hl [0, 1, 2, 3] rfl) hf
  · refine lv_iload hx hb dX11_settlesPartners_145 (lv_at hl 5 rfl) ?_
    refine lv_iconst (v := (1 : Int32)) hx hb dX11_settlesPartners_147 (by decide) ?_
    refine lv_iload_n hx hb dX11_settlesPartners_148 rfl (lv_at hl 2 rfl) ?_
    refine lv_isub hx hb dX11_settlesPartners_149 ?_
    refine b_icmp_eq (tgt := 157) hx hb hf dX11_settlesPartners_150 (by decide) (fun hf => ?_) (fun hf => ?_)
    · refine lv_iconst (v := (1 : Int32)) hx hb dX11_settlesPartners_157 (by decide) ?_
      refine lv_iload_n hx hb dX11_settlesPartners_158 rfl (lv_at hl 2 rfl) ?_
      refine lv_isub hx hb dX11_settlesPartners_159 ?_
      exact t_X11_settlesPartners_160 C hr_2 hH (lv_sub hl [0, 1, 2, 3] rfl) hf
    · refine lv_iload_n hx hb dX11_settlesPartners_153 rfl (lv_at hl 2 rfl) ?_
      refine lv_goto (tgt := 160) hx hb dX11_settlesPartners_154 (by decide) ?_
      exact t_X11_settlesPartners_160 C hr_2 hH (lv_sub hl [0, 1, 2, 3] rfl) hf
set_option maxRecDepth 100000 in
set_option maxHeartbeats 4000000 in
theorem t_X11_settlesPartners_121 {D : va_G} {B : Nat} {Y : Nat → ClassId} {p : Program} {l : Launch} {e : Env} {s : State} {m : MethodId} {args : Array Value} {below : List Frame} {meth : Method} {c : Code} {z : (Unit × Wd)} {H : Heap} {locs : List Loc} {ls : Array Slot} {w : Wd} {v1 : Int32} {v2 : Int32} {v3 : Int32} {v4 : Int32} {v6 : Int32} {v7 : Int32} (C : CX D B Y p s m args meth c cX11_settlesPartners 9 RX11 none)  {rc_29 : Int32 × Int32 × Int32 × Int32 × Int32 × Int32 × Int32 × Wd → Option (Unit × Wd)} (hr_29 : ∀ (v1 : Int32) (v2 : Int32) (v3 : Int32) (v4 : Int32) (v5 : Int32) (v6 : Int32) (v7 : Int32) (w : Wd), rc_29 (v1, v2, v3, v4, v5, v6, v7, w) = some z → isZ v4 → isZ v5 → ∀ (H : Heap) (locs : List Loc) (ls : Array Slot), HS D B Y w s H locs → lv_has ls 9 [(0, .ref (B + 713)), (1, .int v1), (2, .int v2), (3, .int v3), (4, .int v4), (5, .int v5), (6, .int v6), (7, .int v7)] → W p l e (RM 1 0 0) s m args below meth c H locs 0 0 (MQ below (QG D B Y none z.2 True) args s 0 0 (AB B)) (F0 m 29 ls []))   (z_v4 : isZ v4) (hH : HS D B Y w s H locs) (hl : lv_has ls 9 [(0, .ref (B + 713)), (1, .int v1), (2, .int v2), (3, .int v3), (4, .int v4), (6, .int v6), (7, .int v7)]) (hf : f_X11_settlesPartners_121 rc_29 v1 v2 v3 v4 v6 v7 w = some z) : W p l e (RM 1 0 0) s m args below meth c H locs 0 0 (MQ below (QG D B Y none z.2 True) args s 0 0 (AB B)) (F0 m 121 ls []) := by
  have hx := C.1
  have hb := C.2.1
  unfold f_X11_settlesPartners_121 at hf
  refine lv_iconst (v := (0 : Int32)) hx hb dX11_settlesPartners_121 (by decide) ?_
  refine lv_istore (lv' := [(5, .int (0 : Int32)), (0, .ref (B + 713)), (1, .int v1), (2, .int v2), (3, .int v3), (4, .int v4), (6, .int v6), (7, .int v7)]) hx hb dX11_settlesPartners_122 hl (by decide) rfl (fun ls hl => ?_)
  refine b_let hf (fun x1 he hf => ?_)
  refine lv_iinc (v := x1) (lv' := [(7, .int x1), (5, .int (0 : Int32)), (0, .ref (B + 713)), (1, .int v1), (2, .int v2), (3, .int v3), (4, .int v4), (6, .int v6)]) hx hb dX11_settlesPartners_124 hl (k := 7) rfl (by rw [← he]; rfl) (by decide) rfl (fun ls hl => ?_)
  refine lv_goto (tgt := 29) hx hb dX11_settlesPartners_127 (by decide) ?_
  exact hr_29 v1 v2 v3 v4 (0 : Int32) v6 x1 w hf z_v4 isZ_0 _ _ _ hH (lv_sub hl [2, 3, 4, 5, 6, 1, 7, 0] rfl)
set_option maxRecDepth 100000 in
set_option maxHeartbeats 4000000 in
theorem t_X11_settlesPartners_96 {D : va_G} {B : Nat} {Y : Nat → ClassId} {p : Program} {l : Launch} {e : Env} {s : State} {m : MethodId} {args : Array Value} {below : List Frame} {meth : Method} {c : Code} {z : (Unit × Wd)} {H : Heap} {locs : List Loc} {ls : Array Slot} {w : Wd} {v1 : Int32} {v2 : Int32} {v3 : Int32} {v5 : Int32} {v6 : Int32} {v7 : Int32} {v8 : Int32} {t0 : Int32} (C : CX D B Y p s m args meth c cX11_settlesPartners 9 RX11 none)  {rc_29 : Int32 × Int32 × Int32 × Int32 × Int32 × Int32 × Int32 × Wd → Option (Unit × Wd)} (hr_29 : ∀ (v1 : Int32) (v2 : Int32) (v3 : Int32) (v4 : Int32) (v5 : Int32) (v6 : Int32) (v7 : Int32) (w : Wd), rc_29 (v1, v2, v3, v4, v5, v6, v7, w) = some z → isZ v4 → isZ v5 → ∀ (H : Heap) (locs : List Loc) (ls : Array Slot), HS D B Y w s H locs → lv_has ls 9 [(0, .ref (B + 713)), (1, .int v1), (2, .int v2), (3, .int v3), (4, .int v4), (5, .int v5), (6, .int v6), (7, .int v7)] → W p l e (RM 1 0 0) s m args below meth c H locs 0 0 (MQ below (QG D B Y none z.2 True) args s 0 0 (AB B)) (F0 m 29 ls []))   (z_v5 : isZ v5) (z_t0 : isZ t0) (hH : HS D B Y w s H locs) (hl : lv_has ls 9 [(0, .ref (B + 713)), (1, .int v1), (2, .int v2), (3, .int v3), (5, .int v5), (6, .int v6), (7, .int v7), (8, .int v8)]) (hf : f_X11_settlesPartners_96 rc_29 v1 v2 v3 v5 v6 v7 v8 t0 w = some z) : W p l e (RM 1 0 0) s m args below meth c H locs 0 0 (MQ below (QG D B Y none z.2 True) args s 0 0 (AB B)) (F0 m 96 ls [.int t0]) := by
  have hx := C.1
  have hb := C.2.1
  unfold f_X11_settlesPartners_96 at hf
  refine lv_istore (lv' := [(4, .int t0), (0, .ref (B + 713)), (1, .int v1), (2, .int v2), (3, .int v3), (5, .int v5), (6, .int v6), (7, .int v7), (8, .int v8)]) hx hb dX11_settlesPartners_96 hl (by decide) rfl (fun ls hl => ?_)
  refine lv_iload hx hb dX11_settlesPartners_98 (lv_at hl 5 rfl) ?_
  refine b_if_ne (tgt := 117) hx hb hf dX11_settlesPartners_100 (by decide) (fun hf => ?_) (fun hf => ?_)
  · refine lv_iconst (v := (1 : Int32)) hx hb dX11_settlesPartners_117 (by decide) ?_
    refine lv_goto (tgt := 122) hx hb dX11_settlesPartners_118 (by decide) ?_
    refine lv_istore (lv' := [(5, .int (1 : Int32)), (4, .int t0), (0, .ref (B + 713)), (1, .int v1), (2, .int v2), (3, .int v3), (6, .int v6), (7, .int v7), (8, .int v8)]) hx hb dX11_settlesPartners_122 hl (by decide) rfl (fun ls hl => ?_)
    refine b_let hf (fun x1 he hf => ?_)
    refine lv_iinc (v := x1) (lv' := [(7, .int x1), (5, .int (1 : Int32)), (4, .int t0), (0, .ref (B + 713)), (1, .int v1), (2, .int v2), (3, .int v3), (6, .int v6), (8, .int v8)]) hx hb dX11_settlesPartners_124 hl (k := 7) rfl (by rw [← he]; rfl) (by decide) rfl (fun ls hl => ?_)
    refine lv_goto (tgt := 29) hx hb dX11_settlesPartners_127 (by decide) ?_
    exact hr_29 v1 v2 v3 t0 (1 : Int32) v6 x1 w hf z_t0 isZ_1 _ _ _ hH (lv_sub hl [3, 4, 5, 6, 2, 1, 7, 0] rfl)
  · refine lv_iload hx hb dX11_settlesPartners_103 (lv_at hl 7 rfl) ?_
    refine lv_iload_n hx hb dX11_settlesPartners_105 rfl (lv_at hl 4 rfl) ?_
    refine b_icmp_le (tgt := 121) hx hb hf dX11_settlesPartners_106 (by decide) (fun hf => ?_) (fun hf => ?_)
    · exact t_X11_settlesPartners_121 C hr_29 z_t0 hH (lv_sub hl [1, 2, 3, 4, 0, 6, 7] rfl) hf
    · refine lv_iload hx hb dX11_settlesPartners_109 (lv_at hl 8 rfl) ?_
      refine lv_iconst (v := (1 : Int32)) hx hb dX11_settlesPartners_111 (by decide) ?_
      refine lv_iload_n hx hb dX11_settlesPartners_112 rfl (lv_at hl 3 rfl) ?_
      refine lv_isub hx hb dX11_settlesPartners_113 ?_
      refine b_icmp_ne (tgt := 121) hx hb hf dX11_settlesPartners_114 (by decide) (fun hf => ?_) (fun hf => ?_)
      · exact t_X11_settlesPartners_121 C hr_29 z_t0 hH (lv_sub hl [1, 2, 3, 4, 0, 6, 7] rfl) hf
      · refine lv_iconst (v := (1 : Int32)) hx hb dX11_settlesPartners_117 (by decide) ?_
        refine lv_goto (tgt := 122) hx hb dX11_settlesPartners_118 (by decide) ?_
        refine lv_istore (lv' := [(5, .int (1 : Int32)), (4, .int t0), (0, .ref (B + 713)), (1, .int v1), (2, .int v2), (3, .int v3), (6, .int v6), (7, .int v7), (8, .int v8)]) hx hb dX11_settlesPartners_122 hl (by decide) rfl (fun ls hl => ?_)
        refine b_let hf (fun x2 he hf => ?_)
        refine lv_iinc (v := x2) (lv' := [(7, .int x2), (5, .int (1 : Int32)), (4, .int t0), (0, .ref (B + 713)), (1, .int v1), (2, .int v2), (3, .int v3), (6, .int v6), (8, .int v8)]) hx hb dX11_settlesPartners_124 hl (k := 7) rfl (by rw [← he]; rfl) (by decide) rfl (fun ls hl => ?_)
        refine lv_goto (tgt := 29) hx hb dX11_settlesPartners_127 (by decide) ?_
        exact hr_29 v1 v2 v3 t0 (1 : Int32) v6 x2 w hf z_t0 isZ_1 _ _ _ hH (lv_sub hl [3, 4, 5, 6, 2, 1, 7, 0] rfl)
set_option maxRecDepth 100000 in
set_option maxHeartbeats 4000000 in
theorem t_X11_settlesPartners_95 {D : va_G} {B : Nat} {Y : Nat → ClassId} {p : Program} {l : Launch} {e : Env} {s : State} {m : MethodId} {args : Array Value} {below : List Frame} {meth : Method} {c : Code} {z : (Unit × Wd)} {H : Heap} {locs : List Loc} {ls : Array Slot} {w : Wd} {v1 : Int32} {v2 : Int32} {v3 : Int32} {v5 : Int32} {v6 : Int32} {v7 : Int32} {v8 : Int32} (C : CX D B Y p s m args meth c cX11_settlesPartners 9 RX11 none)  {rc_29 : Int32 × Int32 × Int32 × Int32 × Int32 × Int32 × Int32 × Wd → Option (Unit × Wd)} (hr_29 : ∀ (v1 : Int32) (v2 : Int32) (v3 : Int32) (v4 : Int32) (v5 : Int32) (v6 : Int32) (v7 : Int32) (w : Wd), rc_29 (v1, v2, v3, v4, v5, v6, v7, w) = some z → isZ v4 → isZ v5 → ∀ (H : Heap) (locs : List Loc) (ls : Array Slot), HS D B Y w s H locs → lv_has ls 9 [(0, .ref (B + 713)), (1, .int v1), (2, .int v2), (3, .int v3), (4, .int v4), (5, .int v5), (6, .int v6), (7, .int v7)] → W p l e (RM 1 0 0) s m args below meth c H locs 0 0 (MQ below (QG D B Y none z.2 True) args s 0 0 (AB B)) (F0 m 29 ls []))   (z_v5 : isZ v5) (hH : HS D B Y w s H locs) (hl : lv_has ls 9 [(0, .ref (B + 713)), (1, .int v1), (2, .int v2), (3, .int v3), (5, .int v5), (6, .int v6), (7, .int v7), (8, .int v8)]) (hf : f_X11_settlesPartners_95 rc_29 v1 v2 v3 v5 v6 v7 v8 w = some z) : W p l e (RM 1 0 0) s m args below meth c H locs 0 0 (MQ below (QG D B Y none z.2 True) args s 0 0 (AB B)) (F0 m 95 ls []) := by
  have hx := C.1
  have hb := C.2.1
  unfold f_X11_settlesPartners_95 at hf
  refine lv_iconst (v := (0 : Int32)) hx hb dX11_settlesPartners_95 (by decide) ?_
  exact t_X11_settlesPartners_96 C hr_29 z_v5 isZ_0 hH (lv_sub hl [0, 1, 2, 3, 4, 5, 6, 7] rfl) hf
set_option maxRecDepth 100000 in
set_option maxHeartbeats 4000000 in
theorem t_X11_settlesPartners_72 {D : va_G} {B : Nat} {Y : Nat → ClassId} {p : Program} {l : Launch} {e : Env} {s : State} {m : MethodId} {args : Array Value} {below : List Frame} {meth : Method} {c : Code} {z : (Unit × Wd)} {H : Heap} {locs : List Loc} {ls : Array Slot} {w : Wd} {v1 : Int32} {v2 : Int32} {v3 : Int32} {v4 : Int32} {v5 : Int32} {v7 : Int32} {v8 : Int32} {t0 : Int32} (C : CX D B Y p s m args meth c cX11_settlesPartners 9 RX11 none)  {rc_29 : Int32 × Int32 × Int32 × Int32 × Int32 × Int32 × Int32 × Wd → Option (Unit × Wd)} (hr_29 : ∀ (v1 : Int32) (v2 : Int32) (v3 : Int32) (v4 : Int32) (v5 : Int32) (v6 : Int32) (v7 : Int32) (w : Wd), rc_29 (v1, v2, v3, v4, v5, v6, v7, w) = some z → isZ v4 → isZ v5 → ∀ (H : Heap) (locs : List Loc) (ls : Array Slot), HS D B Y w s H locs → lv_has ls 9 [(0, .ref (B + 713)), (1, .int v1), (2, .int v2), (3, .int v3), (4, .int v4), (5, .int v5), (6, .int v6), (7, .int v7)] → W p l e (RM 1 0 0) s m args below meth c H locs 0 0 (MQ below (QG D B Y none z.2 True) args s 0 0 (AB B)) (F0 m 29 ls []))   (z_v4 : isZ v4) (z_v5 : isZ v5) (hH : HS D B Y w s H locs) (hl : lv_has ls 9 [(0, .ref (B + 713)), (1, .int v1), (2, .int v2), (3, .int v3), (4, .int v4), (5, .int v5), (7, .int v7), (8, .int v8)]) (hf : f_X11_settlesPartners_72 rc_29 v1 v2 v3 v4 v5 v7 v8 t0 w = some z) : W p l e (RM 1 0 0) s m args below meth c H locs 0 0 (MQ below (QG D B Y none z.2 True) args s 0 0 (AB B)) (F0 m 72 ls [.int t0]) := by
  have hx := C.1
  have hb := C.2.1
  unfold f_X11_settlesPartners_72 at hf
  refine lv_istore (lv' := [(6, .int t0), (0, .ref (B + 713)), (1, .int v1), (2, .int v2), (3, .int v3), (4, .int v4), (5, .int v5), (7, .int v7), (8, .int v8)]) hx hb dX11_settlesPartners_72 hl (by decide) rfl (fun ls hl => ?_)
  refine lv_iload hx hb dX11_settlesPartners_74 (lv_at hl 5 rfl) ?_
  refine b_if_ne (tgt := 91) hx hb hf dX11_settlesPartners_76 (by decide) (fun hf => ?_) (fun hf => ?_)
  · refine lv_iconst (v := (1 : Int32)) hx hb dX11_settlesPartners_91 (by decide) ?_
    refine lv_goto (tgt := 96) hx hb dX11_settlesPartners_92 (by decide) ?_
    exact t_X11_settlesPartners_96 C hr_29 z_v5 isZ_1 hH (lv_sub hl [1, 2, 3, 4, 6, 0, 7, 8] rfl) hf
  · refine lv_iload hx hb dX11_settlesPartners_79 (lv_at hl 7 rfl) ?_
    refine lv_iload_n hx hb dX11_settlesPartners_81 rfl (lv_at hl 4 rfl) ?_
    refine b_icmp_le (tgt := 95) hx hb hf dX11_settlesPartners_82 (by decide) (fun hf => ?_) (fun hf => ?_)
    · exact t_X11_settlesPartners_95 C hr_29 z_v5 hH (lv_sub hl [1, 2, 3, 4, 6, 0, 7, 8] rfl) hf
    · refine lv_iload hx hb dX11_settlesPartners_85 (lv_at hl 8 rfl) ?_
      refine lv_iload_n hx hb dX11_settlesPartners_87 rfl (lv_at hl 3 rfl) ?_
      refine b_icmp_ne (tgt := 95) hx hb hf dX11_settlesPartners_88 (by decide) (fun hf => ?_) (fun hf => ?_)
      · exact t_X11_settlesPartners_95 C hr_29 z_v5 hH (lv_sub hl [1, 2, 3, 4, 6, 0, 7, 8] rfl) hf
      · refine lv_iconst (v := (1 : Int32)) hx hb dX11_settlesPartners_91 (by decide) ?_
        refine lv_goto (tgt := 96) hx hb dX11_settlesPartners_92 (by decide) ?_
        exact t_X11_settlesPartners_96 C hr_29 z_v5 isZ_1 hH (lv_sub hl [1, 2, 3, 4, 6, 0, 7, 8] rfl) hf
set_option maxRecDepth 100000 in
set_option maxHeartbeats 4000000 in
theorem t_X11_settlesPartners_70 {D : va_G} {B : Nat} {Y : Nat → ClassId} {p : Program} {l : Launch} {e : Env} {s : State} {m : MethodId} {args : Array Value} {below : List Frame} {meth : Method} {c : Code} {z : (Unit × Wd)} {H : Heap} {locs : List Loc} {ls : Array Slot} {w : Wd} {v1 : Int32} {v2 : Int32} {v3 : Int32} {v4 : Int32} {v5 : Int32} {v6 : Int32} {v7 : Int32} {v8 : Int32} (C : CX D B Y p s m args meth c cX11_settlesPartners 9 RX11 none)  {rc_29 : Int32 × Int32 × Int32 × Int32 × Int32 × Int32 × Int32 × Wd → Option (Unit × Wd)} (hr_29 : ∀ (v1 : Int32) (v2 : Int32) (v3 : Int32) (v4 : Int32) (v5 : Int32) (v6 : Int32) (v7 : Int32) (w : Wd), rc_29 (v1, v2, v3, v4, v5, v6, v7, w) = some z → isZ v4 → isZ v5 → ∀ (H : Heap) (locs : List Loc) (ls : Array Slot), HS D B Y w s H locs → lv_has ls 9 [(0, .ref (B + 713)), (1, .int v1), (2, .int v2), (3, .int v3), (4, .int v4), (5, .int v5), (6, .int v6), (7, .int v7)] → W p l e (RM 1 0 0) s m args below meth c H locs 0 0 (MQ below (QG D B Y none z.2 True) args s 0 0 (AB B)) (F0 m 29 ls []))   (z_v4 : isZ v4) (z_v5 : isZ v5) (hH : HS D B Y w s H locs) (hl : lv_has ls 9 [(0, .ref (B + 713)), (1, .int v1), (2, .int v2), (3, .int v3), (4, .int v4), (5, .int v5), (6, .int v6), (7, .int v7), (8, .int v8)]) (hf : f_X11_settlesPartners_70 rc_29 v1 v2 v3 v4 v5 v6 v7 v8 w = some z) : W p l e (RM 1 0 0) s m args below meth c H locs 0 0 (MQ below (QG D B Y none z.2 True) args s 0 0 (AB B)) (F0 m 70 ls []) := by
  have hx := C.1
  have hb := C.2.1
  unfold f_X11_settlesPartners_70 at hf
  refine lv_iload hx hb dX11_settlesPartners_70 (lv_at hl 6 rfl) ?_
  exact t_X11_settlesPartners_72 C hr_29 z_v4 z_v5 hH (lv_sub hl [0, 1, 2, 3, 4, 5, 7, 8] rfl) hf
set_option maxRecDepth 100000 in
set_option maxHeartbeats 4000000 in
theorem tb_X11_settlesPartners_29 {D : va_G} {B : Nat} {Y : Nat → ClassId} {p : Program} {l : Launch} {e : Env} {s : State} {m : MethodId} {args : Array Value} {below : List Frame} {meth : Method} {c : Code} {z : (Unit × Wd)} {H : Heap} {locs : List Loc} {ls : Array Slot} {w : Wd} {v1 : Int32} {v2 : Int32} {v3 : Int32} {v4 : Int32} {v5 : Int32} {v6 : Int32} {v7 : Int32} (C : CX D B Y p s m args meth c cX11_settlesPartners 9 RX11 none)  {rc_29 : Int32 × Int32 × Int32 × Int32 × Int32 × Int32 × Int32 × Wd → Option (Unit × Wd)} (hr_29 : ∀ (v1 : Int32) (v2 : Int32) (v3 : Int32) (v4 : Int32) (v5 : Int32) (v6 : Int32) (v7 : Int32) (w : Wd), rc_29 (v1, v2, v3, v4, v5, v6, v7, w) = some z → isZ v4 → isZ v5 → ∀ (H : Heap) (locs : List Loc) (ls : Array Slot), HS D B Y w s H locs → lv_has ls 9 [(0, .ref (B + 713)), (1, .int v1), (2, .int v2), (3, .int v3), (4, .int v4), (5, .int v5), (6, .int v6), (7, .int v7)] → W p l e (RM 1 0 0) s m args below meth c H locs 0 0 (MQ below (QG D B Y none z.2 True) args s 0 0 (AB B)) (F0 m 29 ls [])) {rc_2 : Int32 × Int32 × Int32 × Wd → Option (Unit × Wd)} (hr_2 : ∀ (v1 : Int32) (v2 : Int32) (v3 : Int32) (w : Wd), rc_2 (v1, v2, v3, w) = some z → ∀ (H : Heap) (locs : List Loc) (ls : Array Slot), HS D B Y w s H locs → lv_has ls 9 [(0, .ref (B + 713)), (1, .int v1), (2, .int v2), (3, .int v3)] → W p l e (RM 1 0 0) s m args below meth c H locs 0 0 (MQ below (QG D B Y none z.2 True) args s 0 0 (AB B)) (F0 m 2 ls []))   (z_v4 : isZ v4) (z_v5 : isZ v5) (hH : HS D B Y w s H locs) (hl : lv_has ls 9 [(0, .ref (B + 713)), (1, .int v1), (2, .int v2), (3, .int v3), (4, .int v4), (5, .int v5), (6, .int v6), (7, .int v7)]) (hf : g_X11_settlesPartners_29 rc_29 rc_2 v1 v2 v3 v4 v5 v6 v7 w = some z) : W p l e (RM 1 0 0) s m args below meth c H locs 0 0 (MQ below (QG D B Y none z.2 True) args s 0 0 (AB B)) (F0 m 29 ls []) := by
  have hx := C.1
  have hb := C.2.1
  unfold g_X11_settlesPartners_29 at hf
  refine lv_iload hx hb dX11_settlesPartners_29 (lv_at hl 7 rfl) ?_
  refine lv_aload_n hx hb dX11_settlesPartners_31 rfl (lv_at hl 0 rfl) ?_
  refine fg_X11_64 C hH dX11_settlesPartners_32 ?_
  refine lv_iload_n hx hb dX11_settlesPartners_35 rfl (lv_at hl 3 rfl) ?_
  refine g_iald C hH kc_732 hf dX11_settlesPartners_36 (fun x1 hf => ?_)
  refine b_icmp_ge (tgt := 130) hx hb hf dX11_settlesPartners_37 (by decide) (fun hf => ?_) (fun hf => ?_)
  · refine lv_iload hx hb dX11_settlesPartners_130 (lv_at hl 4 rfl) ?_
    refine b_if_ne (tgt := 140) hx hb hf dX11_settlesPartners_132 (by decide) (fun hf => ?_) (fun hf => ?_)
    · exact t_X11_settlesPartners_140 C hr_2 z_v4 hH (lv_sub hl [0, 1, 2, 3, 4, 6] rfl) hf
    · refine lv_iload hx hb dX11_settlesPartners_135 (lv_at hl 5 rfl) ?_
      refine b_if_eq (tgt := 193) hx hb hf dX11_settlesPartners_137 (by decide) (fun hf => ?_) (fun hf => ?_)
      · refine b_let hf (fun x2 he hf => ?_)
        refine lv_iinc (v := x2) (lv' := [(3, .int x2), (0, .ref (B + 713)), (1, .int v1), (2, .int v2), (4, .int v4), (5, .int v5), (6, .int v6), (7, .int v7)]) hx hb dX11_settlesPartners_193 hl (k := 3) rfl (by rw [← he]; rfl) (by decide) rfl (fun ls hl => ?_)
        refine lv_goto (tgt := 2) hx hb dX11_settlesPartners_196 (by decide) ?_
        exact hr_2 v1 v2 x2 w hf _ _ _ hH (lv_sub hl [1, 2, 3, 0] rfl)
      · exact t_X11_settlesPartners_140 C hr_2 z_v4 hH (lv_sub hl [0, 1, 2, 3, 4, 6] rfl) hf
  · refine lv_aload_n hx hb dX11_settlesPartners_40 rfl (lv_at hl 0 rfl) ?_
    refine lv_aload_n hx hb dX11_settlesPartners_41 rfl (lv_at hl 0 rfl) ?_
    refine fg_X11_61 C hH dX11_settlesPartners_42 ?_
    refine lv_iload hx hb dX11_settlesPartners_45 (lv_at hl 7 rfl) ?_
    refine g_iald C hH kc_731 hf dX11_settlesPartners_47 (fun x3 hf => ?_)
    obtain ⟨x5, w4, hc, hf⟩ := bd_some hf
    refine q_callV1 (v := .int x5) (As := [.int x3]) C hH (ci := 11) rfl (by omega) gk_X11_217 yd_X11_goes (by omega) (by omega) kc_713 (c_X11_goes hc) hl.1 rfl (Nat.le_of_ble_eq_true rfl) dX11_settlesPartners_48 ⟨by decide, by decide⟩ (fun H locs hH hP => ?_)
    refine lv_istore (lv' := [(8, .int x5), (0, .ref (B + 713)), (1, .int v1), (2, .int v2), (3, .int v3), (4, .int v4), (5, .int v5), (6, .int v6), (7, .int v7)]) hx hb dX11_settlesPartners_51 hl (by decide) rfl (fun ls hl => ?_)
    refine lv_iload hx hb dX11_settlesPartners_53 (lv_at hl 8 rfl) ?_
    refine lv_iload_n hx hb dX11_settlesPartners_55 rfl (lv_at hl 4 rfl) ?_
    refine b_icmp_ge (tgt := 70) hx hb hf dX11_settlesPartners_56 (by decide) (fun hf => ?_) (fun hf => ?_)
    · exact t_X11_settlesPartners_70 C hr_29 z_v4 z_v5 hH (lv_sub hl [1, 2, 3, 4, 5, 6, 7, 8, 0] rfl) hf
    · refine lv_iload hx hb dX11_settlesPartners_59 (lv_at hl 0 rfl) ?_
      refine lv_iconst (v := (3 : Int32)) hx hb dX11_settlesPartners_61 (by decide) ?_
      refine b_icmp_eq (tgt := 70) hx hb hf dX11_settlesPartners_62 (by decide) (fun hf => ?_) (fun hf => ?_)
      · exact t_X11_settlesPartners_70 C hr_29 z_v4 z_v5 hH (lv_sub hl [1, 2, 3, 4, 5, 6, 7, 8, 0] rfl) hf
      · refine lv_iload hx hb dX11_settlesPartners_65 (lv_at hl 0 rfl) ?_
        refine lv_goto (tgt := 72) hx hb dX11_settlesPartners_67 (by decide) ?_
        exact t_X11_settlesPartners_72 C hr_29 z_v4 z_v5 hH (lv_sub hl [1, 2, 3, 4, 5, 6, 8, 0] rfl) hf
set_option maxRecDepth 100000 in
set_option maxHeartbeats 4000000 in
theorem t_X11_settlesPartners_29 {D : va_G} {B : Nat} {Y : Nat → ClassId} {p : Program} {l : Launch} {e : Env} {s : State} {m : MethodId} {args : Array Value} {below : List Frame} {meth : Method} {c : Code} {z : (Unit × Wd)} {H : Heap} {locs : List Loc} {ls : Array Slot} {w : Wd} {v1 : Int32} {v2 : Int32} {v3 : Int32} {v4 : Int32} {v5 : Int32} {v6 : Int32} {v7 : Int32} (C : CX D B Y p s m args meth c cX11_settlesPartners 9 RX11 none)  {rc_2 : Int32 × Int32 × Int32 × Wd → Option (Unit × Wd)} (hr_2 : ∀ (v1 : Int32) (v2 : Int32) (v3 : Int32) (w : Wd), rc_2 (v1, v2, v3, w) = some z → ∀ (H : Heap) (locs : List Loc) (ls : Array Slot), HS D B Y w s H locs → lv_has ls 9 [(0, .ref (B + 713)), (1, .int v1), (2, .int v2), (3, .int v3)] → W p l e (RM 1 0 0) s m args below meth c H locs 0 0 (MQ below (QG D B Y none z.2 True) args s 0 0 (AB B)) (F0 m 2 ls []))   (z_v4 : isZ v4) (z_v5 : isZ v5) (hH : HS D B Y w s H locs) (hl : lv_has ls 9 [(0, .ref (B + 713)), (1, .int v1), (2, .int v2), (3, .int v3), (4, .int v4), (5, .int v5), (6, .int v6), (7, .int v7)]) (hf : f_X11_settlesPartners_29 rc_2 v1 v2 v3 v4 v5 v6 v7 w = some z) : W p l e (RM 1 0 0) s m args below meth c H locs 0 0 (MQ below (QG D B Y none z.2 True) args s 0 0 (AB B)) (F0 m 29 ls []) := by
  exact loopN_ind (z := z) (body := fun rc σ => g_X11_settlesPartners_29 rc rc_2 σ.1 σ.2.1 σ.2.2.1 σ.2.2.2.1 σ.2.2.2.2.1 σ.2.2.2.2.2.1 σ.2.2.2.2.2.2.1 σ.2.2.2.2.2.2.2)
    (P := fun σ => isZ σ.2.2.2.1 → isZ σ.2.2.2.2.1 → ∀ (H : Heap) (locs : List Loc) (ls : Array Slot), HS D B Y σ.2.2.2.2.2.2.2 s H locs → lv_has ls 9 [(0, .ref (B + 713)), (1, .int σ.1), (2, .int σ.2.1), (3, .int σ.2.2.1), (4, .int σ.2.2.2.1), (5, .int σ.2.2.2.2.1), (6, .int σ.2.2.2.2.2.1), (7, .int σ.2.2.2.2.2.2.1)] → W p l e (RM 1 0 0) s m args below meth c H locs 0 0 (MQ below (QG D B Y none z.2 True) args s 0 0 (AB B)) (F0 m 29 ls []))
    (fun rc hrec σ hf z_v4 z_v5 H locs ls hH hl => tb_X11_settlesPartners_29 C (fun v1 v2 v3 v4 v5 v6 v7 w hr z_v4 z_v5 H locs ls hH hl => hrec (v1, v2, v3, v4, v5, v6, v7, w) hr z_v4 z_v5 H locs ls hH hl) hr_2 z_v4 z_v5 hH hl hf) FU (v1, v2, v3, v4, v5, v6, v7, w) hf z_v4 z_v5 H locs ls hH hl
set_option maxRecDepth 100000 in
set_option maxHeartbeats 4000000 in
theorem tb_X11_settlesPartners_2 {D : va_G} {B : Nat} {Y : Nat → ClassId} {p : Program} {l : Launch} {e : Env} {s : State} {m : MethodId} {args : Array Value} {below : List Frame} {meth : Method} {c : Code} {z : (Unit × Wd)} {H : Heap} {locs : List Loc} {ls : Array Slot} {w : Wd} {v1 : Int32} {v2 : Int32} {v3 : Int32} (C : CX D B Y p s m args meth c cX11_settlesPartners 9 RX11 none)  {rc_2 : Int32 × Int32 × Int32 × Wd → Option (Unit × Wd)} (hr_2 : ∀ (v1 : Int32) (v2 : Int32) (v3 : Int32) (w : Wd), rc_2 (v1, v2, v3, w) = some z → ∀ (H : Heap) (locs : List Loc) (ls : Array Slot), HS D B Y w s H locs → lv_has ls 9 [(0, .ref (B + 713)), (1, .int v1), (2, .int v2), (3, .int v3)] → W p l e (RM 1 0 0) s m args below meth c H locs 0 0 (MQ below (QG D B Y none z.2 True) args s 0 0 (AB B)) (F0 m 2 ls []))    (hH : HS D B Y w s H locs) (hl : lv_has ls 9 [(0, .ref (B + 713)), (1, .int v1), (2, .int v2), (3, .int v3)]) (hf : g_X11_settlesPartners_2 rc_2 v1 v2 v3 w = some z) : W p l e (RM 1 0 0) s m args below meth c H locs 0 0 (MQ below (QG D B Y none z.2 True) args s 0 0 (AB B)) (F0 m 2 ls []) := by
  have hx := C.1
  have hb := C.2.1
  unfold g_X11_settlesPartners_2 at hf
  refine lv_iload_n hx hb dX11_settlesPartners_2 rfl (lv_at hl 3 rfl) ?_
  refine lv_iload_n hx hb dX11_settlesPartners_3 rfl (lv_at hl 1 rfl) ?_
  refine b_icmp_ge (tgt := 199) hx hb hf dX11_settlesPartners_4 (by decide) (fun hf => ?_) (fun hf => ?_)
  · cases hf
    exact q_retv C hH trivial dX11_settlesPartners_199
  · refine lv_aload_n hx hb dX11_settlesPartners_7 rfl (lv_at hl 0 rfl) ?_
    refine fg_X11_64 C hH dX11_settlesPartners_8 ?_
    refine lv_iload_n hx hb dX11_settlesPartners_11 rfl (lv_at hl 3 rfl) ?_
    refine g_iald C hH kc_732 hf dX11_settlesPartners_12 (fun x1 hf => ?_)
    refine lv_iconst (v := (-1 : Int32)) hx hb dX11_settlesPartners_13 (by decide) ?_
    refine b_icmp_eq (tgt := 193) hx hb hf dX11_settlesPartners_14 (by decide) (fun hf => ?_) (fun hf => ?_)
    · refine b_let hf (fun x2 he hf => ?_)
      refine lv_iinc (v := x2) (lv' := [(3, .int x2), (0, .ref (B + 713)), (1, .int v1), (2, .int v2)]) hx hb dX11_settlesPartners_193 hl (k := 3) rfl (by rw [← he]; rfl) (by decide) rfl (fun ls hl => ?_)
      refine lv_goto (tgt := 2) hx hb dX11_settlesPartners_196 (by decide) ?_
      exact hr_2 v1 v2 x2 w hf _ _ _ hH (lv_sub hl [1, 2, 3, 0] rfl)
    · refine lv_iconst (v := (0 : Int32)) hx hb dX11_settlesPartners_17 (by decide) ?_
      refine lv_istore (lv' := [(4, .int (0 : Int32)), (0, .ref (B + 713)), (1, .int v1), (2, .int v2), (3, .int v3)]) hx hb dX11_settlesPartners_18 hl (by decide) rfl (fun ls hl => ?_)
      refine lv_iconst (v := (0 : Int32)) hx hb dX11_settlesPartners_20 (by decide) ?_
      refine lv_istore (lv' := [(5, .int (0 : Int32)), (4, .int (0 : Int32)), (0, .ref (B + 713)), (1, .int v1), (2, .int v2), (3, .int v3)]) hx hb dX11_settlesPartners_21 hl (by decide) rfl (fun ls hl => ?_)
      refine lv_iconst (v := (3 : Int32)) hx hb dX11_settlesPartners_23 (by decide) ?_
      refine lv_istore (lv' := [(6, .int (3 : Int32)), (5, .int (0 : Int32)), (4, .int (0 : Int32)), (0, .ref (B + 713)), (1, .int v1), (2, .int v2), (3, .int v3)]) hx hb dX11_settlesPartners_24 hl (by decide) rfl (fun ls hl => ?_)
      refine lv_iconst (v := (0 : Int32)) hx hb dX11_settlesPartners_26 (by decide) ?_
      refine lv_istore (lv' := [(7, .int (0 : Int32)), (6, .int (3 : Int32)), (5, .int (0 : Int32)), (4, .int (0 : Int32)), (0, .ref (B + 713)), (1, .int v1), (2, .int v2), (3, .int v3)]) hx hb dX11_settlesPartners_27 hl (by decide) rfl (fun ls hl => ?_)
      exact t_X11_settlesPartners_29 C hr_2 isZ_0 isZ_0 hH (lv_sub hl [4, 5, 6, 7, 3, 2, 1, 0] rfl) hf
set_option maxRecDepth 100000 in
set_option maxHeartbeats 4000000 in
theorem t_X11_settlesPartners_2 {D : va_G} {B : Nat} {Y : Nat → ClassId} {p : Program} {l : Launch} {e : Env} {s : State} {m : MethodId} {args : Array Value} {below : List Frame} {meth : Method} {c : Code} {z : (Unit × Wd)} {H : Heap} {locs : List Loc} {ls : Array Slot} {w : Wd} {v1 : Int32} {v2 : Int32} {v3 : Int32} (C : CX D B Y p s m args meth c cX11_settlesPartners 9 RX11 none)     (hH : HS D B Y w s H locs) (hl : lv_has ls 9 [(0, .ref (B + 713)), (1, .int v1), (2, .int v2), (3, .int v3)]) (hf : f_X11_settlesPartners_2 v1 v2 v3 w = some z) : W p l e (RM 1 0 0) s m args below meth c H locs 0 0 (MQ below (QG D B Y none z.2 True) args s 0 0 (AB B)) (F0 m 2 ls []) := by
  exact loopN_ind (z := z) (body := fun rc σ => g_X11_settlesPartners_2 rc  σ.1 σ.2.1 σ.2.2.1 σ.2.2.2)
    (P := fun σ => ∀ (H : Heap) (locs : List Loc) (ls : Array Slot), HS D B Y σ.2.2.2 s H locs → lv_has ls 9 [(0, .ref (B + 713)), (1, .int σ.1), (2, .int σ.2.1), (3, .int σ.2.2.1)] → W p l e (RM 1 0 0) s m args below meth c H locs 0 0 (MQ below (QG D B Y none z.2 True) args s 0 0 (AB B)) (F0 m 2 ls []))
    (fun rc hrec σ hf  H locs ls hH hl => tb_X11_settlesPartners_2 C (fun v1 v2 v3 w hr  H locs ls hH hl => hrec (v1, v2, v3, w) hr  H locs ls hH hl)   hH hl hf) FU (v1, v2, v3, w) hf  H locs ls hH hl
set_option maxRecDepth 100000 in
set_option maxHeartbeats 4000000 in
theorem t_X11_settlesPartners_0 {D : va_G} {B : Nat} {Y : Nat → ClassId} {p : Program} {l : Launch} {e : Env} {s : State} {m : MethodId} {args : Array Value} {below : List Frame} {meth : Method} {c : Code} {z : (Unit × Wd)} {H : Heap} {locs : List Loc} {ls : Array Slot} {w : Wd} {v1 : Int32} {v2 : Int32} (C : CX D B Y p s m args meth c cX11_settlesPartners 9 RX11 none)     (hH : HS D B Y w s H locs) (hl : lv_has ls 9 [(0, .ref (B + 713)), (1, .int v1), (2, .int v2)]) (hf : f_X11_settlesPartners v1 v2 w = some z) : W p l e (RM 1 0 0) s m args below meth c H locs 0 0 (MQ below (QG D B Y none z.2 True) args s 0 0 (AB B)) (F0 m 0 ls []) := by
  have hx := C.1
  have hb := C.2.1
  unfold f_X11_settlesPartners at hf
  refine lv_iconst (v := (0 : Int32)) hx hb dX11_settlesPartners_0 (by decide) ?_
  refine lv_istore_n (lv' := [(3, .int (0 : Int32)), (0, .ref (B + 713)), (1, .int v1), (2, .int v2)]) hx hb dX11_settlesPartners_1 rfl hl (by decide) rfl (fun ls hl => ?_)
  exact t_X11_settlesPartners_2 C hH (lv_sub hl [1, 2, 3, 0] rfl) hf
set_option maxRecDepth 100000 in
theorem c_X11_settlesPartners {l : Launch} {D : va_G} {B : Nat} {Y : Nat → ClassId} {v1 : Int32} {v2 : Int32} {w : Wd} {r : Unit} {w1 : Wd}   (hf : f_X11_settlesPartners v1 v2 w = some (r, w1)) : CM l D B Y yX11_settlesPartners cX11_settlesPartners 9 none 1 [.ref (B + 713), .int v1, .int v2] w none w1 True :=
  CM_of (by decide +kernel) (Nat.le_of_ble_eq_true rfl) (fun p e s m args below meth c ls C hH hl => t_X11_settlesPartners_0 C  hH (lv_sub hl [0, 1, 2] rfl) hf)
/-! LetterTablesModel.settlesOthers -/
set_option maxRecDepth 100000 in
set_option maxHeartbeats 4000000 in
theorem tb_X11_settlesOthers_104 {D : va_G} {B : Nat} {Y : Nat → ClassId} {p : Program} {l : Launch} {e : Env} {s : State} {m : MethodId} {args : Array Value} {below : List Frame} {meth : Method} {c : Code} {z : (Unit × Wd)} {H : Heap} {locs : List Loc} {ls : Array Slot} {w : Wd} {v1 : Int32} {v2 : Int32} {v3 : Int32} {v4 : Int32} {v5 : Int32} {v6 : Int32} (C : CX D B Y p s m args meth c cX11_settlesOthers 7 RX11 none)  {rc_104 : Int32 × Int32 × Int32 × Int32 × Int32 × Int32 × Wd → Option (Unit × Wd)} (hr_104 : ∀ (v1 : Int32) (v2 : Int32) (v3 : Int32) (v4 : Int32) (v5 : Int32) (v6 : Int32) (w : Wd), rc_104 (v1, v2, v3, v4, v5, v6, w) = some z → ∀ (H : Heap) (locs : List Loc) (ls : Array Slot), HS D B Y w s H locs → lv_has ls 7 [(0, .ref (B + 713)), (1, .int v1), (2, .int v2), (3, .int v3), (4, .int v4), (5, .int v5), (6, .int v6)] → W p l e (RM 1 0 0) s m args below meth c H locs 0 0 (MQ below (QG D B Y none z.2 True) args s 0 0 (AB B)) (F0 m 104 ls [])) {rc_2 : Int32 × Int32 × Int32 × Wd → Option (Unit × Wd)} (hr_2 : ∀ (v1 : Int32) (v2 : Int32) (v3 : Int32) (w : Wd), rc_2 (v1, v2, v3, w) = some z → ∀ (H : Heap) (locs : List Loc) (ls : Array Slot), HS D B Y w s H locs → lv_has ls 7 [(0, .ref (B + 713)), (1, .int v1), (2, .int v2), (3, .int v3)] → W p l e (RM 1 0 0) s m args below meth c H locs 0 0 (MQ below (QG D B Y none z.2 True) args s 0 0 (AB B)) (F0 m 2 ls []))    (hH : HS D B Y w s H locs) (hl : lv_has ls 7 [(0, .ref (B + 713)), (1, .int v1), (2, .int v2), (3, .int v3), (4, .int v4), (5, .int v5), (6, .int v6)]) (hf : g_X11_settlesOthers_104 rc_104 rc_2 v1 v2 v3 v4 v5 v6 w = some z) : W p l e (RM 1 0 0) s m args below meth c H locs 0 0 (MQ below (QG D B Y none z.2 True) args s 0 0 (AB B)) (F0 m 104 ls []) := by
  have hx := C.1
  have hb := C.2.1
  unfold g_X11_settlesOthers_104 at hf
  refine lv_iload_n hx hb dX11_settlesOthers_104 rfl (lv_at hl 3 rfl) ?_
  refine lv_iload hx hb dX11_settlesOthers_105 (lv_at hl 4 rfl) ?_
  refine b_icmp_ge (tgt := 140) hx hb hf dX11_settlesOthers_107 (by decide) (fun hf => ?_) (fun hf => ?_)
  · refine lv_goto (tgt := 2) hx hb dX11_settlesOthers_140 (by decide) ?_
    exact hr_2 v1 v2 v3 w hf _ _ _ hH (lv_sub hl [0, 1, 2, 3] rfl)
  · refine lv_aload_n hx hb dX11_settlesOthers_110 rfl (lv_at hl 0 rfl) ?_
    refine fg_X11_40 C hH dX11_settlesOthers_111 ?_
    refine lv_aload_n hx hb dX11_settlesOthers_114 rfl (lv_at hl 0 rfl) ?_
    refine fg_X11_61 C hH dX11_settlesOthers_115 ?_
    refine lv_iload_n hx hb dX11_settlesOthers_118 rfl (lv_at hl 3 rfl) ?_
    refine g_iald C hH kc_731 hf dX11_settlesOthers_119 (fun x1 hf => ?_)
    refine lv_iload hx hb dX11_settlesOthers_120 (lv_at hl 5 rfl) ?_
    refine lv_iload hx hb dX11_settlesOthers_122 (lv_at hl 6 rfl) ?_
    refine b_icmp_ne (tgt := 132) hx hb hf dX11_settlesOthers_124 (by decide) (fun hf => ?_) (fun hf => ?_)
    · refine lv_iload_n hx hb dX11_settlesOthers_132 rfl (lv_at hl 2 rfl) ?_
      refine g_iast C hH kc_724 hf dX11_settlesOthers_133 (fun w2 H locs hf hH => ?_)
      refine b_let hf (fun x3 he hf => ?_)
      refine lv_iinc (v := x3) (lv' := [(3, .int x3), (0, .ref (B + 713)), (1, .int v1), (2, .int v2), (4, .int v4), (5, .int v5), (6, .int v6)]) hx hb dX11_settlesOthers_134 hl (k := 3) rfl (by rw [← he]; rfl) (by decide) rfl (fun ls hl => ?_)
      refine lv_goto (tgt := 104) hx hb dX11_settlesOthers_137 (by decide) ?_
      exact hr_104 v1 v2 x3 v4 v5 v6 w2 hf _ _ _ hH (lv_sub hl [1, 2, 3, 0, 4, 5, 6] rfl)
    · refine lv_iload hx hb dX11_settlesOthers_127 (lv_at hl 5 rfl) ?_
      refine lv_goto (tgt := 133) hx hb dX11_settlesOthers_129 (by decide) ?_
      refine g_iast C hH kc_724 hf dX11_settlesOthers_133 (fun w4 H locs hf hH => ?_)
      refine b_let hf (fun x5 he hf => ?_)
      refine lv_iinc (v := x5) (lv' := [(3, .int x5), (0, .ref (B + 713)), (1, .int v1), (2, .int v2), (4, .int v4), (5, .int v5), (6, .int v6)]) hx hb dX11_settlesOthers_134 hl (k := 3) rfl (by rw [← he]; rfl) (by decide) rfl (fun ls hl => ?_)
      refine lv_goto (tgt := 104) hx hb dX11_settlesOthers_137 (by decide) ?_
      exact hr_104 v1 v2 x5 v4 v5 v6 w4 hf _ _ _ hH (lv_sub hl [1, 2, 3, 0, 4, 5, 6] rfl)
set_option maxRecDepth 100000 in
set_option maxHeartbeats 4000000 in
theorem t_X11_settlesOthers_104 {D : va_G} {B : Nat} {Y : Nat → ClassId} {p : Program} {l : Launch} {e : Env} {s : State} {m : MethodId} {args : Array Value} {below : List Frame} {meth : Method} {c : Code} {z : (Unit × Wd)} {H : Heap} {locs : List Loc} {ls : Array Slot} {w : Wd} {v1 : Int32} {v2 : Int32} {v3 : Int32} {v4 : Int32} {v5 : Int32} {v6 : Int32} (C : CX D B Y p s m args meth c cX11_settlesOthers 7 RX11 none)  {rc_2 : Int32 × Int32 × Int32 × Wd → Option (Unit × Wd)} (hr_2 : ∀ (v1 : Int32) (v2 : Int32) (v3 : Int32) (w : Wd), rc_2 (v1, v2, v3, w) = some z → ∀ (H : Heap) (locs : List Loc) (ls : Array Slot), HS D B Y w s H locs → lv_has ls 7 [(0, .ref (B + 713)), (1, .int v1), (2, .int v2), (3, .int v3)] → W p l e (RM 1 0 0) s m args below meth c H locs 0 0 (MQ below (QG D B Y none z.2 True) args s 0 0 (AB B)) (F0 m 2 ls []))    (hH : HS D B Y w s H locs) (hl : lv_has ls 7 [(0, .ref (B + 713)), (1, .int v1), (2, .int v2), (3, .int v3), (4, .int v4), (5, .int v5), (6, .int v6)]) (hf : f_X11_settlesOthers_104 rc_2 v1 v2 v3 v4 v5 v6 w = some z) : W p l e (RM 1 0 0) s m args below meth c H locs 0 0 (MQ below (QG D B Y none z.2 True) args s 0 0 (AB B)) (F0 m 104 ls []) := by
  exact loopN_ind (z := z) (body := fun rc σ => g_X11_settlesOthers_104 rc rc_2 σ.1 σ.2.1 σ.2.2.1 σ.2.2.2.1 σ.2.2.2.2.1 σ.2.2.2.2.2.1 σ.2.2.2.2.2.2)
    (P := fun σ => ∀ (H : Heap) (locs : List Loc) (ls : Array Slot), HS D B Y σ.2.2.2.2.2.2 s H locs → lv_has ls 7 [(0, .ref (B + 713)), (1, .int σ.1), (2, .int σ.2.1), (3, .int σ.2.2.1), (4, .int σ.2.2.2.1), (5, .int σ.2.2.2.2.1), (6, .int σ.2.2.2.2.2.1)] → W p l e (RM 1 0 0) s m args below meth c H locs 0 0 (MQ below (QG D B Y none z.2 True) args s 0 0 (AB B)) (F0 m 104 ls []))
    (fun rc hrec σ hf  H locs ls hH hl => tb_X11_settlesOthers_104 C (fun v1 v2 v3 v4 v5 v6 w hr  H locs ls hH hl => hrec (v1, v2, v3, v4, v5, v6, w) hr  H locs ls hH hl) hr_2  hH hl hf) FU (v1, v2, v3, v4, v5, v6, w) hf  H locs ls hH hl
set_option maxRecDepth 100000 in
set_option maxHeartbeats 4000000 in
theorem t_X11_settlesOthers_102 {D : va_G} {B : Nat} {Y : Nat → ClassId} {p : Program} {l : Launch} {e : Env} {s : State} {m : MethodId} {args : Array Value} {below : List Frame} {meth : Method} {c : Code} {z : (Unit × Wd)} {H : Heap} {locs : List Loc} {ls : Array Slot} {w : Wd} {v1 : Int32} {v2 : Int32} {v3 : Int32} {v4 : Int32} {v5 : Int32} {t0 : Int32} (C : CX D B Y p s m args meth c cX11_settlesOthers 7 RX11 none)  {rc_2 : Int32 × Int32 × Int32 × Wd → Option (Unit × Wd)} (hr_2 : ∀ (v1 : Int32) (v2 : Int32) (v3 : Int32) (w : Wd), rc_2 (v1, v2, v3, w) = some z → ∀ (H : Heap) (locs : List Loc) (ls : Array Slot), HS D B Y w s H locs → lv_has ls 7 [(0, .ref (B + 713)), (1, .int v1), (2, .int v2), (3, .int v3)] → W p l e (RM 1 0 0) s m args below meth c H locs 0 0 (MQ below (QG D B Y none z.2 True) args s 0 0 (AB B)) (F0 m 2 ls []))    (hH : HS D B Y w s H locs) (hl : lv_has ls 7 [(0, .ref (B + 713)), (1, .int v1), (2, .int v2), (3, .int v3), (4, .int v4), (5, .int v5)]) (hf : f_X11_settlesOthers_102 rc_2 v1 v2 v3 v4 v5 t0 w = some z) : W p l e (RM 1 0 0) s m args below meth c H locs 0 0 (MQ below (QG D B Y none z.2 True) args s 0 0 (AB B)) (F0 m 102 ls [.int t0]) := by
  have hx := C.1
  have hb := C.2.1
  unfold f_X11_settlesOthers_102 at hf
  refine lv_istore (lv' := [(6, .int t0), (0, .ref (B + 713)), (1, .int v1), (2, .int v2), (3, .int v3), (4, .int v4), (5, .int v5)]) hx hb dX11_settlesOthers_102 hl (by decide) rfl (fun ls hl => ?_)
  exact t_X11_settlesOthers_104 C hr_2 hH (lv_sub hl [1, 2, 3, 4, 5, 6, 0] rfl) hf
set_option maxRecDepth 100000 in
set_option maxHeartbeats 4000000 in
theorem t_X11_settlesOthers_79 {D : va_G} {B : Nat} {Y : Nat → ClassId} {p : Program} {l : Launch} {e : Env} {s : State} {m : MethodId} {args : Array Value} {below : List Frame} {meth : Method} {c : Code} {z : (Unit × Wd)} {H : Heap} {locs : List Loc} {ls : Array Slot} {w : Wd} {v1 : Int32} {v2 : Int32} {v3 : Int32} {v4 : Int32} {t0 : Int32} (C : CX D B Y p s m args meth c cX11_settlesOthers 7 RX11 none)  {rc_2 : Int32 × Int32 × Int32 × Wd → Option (Unit × Wd)} (hr_2 : ∀ (v1 : Int32) (v2 : Int32) (v3 : Int32) (w : Wd), rc_2 (v1, v2, v3, w) = some z → ∀ (H : Heap) (locs : List Loc) (ls : Array Slot), HS D B Y w s H locs → lv_has ls 7 [(0, .ref (B + 713)), (1, .int v1), (2, .int v2), (3, .int v3)] → W p l e (RM 1 0 0) s m args below meth c H locs 0 0 (MQ below (QG D B Y none z.2 True) args s 0 0 (AB B)) (F0 m 2 ls []))    (hH : HS D B Y w s H locs) (hl : lv_has ls 7 [(0, .ref (B + 713)), (1, .int v1), (2, .int v2), (3, .int v3), (4, .int v4)]) (hf : f_X11_settlesOthers_79 rc_2 v1 v2 v3 v4 t0 w = some z) : W p l e (RM 1 0 0) s m args below meth c H locs 0 0 (MQ below (QG D B Y none z.2 True) args s 0 0 (AB B)) (F0 m 79 ls [.int t0]) := by
  have hx := C.1
  have hb := C.2.1
  unfold f_X11_settlesOthers_79 at hf
  refine lv_istore (lv' := [(5, .int t0), (0, .ref (B + 713)), (1, .int v1), (2, .int v2), (3, .int v3), (4, .int v4)]) hx hb dX11_settlesOthers_79 hl (by decide) rfl (fun ls hl => ?_)
  refine lv_iload hx hb dX11_settlesOthers_81 (lv_at hl 5 rfl) ?_
  refine lv_iload_n hx hb dX11_settlesOthers_83 rfl (lv_at hl 2 rfl) ?_
  refine b_icmp_ne (tgt := 91) hx hb hf dX11_settlesOthers_84 (by decide) (fun hf => ?_) (fun hf => ?_)
  · refine lv_aload_n hx hb dX11_settlesOthers_91 rfl (lv_at hl 1 rfl) ?_
    refine lv_aload_n hx hb dX11_settlesOthers_92 rfl (lv_at hl 1 rfl) ?_
    refine fg_X11_61 C hH dX11_settlesOthers_93 ?_
    refine lv_iload hx hb dX11_settlesOthers_96 (lv_at hl 5 rfl) ?_
    refine g_iald C hH kc_731 hf dX11_settlesOthers_98 (fun x1 hf => ?_)
    obtain ⟨x3, w2, hc, hf⟩ := bd_some hf
    refine q_callV1 (v := .int x3) (As := [.int x1]) C hH (ci := 11) rfl (by omega) gk_X11_217 yd_X11_goes (by omega) (by omega) kc_713 (c_X11_goes hc) hl.1 rfl (Nat.le_of_ble_eq_true rfl) dX11_settlesOthers_99 ⟨by decide, by decide⟩ (fun H locs hH hP => ?_)
    exact t_X11_settlesOthers_102 C hr_2 hH (lv_sub hl [1, 2, 3, 4, 5, 0] rfl) hf
  · refine lv_iload_n hx hb dX11_settlesOthers_87 rfl (lv_at hl 3 rfl) ?_
    refine lv_goto (tgt := 102) hx hb dX11_settlesOthers_88 (by decide) ?_
    exact t_X11_settlesOthers_102 C hr_2 hH (lv_sub hl [1, 2, 3, 4, 5, 0] rfl) hf
set_option maxRecDepth 100000 in
set_option maxHeartbeats 4000000 in
theorem t_X11_settlesOthers_59 {D : va_G} {B : Nat} {Y : Nat → ClassId} {p : Program} {l : Launch} {e : Env} {s : State} {m : MethodId} {args : Array Value} {below : List Frame} {meth : Method} {c : Code} {z : (Unit × Wd)} {H : Heap} {locs : List Loc} {ls : Array Slot} {w : Wd} {v1 : Int32} {v2 : Int32} {v3 : Int32} {v4 : Int32} (C : CX D B Y p s m args meth c cX11_settlesOthers 7 RX11 none)  {rc_2 : Int32 × Int32 × Int32 × Wd → Option (Unit × Wd)} (hr_2 : ∀ (v1 : Int32) (v2 : Int32) (v3 : Int32) (w : Wd), rc_2 (v1, v2, v3, w) = some z → ∀ (H : Heap) (locs : List Loc) (ls : Array Slot), HS D B Y w s H locs → lv_has ls 7 [(0, .ref (B + 713)), (1, .int v1), (2, .int v2), (3, .int v3)] → W p l e (RM 1 0 0) s m args below meth c H locs 0 0 (MQ below (QG D B Y none z.2 True) args s 0 0 (AB B)) (F0 m 2 ls []))    (hH : HS D B Y w s H locs) (hl : lv_has ls 7 [(0, .ref (B + 713)), (1, .int v1), (2, .int v2), (3, .int v3), (4, .int v4)]) (hf : f_X11_settlesOthers_59 rc_2 v1 v2 v3 v4 w = some z) : W p l e (RM 1 0 0) s m args below meth c H locs 0 0 (MQ below (QG D B Y none z.2 True) args s 0 0 (AB B)) (F0 m 59 ls []) := by
  have hx := C.1
  have hb := C.2.1
  unfold f_X11_settlesOthers_59 at hf
  refine lv_iload_n hx hb dX11_settlesOthers_59 rfl (lv_at hl 3 rfl) ?_
  refine b_if_ne (tgt := 67) hx hb hf dX11_settlesOthers_60 (by decide) (fun hf => ?_) (fun hf => ?_)
  · refine lv_aload_n hx hb dX11_settlesOthers_67 rfl (lv_at hl 0 rfl) ?_
    refine lv_aload_n hx hb dX11_settlesOthers_68 rfl (lv_at hl 0 rfl) ?_
    refine fg_X11_61 C hH dX11_settlesOthers_69 ?_
    refine lv_iload_n hx hb dX11_settlesOthers_72 rfl (lv_at hl 3 rfl) ?_
    refine lv_iconst (v := (1 : Int32)) hx hb dX11_settlesOthers_73 (by decide) ?_
    refine lv_isub hx hb dX11_settlesOthers_74 ?_
    refine g_iald C hH kc_731 hf dX11_settlesOthers_75 (fun x1 hf => ?_)
    obtain ⟨x3, w2, hc, hf⟩ := bd_some hf
    refine q_callV1 (v := .int x3) (As := [.int x1]) C hH (ci := 11) rfl (by omega) gk_X11_217 yd_X11_goes (by omega) (by omega) kc_713 (c_X11_goes hc) hl.1 rfl (Nat.le_of_ble_eq_true rfl) dX11_settlesOthers_76 ⟨by decide, by decide⟩ (fun H locs hH hP => ?_)
    exact t_X11_settlesOthers_79 C hr_2 hH (lv_sub hl [0, 1, 2, 3, 4] rfl) hf
  · refine lv_iload_n hx hb dX11_settlesOthers_63 rfl (lv_at hl 2 rfl) ?_
    refine lv_goto (tgt := 79) hx hb dX11_settlesOthers_64 (by decide) ?_
    exact t_X11_settlesOthers_79 C hr_2 hH (lv_sub hl [0, 1, 2, 3, 4] rfl) hf
set_option maxRecDepth 100000 in
set_option maxHeartbeats 4000000 in
theorem tb_X11_settlesOthers_31 {D : va_G} {B : Nat} {Y : Nat → ClassId} {p : Program} {l : Launch} {e : Env} {s : State} {m : MethodId} {args : Array Value} {below : List Frame} {meth : Method} {c : Code} {z : (Unit × Wd)} {H : Heap} {locs : List Loc} {ls : Array Slot} {w : Wd} {v1 : Int32} {v2 : Int32} {v3 : Int32} {v4 : Int32} (C : CX D B Y p s m args meth c cX11_settlesOthers 7 RX11 none)  {rc_31 : Int32 × Int32 × Int32 × Int32 × Wd → Option (Unit × Wd)} (hr_31 : ∀ (v1 : Int32) (v2 : Int32) (v3 : Int32) (v4 : Int32) (w : Wd), rc_31 (v1, v2, v3, v4, w) = some z → ∀ (H : Heap) (locs : List Loc) (ls : Array Slot), HS D B Y w s H locs → lv_has ls 7 [(0, .ref (B + 713)), (1, .int v1), (2, .int v2), (3, .int v3), (4, .int v4)] → W p l e (RM 1 0 0) s m args below meth c H locs 0 0 (MQ below (QG D B Y none z.2 True) args s 0 0 (AB B)) (F0 m 31 ls [])) {rc_2 : Int32 × Int32 × Int32 × Wd → Option (Unit × Wd)} (hr_2 : ∀ (v1 : Int32) (v2 : Int32) (v3 : Int32) (w : Wd), rc_2 (v1, v2, v3, w) = some z → ∀ (H : Heap) (locs : List Loc) (ls : Array Slot), HS D B Y w s H locs → lv_has ls 7 [(0, .ref (B + 713)), (1, .int v1), (2, .int v2), (3, .int v3)] → W p l e (RM 1 0 0) s m args below meth c H locs 0 0 (MQ below (QG D B Y none z.2 True) args s 0 0 (AB B)) (F0 m 2 ls []))    (hH : HS D B Y w s H locs) (hl : lv_has ls 7 [(0, .ref (B + 713)), (1, .int v1), (2, .int v2), (3, .int v3), (4, .int v4)]) (hf : g_X11_settlesOthers_31 rc_31 rc_2 v1 v2 v3 v4 w = some z) : W p l e (RM 1 0 0) s m args below meth c H locs 0 0 (MQ below (QG D B Y none z.2 True) args s 0 0 (AB B)) (F0 m 31 ls []) := by
  have hx := C.1
  have hb := C.2.1
  unfold g_X11_settlesOthers_31 at hf
  refine lv_iload hx hb dX11_settlesOthers_31 (lv_at hl 4 rfl) ?_
  refine lv_iload_n hx hb dX11_settlesOthers_33 rfl (lv_at hl 1 rfl) ?_
  refine b_icmp_ge (tgt := 59) hx hb hf dX11_settlesOthers_34 (by decide) (fun hf => ?_) (fun hf => ?_)
  · exact t_X11_settlesOthers_59 C hr_2 hH (lv_sub hl [0, 1, 2, 3, 4] rfl) hf
  · refine lv_aload_n hx hb dX11_settlesOthers_37 rfl (lv_at hl 0 rfl) ?_
    refine fg_X11_40 C hH dX11_settlesOthers_38 ?_
    refine lv_aload_n hx hb dX11_settlesOthers_41 rfl (lv_at hl 0 rfl) ?_
    refine fg_X11_61 C hH dX11_settlesOthers_42 ?_
    refine lv_iload hx hb dX11_settlesOthers_45 (lv_at hl 4 rfl) ?_
    refine g_iald C hH kc_731 hf dX11_settlesOthers_47 (fun x1 hf => ?_)
    refine g_iald C hH kc_724 hf dX11_settlesOthers_48 (fun x2 hf => ?_)
    refine lv_iconst (v := (3 : Int32)) hx hb dX11_settlesOthers_49 (by decide) ?_
    refine b_icmp_ne (tgt := 59) hx hb hf dX11_settlesOthers_50 (by decide) (fun hf => ?_) (fun hf => ?_)
    · exact t_X11_settlesOthers_59 C hr_2 hH (lv_sub hl [0, 1, 2, 3, 4] rfl) hf
    · refine b_let hf (fun x3 he hf => ?_)
      refine lv_iinc (v := x3) (lv' := [(4, .int x3), (0, .ref (B + 713)), (1, .int v1), (2, .int v2), (3, .int v3)]) hx hb dX11_settlesOthers_53 hl (k := 4) rfl (by rw [← he]; rfl) (by decide) rfl (fun ls hl => ?_)
      refine lv_goto (tgt := 31) hx hb dX11_settlesOthers_56 (by decide) ?_
      exact hr_31 v1 v2 v3 x3 w hf _ _ _ hH (lv_sub hl [1, 2, 3, 4, 0] rfl)
set_option maxRecDepth 100000 in
set_option maxHeartbeats 4000000 in
theorem t_X11_settlesOthers_31 {D : va_G} {B : Nat} {Y : Nat → ClassId} {p : Program} {l : Launch} {e : Env} {s : State} {m : MethodId} {args : Array Value} {below : List Frame} {meth : Method} {c : Code} {z : (Unit × Wd)} {H : Heap} {locs : List Loc} {ls : Array Slot} {w : Wd} {v1 : Int32} {v2 : Int32} {v3 : Int32} {v4 : Int32} (C : CX D B Y p s m args meth c cX11_settlesOthers 7 RX11 none)  {rc_2 : Int32 × Int32 × Int32 × Wd → Option (Unit × Wd)} (hr_2 : ∀ (v1 : Int32) (v2 : Int32) (v3 : Int32) (w : Wd), rc_2 (v1, v2, v3, w) = some z → ∀ (H : Heap) (locs : List Loc) (ls : Array Slot), HS D B Y w s H locs → lv_has ls 7 [(0, .ref (B + 713)), (1, .int v1), (2, .int v2), (3, .int v3)] → W p l e (RM 1 0 0) s m args below meth c H locs 0 0 (MQ below (QG D B Y none z.2 True) args s 0 0 (AB B)) (F0 m 2 ls []))    (hH : HS D B Y w s H locs) (hl : lv_has ls 7 [(0, .ref (B + 713)), (1, .int v1), (2, .int v2), (3, .int v3), (4, .int v4)]) (hf : f_X11_settlesOthers_31 rc_2 v1 v2 v3 v4 w = some z) : W p l e (RM 1 0 0) s m args below meth c H locs 0 0 (MQ below (QG D B Y none z.2 True) args s 0 0 (AB B)) (F0 m 31 ls []) := by
  exact loopN_ind (z := z) (body := fun rc σ => g_X11_settlesOthers_31 rc rc_2 σ.1 σ.2.1 σ.2.2.1 σ.2.2.2.1 σ.2.2.2.2)
    (P := fun σ => ∀ (H : Heap) (locs : List Loc) (ls : Array Slot), HS D B Y σ.2.2.2.2 s H locs → lv_has ls 7 [(0, .ref (B + 713)), (1, .int σ.1), (2, .int σ.2.1), (3, .int σ.2.2.1), (4, .int σ.2.2.2.1)] → W p l e (RM 1 0 0) s m args below meth c H locs 0 0 (MQ below (QG D B Y none z.2 True) args s 0 0 (AB B)) (F0 m 31 ls []))
    (fun rc hrec σ hf  H locs ls hH hl => tb_X11_settlesOthers_31 C (fun v1 v2 v3 v4 w hr  H locs ls hH hl => hrec (v1, v2, v3, v4, w) hr  H locs ls hH hl) hr_2  hH hl hf) FU (v1, v2, v3, v4, w) hf  H locs ls hH hl
set_option maxRecDepth 100000 in
set_option maxHeartbeats 4000000 in
theorem tb_X11_settlesOthers_2 {D : va_G} {B : Nat} {Y : Nat → ClassId} {p : Program} {l : Launch} {e : Env} {s : State} {m : MethodId} {args : Array Value} {below : List Frame} {meth : Method} {c : Code} {z : (Unit × Wd)} {H : Heap} {locs : List Loc} {ls : Array Slot} {w : Wd} {v1 : Int32} {v2 : Int32} {v3 : Int32} (C : CX D B Y p s m args meth c cX11_settlesOthers 7 RX11 none)  {rc_2 : Int32 × Int32 × Int32 × Wd → Option (Unit × Wd)} (hr_2 : ∀ (v1 : Int32) (v2 : Int32) (v3 : Int32) (w : Wd), rc_2 (v1, v2, v3, w) = some z → ∀ (H : Heap) (locs : List Loc) (ls : Array Slot), HS D B Y w s H locs → lv_has ls 7 [(0, .ref (B + 713)), (1, .int v1), (2, .int v2), (3, .int v3)] → W p l e (RM 1 0 0) s m args below meth c H locs 0 0 (MQ below (QG D B Y none z.2 True) args s 0 0 (AB B)) (F0 m 2 ls []))    (hH : HS D B Y w s H locs) (hl : lv_has ls 7 [(0, .ref (B + 713)), (1, .int v1), (2, .int v2), (3, .int v3)]) (hf : g_X11_settlesOthers_2 rc_2 v1 v2 v3 w = some z) : W p l e (RM 1 0 0) s m args below meth c H locs 0 0 (MQ below (QG D B Y none z.2 True) args s 0 0 (AB B)) (F0 m 2 ls []) := by
  have hx := C.1
  have hb := C.2.1
  unfold g_X11_settlesOthers_2 at hf
  refine lv_iload_n hx hb dX11_settlesOthers_2 rfl (lv_at hl 3 rfl) ?_
  refine lv_iload_n hx hb dX11_settlesOthers_3 rfl (lv_at hl 1 rfl) ?_
  refine b_icmp_ge (tgt := 143) hx hb hf dX11_settlesOthers_4 (by decide) (fun hf => ?_) (fun hf => ?_)
  · cases hf
    exact q_retv C hH trivial dX11_settlesOthers_143
  · refine lv_aload_n hx hb dX11_settlesOthers_7 rfl (lv_at hl 0 rfl) ?_
    refine fg_X11_40 C hH dX11_settlesOthers_8 ?_
    refine lv_aload_n hx hb dX11_settlesOthers_11 rfl (lv_at hl 0 rfl) ?_
    refine fg_X11_61 C hH dX11_settlesOthers_12 ?_
    refine lv_iload_n hx hb dX11_settlesOthers_15 rfl (lv_at hl 3 rfl) ?_
    refine g_iald C hH kc_731 hf dX11_settlesOthers_16 (fun x1 hf => ?_)
    refine g_iald C hH kc_724 hf dX11_settlesOthers_17 (fun x2 hf => ?_)
    refine lv_iconst (v := (3 : Int32)) hx hb dX11_settlesOthers_18 (by decide) ?_
    refine b_icmp_eq (tgt := 28) hx hb hf dX11_settlesOthers_19 (by decide) (fun hf => ?_) (fun hf => ?_)
    · refine lv_iload_n hx hb dX11_settlesOthers_28 rfl (lv_at hl 3 rfl) ?_
      refine lv_istore (lv' := [(4, .int v3), (0, .ref (B + 713)), (1, .int v1), (2, .int v2), (3, .int v3)]) hx hb dX11_settlesOthers_29 hl (by decide) rfl (fun ls hl => ?_)
      exact t_X11_settlesOthers_31 C hr_2 hH (lv_sub hl [1, 2, 3, 4, 0] rfl) hf
    · refine b_let hf (fun x3 he hf => ?_)
      refine lv_iinc (v := x3) (lv' := [(3, .int x3), (0, .ref (B + 713)), (1, .int v1), (2, .int v2)]) hx hb dX11_settlesOthers_22 hl (k := 3) rfl (by rw [← he]; rfl) (by decide) rfl (fun ls hl => ?_)
      refine lv_goto (tgt := 2) hx hb dX11_settlesOthers_25 (by decide) ?_
      exact hr_2 v1 v2 x3 w hf _ _ _ hH (lv_sub hl [1, 2, 3, 0] rfl)
set_option maxRecDepth 100000 in
set_option maxHeartbeats 4000000 in
theorem t_X11_settlesOthers_2 {D : va_G} {B : Nat} {Y : Nat → ClassId} {p : Program} {l : Launch} {e : Env} {s : State} {m : MethodId} {args : Array Value} {below : List Frame} {meth : Method} {c : Code} {z : (Unit × Wd)} {H : Heap} {locs : List Loc} {ls : Array Slot} {w : Wd} {v1 : Int32} {v2 : Int32} {v3 : Int32} (C : CX D B Y p s m args meth c cX11_settlesOthers 7 RX11 none)     (hH : HS D B Y w s H locs) (hl : lv_has ls 7 [(0, .ref (B + 713)), (1, .int v1), (2, .int v2), (3, .int v3)]) (hf : f_X11_settlesOthers_2 v1 v2 v3 w = some z) : W p l e (RM 1 0 0) s m args below meth c H locs 0 0 (MQ below (QG D B Y none z.2 True) args s 0 0 (AB B)) (F0 m 2 ls []) := by
  exact loopN_ind (z := z) (body := fun rc σ => g_X11_settlesOthers_2 rc  σ.1 σ.2.1 σ.2.2.1 σ.2.2.2)
    (P := fun σ => ∀ (H : Heap) (locs : List Loc) (ls : Array Slot), HS D B Y σ.2.2.2 s H locs → lv_has ls 7 [(0, .ref (B + 713)), (1, .int σ.1), (2, .int σ.2.1), (3, .int σ.2.2.1)] → W p l e (RM 1 0 0) s m args below meth c H locs 0 0 (MQ below (QG D B Y none z.2 True) args s 0 0 (AB B)) (F0 m 2 ls []))
    (fun rc hrec σ hf  H locs ls hH hl => tb_X11_settlesOthers_2 C (fun v1 v2 v3 w hr  H locs ls hH hl => hrec (v1, v2, v3, w) hr  H locs ls hH hl)   hH hl hf) FU (v1, v2, v3, w) hf  H locs ls hH hl
set_option maxRecDepth 100000 in
set_option maxHeartbeats 4000000 in
theorem t_X11_settlesOthers_0 {D : va_G} {B : Nat} {Y : Nat → ClassId} {p : Program} {l : Launch} {e : Env} {s : State} {m : MethodId} {args : Array Value} {below : List Frame} {meth : Method} {c : Code} {z : (Unit × Wd)} {H : Heap} {locs : List Loc} {ls : Array Slot} {w : Wd} {v1 : Int32} {v2 : Int32} (C : CX D B Y p s m args meth c cX11_settlesOthers 7 RX11 none)     (hH : HS D B Y w s H locs) (hl : lv_has ls 7 [(0, .ref (B + 713)), (1, .int v1), (2, .int v2)]) (hf : f_X11_settlesOthers v1 v2 w = some z) : W p l e (RM 1 0 0) s m args below meth c H locs 0 0 (MQ below (QG D B Y none z.2 True) args s 0 0 (AB B)) (F0 m 0 ls []) := by
  have hx := C.1
  have hb := C.2.1
  unfold f_X11_settlesOthers at hf
  refine lv_iconst (v := (0 : Int32)) hx hb dX11_settlesOthers_0 (by decide) ?_
  refine lv_istore_n (lv' := [(3, .int (0 : Int32)), (0, .ref (B + 713)), (1, .int v1), (2, .int v2)]) hx hb dX11_settlesOthers_1 rfl hl (by decide) rfl (fun ls hl => ?_)
  exact t_X11_settlesOthers_2 C hH (lv_sub hl [1, 2, 3, 0] rfl) hf
set_option maxRecDepth 100000 in
theorem c_X11_settlesOthers {l : Launch} {D : va_G} {B : Nat} {Y : Nat → ClassId} {v1 : Int32} {v2 : Int32} {w : Wd} {r : Unit} {w1 : Wd}   (hf : f_X11_settlesOthers v1 v2 w = some (r, w1)) : CM l D B Y yX11_settlesOthers cX11_settlesOthers 7 none 1 [.ref (B + 713), .int v1, .int v2] w none w1 True :=
  CM_of (by decide +kernel) (Nat.le_of_ble_eq_true rfl) (fun p e s m args below meth c ls C hH hl => t_X11_settlesOthers_0 C  hH (lv_sub hl [0, 1, 2] rfl) hf)
/-! LetterTablesModel.laysLevels -/
set_option maxRecDepth 100000 in
set_option maxHeartbeats 4000000 in
theorem t_X11_laysLevels_198 {D : va_G} {B : Nat} {Y : Nat → ClassId} {p : Program} {l : Launch} {e : Env} {s : State} {m : MethodId} {args : Array Value} {below : List Frame} {meth : Method} {c : Code} {z : (Unit × Wd)} {H : Heap} {locs : List Loc} {ls : Array Slot} {w : Wd} {v1 : Int32} {v3 : Int32} {v4 : Int32} {v5 : Int32} {v6 : Int32} {t0 : Nat} {t1 : Int32} {t2 : Int32} {t3 : Int32} (C : CX D B Y p s m args meth c cX11_laysLevels 8 RX11 none)  {rc_141 : Int32 × Int32 × Int32 × Int32 × Int32 × Wd → Option (Unit × Wd)} (hr_141 : ∀ (v1 : Int32) (v3 : Int32) (v4 : Int32) (v5 : Int32) (v6 : Int32) (w : Wd), rc_141 (v1, v3, v4, v5, v6, w) = some z → ∀ (H : Heap) (locs : List Loc) (ls : Array Slot), HS D B Y w s H locs → lv_has ls 8 [(0, .ref (B + 713)), (1, .int v1), (3, .int v3), (4, .int v4), (5, .int v5), (6, .int v6)] → W p l e (RM 4 0 0) s m args below meth c H locs 0 0 (MQ below (QG D B Y none z.2 True) args s 0 0 (AB B)) (F0 m 141 ls []))  (k_t0 : KD t0 = 20)  (hH : HS D B Y w s H locs) (hl : lv_has ls 8 [(0, .ref (B + 713)), (1, .int v1), (3, .int v3), (4, .int v4), (5, .int v5), (6, .int v6)]) (hf : f_X11_laysLevels_198 rc_141 v1 v3 v4 v5 v6 t0 t1 t2 t3 w = some z) : W p l e (RM 4 0 0) s m args below meth c H locs 0 0 (MQ below (QG D B Y none z.2 True) args s 0 0 (AB B)) (F0 m 198 ls [.int t3, .int t2, .int t1, .ref (B + t0)]) := by
  have hx := C.1
  have hb := C.2.1
  unfold f_X11_laysLevels_198 at hf
  refine lv_iadd hx hb dX11_laysLevels_198 ?_
  refine g_iast C hH k_t0 hf dX11_laysLevels_199 (fun w1 H locs hf hH => ?_)
  refine b_let hf (fun x2 he hf => ?_)
  refine lv_iinc (v := x2) (lv' := [(6, .int x2), (0, .ref (B + 713)), (1, .int v1), (3, .int v3), (4, .int v4), (5, .int v5)]) hx hb dX11_laysLevels_200 hl (k := 5) rfl (by rw [← he]; rfl) (by decide) rfl (fun ls hl => ?_)
  refine lv_goto (tgt := 141) hx hb dX11_laysLevels_203 (by decide) ?_
  exact hr_141 v1 v3 v4 v5 x2 w1 hf _ _ _ hH (lv_sub hl [1, 2, 3, 4, 5, 0] rfl)
set_option maxRecDepth 100000 in
set_option maxHeartbeats 4000000 in
theorem tb_X11_laysLevels_141 {D : va_G} {B : Nat} {Y : Nat → ClassId} {p : Program} {l : Launch} {e : Env} {s : State} {m : MethodId} {args : Array Value} {below : List Frame} {meth : Method} {c : Code} {z : (Unit × Wd)} {H : Heap} {locs : List Loc} {ls : Array Slot} {w : Wd} {v1 : Int32} {v3 : Int32} {v4 : Int32} {v5 : Int32} {v6 : Int32} (C : CX D B Y p s m args meth c cX11_laysLevels 8 RX11 none)  {rc_141 : Int32 × Int32 × Int32 × Int32 × Int32 × Wd → Option (Unit × Wd)} (hr_141 : ∀ (v1 : Int32) (v3 : Int32) (v4 : Int32) (v5 : Int32) (v6 : Int32) (w : Wd), rc_141 (v1, v3, v4, v5, v6, w) = some z → ∀ (H : Heap) (locs : List Loc) (ls : Array Slot), HS D B Y w s H locs → lv_has ls 8 [(0, .ref (B + 713)), (1, .int v1), (3, .int v3), (4, .int v4), (5, .int v5), (6, .int v6)] → W p l e (RM 4 0 0) s m args below meth c H locs 0 0 (MQ below (QG D B Y none z.2 True) args s 0 0 (AB B)) (F0 m 141 ls [])) {rc_33 : Int32 × Int32 × Wd → Option (Unit × Wd)} (hr_33 : ∀ (v1 : Int32) (v3 : Int32) (w : Wd), rc_33 (v1, v3, w) = some z → ∀ (H : Heap) (locs : List Loc) (ls : Array Slot), HS D B Y w s H locs → lv_has ls 8 [(0, .ref (B + 713)), (1, .int v1), (3, .int v3)] → W p l e (RM 4 0 0) s m args below meth c H locs 0 0 (MQ below (QG D B Y none z.2 True) args s 0 0 (AB B)) (F0 m 33 ls []))    (hH : HS D B Y w s H locs) (hl : lv_has ls 8 [(0, .ref (B + 713)), (1, .int v1), (3, .int v3), (4, .int v4), (5, .int v5), (6, .int v6)]) (hf : g_X11_laysLevels_141 rc_141 rc_33 v1 v3 v4 v5 v6 w = some z) : W p l e (RM 4 0 0) s m args below meth c H locs 0 0 (MQ below (QG D B Y none z.2 True) args s 0 0 (AB B)) (F0 m 141 ls []) := by
  have hx := C.1
  have hb := C.2.1
  unfold g_X11_laysLevels_141 at hf
  refine lv_iload hx hb dX11_laysLevels_141 (lv_at hl 5 rfl) ?_
  refine lv_iload hx hb dX11_laysLevels_143 (lv_at hl 3 rfl) ?_
  refine b_icmp_ge (tgt := 206) hx hb hf dX11_laysLevels_145 (by decide) (fun hf => ?_) (fun hf => ?_)
  · refine b_let hf (fun x1 he hf => ?_)
    refine lv_iinc (v := x1) (lv' := [(3, .int x1), (0, .ref (B + 713)), (1, .int v1), (4, .int v4), (5, .int v5), (6, .int v6)]) hx hb dX11_laysLevels_206 hl (k := 2) rfl (by rw [← he]; rfl) (by decide) rfl (fun ls hl => ?_)
    refine lv_goto (tgt := 33) hx hb dX11_laysLevels_209 (by decide) ?_
    exact hr_33 v1 x1 w hf _ _ _ hH (lv_sub hl [1, 2, 0] rfl)
  · refine lv_aload_n hx hb dX11_laysLevels_148 rfl (lv_at hl 0 rfl) ?_
    refine fg_X11_40 C hH dX11_laysLevels_149 ?_
    refine lv_aload_n hx hb dX11_laysLevels_152 rfl (lv_at hl 0 rfl) ?_
    refine fg_X11_61 C hH dX11_laysLevels_153 ?_
    refine lv_iload hx hb dX11_laysLevels_156 (lv_at hl 5 rfl) ?_
    refine g_iald C hH kc_731 hf dX11_laysLevels_158 (fun x2 hf => ?_)
    refine g_iald C hH kc_724 hf dX11_laysLevels_159 (fun x3 hf => ?_)
    refine lv_istore (lv' := [(7, .int x3), (0, .ref (B + 713)), (1, .int v1), (3, .int v3), (4, .int v4), (5, .int v5), (6, .int v6)]) hx hb dX11_laysLevels_160 hl (by decide) rfl (fun ls hl => ?_)
    refine lv_aload_n hx hb dX11_laysLevels_162 rfl (lv_at hl 1 rfl) ?_
    refine fg_X11_34 C hH dX11_laysLevels_163 ?_
    refine lv_aload_n hx hb dX11_laysLevels_166 rfl (lv_at hl 1 rfl) ?_
    refine fg_X11_61 C hH dX11_laysLevels_167 ?_
    refine lv_iload hx hb dX11_laysLevels_170 (lv_at hl 6 rfl) ?_
    refine g_iald C hH kc_731 hf dX11_laysLevels_172 (fun x4 hf => ?_)
    refine lv_iload hx hb dX11_laysLevels_173 (lv_at hl 5 rfl) ?_
    refine lv_iload hx hb dX11_laysLevels_175 (lv_at hl 5 rfl) ?_
    refine lv_iconst (v := (2 : Int32)) hx hb dX11_laysLevels_177 (by decide) ?_
    refine lv_irem hx hb dX11_laysLevels_178 (by decide) ?_
    refine b_if_ne (tgt := 187) hx hb hf dX11_laysLevels_179 (by decide) (fun hf => ?_) (fun hf => ?_)
    · refine lv_iload hx hb dX11_laysLevels_187 (lv_at hl 0 rfl) ?_
      refine lv_iconst (v := (1 : Int32)) hx hb dX11_laysLevels_189 (by decide) ?_
      refine b_icmp_ne (tgt := 197) hx hb hf dX11_laysLevels_190 (by decide) (fun hf => ?_) (fun hf => ?_)
      · refine lv_iconst (v := (1 : Int32)) hx hb dX11_laysLevels_197 (by decide) ?_
        exact t_X11_laysLevels_198 C hr_141 kc_722 hH (lv_sub hl [1, 2, 3, 4, 5, 6] rfl) hf
      · refine lv_iconst (v := (0 : Int32)) hx hb dX11_laysLevels_193 (by decide) ?_
        refine lv_goto (tgt := 198) hx hb dX11_laysLevels_194 (by decide) ?_
        exact t_X11_laysLevels_198 C hr_141 kc_722 hH (lv_sub hl [1, 2, 3, 4, 5, 6] rfl) hf
    · refine lv_iload hx hb dX11_laysLevels_182 (lv_at hl 0 rfl) ?_
      refine lv_goto (tgt := 198) hx hb dX11_laysLevels_184 (by decide) ?_
      exact t_X11_laysLevels_198 C hr_141 kc_722 hH (lv_sub hl [1, 2, 3, 4, 5, 6] rfl) hf
set_option maxRecDepth 100000 in
set_option maxHeartbeats 4000000 in
theorem t_X11_laysLevels_141 {D : va_G} {B : Nat} {Y : Nat → ClassId} {p : Program} {l : Launch} {e : Env} {s : State} {m : MethodId} {args : Array Value} {below : List Frame} {meth : Method} {c : Code} {z : (Unit × Wd)} {H : Heap} {locs : List Loc} {ls : Array Slot} {w : Wd} {v1 : Int32} {v3 : Int32} {v4 : Int32} {v5 : Int32} {v6 : Int32} (C : CX D B Y p s m args meth c cX11_laysLevels 8 RX11 none)  {rc_33 : Int32 × Int32 × Wd → Option (Unit × Wd)} (hr_33 : ∀ (v1 : Int32) (v3 : Int32) (w : Wd), rc_33 (v1, v3, w) = some z → ∀ (H : Heap) (locs : List Loc) (ls : Array Slot), HS D B Y w s H locs → lv_has ls 8 [(0, .ref (B + 713)), (1, .int v1), (3, .int v3)] → W p l e (RM 4 0 0) s m args below meth c H locs 0 0 (MQ below (QG D B Y none z.2 True) args s 0 0 (AB B)) (F0 m 33 ls []))    (hH : HS D B Y w s H locs) (hl : lv_has ls 8 [(0, .ref (B + 713)), (1, .int v1), (3, .int v3), (4, .int v4), (5, .int v5), (6, .int v6)]) (hf : f_X11_laysLevels_141 rc_33 v1 v3 v4 v5 v6 w = some z) : W p l e (RM 4 0 0) s m args below meth c H locs 0 0 (MQ below (QG D B Y none z.2 True) args s 0 0 (AB B)) (F0 m 141 ls []) := by
  exact loopN_ind (z := z) (body := fun rc σ => g_X11_laysLevels_141 rc rc_33 σ.1 σ.2.1 σ.2.2.1 σ.2.2.2.1 σ.2.2.2.2.1 σ.2.2.2.2.2)
    (P := fun σ => ∀ (H : Heap) (locs : List Loc) (ls : Array Slot), HS D B Y σ.2.2.2.2.2 s H locs → lv_has ls 8 [(0, .ref (B + 713)), (1, .int σ.1), (3, .int σ.2.1), (4, .int σ.2.2.1), (5, .int σ.2.2.2.1), (6, .int σ.2.2.2.2.1)] → W p l e (RM 4 0 0) s m args below meth c H locs 0 0 (MQ below (QG D B Y none z.2 True) args s 0 0 (AB B)) (F0 m 141 ls []))
    (fun rc hrec σ hf  H locs ls hH hl => tb_X11_laysLevels_141 C (fun v1 v3 v4 v5 v6 w hr  H locs ls hH hl => hrec (v1, v3, v4, v5, v6, w) hr  H locs ls hH hl) hr_33  hH hl hf) FU (v1, v3, v4, v5, v6, w) hf  H locs ls hH hl
set_option maxRecDepth 100000 in
set_option maxHeartbeats 4000000 in
theorem t_X11_laysLevels_93 {D : va_G} {B : Nat} {Y : Nat → ClassId} {p : Program} {l : Launch} {e : Env} {s : State} {m : MethodId} {args : Array Value} {below : List Frame} {meth : Method} {c : Code} {z : (Unit × Wd)} {H : Heap} {locs : List Loc} {ls : Array Slot} {w : Wd} {v1 : Int32} {v3 : Int32} {v5 : Int32} {v6 : Int32} {t0 : Int32} {t1 : Int32} (C : CX D B Y p s m args meth c cX11_laysLevels 8 RX11 none)  {rc_55 : Int32 × Int32 × Int32 × Int32 × Int32 × Wd → Option (Unit × Wd)} (hr_55 : ∀ (v1 : Int32) (v3 : Int32) (v4 : Int32) (v5 : Int32) (v6 : Int32) (w : Wd), rc_55 (v1, v3, v4, v5, v6, w) = some z → ∀ (H : Heap) (locs : List Loc) (ls : Array Slot), HS D B Y w s H locs → lv_has ls 8 [(0, .ref (B + 713)), (1, .int v1), (3, .int v3), (4, .int v4), (5, .int v5), (6, .int v6)] → W p l e (RM 4 0 0) s m args below meth c H locs 0 0 (MQ below (QG D B Y none z.2 True) args s 0 0 (AB B)) (F0 m 55 ls []))   (z_t1 : isZ t1) (hH : HS D B Y w s H locs) (hl : lv_has ls 8 [(0, .ref (B + 713)), (1, .int v1), (3, .int v3), (5, .int v5), (6, .int v6)]) (hf : f_X11_laysLevels_93 rc_55 v1 v3 v5 v6 t0 t1 w = some z) : W p l e (RM 4 0 0) s m args below meth c H locs 0 0 (MQ below (QG D B Y none z.2 True) args s 0 0 (AB B)) (F0 m 93 ls [.int t1, .int t0]) := by
  have hx := C.1
  have hb := C.2.1
  unfold f_X11_laysLevels_93 at hf
  refine lv_iadd hx hb dX11_laysLevels_93 ?_
  refine b_leti hf (fun x1 hf => ?_)
  refine lv_istore (lv' := [(4, .int x1), (0, .ref (B + 713)), (1, .int v1), (3, .int v3), (5, .int v5), (6, .int v6)]) hx hb dX11_laysLevels_94 hl (by decide) rfl (fun ls hl => ?_)
  refine b_let hf (fun x2 he hf => ?_)
  refine lv_iinc (v := x2) (lv' := [(6, .int x2), (4, .int x1), (0, .ref (B + 713)), (1, .int v1), (3, .int v3), (5, .int v5)]) hx hb dX11_laysLevels_96 hl (k := 5) rfl (by rw [← he]; rfl) (by decide) rfl (fun ls hl => ?_)
  refine lv_goto (tgt := 55) hx hb dX11_laysLevels_99 (by decide) ?_
  exact hr_55 v1 v3 x1 v5 x2 w hf _ _ _ hH (lv_sub hl [2, 3, 4, 1, 5, 0] rfl)
set_option maxRecDepth 100000 in
set_option maxHeartbeats 4000000 in
theorem tb_X11_laysLevels_55 {D : va_G} {B : Nat} {Y : Nat → ClassId} {p : Program} {l : Launch} {e : Env} {s : State} {m : MethodId} {args : Array Value} {below : List Frame} {meth : Method} {c : Code} {z : (Unit × Wd)} {H : Heap} {locs : List Loc} {ls : Array Slot} {w : Wd} {v1 : Int32} {v3 : Int32} {v4 : Int32} {v5 : Int32} {v6 : Int32} (C : CX D B Y p s m args meth c cX11_laysLevels 8 RX11 none)  {rc_55 : Int32 × Int32 × Int32 × Int32 × Int32 × Wd → Option (Unit × Wd)} (hr_55 : ∀ (v1 : Int32) (v3 : Int32) (v4 : Int32) (v5 : Int32) (v6 : Int32) (w : Wd), rc_55 (v1, v3, v4, v5, v6, w) = some z → ∀ (H : Heap) (locs : List Loc) (ls : Array Slot), HS D B Y w s H locs → lv_has ls 8 [(0, .ref (B + 713)), (1, .int v1), (3, .int v3), (4, .int v4), (5, .int v5), (6, .int v6)] → W p l e (RM 4 0 0) s m args below meth c H locs 0 0 (MQ below (QG D B Y none z.2 True) args s 0 0 (AB B)) (F0 m 55 ls [])) {rc_33 : Int32 × Int32 × Wd → Option (Unit × Wd)} (hr_33 : ∀ (v1 : Int32) (v3 : Int32) (w : Wd), rc_33 (v1, v3, w) = some z → ∀ (H : Heap) (locs : List Loc) (ls : Array Slot), HS D B Y w s H locs → lv_has ls 8 [(0, .ref (B + 713)), (1, .int v1), (3, .int v3)] → W p l e (RM 4 0 0) s m args below meth c H locs 0 0 (MQ below (QG D B Y none z.2 True) args s 0 0 (AB B)) (F0 m 33 ls []))    (hH : HS D B Y w s H locs) (hl : lv_has ls 8 [(0, .ref (B + 713)), (1, .int v1), (3, .int v3), (4, .int v4), (5, .int v5), (6, .int v6)]) (hf : g_X11_laysLevels_55 rc_55 rc_33 v1 v3 v4 v5 v6 w = some z) : W p l e (RM 4 0 0) s m args below meth c H locs 0 0 (MQ below (QG D B Y none z.2 True) args s 0 0 (AB B)) (F0 m 55 ls []) := by
  have hx := C.1
  have hb := C.2.1
  unfold g_X11_laysLevels_55 at hf
  refine lv_iload hx hb dX11_laysLevels_55 (lv_at hl 5 rfl) ?_
  refine lv_aload_n hx hb dX11_laysLevels_57 rfl (lv_at hl 0 rfl) ?_
  refine fg_X11_19 C hH dX11_laysLevels_58 ?_
  refine lv_iload_n hx hb dX11_laysLevels_61 rfl (lv_at hl 1 rfl) ?_
  refine g_iald C hH kc_717 hf dX11_laysLevels_62 (fun x1 hf => ?_)
  refine b_icmp_ge (tgt := 102) hx hb hf dX11_laysLevels_63 (by decide) (fun hf => ?_) (fun hf => ?_)
  · refine lv_aload_n hx hb dX11_laysLevels_102 rfl (lv_at hl 0 rfl) ?_
    refine lv_iload_n hx hb dX11_laysLevels_103 rfl (lv_at hl 1 rfl) ?_
    refine lv_iload hx hb dX11_laysLevels_104 (lv_at hl 3 rfl) ?_
    refine lv_iload hx hb dX11_laysLevels_106 (lv_at hl 4 rfl) ?_
    obtain ⟨u, w2, hc, hf⟩ := bd_some hf
    refine q_callV0 (As := [.int v1, .int v4, .int v5]) C hH (ci := 11) rfl (by omega) gk_X11_228 yd_X11_laysNumbers (by omega) (by omega) kc_713 (c_X11_laysNumbers hc) hl.1 rfl (Nat.le_of_ble_eq_true rfl) dX11_laysLevels_108 ⟨by decide, by decide⟩ (fun H locs hH hP => ?_)
    refine lv_aload_n hx hb dX11_laysLevels_111 rfl (lv_at hl 0 rfl) ?_
    refine lv_iload_n hx hb dX11_laysLevels_112 rfl (lv_at hl 1 rfl) ?_
    refine lv_iload hx hb dX11_laysLevels_113 (lv_at hl 3 rfl) ?_
    obtain ⟨u, w3, hc, hf⟩ := bd_some hf
    refine q_callV0 (As := [.int v1, .int v4]) C hH (ci := 11) rfl (by omega) gk_X11_231 yd_X11_laysPartners (by omega) (by omega) kc_713 (c_X11_laysPartners hc) hl.1 rfl (Nat.le_of_ble_eq_true rfl) dX11_laysLevels_115 ⟨by decide, by decide⟩ (fun H locs hH hP => ?_)
    refine lv_aload_n hx hb dX11_laysLevels_118 rfl (lv_at hl 0 rfl) ?_
    refine lv_iload hx hb dX11_laysLevels_119 (lv_at hl 3 rfl) ?_
    refine lv_iload hx hb dX11_laysLevels_121 (lv_at hl 4 rfl) ?_
    refine lv_iconst (v := (2 : Int32)) hx hb dX11_laysLevels_123 (by decide) ?_
    refine lv_irem hx hb dX11_laysLevels_124 (by decide) ?_
    obtain ⟨u, w4, hc, hf⟩ := bd_some hf
    refine q_callV0 (As := [.int v4, .int (v5 - v5 / (2 : Int32) * (2 : Int32))]) C hH (ci := 11) rfl (by omega) gk_X11_234 yd_X11_settlesPartners (by omega) (by omega) kc_713 (c_X11_settlesPartners hc) hl.1 rfl (Nat.le_of_ble_eq_true rfl) dX11_laysLevels_125 ⟨by decide, by decide⟩ (fun H locs hH hP => ?_)
    refine lv_aload_n hx hb dX11_laysLevels_128 rfl (lv_at hl 0 rfl) ?_
    refine lv_iload hx hb dX11_laysLevels_129 (lv_at hl 3 rfl) ?_
    refine lv_iload hx hb dX11_laysLevels_131 (lv_at hl 4 rfl) ?_
    refine lv_iconst (v := (2 : Int32)) hx hb dX11_laysLevels_133 (by decide) ?_
    refine lv_irem hx hb dX11_laysLevels_134 (by decide) ?_
    obtain ⟨u, w5, hc, hf⟩ := bd_some hf
    refine q_callV0 (As := [.int v4, .int (v5 - v5 / (2 : Int32) * (2 : Int32))]) C hH (ci := 11) rfl (by omega) gk_X11_237 yd_X11_settlesOthers (by omega) (by omega) kc_713 (c_X11_settlesOthers hc) hl.1 rfl (Nat.le_of_ble_eq_true rfl) dX11_laysLevels_135 ⟨by decide, by decide⟩ (fun H locs hH hP => ?_)
    refine lv_iconst (v := (0 : Int32)) hx hb dX11_laysLevels_138 (by decide) ?_
    refine lv_istore (lv' := [(6, .int (0 : Int32)), (0, .ref (B + 713)), (1, .int v1), (3, .int v3), (4, .int v4), (5, .int v5)]) hx hb dX11_laysLevels_139 hl (by decide) rfl (fun ls hl => ?_)
    exact t_X11_laysLevels_141 C hr_33 hH (lv_sub hl [1, 2, 3, 4, 5, 0] rfl) hf
  · refine lv_aload_n hx hb dX11_laysLevels_66 rfl (lv_at hl 0 rfl) ?_
    refine fg_X11_61 C hH dX11_laysLevels_67 ?_
    refine lv_iload hx hb dX11_laysLevels_70 (lv_at hl 3 rfl) ?_
    refine lv_iload hx hb dX11_laysLevels_72 (lv_at hl 5 rfl) ?_
    refine g_iast C hH kc_731 hf dX11_laysLevels_74 (fun w6 H locs hf hH => ?_)
    refine lv_iload hx hb dX11_laysLevels_75 (lv_at hl 3 rfl) ?_
    refine lv_aload_n hx hb dX11_laysLevels_77 rfl (lv_at hl 0 rfl) ?_
    refine fg_X11_37 C hH dX11_laysLevels_78 ?_
    refine lv_iload hx hb dX11_laysLevels_81 (lv_at hl 5 rfl) ?_
    refine g_iald C hH kc_723 hf dX11_laysLevels_83 (fun x7 hf => ?_)
    refine lv_iload_n hx hb dX11_laysLevels_84 rfl (lv_at hl 2 rfl) ?_
    refine b_icmp_ne (tgt := 92) hx hb hf dX11_laysLevels_85 (by decide) (fun hf => ?_) (fun hf => ?_)
    · refine lv_iconst (v := (0 : Int32)) hx hb dX11_laysLevels_92 (by decide) ?_
      exact t_X11_laysLevels_93 C hr_55 isZ_0 hH (lv_sub hl [0, 1, 2, 4, 5] rfl) hf
    · refine lv_iconst (v := (1 : Int32)) hx hb dX11_laysLevels_88 (by decide) ?_
      refine lv_goto (tgt := 93) hx hb dX11_laysLevels_89 (by decide) ?_
      exact t_X11_laysLevels_93 C hr_55 isZ_1 hH (lv_sub hl [0, 1, 2, 4, 5] rfl) hf
set_option maxRecDepth 100000 in
set_option maxHeartbeats 4000000 in
theorem t_X11_laysLevels_55 {D : va_G} {B : Nat} {Y : Nat → ClassId} {p : Program} {l : Launch} {e : Env} {s : State} {m : MethodId} {args : Array Value} {below : List Frame} {meth : Method} {c : Code} {z : (Unit × Wd)} {H : Heap} {locs : List Loc} {ls : Array Slot} {w : Wd} {v1 : Int32} {v3 : Int32} {v4 : Int32} {v5 : Int32} {v6 : Int32} (C : CX D B Y p s m args meth c cX11_laysLevels 8 RX11 none)  {rc_33 : Int32 × Int32 × Wd → Option (Unit × Wd)} (hr_33 : ∀ (v1 : Int32) (v3 : Int32) (w : Wd), rc_33 (v1, v3, w) = some z → ∀ (H : Heap) (locs : List Loc) (ls : Array Slot), HS D B Y w s H locs → lv_has ls 8 [(0, .ref (B + 713)), (1, .int v1), (3, .int v3)] → W p l e (RM 4 0 0) s m args below meth c H locs 0 0 (MQ below (QG D B Y none z.2 True) args s 0 0 (AB B)) (F0 m 33 ls []))    (hH : HS D B Y w s H locs) (hl : lv_has ls 8 [(0, .ref (B + 713)), (1, .int v1), (3, .int v3), (4, .int v4), (5, .int v5), (6, .int v6)]) (hf : f_X11_laysLevels_55 rc_33 v1 v3 v4 v5 v6 w = some z) : W p l e (RM 4 0 0) s m args below meth c H locs 0 0 (MQ below (QG D B Y none z.2 True) args s 0 0 (AB B)) (F0 m 55 ls []) := by
  exact loopN_ind (z := z) (body := fun rc σ => g_X11_laysLevels_55 rc rc_33 σ.1 σ.2.1 σ.2.2.1 σ.2.2.2.1 σ.2.2.2.2.1 σ.2.2.2.2.2)
    (P := fun σ => ∀ (H : Heap) (locs : List Loc) (ls : Array Slot), HS D B Y σ.2.2.2.2.2 s H locs → lv_has ls 8 [(0, .ref (B + 713)), (1, .int σ.1), (3, .int σ.2.1), (4, .int σ.2.2.1), (5, .int σ.2.2.2.1), (6, .int σ.2.2.2.2.1)] → W p l e (RM 4 0 0) s m args below meth c H locs 0 0 (MQ below (QG D B Y none z.2 True) args s 0 0 (AB B)) (F0 m 55 ls []))
    (fun rc hrec σ hf  H locs ls hH hl => tb_X11_laysLevels_55 C (fun v1 v3 v4 v5 v6 w hr  H locs ls hH hl => hrec (v1, v3, v4, v5, v6, w) hr  H locs ls hH hl) hr_33  hH hl hf) FU (v1, v3, v4, v5, v6, w) hf  H locs ls hH hl
set_option maxRecDepth 100000 in
set_option maxHeartbeats 4000000 in
theorem tb_X11_laysLevels_33 {D : va_G} {B : Nat} {Y : Nat → ClassId} {p : Program} {l : Launch} {e : Env} {s : State} {m : MethodId} {args : Array Value} {below : List Frame} {meth : Method} {c : Code} {z : (Unit × Wd)} {H : Heap} {locs : List Loc} {ls : Array Slot} {w : Wd} {v1 : Int32} {v3 : Int32} (C : CX D B Y p s m args meth c cX11_laysLevels 8 RX11 none)  {rc_33 : Int32 × Int32 × Wd → Option (Unit × Wd)} (hr_33 : ∀ (v1 : Int32) (v3 : Int32) (w : Wd), rc_33 (v1, v3, w) = some z → ∀ (H : Heap) (locs : List Loc) (ls : Array Slot), HS D B Y w s H locs → lv_has ls 8 [(0, .ref (B + 713)), (1, .int v1), (3, .int v3)] → W p l e (RM 4 0 0) s m args below meth c H locs 0 0 (MQ below (QG D B Y none z.2 True) args s 0 0 (AB B)) (F0 m 33 ls []))    (hH : HS D B Y w s H locs) (hl : lv_has ls 8 [(0, .ref (B + 713)), (1, .int v1), (3, .int v3)]) (hf : g_X11_laysLevels_33 rc_33 v1 v3 w = some z) : W p l e (RM 4 0 0) s m args below meth c H locs 0 0 (MQ below (QG D B Y none z.2 True) args s 0 0 (AB B)) (F0 m 33 ls []) := by
  have hx := C.1
  have hb := C.2.1
  unfold g_X11_laysLevels_33 at hf
  refine lv_iload_n hx hb dX11_laysLevels_33 rfl (lv_at hl 2 rfl) ?_
  refine lv_aload_n hx hb dX11_laysLevels_34 rfl (lv_at hl 0 rfl) ?_
  refine fg_X11_207 C hH dX11_laysLevels_35 ?_
  refine b_icmp_ge (tgt := 212) hx hb hf dX11_laysLevels_38 (by decide) (fun hf => ?_) (fun hf => ?_)
  · cases hf
    exact q_retv C hH trivial dX11_laysLevels_212
  · refine lv_iconst (v := (0 : Int32)) hx hb dX11_laysLevels_41 (by decide) ?_
    refine lv_istore (lv' := [(4, .int (0 : Int32)), (0, .ref (B + 713)), (1, .int v1), (3, .int v3)]) hx hb dX11_laysLevels_42 hl (by decide) rfl (fun ls hl => ?_)
    refine lv_aload_n hx hb dX11_laysLevels_44 rfl (lv_at hl 1 rfl) ?_
    refine fg_X11_52 C hH dX11_laysLevels_45 ?_
    refine lv_iload_n hx hb dX11_laysLevels_48 rfl (lv_at hl 3 rfl) ?_
    refine g_iald C hH kc_728 hf dX11_laysLevels_49 (fun x1 hf => ?_)
    refine lv_istore (lv' := [(5, .int x1), (4, .int (0 : Int32)), (0, .ref (B + 713)), (1, .int v1), (3, .int v3)]) hx hb dX11_laysLevels_50 hl (by decide) rfl (fun ls hl => ?_)
    refine lv_iconst (v := (0 : Int32)) hx hb dX11_laysLevels_52 (by decide) ?_
    refine lv_istore (lv' := [(6, .int (0 : Int32)), (5, .int x1), (4, .int (0 : Int32)), (0, .ref (B + 713)), (1, .int v1), (3, .int v3)]) hx hb dX11_laysLevels_53 hl (by decide) rfl (fun ls hl => ?_)
    exact t_X11_laysLevels_55 C hr_33 hH (lv_sub hl [3, 4, 5, 2, 1, 0] rfl) hf
set_option maxRecDepth 100000 in
set_option maxHeartbeats 4000000 in
theorem t_X11_laysLevels_33 {D : va_G} {B : Nat} {Y : Nat → ClassId} {p : Program} {l : Launch} {e : Env} {s : State} {m : MethodId} {args : Array Value} {below : List Frame} {meth : Method} {c : Code} {z : (Unit × Wd)} {H : Heap} {locs : List Loc} {ls : Array Slot} {w : Wd} {v1 : Int32} {v3 : Int32} (C : CX D B Y p s m args meth c cX11_laysLevels 8 RX11 none)     (hH : HS D B Y w s H locs) (hl : lv_has ls 8 [(0, .ref (B + 713)), (1, .int v1), (3, .int v3)]) (hf : f_X11_laysLevels_33 v1 v3 w = some z) : W p l e (RM 4 0 0) s m args below meth c H locs 0 0 (MQ below (QG D B Y none z.2 True) args s 0 0 (AB B)) (F0 m 33 ls []) := by
  exact loopN_ind (z := z) (body := fun rc σ => g_X11_laysLevels_33 rc  σ.1 σ.2.1 σ.2.2)
    (P := fun σ => ∀ (H : Heap) (locs : List Loc) (ls : Array Slot), HS D B Y σ.2.2 s H locs → lv_has ls 8 [(0, .ref (B + 713)), (1, .int σ.1), (3, .int σ.2.1)] → W p l e (RM 4 0 0) s m args below meth c H locs 0 0 (MQ below (QG D B Y none z.2 True) args s 0 0 (AB B)) (F0 m 33 ls []))
    (fun rc hrec σ hf  H locs ls hH hl => tb_X11_laysLevels_33 C (fun v1 v3 w hr  H locs ls hH hl => hrec (v1, v3, w) hr  H locs ls hH hl)   hH hl hf) FU (v1, v3, w) hf  H locs ls hH hl
set_option maxRecDepth 100000 in
set_option maxHeartbeats 4000000 in
theorem t_X11_laysLevels_28 {D : va_G} {B : Nat} {Y : Nat → ClassId} {p : Program} {l : Launch} {e : Env} {s : State} {m : MethodId} {args : Array Value} {below : List Frame} {meth : Method} {c : Code} {z : (Unit × Wd)} {H : Heap} {locs : List Loc} {ls : Array Slot} {w : Wd} {v1 : Int32} {t1 : Int32} {t2 : Int32} (C : CX D B Y p s m args meth c cX11_laysLevels 8 RX11 none)     (hH : HS D B Y w s H locs) (hl : lv_has ls 8 [(0, .ref (B + 713)), (1, .int v1)]) (hf : f_X11_laysLevels_28 v1 t1 t2 w = some z) : W p l e (RM 4 0 0) s m args below meth c H locs 0 0 (MQ below (QG D B Y none z.2 True) args s 0 0 (AB B)) (F0 m 28 ls [.int t2, .int t1, .ref (B + 713)]) := by
  have hx := C.1
  have hb := C.2.1
  unfold f_X11_laysLevels_28 at hf
  obtain ⟨u, w1, hc, hf⟩ := bd_some hf
  refine q_callV0 (As := [.int t1, .int t2]) C hH (ci := 11) rfl (by omega) gk_X11_224 yd_X11_laysFrames (by omega) (by omega) kc_713 (c_X11_laysFrames hc) hl.1 rfl (Nat.le_of_ble_eq_true rfl) dX11_laysLevels_28 ⟨by decide, by decide⟩ (fun H locs hH hP => ?_)
  refine lv_iconst (v := (0 : Int32)) hx hb dX11_laysLevels_31 (by decide) ?_
  refine lv_istore_n (lv' := [(3, .int (0 : Int32)), (0, .ref (B + 713)), (1, .int v1)]) hx hb dX11_laysLevels_32 rfl hl (by decide) rfl (fun ls hl => ?_)
  exact t_X11_laysLevels_33 C hH (lv_sub hl [1, 2, 0] rfl) hf
set_option maxRecDepth 100000 in
set_option maxHeartbeats 4000000 in
theorem t_X11_laysLevels_0 {D : va_G} {B : Nat} {Y : Nat → ClassId} {p : Program} {l : Launch} {e : Env} {s : State} {m : MethodId} {args : Array Value} {below : List Frame} {meth : Method} {c : Code} {z : (Unit × Wd)} {H : Heap} {locs : List Loc} {ls : Array Slot} {w : Wd} {v1 : Int32} {v2 : Int32} (C : CX D B Y p s m args meth c cX11_laysLevels 8 RX11 none)     (hH : HS D B Y w s H locs) (hl : lv_has ls 8 [(0, .ref (B + 713)), (1, .int v1), (2, .int v2)]) (hf : f_X11_laysLevels v1 v2 w = some z) : W p l e (RM 4 0 0) s m args below meth c H locs 0 0 (MQ below (QG D B Y none z.2 True) args s 0 0 (AB B)) (F0 m 0 ls []) := by
  have hx := C.1
  have hb := C.2.1
  unfold f_X11_laysLevels at hf
  refine lv_aload_n hx hb dX11_laysLevels_0 rfl (lv_at hl 0 rfl) ?_
  refine lv_iload_n hx hb dX11_laysLevels_1 rfl (lv_at hl 1 rfl) ?_
  obtain ⟨u, w1, hc, hf⟩ := bd_some hf
  refine q_callV0 (As := [.int v1]) C hH (ci := 11) rfl (by omega) gk_X11_221 yd_X11_closesIsolates (by omega) (by omega) kc_713 (c_X11_closesIsolates hc) hl.1 rfl (Nat.le_of_ble_eq_true rfl) dX11_laysLevels_2 ⟨by decide, by decide⟩ (fun H locs hH hP => ?_)
  refine lv_aload_n hx hb dX11_laysLevels_5 rfl (lv_at hl 0 rfl) ?_
  refine lv_iload_n hx hb dX11_laysLevels_6 rfl (lv_at hl 1 rfl) ?_
  refine lv_iload_n hx hb dX11_laysLevels_7 rfl (lv_at hl 2 rfl) ?_
  refine lv_iconst (v := (-1 : Int32)) hx hb dX11_laysLevels_8 (by decide) ?_
  refine b_icmp_ne (tgt := 27) hx hb hf dX11_laysLevels_9 (by decide) (fun hf => ?_) (fun hf => ?_)
  · refine lv_iload_n hx hb dX11_laysLevels_27 rfl (lv_at hl 2 rfl) ?_
    exact t_X11_laysLevels_28 C hH (lv_sub hl [0, 1] rfl) hf
  · refine lv_aload_n hx hb dX11_laysLevels_12 rfl (lv_at hl 0 rfl) ?_
    refine lv_iload_n hx hb dX11_laysLevels_13 rfl (lv_at hl 1 rfl) ?_
    refine lv_iconst (v := (0 : Int32)) hx hb dX11_laysLevels_14 (by decide) ?_
    refine lv_aload_n hx hb dX11_laysLevels_15 rfl (lv_at hl 0 rfl) ?_
    refine fg_X11_19 C hH dX11_laysLevels_16 ?_
    refine lv_iload_n hx hb dX11_laysLevels_19 rfl (lv_at hl 1 rfl) ?_
    refine g_iald C hH kc_717 hf dX11_laysLevels_20 (fun x2 hf => ?_)
    obtain ⟨x4, w3, hc, hf⟩ := bd_some hf
    refine q_callV1 (v := .int x4) (As := [.int v1, .int (0 : Int32), .int x2]) C hH (ci := 11) rfl (by omega) gk_X11_214 yd_X11_baseOf (by omega) (by omega) kc_713 (c_X11_baseOf hc) hl.1 rfl (Nat.le_of_ble_eq_true rfl) dX11_laysLevels_21 ⟨by decide, by decide⟩ (fun H locs hH hP => ?_)
    refine lv_goto (tgt := 28) hx hb dX11_laysLevels_24 (by decide) ?_
    exact t_X11_laysLevels_28 C hH (lv_sub hl [0, 1] rfl) hf
set_option maxRecDepth 100000 in
theorem c_X11_laysLevels {l : Launch} {D : va_G} {B : Nat} {Y : Nat → ClassId} {v1 : Int32} {v2 : Int32} {w : Wd} {r : Unit} {w1 : Wd}   (hf : f_X11_laysLevels v1 v2 w = some (r, w1)) : CM l D B Y yX11_laysLevels cX11_laysLevels 8 none 4 [.ref (B + 713), .int v1, .int v2] w none w1 True :=
  CM_of (by decide +kernel) (Nat.le_of_ble_eq_true rfl) (fun p e s m args below meth c ls C hH hl => t_X11_laysLevels_0 C  hH (lv_sub hl [0, 1, 2] rfl) hf)
/-! LetterTablesModel.laysOrder -/
set_option maxRecDepth 100000 in
set_option maxHeartbeats 4000000 in
theorem tb_X11_laysOrder_92 {D : va_G} {B : Nat} {Y : Nat → ClassId} {p : Program} {l : Launch} {e : Env} {s : State} {m : MethodId} {args : Array Value} {below : List Frame} {meth : Method} {c : Code} {z : (Unit × Wd)} {H : Heap} {locs : List Loc} {ls : Array Slot} {w : Wd} {v1 : Int32} {v3 : Int32} {v4 : Int32} {v5 : Int32} {v6 : Int32} (C : CX D B Y p s m args meth c cX11_laysOrder 8 RX11 none)  {rc_92 : Int32 × Int32 × Int32 × Int32 × Int32 × Wd → Option (Unit × Wd)} (hr_92 : ∀ (v1 : Int32) (v3 : Int32) (v4 : Int32) (v5 : Int32) (v6 : Int32) (w : Wd), rc_92 (v1, v3, v4, v5, v6, w) = some z → ∀ (H : Heap) (locs : List Loc) (ls : Array Slot), HS D B Y w s H locs → lv_has ls 8 [(0, .ref (B + 713)), (1, .int v1), (3, .int v3), (4, .int v4), (5, .int v5), (6, .int v6)] → W p l e (RM 5 0 0) s m args below meth c H locs 0 0 (MQ below (QG D B Y none z.2 True) args s 0 0 (AB B)) (F0 m 92 ls [])) {rc_41 : Int32 × Int32 × Int32 × Wd → Option (Unit × Wd)} (hr_41 : ∀ (v1 : Int32) (v3 : Int32) (v4 : Int32) (w : Wd), rc_41 (v1, v3, v4, w) = some z → ∀ (H : Heap) (locs : List Loc) (ls : Array Slot), HS D B Y w s H locs → lv_has ls 8 [(0, .ref (B + 713)), (1, .int v1), (3, .int v3), (4, .int v4)] → W p l e (RM 5 0 0) s m args below meth c H locs 0 0 (MQ below (QG D B Y none z.2 True) args s 0 0 (AB B)) (F0 m 41 ls []))    (hH : HS D B Y w s H locs) (hl : lv_has ls 8 [(0, .ref (B + 713)), (1, .int v1), (3, .int v3), (4, .int v4), (5, .int v5), (6, .int v6)]) (hf : g_X11_laysOrder_92 rc_92 rc_41 v1 v3 v4 v5 v6 w = some z) : W p l e (RM 5 0 0) s m args below meth c H locs 0 0 (MQ below (QG D B Y none z.2 True) args s 0 0 (AB B)) (F0 m 92 ls []) := by
  have hx := C.1
  have hb := C.2.1
  unfold g_X11_laysOrder_92 at hf
  refine lv_iload hx hb dX11_laysOrder_92 (lv_at hl 5 rfl) ?_
  refine lv_iload hx hb dX11_laysOrder_94 (lv_at hl 4 rfl) ?_
  refine lv_iload hx hb dX11_laysOrder_96 (lv_at hl 3 rfl) ?_
  refine lv_isub hx hb dX11_laysOrder_98 ?_
  refine lv_iconst (v := (2 : Int32)) hx hb dX11_laysOrder_99 (by decide) ?_
  refine lv_idiv hx hb dX11_laysOrder_100 (by decide) ?_
  refine b_icmp_ge (tgt := 158) hx hb hf dX11_laysOrder_101 (by decide) (fun hf => ?_) (fun hf => ?_)
  · refine lv_iload hx hb dX11_laysOrder_158 (lv_at hl 4 rfl) ?_
    refine lv_iconst (v := (1 : Int32)) hx hb dX11_laysOrder_160 (by decide) ?_
    refine lv_iadd hx hb dX11_laysOrder_161 ?_
    refine b_leti hf (fun x1 hf => ?_)
    refine lv_istore (lv' := [(4, .int x1), (0, .ref (B + 713)), (1, .int v1), (3, .int v3), (5, .int v5), (6, .int v6)]) hx hb dX11_laysOrder_162 hl (by decide) rfl (fun ls hl => ?_)
    refine lv_goto (tgt := 41) hx hb dX11_laysOrder_164 (by decide) ?_
    exact hr_41 v1 v3 x1 w hf _ _ _ hH (lv_sub hl [1, 2, 3, 0] rfl)
  · refine lv_aload_n hx hb dX11_laysOrder_104 rfl (lv_at hl 0 rfl) ?_
    refine fg_X11_64 C hH dX11_laysOrder_105 ?_
    refine lv_iload hx hb dX11_laysOrder_108 (lv_at hl 3 rfl) ?_
    refine lv_iload hx hb dX11_laysOrder_110 (lv_at hl 5 rfl) ?_
    refine lv_iadd hx hb dX11_laysOrder_112 ?_
    refine g_iald C hH kc_732 hf dX11_laysOrder_113 (fun x2 hf => ?_)
    refine lv_istore (lv' := [(7, .int x2), (0, .ref (B + 713)), (1, .int v1), (3, .int v3), (4, .int v4), (5, .int v5), (6, .int v6)]) hx hb dX11_laysOrder_114 hl (by decide) rfl (fun ls hl => ?_)
    refine lv_aload_n hx hb dX11_laysOrder_116 rfl (lv_at hl 1 rfl) ?_
    refine fg_X11_64 C hH dX11_laysOrder_117 ?_
    refine lv_iload hx hb dX11_laysOrder_120 (lv_at hl 4 rfl) ?_
    refine lv_iload hx hb dX11_laysOrder_122 (lv_at hl 6 rfl) ?_
    refine lv_iadd hx hb dX11_laysOrder_124 ?_
    refine lv_aload_n hx hb dX11_laysOrder_125 rfl (lv_at hl 1 rfl) ?_
    refine fg_X11_64 C hH dX11_laysOrder_126 ?_
    refine lv_iload hx hb dX11_laysOrder_129 (lv_at hl 5 rfl) ?_
    refine lv_iconst (v := (1 : Int32)) hx hb dX11_laysOrder_131 (by decide) ?_
    refine lv_isub hx hb dX11_laysOrder_132 ?_
    refine lv_iload hx hb dX11_laysOrder_133 (lv_at hl 6 rfl) ?_
    refine lv_isub hx hb dX11_laysOrder_135 ?_
    refine g_iald C hH kc_732 hf dX11_laysOrder_136 (fun x3 hf => ?_)
    refine g_iast C hH kc_732 hf dX11_laysOrder_137 (fun w4 H locs hf hH => ?_)
    refine lv_aload_n hx hb dX11_laysOrder_138 rfl (lv_at hl 1 rfl) ?_
    refine fg_X11_64 C hH dX11_laysOrder_139 ?_
    refine lv_iload hx hb dX11_laysOrder_142 (lv_at hl 5 rfl) ?_
    refine lv_iconst (v := (1 : Int32)) hx hb dX11_laysOrder_144 (by decide) ?_
    refine lv_isub hx hb dX11_laysOrder_145 ?_
    refine lv_iload hx hb dX11_laysOrder_146 (lv_at hl 6 rfl) ?_
    refine lv_isub hx hb dX11_laysOrder_148 ?_
    refine lv_iload hx hb dX11_laysOrder_149 (lv_at hl 0 rfl) ?_
    refine g_iast C hH kc_732 hf dX11_laysOrder_151 (fun w5 H locs hf hH => ?_)
    refine b_let hf (fun x6 he hf => ?_)
    refine lv_iinc (v := x6) (lv' := [(6, .int x6), (7, .int x2), (0, .ref (B + 713)), (1, .int v1), (3, .int v3), (4, .int v4), (5, .int v5)]) hx hb dX11_laysOrder_152 hl (k := 6) rfl (by rw [← he]; rfl) (by decide) rfl (fun ls hl => ?_)
    refine lv_goto (tgt := 92) hx hb dX11_laysOrder_155 (by decide) ?_
    exact hr_92 v1 v3 v4 v5 x6 w5 hf _ _ _ hH (lv_sub hl [2, 3, 4, 5, 6, 0] rfl)
set_option maxRecDepth 100000 in
set_option maxHeartbeats 4000000 in
theorem t_X11_laysOrder_92 {D : va_G} {B : Nat} {Y : Nat → ClassId} {p : Program} {l : Launch} {e : Env} {s : State} {m : MethodId} {args : Array Value} {below : List Frame} {meth : Method} {c : Code} {z : (Unit × Wd)} {H : Heap} {locs : List Loc} {ls : Array Slot} {w : Wd} {v1 : Int32} {v3 : Int32} {v4 : Int32} {v5 : Int32} {v6 : Int32} (C : CX D B Y p s m args meth c cX11_laysOrder 8 RX11 none)  {rc_41 : Int32 × Int32 × Int32 × Wd → Option (Unit × Wd)} (hr_41 : ∀ (v1 : Int32) (v3 : Int32) (v4 : Int32) (w : Wd), rc_41 (v1, v3, v4, w) = some z → ∀ (H : Heap) (locs : List Loc) (ls : Array Slot), HS D B Y w s H locs → lv_has ls 8 [(0, .ref (B + 713)), (1, .int v1), (3, .int v3), (4, .int v4)] → W p l e (RM 5 0 0) s m args below meth c H locs 0 0 (MQ below (QG D B Y none z.2 True) args s 0 0 (AB B)) (F0 m 41 ls []))    (hH : HS D B Y w s H locs) (hl : lv_has ls 8 [(0, .ref (B + 713)), (1, .int v1), (3, .int v3), (4, .int v4), (5, .int v5), (6, .int v6)]) (hf : f_X11_laysOrder_92 rc_41 v1 v3 v4 v5 v6 w = some z) : W p l e (RM 5 0 0) s m args below meth c H locs 0 0 (MQ below (QG D B Y none z.2 True) args s 0 0 (AB B)) (F0 m 92 ls []) := by
  exact loopN_ind (z := z) (body := fun rc σ => g_X11_laysOrder_92 rc rc_41 σ.1 σ.2.1 σ.2.2.1 σ.2.2.2.1 σ.2.2.2.2.1 σ.2.2.2.2.2)
    (P := fun σ => ∀ (H : Heap) (locs : List Loc) (ls : Array Slot), HS D B Y σ.2.2.2.2.2 s H locs → lv_has ls 8 [(0, .ref (B + 713)), (1, .int σ.1), (3, .int σ.2.1), (4, .int σ.2.2.1), (5, .int σ.2.2.2.1), (6, .int σ.2.2.2.2.1)] → W p l e (RM 5 0 0) s m args below meth c H locs 0 0 (MQ below (QG D B Y none z.2 True) args s 0 0 (AB B)) (F0 m 92 ls []))
    (fun rc hrec σ hf  H locs ls hH hl => tb_X11_laysOrder_92 C (fun v1 v3 v4 v5 v6 w hr  H locs ls hH hl => hrec (v1, v3, v4, v5, v6, w) hr  H locs ls hH hl) hr_41  hH hl hf) FU (v1, v3, v4, v5, v6, w) hf  H locs ls hH hl
set_option maxRecDepth 100000 in
set_option maxHeartbeats 4000000 in
theorem t_X11_laysOrder_89 {D : va_G} {B : Nat} {Y : Nat → ClassId} {p : Program} {l : Launch} {e : Env} {s : State} {m : MethodId} {args : Array Value} {below : List Frame} {meth : Method} {c : Code} {z : (Unit × Wd)} {H : Heap} {locs : List Loc} {ls : Array Slot} {w : Wd} {v1 : Int32} {v3 : Int32} {v4 : Int32} {v5 : Int32} (C : CX D B Y p s m args meth c cX11_laysOrder 8 RX11 none)  {rc_41 : Int32 × Int32 × Int32 × Wd → Option (Unit × Wd)} (hr_41 : ∀ (v1 : Int32) (v3 : Int32) (v4 : Int32) (w : Wd), rc_41 (v1, v3, v4, w) = some z → ∀ (H : Heap) (locs : List Loc) (ls : Array Slot), HS D B Y w s H locs → lv_has ls 8 [(0, .ref (B + 713)), (1, .int v1), (3, .int v3), (4, .int v4)] → W p l e (RM 5 0 0) s m args below meth c H locs 0 0 (MQ below (QG D B Y none z.2 True) args s 0 0 (AB B)) (F0 m 41 ls []))    (hH : HS D B Y w s H locs) (hl : lv_has ls 8 [(0, .ref (B + 713)), (1, .int v1), (3, .int v3), (4, .int v4), (5, .int v5)]) (hf : f_X11_laysOrder_89 rc_41 v1 v3 v4 v5 w = some z) : W p l e (RM 5 0 0) s m args below meth c H locs 0 0 (MQ below (QG D B Y none z.2 True) args s 0 0 (AB B)) (F0 m 89 ls []) := by
  have hx := C.1
  have hb := C.2.1
  unfold f_X11_laysOrder_89 at hf
  refine lv_iconst (v := (0 : Int32)) hx hb dX11_laysOrder_89 (by decide) ?_
  refine lv_istore (lv' := [(6, .int (0 : Int32)), (0, .ref (B + 713)), (1, .int v1), (3, .int v3), (4, .int v4), (5, .int v5)]) hx hb dX11_laysOrder_90 hl (by decide) rfl (fun ls hl => ?_)
  exact t_X11_laysOrder_92 C hr_41 hH (lv_sub hl [1, 2, 3, 4, 5, 0] rfl) hf
set_option maxRecDepth 100000 in
set_option maxHeartbeats 4000000 in
theorem tb_X11_laysOrder_56 {D : va_G} {B : Nat} {Y : Nat → ClassId} {p : Program} {l : Launch} {e : Env} {s : State} {m : MethodId} {args : Array Value} {below : List Frame} {meth : Method} {c : Code} {z : (Unit × Wd)} {H : Heap} {locs : List Loc} {ls : Array Slot} {w : Wd} {v1 : Int32} {v3 : Int32} {v4 : Int32} {v5 : Int32} (C : CX D B Y p s m args meth c cX11_laysOrder 8 RX11 none)  {rc_56 : Int32 × Int32 × Int32 × Int32 × Wd → Option (Unit × Wd)} (hr_56 : ∀ (v1 : Int32) (v3 : Int32) (v4 : Int32) (v5 : Int32) (w : Wd), rc_56 (v1, v3, v4, v5, w) = some z → ∀ (H : Heap) (locs : List Loc) (ls : Array Slot), HS D B Y w s H locs → lv_has ls 8 [(0, .ref (B + 713)), (1, .int v1), (3, .int v3), (4, .int v4), (5, .int v5)] → W p l e (RM 5 0 0) s m args below meth c H locs 0 0 (MQ below (QG D B Y none z.2 True) args s 0 0 (AB B)) (F0 m 56 ls [])) {rc_41 : Int32 × Int32 × Int32 × Wd → Option (Unit × Wd)} (hr_41 : ∀ (v1 : Int32) (v3 : Int32) (v4 : Int32) (w : Wd), rc_41 (v1, v3, v4, w) = some z → ∀ (H : Heap) (locs : List Loc) (ls : Array Slot), HS D B Y w s H locs → lv_has ls 8 [(0, .ref (B + 713)), (1, .int v1), (3, .int v3), (4, .int v4)] → W p l e (RM 5 0 0) s m args below meth c H locs 0 0 (MQ below (QG D B Y none z.2 True) args s 0 0 (AB B)) (F0 m 41 ls []))    (hH : HS D B Y w s H locs) (hl : lv_has ls 8 [(0, .ref (B + 713)), (1, .int v1), (3, .int v3), (4, .int v4), (5, .int v5)]) (hf : g_X11_laysOrder_56 rc_56 rc_41 v1 v3 v4 v5 w = some z) : W p l e (RM 5 0 0) s m args below meth c H locs 0 0 (MQ below (QG D B Y none z.2 True) args s 0 0 (AB B)) (F0 m 56 ls []) := by
  have hx := C.1
  have hb := C.2.1
  unfold g_X11_laysOrder_56 at hf
  refine lv_iload hx hb dX11_laysOrder_56 (lv_at hl 4 rfl) ?_
  refine lv_aload_n hx hb dX11_laysOrder_58 rfl (lv_at hl 0 rfl) ?_
  refine fg_X11_19 C hH dX11_laysOrder_59 ?_
  refine lv_iload_n hx hb dX11_laysOrder_62 rfl (lv_at hl 1 rfl) ?_
  refine g_iald C hH kc_717 hf dX11_laysOrder_63 (fun x1 hf => ?_)
  refine b_icmp_ge (tgt := 89) hx hb hf dX11_laysOrder_64 (by decide) (fun hf => ?_) (fun hf => ?_)
  · exact t_X11_laysOrder_89 C hr_41 hH (lv_sub hl [0, 1, 2, 3, 4] rfl) hf
  · refine lv_aload_n hx hb dX11_laysOrder_67 rfl (lv_at hl 0 rfl) ?_
    refine fg_X11_34 C hH dX11_laysOrder_68 ?_
    refine lv_aload_n hx hb dX11_laysOrder_71 rfl (lv_at hl 0 rfl) ?_
    refine fg_X11_64 C hH dX11_laysOrder_72 ?_
    refine lv_iload hx hb dX11_laysOrder_75 (lv_at hl 4 rfl) ?_
    refine g_iald C hH kc_732 hf dX11_laysOrder_77 (fun x2 hf => ?_)
    refine g_iald C hH kc_722 hf dX11_laysOrder_78 (fun x3 hf => ?_)
    refine lv_iload_n hx hb dX11_laysOrder_79 rfl (lv_at hl 2 rfl) ?_
    refine b_icmp_lt (tgt := 89) hx hb hf dX11_laysOrder_80 (by decide) (fun hf => ?_) (fun hf => ?_)
    · exact t_X11_laysOrder_89 C hr_41 hH (lv_sub hl [0, 1, 2, 3, 4] rfl) hf
    · refine b_let hf (fun x4 he hf => ?_)
      refine lv_iinc (v := x4) (lv' := [(5, .int x4), (0, .ref (B + 713)), (1, .int v1), (3, .int v3), (4, .int v4)]) hx hb dX11_laysOrder_83 hl (k := 4) rfl (by rw [← he]; rfl) (by decide) rfl (fun ls hl => ?_)
      refine lv_goto (tgt := 56) hx hb dX11_laysOrder_86 (by decide) ?_
      exact hr_56 v1 v3 v4 x4 w hf _ _ _ hH (lv_sub hl [1, 2, 3, 4, 0] rfl)
set_option maxRecDepth 100000 in
set_option maxHeartbeats 4000000 in
theorem t_X11_laysOrder_56 {D : va_G} {B : Nat} {Y : Nat → ClassId} {p : Program} {l : Launch} {e : Env} {s : State} {m : MethodId} {args : Array Value} {below : List Frame} {meth : Method} {c : Code} {z : (Unit × Wd)} {H : Heap} {locs : List Loc} {ls : Array Slot} {w : Wd} {v1 : Int32} {v3 : Int32} {v4 : Int32} {v5 : Int32} (C : CX D B Y p s m args meth c cX11_laysOrder 8 RX11 none)  {rc_41 : Int32 × Int32 × Int32 × Wd → Option (Unit × Wd)} (hr_41 : ∀ (v1 : Int32) (v3 : Int32) (v4 : Int32) (w : Wd), rc_41 (v1, v3, v4, w) = some z → ∀ (H : Heap) (locs : List Loc) (ls : Array Slot), HS D B Y w s H locs → lv_has ls 8 [(0, .ref (B + 713)), (1, .int v1), (3, .int v3), (4, .int v4)] → W p l e (RM 5 0 0) s m args below meth c H locs 0 0 (MQ below (QG D B Y none z.2 True) args s 0 0 (AB B)) (F0 m 41 ls []))    (hH : HS D B Y w s H locs) (hl : lv_has ls 8 [(0, .ref (B + 713)), (1, .int v1), (3, .int v3), (4, .int v4), (5, .int v5)]) (hf : f_X11_laysOrder_56 rc_41 v1 v3 v4 v5 w = some z) : W p l e (RM 5 0 0) s m args below meth c H locs 0 0 (MQ below (QG D B Y none z.2 True) args s 0 0 (AB B)) (F0 m 56 ls []) := by
  exact loopN_ind (z := z) (body := fun rc σ => g_X11_laysOrder_56 rc rc_41 σ.1 σ.2.1 σ.2.2.1 σ.2.2.2.1 σ.2.2.2.2)
    (P := fun σ => ∀ (H : Heap) (locs : List Loc) (ls : Array Slot), HS D B Y σ.2.2.2.2 s H locs → lv_has ls 8 [(0, .ref (B + 713)), (1, .int σ.1), (3, .int σ.2.1), (4, .int σ.2.2.1), (5, .int σ.2.2.2.1)] → W p l e (RM 5 0 0) s m args below meth c H locs 0 0 (MQ below (QG D B Y none z.2 True) args s 0 0 (AB B)) (F0 m 56 ls []))
    (fun rc hrec σ hf  H locs ls hH hl => tb_X11_laysOrder_56 C (fun v1 v3 v4 v5 w hr  H locs ls hH hl => hrec (v1, v3, v4, v5, w) hr  H locs ls hH hl) hr_41  hH hl hf) FU (v1, v3, v4, v5, w) hf  H locs ls hH hl
set_option maxRecDepth 100000 in
set_option maxHeartbeats 4000000 in
theorem tb_X11_laysOrder_41 {D : va_G} {B : Nat} {Y : Nat → ClassId} {p : Program} {l : Launch} {e : Env} {s : State} {m : MethodId} {args : Array Value} {below : List Frame} {meth : Method} {c : Code} {z : (Unit × Wd)} {H : Heap} {locs : List Loc} {ls : Array Slot} {w : Wd} {v1 : Int32} {v3 : Int32} {v4 : Int32} (C : CX D B Y p s m args meth c cX11_laysOrder 8 RX11 none)  {rc_41 : Int32 × Int32 × Int32 × Wd → Option (Unit × Wd)} (hr_41 : ∀ (v1 : Int32) (v3 : Int32) (v4 : Int32) (w : Wd), rc_41 (v1, v3, v4, w) = some z → ∀ (H : Heap) (locs : List Loc) (ls : Array Slot), HS D B Y w s H locs → lv_has ls 8 [(0, .ref (B + 713)), (1, .int v1), (3, .int v3), (4, .int v4)] → W p l e (RM 5 0 0) s m args below meth c H locs 0 0 (MQ below (QG D B Y none z.2 True) args s 0 0 (AB B)) (F0 m 41 ls [])) {rc_34 : Int32 × Int32 × Wd → Option (Unit × Wd)} (hr_34 : ∀ (v1 : Int32) (v3 : Int32) (w : Wd), rc_34 (v1, v3, w) = some z → ∀ (H : Heap) (locs : List Loc) (ls : Array Slot), HS D B Y w s H locs → lv_has ls 8 [(0, .ref (B + 713)), (1, .int v1), (3, .int v3)] → W p l e (RM 5 0 0) s m args below meth c H locs 0 0 (MQ below (QG D B Y none z.2 True) args s 0 0 (AB B)) (F0 m 34 ls []))    (hH : HS D B Y w s H locs) (hl : lv_has ls 8 [(0, .ref (B + 713)), (1, .int v1), (3, .int v3), (4, .int v4)]) (hf : g_X11_laysOrder_41 rc_41 rc_34 v1 v3 v4 w = some z) : W p l e (RM 5 0 0) s m args below meth c H locs 0 0 (MQ below (QG D B Y none z.2 True) args s 0 0 (AB B)) (F0 m 41 ls []) := by
  have hx := C.1
  have hb := C.2.1
  unfold g_X11_laysOrder_41 at hf
  refine lv_iload hx hb dX11_laysOrder_41 (lv_at hl 3 rfl) ?_
  refine lv_aload_n hx hb dX11_laysOrder_43 rfl (lv_at hl 0 rfl) ?_
  refine fg_X11_19 C hH dX11_laysOrder_44 ?_
  refine lv_iload_n hx hb dX11_laysOrder_47 rfl (lv_at hl 1 rfl) ?_
  refine g_iald C hH kc_717 hf dX11_laysOrder_48 (fun x1 hf => ?_)
  refine b_icmp_ge (tgt := 167) hx hb hf dX11_laysOrder_49 (by decide) (fun hf => ?_) (fun hf => ?_)
  · refine b_let hf (fun x2 he hf => ?_)
    refine lv_iinc (v := x2) (lv' := [(3, .int x2), (0, .ref (B + 713)), (1, .int v1), (4, .int v4)]) hx hb dX11_laysOrder_167 hl (k := 2) rfl (by rw [← he]; rfl) (by decide) rfl (fun ls hl => ?_)
    refine lv_goto (tgt := 34) hx hb dX11_laysOrder_170 (by decide) ?_
    exact hr_34 v1 x2 w hf _ _ _ hH (lv_sub hl [1, 2, 0] rfl)
  · refine lv_iload hx hb dX11_laysOrder_52 (lv_at hl 3 rfl) ?_
    refine lv_istore (lv' := [(5, .int v4), (0, .ref (B + 713)), (1, .int v1), (3, .int v3), (4, .int v4)]) hx hb dX11_laysOrder_54 hl (by decide) rfl (fun ls hl => ?_)
    exact t_X11_laysOrder_56 C hr_41 hH (lv_sub hl [1, 2, 3, 4, 0] rfl) hf
set_option maxRecDepth 100000 in
set_option maxHeartbeats 4000000 in
theorem t_X11_laysOrder_41 {D : va_G} {B : Nat} {Y : Nat → ClassId} {p : Program} {l : Launch} {e : Env} {s : State} {m : MethodId} {args : Array Value} {below : List Frame} {meth : Method} {c : Code} {z : (Unit × Wd)} {H : Heap} {locs : List Loc} {ls : Array Slot} {w : Wd} {v1 : Int32} {v3 : Int32} {v4 : Int32} (C : CX D B Y p s m args meth c cX11_laysOrder 8 RX11 none)  {rc_34 : Int32 × Int32 × Wd → Option (Unit × Wd)} (hr_34 : ∀ (v1 : Int32) (v3 : Int32) (w : Wd), rc_34 (v1, v3, w) = some z → ∀ (H : Heap) (locs : List Loc) (ls : Array Slot), HS D B Y w s H locs → lv_has ls 8 [(0, .ref (B + 713)), (1, .int v1), (3, .int v3)] → W p l e (RM 5 0 0) s m args below meth c H locs 0 0 (MQ below (QG D B Y none z.2 True) args s 0 0 (AB B)) (F0 m 34 ls []))    (hH : HS D B Y w s H locs) (hl : lv_has ls 8 [(0, .ref (B + 713)), (1, .int v1), (3, .int v3), (4, .int v4)]) (hf : f_X11_laysOrder_41 rc_34 v1 v3 v4 w = some z) : W p l e (RM 5 0 0) s m args below meth c H locs 0 0 (MQ below (QG D B Y none z.2 True) args s 0 0 (AB B)) (F0 m 41 ls []) := by
  exact loopN_ind (z := z) (body := fun rc σ => g_X11_laysOrder_41 rc rc_34 σ.1 σ.2.1 σ.2.2.1 σ.2.2.2)
    (P := fun σ => ∀ (H : Heap) (locs : List Loc) (ls : Array Slot), HS D B Y σ.2.2.2 s H locs → lv_has ls 8 [(0, .ref (B + 713)), (1, .int σ.1), (3, .int σ.2.1), (4, .int σ.2.2.1)] → W p l e (RM 5 0 0) s m args below meth c H locs 0 0 (MQ below (QG D B Y none z.2 True) args s 0 0 (AB B)) (F0 m 41 ls []))
    (fun rc hrec σ hf  H locs ls hH hl => tb_X11_laysOrder_41 C (fun v1 v3 v4 w hr  H locs ls hH hl => hrec (v1, v3, v4, w) hr  H locs ls hH hl) hr_34  hH hl hf) FU (v1, v3, v4, w) hf  H locs ls hH hl
set_option maxRecDepth 100000 in
set_option maxHeartbeats 4000000 in
theorem tb_X11_laysOrder_34 {D : va_G} {B : Nat} {Y : Nat → ClassId} {p : Program} {l : Launch} {e : Env} {s : State} {m : MethodId} {args : Array Value} {below : List Frame} {meth : Method} {c : Code} {z : (Unit × Wd)} {H : Heap} {locs : List Loc} {ls : Array Slot} {w : Wd} {v1 : Int32} {v3 : Int32} (C : CX D B Y p s m args meth c cX11_laysOrder 8 RX11 none)  {rc_34 : Int32 × Int32 × Wd → Option (Unit × Wd)} (hr_34 : ∀ (v1 : Int32) (v3 : Int32) (w : Wd), rc_34 (v1, v3, w) = some z → ∀ (H : Heap) (locs : List Loc) (ls : Array Slot), HS D B Y w s H locs → lv_has ls 8 [(0, .ref (B + 713)), (1, .int v1), (3, .int v3)] → W p l e (RM 5 0 0) s m args below meth c H locs 0 0 (MQ below (QG D B Y none z.2 True) args s 0 0 (AB B)) (F0 m 34 ls []))    (hH : HS D B Y w s H locs) (hl : lv_has ls 8 [(0, .ref (B + 713)), (1, .int v1), (3, .int v3)]) (hf : g_X11_laysOrder_34 rc_34 v1 v3 w = some z) : W p l e (RM 5 0 0) s m args below meth c H locs 0 0 (MQ below (QG D B Y none z.2 True) args s 0 0 (AB B)) (F0 m 34 ls []) := by
  have hx := C.1
  have hb := C.2.1
  unfold g_X11_laysOrder_34 at hf
  refine lv_iload_n hx hb dX11_laysOrder_34 rfl (lv_at hl 2 rfl) ?_
  refine b_if_le (tgt := 173) hx hb hf dX11_laysOrder_35 (by decide) (fun hf => ?_) (fun hf => ?_)
  · cases hf
    exact q_retv C hH trivial dX11_laysOrder_173
  · refine lv_iconst (v := (0 : Int32)) hx hb dX11_laysOrder_38 (by decide) ?_
    refine lv_istore (lv' := [(4, .int (0 : Int32)), (0, .ref (B + 713)), (1, .int v1), (3, .int v3)]) hx hb dX11_laysOrder_39 hl (by decide) rfl (fun ls hl => ?_)
    exact t_X11_laysOrder_41 C hr_34 hH (lv_sub hl [1, 2, 3, 0] rfl) hf
set_option maxRecDepth 100000 in
set_option maxHeartbeats 4000000 in
theorem t_X11_laysOrder_34 {D : va_G} {B : Nat} {Y : Nat → ClassId} {p : Program} {l : Launch} {e : Env} {s : State} {m : MethodId} {args : Array Value} {below : List Frame} {meth : Method} {c : Code} {z : (Unit × Wd)} {H : Heap} {locs : List Loc} {ls : Array Slot} {w : Wd} {v1 : Int32} {v3 : Int32} (C : CX D B Y p s m args meth c cX11_laysOrder 8 RX11 none)     (hH : HS D B Y w s H locs) (hl : lv_has ls 8 [(0, .ref (B + 713)), (1, .int v1), (3, .int v3)]) (hf : f_X11_laysOrder_34 v1 v3 w = some z) : W p l e (RM 5 0 0) s m args below meth c H locs 0 0 (MQ below (QG D B Y none z.2 True) args s 0 0 (AB B)) (F0 m 34 ls []) := by
  exact loopN_ind (z := z) (body := fun rc σ => g_X11_laysOrder_34 rc  σ.1 σ.2.1 σ.2.2)
    (P := fun σ => ∀ (H : Heap) (locs : List Loc) (ls : Array Slot), HS D B Y σ.2.2 s H locs → lv_has ls 8 [(0, .ref (B + 713)), (1, .int σ.1), (3, .int σ.2.1)] → W p l e (RM 5 0 0) s m args below meth c H locs 0 0 (MQ below (QG D B Y none z.2 True) args s 0 0 (AB B)) (F0 m 34 ls []))
    (fun rc hrec σ hf  H locs ls hH hl => tb_X11_laysOrder_34 C (fun v1 v3 w hr  H locs ls hH hl => hrec (v1, v3, w) hr  H locs ls hH hl)   hH hl hf) FU (v1, v3, w) hf  H locs ls hH hl
set_option maxRecDepth 100000 in
set_option maxHeartbeats 4000000 in
theorem tb_X11_laysOrder_8 {D : va_G} {B : Nat} {Y : Nat → ClassId} {p : Program} {l : Launch} {e : Env} {s : State} {m : MethodId} {args : Array Value} {below : List Frame} {meth : Method} {c : Code} {z : (Unit × Wd)} {H : Heap} {locs : List Loc} {ls : Array Slot} {w : Wd} {v1 : Int32} {v3 : Int32} (C : CX D B Y p s m args meth c cX11_laysOrder 8 RX11 none)  {rc_8 : Int32 × Int32 × Wd → Option (Unit × Wd)} (hr_8 : ∀ (v1 : Int32) (v3 : Int32) (w : Wd), rc_8 (v1, v3, w) = some z → ∀ (H : Heap) (locs : List Loc) (ls : Array Slot), HS D B Y w s H locs → lv_has ls 8 [(0, .ref (B + 713)), (1, .int v1), (3, .int v3)] → W p l e (RM 5 0 0) s m args below meth c H locs 0 0 (MQ below (QG D B Y none z.2 True) args s 0 0 (AB B)) (F0 m 8 ls []))    (hH : HS D B Y w s H locs) (hl : lv_has ls 8 [(0, .ref (B + 713)), (1, .int v1), (3, .int v3)]) (hf : g_X11_laysOrder_8 rc_8 v1 v3 w = some z) : W p l e (RM 5 0 0) s m args below meth c H locs 0 0 (MQ below (QG D B Y none z.2 True) args s 0 0 (AB B)) (F0 m 8 ls []) := by
  have hx := C.1
  have hb := C.2.1
  unfold g_X11_laysOrder_8 at hf
  refine lv_iload_n hx hb dX11_laysOrder_8 rfl (lv_at hl 2 rfl) ?_
  refine lv_aload_n hx hb dX11_laysOrder_9 rfl (lv_at hl 0 rfl) ?_
  refine fg_X11_19 C hH dX11_laysOrder_10 ?_
  refine lv_iload_n hx hb dX11_laysOrder_13 rfl (lv_at hl 1 rfl) ?_
  refine g_iald C hH kc_717 hf dX11_laysOrder_14 (fun x1 hf => ?_)
  refine b_icmp_ge (tgt := 31) hx hb hf dX11_laysOrder_15 (by decide) (fun hf => ?_) (fun hf => ?_)
  · refine lv_bipush (v := (13 : Int32)) hx hb dX11_laysOrder_31 (by decide) ?_
    refine lv_istore_n (lv' := [(3, .int (13 : Int32)), (0, .ref (B + 713)), (1, .int v1)]) hx hb dX11_laysOrder_33 rfl hl (by decide) rfl (fun ls hl => ?_)
    exact t_X11_laysOrder_34 C hH (lv_sub hl [1, 2, 0] rfl) hf
  · refine lv_aload_n hx hb dX11_laysOrder_18 rfl (lv_at hl 0 rfl) ?_
    refine fg_X11_64 C hH dX11_laysOrder_19 ?_
    refine lv_iload_n hx hb dX11_laysOrder_22 rfl (lv_at hl 2 rfl) ?_
    refine lv_iload_n hx hb dX11_laysOrder_23 rfl (lv_at hl 2 rfl) ?_
    refine g_iast C hH kc_732 hf dX11_laysOrder_24 (fun w2 H locs hf hH => ?_)
    refine b_let hf (fun x3 he hf => ?_)
    refine lv_iinc (v := x3) (lv' := [(3, .int x3), (0, .ref (B + 713)), (1, .int v1)]) hx hb dX11_laysOrder_25 hl (k := 2) rfl (by rw [← he]; rfl) (by decide) rfl (fun ls hl => ?_)
    refine lv_goto (tgt := 8) hx hb dX11_laysOrder_28 (by decide) ?_
    exact hr_8 v1 x3 w2 hf _ _ _ hH (lv_sub hl [1, 2, 0] rfl)
set_option maxRecDepth 100000 in
set_option maxHeartbeats 4000000 in
theorem t_X11_laysOrder_8 {D : va_G} {B : Nat} {Y : Nat → ClassId} {p : Program} {l : Launch} {e : Env} {s : State} {m : MethodId} {args : Array Value} {below : List Frame} {meth : Method} {c : Code} {z : (Unit × Wd)} {H : Heap} {locs : List Loc} {ls : Array Slot} {w : Wd} {v1 : Int32} {v3 : Int32} (C : CX D B Y p s m args meth c cX11_laysOrder 8 RX11 none)     (hH : HS D B Y w s H locs) (hl : lv_has ls 8 [(0, .ref (B + 713)), (1, .int v1), (3, .int v3)]) (hf : f_X11_laysOrder_8 v1 v3 w = some z) : W p l e (RM 5 0 0) s m args below meth c H locs 0 0 (MQ below (QG D B Y none z.2 True) args s 0 0 (AB B)) (F0 m 8 ls []) := by
  exact loopN_ind (z := z) (body := fun rc σ => g_X11_laysOrder_8 rc  σ.1 σ.2.1 σ.2.2)
    (P := fun σ => ∀ (H : Heap) (locs : List Loc) (ls : Array Slot), HS D B Y σ.2.2 s H locs → lv_has ls 8 [(0, .ref (B + 713)), (1, .int σ.1), (3, .int σ.2.1)] → W p l e (RM 5 0 0) s m args below meth c H locs 0 0 (MQ below (QG D B Y none z.2 True) args s 0 0 (AB B)) (F0 m 8 ls []))
    (fun rc hrec σ hf  H locs ls hH hl => tb_X11_laysOrder_8 C (fun v1 v3 w hr  H locs ls hH hl => hrec (v1, v3, w) hr  H locs ls hH hl)   hH hl hf) FU (v1, v3, w) hf  H locs ls hH hl
set_option maxRecDepth 100000 in
set_option maxHeartbeats 4000000 in
theorem t_X11_laysOrder_0 {D : va_G} {B : Nat} {Y : Nat → ClassId} {p : Program} {l : Launch} {e : Env} {s : State} {m : MethodId} {args : Array Value} {below : List Frame} {meth : Method} {c : Code} {z : (Unit × Wd)} {H : Heap} {locs : List Loc} {ls : Array Slot} {w : Wd} {v1 : Int32} {v2 : Int32} (C : CX D B Y p s m args meth c cX11_laysOrder 8 RX11 none)     (hH : HS D B Y w s H locs) (hl : lv_has ls 8 [(0, .ref (B + 713)), (1, .int v1), (2, .int v2)]) (hf : f_X11_laysOrder v1 v2 w = some z) : W p l e (RM 5 0 0) s m args below meth c H locs 0 0 (MQ below (QG D B Y none z.2 True) args s 0 0 (AB B)) (F0 m 0 ls []) := by
  have hx := C.1
  have hb := C.2.1
  unfold f_X11_laysOrder at hf
  refine lv_aload_n hx hb dX11_laysOrder_0 rfl (lv_at hl 0 rfl) ?_
  refine lv_iload_n hx hb dX11_laysOrder_1 rfl (lv_at hl 1 rfl) ?_
  refine lv_iload_n hx hb dX11_laysOrder_2 rfl (lv_at hl 2 rfl) ?_
  obtain ⟨u, w1, hc, hf⟩ := bd_some hf
  refine q_callV0 (As := [.int v1, .int v2]) C hH (ci := 11) rfl (by omega) gk_X11_240 yd_X11_laysLevels (by omega) (by omega) kc_713 (c_X11_laysLevels hc) hl.1 rfl (Nat.le_of_ble_eq_true rfl) dX11_laysOrder_3 ⟨by decide, by decide⟩ (fun H locs hH hP => ?_)
  refine lv_iconst (v := (0 : Int32)) hx hb dX11_laysOrder_6 (by decide) ?_
  refine lv_istore_n (lv' := [(3, .int (0 : Int32)), (0, .ref (B + 713)), (1, .int v1), (2, .int v2)]) hx hb dX11_laysOrder_7 rfl hl (by decide) rfl (fun ls hl => ?_)
  exact t_X11_laysOrder_8 C hH (lv_sub hl [1, 2, 0] rfl) hf
set_option maxRecDepth 100000 in
theorem c_X11_laysOrder {l : Launch} {D : va_G} {B : Nat} {Y : Nat → ClassId} {v1 : Int32} {v2 : Int32} {w : Wd} {r : Unit} {w1 : Wd}   (hf : f_X11_laysOrder v1 v2 w = some (r, w1)) : CM l D B Y yX11_laysOrder cX11_laysOrder 8 none 5 [.ref (B + 713), .int v1, .int v2] w none w1 True :=
  CM_of (by decide +kernel) (Nat.le_of_ble_eq_true rfl) (fun p e s m args below meth c ls C hH hl => t_X11_laysOrder_0 C  hH (lv_sub hl [0, 1, 2] rfl) hf)
/-! LetterTablesModel.base -/
set_option maxRecDepth 100000 in
set_option maxHeartbeats 4000000 in
theorem t_X11_base_13 {D : va_G} {B : Nat} {Y : Nat → ClassId} {p : Program} {l : Launch} {e : Env} {s : State} {m : MethodId} {args : Array Value} {below : List Frame} {meth : Method} {c : Code} {z : (Int32 × Wd)} {H : Heap} {locs : List Loc} {ls : Array Slot} {w : Wd} {v1 : Int32} {t1 : Int32} (C : CX D B Y p s m args meth c cX11_base 2 RX11 (some .int))    (z_t1 : isZ t1) (hH : HS D B Y w s H locs) (hl : lv_has ls 2 [(0, .ref (B + 713)), (1, .int v1)]) (hf : f_X11_base_13 v1 t1 w = some z) : W p l e (RM 3 0 0) s m args below meth c H locs 0 0 (MQ below (QG D B Y (some (.int z.1)) z.2 True) args s 0 0 (AB B)) (F0 m 13 ls [.int t1, .ref (B + 713)]) := by
  have hx := C.1
  have hb := C.2.1
  unfold f_X11_base_13 at hf
  obtain ⟨x2, w1, hc, hf⟩ := bd_some hf
  refine q_callV1 (v := .int x2) (As := [.int t1]) C hH (ci := 11) rfl (by omega) gk_X11_118 yd_X11_holds (by omega) (by omega) kc_713 (c_X11_holds hc) hl.1 rfl (Nat.le_of_ble_eq_true rfl) dX11_base_13 ⟨by decide, by decide⟩ (fun H locs hH z_x2 => ?_)
  refine b_if_ne (tgt := 21) hx hb hf dX11_base_16 (by decide) (fun hf => ?_) (fun hf => ?_)
  · refine lv_aload_n hx hb dX11_base_21 rfl (lv_at hl 0 rfl) ?_
    refine lv_iload_n hx hb dX11_base_22 rfl (lv_at hl 1 rfl) ?_
    obtain ⟨u, w3, hc, hf⟩ := bd_some hf
    refine q_callV0 (As := [.int v1]) C hH (ci := 11) rfl (by omega) gk_X11_221 yd_X11_closesIsolates (by omega) (by omega) kc_713 (c_X11_closesIsolates hc) hl.1 rfl (Nat.le_of_ble_eq_true rfl) dX11_base_23 ⟨by decide, by decide⟩ (fun H locs hH hP => ?_)
    refine lv_aload_n hx hb dX11_base_26 rfl (lv_at hl 0 rfl) ?_
    refine lv_iload_n hx hb dX11_base_27 rfl (lv_at hl 1 rfl) ?_
    refine lv_iconst (v := (0 : Int32)) hx hb dX11_base_28 (by decide) ?_
    refine lv_aload_n hx hb dX11_base_29 rfl (lv_at hl 0 rfl) ?_
    refine fg_X11_19 C hH dX11_base_30 ?_
    refine lv_iload_n hx hb dX11_base_33 rfl (lv_at hl 1 rfl) ?_
    refine g_iald C hH kc_717 hf dX11_base_34 (fun x4 hf => ?_)
    obtain ⟨x6, w5, hc, hf⟩ := bd_some hf
    refine q_callV1 (v := .int x6) (As := [.int v1, .int (0 : Int32), .int x4]) C hH (ci := 11) rfl (by omega) gk_X11_214 yd_X11_baseOf (by omega) (by omega) kc_713 (c_X11_baseOf hc) hl.1 rfl (Nat.le_of_ble_eq_true rfl) dX11_base_35 ⟨by decide, by decide⟩ (fun H locs hH hP => ?_)
    cases hf
    exact q_reti C hH trivial dX11_base_38
  · refine lv_iconst (v := (0 : Int32)) hx hb dX11_base_19 (by decide) ?_
    cases hf
    exact q_reti C hH trivial dX11_base_20
set_option maxRecDepth 100000 in
set_option maxHeartbeats 4000000 in
theorem t_X11_base_0 {D : va_G} {B : Nat} {Y : Nat → ClassId} {p : Program} {l : Launch} {e : Env} {s : State} {m : MethodId} {args : Array Value} {below : List Frame} {meth : Method} {c : Code} {z : (Int32 × Wd)} {H : Heap} {locs : List Loc} {ls : Array Slot} {w : Wd} {v1 : Int32} (C : CX D B Y p s m args meth c cX11_base 2 RX11 (some .int))     (hH : HS D B Y w s H locs) (hl : lv_has ls 2 [(0, .ref (B + 713)), (1, .int v1)]) (hf : f_X11_base v1 w = some z) : W p l e (RM 3 0 0) s m args below meth c H locs 0 0 (MQ below (QG D B Y (some (.int z.1)) z.2 True) args s 0 0 (AB B)) (F0 m 0 ls []) := by
  have hx := C.1
  have hb := C.2.1
  unfold f_X11_base at hf
  refine lv_aload_n hx hb dX11_base_0 rfl (lv_at hl 0 rfl) ?_
  refine lv_iload_n hx hb dX11_base_1 rfl (lv_at hl 1 rfl) ?_
  obtain ⟨x2, w1, hc, hf⟩ := bd_some hf
  refine q_callS1 (v := .int x2) (As := [.int v1]) C hH gk_X11_145 yd_X11_isSlot (by omega) (by omega) (c_X11_isSlot hc) hl.1 rfl (Nat.le_of_ble_eq_true rfl) dX11_base_2 ⟨by decide, by decide⟩ (fun H locs hH z_x2 => ?_)
  refine b_if_eq (tgt := 12) hx hb hf dX11_base_5 (by decide) (fun hf => ?_) (fun hf => ?_)
  · refine lv_iconst (v := (1 : Int32)) hx hb dX11_base_12 (by decide) ?_
    exact t_X11_base_13 C isZ_1 hH (lv_sub hl [0, 1] rfl) hf
  · refine lv_iconst (v := (0 : Int32)) hx hb dX11_base_8 (by decide) ?_
    refine lv_goto (tgt := 13) hx hb dX11_base_9 (by decide) ?_
    exact t_X11_base_13 C isZ_0 hH (lv_sub hl [0, 1] rfl) hf
set_option maxRecDepth 100000 in
theorem c_X11_base {l : Launch} {D : va_G} {B : Nat} {Y : Nat → ClassId} {v1 : Int32} {w : Wd} {r : Int32} {w1 : Wd}   (hf : f_X11_base v1 w = some (r, w1)) : CM l D B Y yX11_base cX11_base 2 (some .int) 3 [.ref (B + 713), .int v1] w (some (.int r)) w1 True :=
  CM_of (by decide +kernel) (Nat.le_of_ble_eq_true rfl) (fun p e s m args below meth c ls C hH hl => t_X11_base_0 C  hH (lv_sub hl [0, 1] rfl) hf)
/-! LetterTablesModel.isPlace -/
set_option maxRecDepth 100000 in
set_option maxHeartbeats 4000000 in
theorem t_X11_isPlace_0 {D : va_G} {B : Nat} {Y : Nat → ClassId} {p : Program} {l : Launch} {e : Env} {s : State} {m : MethodId} {args : Array Value} {below : List Frame} {meth : Method} {c : Code} {z : (Int32 × Wd)} {H : Heap} {locs : List Loc} {ls : Array Slot} {w : Wd} {v1 : Int32} {v2 : Int32} (C : CX D B Y p s m args meth c cX11_isPlace 3 RX11 (some .boolean))     (hH : HS D B Y w s H locs) (hl : lv_has ls 3 [(0, .ref (B + 713)), (1, .int v1), (2, .int v2)]) (hf : f_X11_isPlace v1 v2 w = some z) : W p l e (RM 2 0 0) s m args below meth c H locs 0 0 (MQ below (QG D B Y (some (.int z.1)) z.2 (isZ z.1)) args s 0 0 (AB B)) (F0 m 0 ls []) := by
  have hx := C.1
  have hb := C.2.1
  unfold f_X11_isPlace at hf
  refine lv_iload_n hx hb dX11_isPlace_0 rfl (lv_at hl 1 rfl) ?_
  obtain ⟨x2, w1, hc, hf⟩ := bd_some hf
  refine q_callS1 (v := .int x2) (As := [.int v1]) C hH gk_X11_145 yd_X11_isSlot (by omega) (by omega) (c_X11_isSlot hc) hl.1 rfl (Nat.le_of_ble_eq_true rfl) dX11_isPlace_1 ⟨by decide, by decide⟩ (fun H locs hH z_x2 => ?_)
  refine b_if_eq (tgt := 27) hx hb hf dX11_isPlace_4 (by decide) (fun hf => ?_) (fun hf => ?_)
  · refine lv_iconst (v := (0 : Int32)) hx hb dX11_isPlace_27 (by decide) ?_
    cases hf
    exact q_retz C hH isZ_0 isZ_0 dX11_isPlace_28
  · refine lv_iload_n hx hb dX11_isPlace_7 rfl (lv_at hl 2 rfl) ?_
    refine lv_iconst (v := (0 : Int32)) hx hb dX11_isPlace_8 (by decide) ?_
    refine lv_aload_n hx hb dX11_isPlace_9 rfl (lv_at hl 0 rfl) ?_
    refine fg_X11_19 C hH dX11_isPlace_10 ?_
    refine lv_iload_n hx hb dX11_isPlace_13 rfl (lv_at hl 1 rfl) ?_
    refine g_iald C hH kc_717 hf dX11_isPlace_14 (fun x3 hf => ?_)
    refine lv_iconst (v := (1 : Int32)) hx hb dX11_isPlace_15 (by decide) ?_
    refine lv_isub hx hb dX11_isPlace_16 ?_
    obtain ⟨x5, w4, hc, hf⟩ := bd_some hf
    refine q_callS1 (v := .int x5) (As := [.int v2, .int (0 : Int32), .int (x3 - (1 : Int32))]) C hH gk_X11_111 yd_X11_in (by omega) (by omega) (c_X11_in hc) hl.1 rfl (Nat.le_of_ble_eq_true rfl) dX11_isPlace_17 ⟨by decide, by decide⟩ (fun H locs hH z_x5 => ?_)
    refine b_if_eq (tgt := 27) hx hb hf dX11_isPlace_20 (by decide) (fun hf => ?_) (fun hf => ?_)
    · refine lv_iconst (v := (0 : Int32)) hx hb dX11_isPlace_27 (by decide) ?_
      cases hf
      exact q_retz C hH isZ_0 isZ_0 dX11_isPlace_28
    · refine lv_iconst (v := (1 : Int32)) hx hb dX11_isPlace_23 (by decide) ?_
      refine lv_goto (tgt := 28) hx hb dX11_isPlace_24 (by decide) ?_
      cases hf
      exact q_retz C hH isZ_1 isZ_1 dX11_isPlace_28
set_option maxRecDepth 100000 in
theorem c_X11_isPlace {l : Launch} {D : va_G} {B : Nat} {Y : Nat → ClassId} {v1 : Int32} {v2 : Int32} {w : Wd} {r : Int32} {w1 : Wd}   (hf : f_X11_isPlace v1 v2 w = some (r, w1)) : CM l D B Y yX11_isPlace cX11_isPlace 3 (some .boolean) 2 [.ref (B + 713), .int v1, .int v2] w (some (.int r)) w1 (isZ r) :=
  CM_of (by decide +kernel) (Nat.le_of_ble_eq_true rfl) (fun p e s m args below meth c ls C hH hl => t_X11_isPlace_0 C  hH (lv_sub hl [0, 1, 2] rfl) hf)
/-! LetterTablesModel.level -/
set_option maxRecDepth 100000 in
set_option maxHeartbeats 4000000 in
theorem t_X11_level_28 {D : va_G} {B : Nat} {Y : Nat → ClassId} {p : Program} {l : Launch} {e : Env} {s : State} {m : MethodId} {args : Array Value} {below : List Frame} {meth : Method} {c : Code} {z : (Int32 × Wd)} {H : Heap} {locs : List Loc} {ls : Array Slot} {w : Wd} {v1 : Int32} {v2 : Int32} {v3 : Int32} {t1 : Int32} (C : CX D B Y p s m args meth c cX11_level 4 RX11 (some .int))     (hH : HS D B Y w s H locs) (hl : lv_has ls 4 [(0, .ref (B + 713)), (1, .int v1), (2, .int v2), (3, .int v3)]) (hf : f_X11_level_28 v1 v2 v3 t1 w = some z) : W p l e (RM 5 0 0) s m args below meth c H locs 0 0 (MQ below (QG D B Y (some (.int z.1)) z.2 True) args s 0 0 (AB B)) (F0 m 28 ls [.int t1, .ref (B + 713)]) := by
  have hx := C.1
  have hb := C.2.1
  unfold f_X11_level_28 at hf
  obtain ⟨x2, w1, hc, hf⟩ := bd_some hf
  refine q_callV1 (v := .int x2) (As := [.int t1]) C hH (ci := 11) rfl (by omega) gk_X11_118 yd_X11_holds (by omega) (by omega) kc_713 (c_X11_holds hc) hl.1 rfl (Nat.le_of_ble_eq_true rfl) dX11_level_28 ⟨by decide, by decide⟩ (fun H locs hH z_x2 => ?_)
  refine b_if_ne (tgt := 36) hx hb hf dX11_level_31 (by decide) (fun hf => ?_) (fun hf => ?_)
  · refine lv_aload_n hx hb dX11_level_36 rfl (lv_at hl 0 rfl) ?_
    refine lv_iload_n hx hb dX11_level_37 rfl (lv_at hl 1 rfl) ?_
    refine lv_iload_n hx hb dX11_level_38 rfl (lv_at hl 3 rfl) ?_
    obtain ⟨u, w3, hc, hf⟩ := bd_some hf
    refine q_callV0 (As := [.int v1, .int v3]) C hH (ci := 11) rfl (by omega) gk_X11_240 yd_X11_laysLevels (by omega) (by omega) kc_713 (c_X11_laysLevels hc) hl.1 rfl (Nat.le_of_ble_eq_true rfl) dX11_level_39 ⟨by decide, by decide⟩ (fun H locs hH hP => ?_)
    refine lv_aload_n hx hb dX11_level_42 rfl (lv_at hl 0 rfl) ?_
    refine fg_X11_34 C hH dX11_level_43 ?_
    refine lv_iload_n hx hb dX11_level_46 rfl (lv_at hl 2 rfl) ?_
    refine g_iald C hH kc_722 hf dX11_level_47 (fun x4 hf => ?_)
    cases hf
    exact q_reti C hH trivial dX11_level_48
  · refine lv_iconst (v := (0 : Int32)) hx hb dX11_level_34 (by decide) ?_
    cases hf
    exact q_reti C hH trivial dX11_level_35
set_option maxRecDepth 100000 in
set_option maxHeartbeats 4000000 in
theorem t_X11_level_0 {D : va_G} {B : Nat} {Y : Nat → ClassId} {p : Program} {l : Launch} {e : Env} {s : State} {m : MethodId} {args : Array Value} {below : List Frame} {meth : Method} {c : Code} {z : (Int32 × Wd)} {H : Heap} {locs : List Loc} {ls : Array Slot} {w : Wd} {v1 : Int32} {v2 : Int32} {v3 : Int32} (C : CX D B Y p s m args meth c cX11_level 4 RX11 (some .int))     (hH : HS D B Y w s H locs) (hl : lv_has ls 4 [(0, .ref (B + 713)), (1, .int v1), (2, .int v2), (3, .int v3)]) (hf : f_X11_level v1 v2 v3 w = some z) : W p l e (RM 5 0 0) s m args below meth c H locs 0 0 (MQ below (QG D B Y (some (.int z.1)) z.2 True) args s 0 0 (AB B)) (F0 m 0 ls []) := by
  have hx := C.1
  have hb := C.2.1
  unfold f_X11_level at hf
  refine lv_aload_n hx hb dX11_level_0 rfl (lv_at hl 0 rfl) ?_
  refine lv_aload_n hx hb dX11_level_1 rfl (lv_at hl 0 rfl) ?_
  refine lv_iload_n hx hb dX11_level_2 rfl (lv_at hl 1 rfl) ?_
  refine lv_iload_n hx hb dX11_level_3 rfl (lv_at hl 2 rfl) ?_
  obtain ⟨x2, w1, hc, hf⟩ := bd_some hf
  refine q_callV1 (v := .int x2) (As := [.int v1, .int v2]) C hH (ci := 11) rfl (by omega) gk_X11_243 yd_X11_isPlace (by omega) (by omega) kc_713 (c_X11_isPlace hc) hl.1 rfl (Nat.le_of_ble_eq_true rfl) dX11_level_4 ⟨by decide, by decide⟩ (fun H locs hH z_x2 => ?_)
  refine b_if_ne (tgt := 14) hx hb hf dX11_level_7 (by decide) (fun hf => ?_) (fun hf => ?_)
  · refine lv_iload_n hx hb dX11_level_14 rfl (lv_at hl 3 rfl) ?_
    refine lv_iconst (v := (-1 : Int32)) hx hb dX11_level_15 (by decide) ?_
    refine lv_iconst (v := (1 : Int32)) hx hb dX11_level_16 (by decide) ?_
    obtain ⟨x4, w3, hc, hf⟩ := bd_some hf
    refine q_callS1 (v := .int x4) (As := [.int v3, .int (-1 : Int32), .int (1 : Int32)]) C hH gk_X11_111 yd_X11_in (by omega) (by omega) (c_X11_in hc) hl.1 rfl (Nat.le_of_ble_eq_true rfl) dX11_level_17 ⟨by decide, by decide⟩ (fun H locs hH z_x4 => ?_)
    refine b_if_eq (tgt := 27) hx hb hf dX11_level_20 (by decide) (fun hf => ?_) (fun hf => ?_)
    · refine lv_iconst (v := (2 : Int32)) hx hb dX11_level_27 (by decide) ?_
      exact t_X11_level_28 C hH (lv_sub hl [0, 1, 2, 3] rfl) hf
    · refine lv_iconst (v := (0 : Int32)) hx hb dX11_level_23 (by decide) ?_
      refine lv_goto (tgt := 28) hx hb dX11_level_24 (by decide) ?_
      exact t_X11_level_28 C hH (lv_sub hl [0, 1, 2, 3] rfl) hf
  · refine lv_iconst (v := (1 : Int32)) hx hb dX11_level_10 (by decide) ?_
    refine lv_goto (tgt := 28) hx hb dX11_level_11 (by decide) ?_
    exact t_X11_level_28 C hH (lv_sub hl [0, 1, 2, 3] rfl) hf
set_option maxRecDepth 100000 in
theorem c_X11_level {l : Launch} {D : va_G} {B : Nat} {Y : Nat → ClassId} {v1 : Int32} {v2 : Int32} {v3 : Int32} {w : Wd} {r : Int32} {w1 : Wd}   (hf : f_X11_level v1 v2 v3 w = some (r, w1)) : CM l D B Y yX11_level cX11_level 4 (some .int) 5 [.ref (B + 713), .int v1, .int v2, .int v3] w (some (.int r)) w1 True :=
  CM_of (by decide +kernel) (Nat.le_of_ble_eq_true rfl) (fun p e s m args below meth c ls C hH hl => t_X11_level_0 C  hH (lv_sub hl [0, 1, 2, 3] rfl) hf)
/-! LetterTablesModel.shown -/
set_option maxRecDepth 100000 in
set_option maxHeartbeats 4000000 in
theorem t_X11_shown_28 {D : va_G} {B : Nat} {Y : Nat → ClassId} {p : Program} {l : Launch} {e : Env} {s : State} {m : MethodId} {args : Array Value} {below : List Frame} {meth : Method} {c : Code} {z : (Int32 × Wd)} {H : Heap} {locs : List Loc} {ls : Array Slot} {w : Wd} {v1 : Int32} {v2 : Int32} {v3 : Int32} {t1 : Int32} (C : CX D B Y p s m args meth c cX11_shown 4 RX11 (some .int))     (hH : HS D B Y w s H locs) (hl : lv_has ls 4 [(0, .ref (B + 713)), (1, .int v1), (2, .int v2), (3, .int v3)]) (hf : f_X11_shown_28 v1 v2 v3 t1 w = some z) : W p l e (RM 6 0 0) s m args below meth c H locs 0 0 (MQ below (QG D B Y (some (.int z.1)) z.2 True) args s 0 0 (AB B)) (F0 m 28 ls [.int t1, .ref (B + 713)]) := by
  have hx := C.1
  have hb := C.2.1
  unfold f_X11_shown_28 at hf
  obtain ⟨x2, w1, hc, hf⟩ := bd_some hf
  refine q_callV1 (v := .int x2) (As := [.int t1]) C hH (ci := 11) rfl (by omega) gk_X11_118 yd_X11_holds (by omega) (by omega) kc_713 (c_X11_holds hc) hl.1 rfl (Nat.le_of_ble_eq_true rfl) dX11_shown_28 ⟨by decide, by decide⟩ (fun H locs hH z_x2 => ?_)
  refine b_if_ne (tgt := 36) hx hb hf dX11_shown_31 (by decide) (fun hf => ?_) (fun hf => ?_)
  · refine lv_aload_n hx hb dX11_shown_36 rfl (lv_at hl 0 rfl) ?_
    refine lv_iload_n hx hb dX11_shown_37 rfl (lv_at hl 1 rfl) ?_
    refine lv_iload_n hx hb dX11_shown_38 rfl (lv_at hl 3 rfl) ?_
    obtain ⟨u, w3, hc, hf⟩ := bd_some hf
    refine q_callV0 (As := [.int v1, .int v3]) C hH (ci := 11) rfl (by omega) gk_X11_246 yd_X11_laysOrder (by omega) (by omega) kc_713 (c_X11_laysOrder hc) hl.1 rfl (Nat.le_of_ble_eq_true rfl) dX11_shown_39 ⟨by decide, by decide⟩ (fun H locs hH hP => ?_)
    refine lv_aload_n hx hb dX11_shown_42 rfl (lv_at hl 0 rfl) ?_
    refine fg_X11_64 C hH dX11_shown_43 ?_
    refine lv_iload_n hx hb dX11_shown_46 rfl (lv_at hl 2 rfl) ?_
    refine g_iald C hH kc_732 hf dX11_shown_47 (fun x4 hf => ?_)
    cases hf
    exact q_reti C hH trivial dX11_shown_48
  · refine lv_iconst (v := (0 : Int32)) hx hb dX11_shown_34 (by decide) ?_
    cases hf
    exact q_reti C hH trivial dX11_shown_35
set_option maxRecDepth 100000 in
set_option maxHeartbeats 4000000 in
theorem t_X11_shown_0 {D : va_G} {B : Nat} {Y : Nat → ClassId} {p : Program} {l : Launch} {e : Env} {s : State} {m : MethodId} {args : Array Value} {below : List Frame} {meth : Method} {c : Code} {z : (Int32 × Wd)} {H : Heap} {locs : List Loc} {ls : Array Slot} {w : Wd} {v1 : Int32} {v2 : Int32} {v3 : Int32} (C : CX D B Y p s m args meth c cX11_shown 4 RX11 (some .int))     (hH : HS D B Y w s H locs) (hl : lv_has ls 4 [(0, .ref (B + 713)), (1, .int v1), (2, .int v2), (3, .int v3)]) (hf : f_X11_shown v1 v2 v3 w = some z) : W p l e (RM 6 0 0) s m args below meth c H locs 0 0 (MQ below (QG D B Y (some (.int z.1)) z.2 True) args s 0 0 (AB B)) (F0 m 0 ls []) := by
  have hx := C.1
  have hb := C.2.1
  unfold f_X11_shown at hf
  refine lv_aload_n hx hb dX11_shown_0 rfl (lv_at hl 0 rfl) ?_
  refine lv_aload_n hx hb dX11_shown_1 rfl (lv_at hl 0 rfl) ?_
  refine lv_iload_n hx hb dX11_shown_2 rfl (lv_at hl 1 rfl) ?_
  refine lv_iload_n hx hb dX11_shown_3 rfl (lv_at hl 2 rfl) ?_
  obtain ⟨x2, w1, hc, hf⟩ := bd_some hf
  refine q_callV1 (v := .int x2) (As := [.int v1, .int v2]) C hH (ci := 11) rfl (by omega) gk_X11_243 yd_X11_isPlace (by omega) (by omega) kc_713 (c_X11_isPlace hc) hl.1 rfl (Nat.le_of_ble_eq_true rfl) dX11_shown_4 ⟨by decide, by decide⟩ (fun H locs hH z_x2 => ?_)
  refine b_if_ne (tgt := 14) hx hb hf dX11_shown_7 (by decide) (fun hf => ?_) (fun hf => ?_)
  · refine lv_iload_n hx hb dX11_shown_14 rfl (lv_at hl 3 rfl) ?_
    refine lv_iconst (v := (-1 : Int32)) hx hb dX11_shown_15 (by decide) ?_
    refine lv_iconst (v := (1 : Int32)) hx hb dX11_shown_16 (by decide) ?_
    obtain ⟨x4, w3, hc, hf⟩ := bd_some hf
    refine q_callS1 (v := .int x4) (As := [.int v3, .int (-1 : Int32), .int (1 : Int32)]) C hH gk_X11_111 yd_X11_in (by omega) (by omega) (c_X11_in hc) hl.1 rfl (Nat.le_of_ble_eq_true rfl) dX11_shown_17 ⟨by decide, by decide⟩ (fun H locs hH z_x4 => ?_)
    refine b_if_eq (tgt := 27) hx hb hf dX11_shown_20 (by decide) (fun hf => ?_) (fun hf => ?_)
    · refine lv_iconst (v := (2 : Int32)) hx hb dX11_shown_27 (by decide) ?_
      exact t_X11_shown_28 C hH (lv_sub hl [0, 1, 2, 3] rfl) hf
    · refine lv_iconst (v := (0 : Int32)) hx hb dX11_shown_23 (by decide) ?_
      refine lv_goto (tgt := 28) hx hb dX11_shown_24 (by decide) ?_
      exact t_X11_shown_28 C hH (lv_sub hl [0, 1, 2, 3] rfl) hf
  · refine lv_iconst (v := (1 : Int32)) hx hb dX11_shown_10 (by decide) ?_
    refine lv_goto (tgt := 28) hx hb dX11_shown_11 (by decide) ?_
    exact t_X11_shown_28 C hH (lv_sub hl [0, 1, 2, 3] rfl) hf
set_option maxRecDepth 100000 in
theorem c_X11_shown {l : Launch} {D : va_G} {B : Nat} {Y : Nat → ClassId} {v1 : Int32} {v2 : Int32} {v3 : Int32} {w : Wd} {r : Int32} {w1 : Wd}   (hf : f_X11_shown v1 v2 v3 w = some (r, w1)) : CM l D B Y yX11_shown cX11_shown 4 (some .int) 6 [.ref (B + 713), .int v1, .int v2, .int v3] w (some (.int r)) w1 True :=
  CM_of (by decide +kernel) (Nat.le_of_ble_eq_true rfl) (fun p e s m args below meth c ls C hH hl => t_X11_shown_0 C  hH (lv_sub hl [0, 1, 2, 3] rfl) hf)
/-! LetterTablesModel.kindAt -/
set_option maxRecDepth 100000 in
set_option maxHeartbeats 4000000 in
theorem t_X11_kindAt_0 {D : va_G} {B : Nat} {Y : Nat → ClassId} {p : Program} {l : Launch} {e : Env} {s : State} {m : MethodId} {args : Array Value} {below : List Frame} {meth : Method} {c : Code} {z : (Int32 × Wd)} {H : Heap} {locs : List Loc} {ls : Array Slot} {w : Wd} {v1 : Int32} {v2 : Int32} (C : CX D B Y p s m args meth c cX11_kindAt 3 RX11 (some .int))     (hH : HS D B Y w s H locs) (hl : lv_has ls 3 [(0, .ref (B + 713)), (1, .int v1), (2, .int v2)]) (hf : f_X11_kindAt v1 v2 w = some z) : W p l e (RM 1 0 0) s m args below meth c H locs 0 0 (MQ below (QG D B Y (some (.int z.1)) z.2 True) args s 0 0 (AB B)) (F0 m 0 ls []) := by
  have hx := C.1
  have hb := C.2.1
  unfold f_X11_kindAt at hf
  refine lv_aload_n hx hb dX11_kindAt_0 rfl (lv_at hl 0 rfl) ?_
  refine lv_aload_n hx hb dX11_kindAt_1 rfl (lv_at hl 0 rfl) ?_
  refine lv_iload_n hx hb dX11_kindAt_2 rfl (lv_at hl 1 rfl) ?_
  refine lv_iload_n hx hb dX11_kindAt_3 rfl (lv_at hl 2 rfl) ?_
  obtain ⟨x2, w1, hc, hf⟩ := bd_some hf
  refine q_callV1 (v := .int x2) (As := [.int v1, .int v2]) C hH (ci := 11) rfl (by omega) gk_X11_148 yd_X11_letterAt (by omega) (by omega) kc_713 (c_X11_letterAt hc) hl.1 rfl (Nat.le_of_ble_eq_true rfl) dX11_kindAt_4 ⟨by decide, by decide⟩ (fun H locs hH hP => ?_)
  refine lv_iconst (v := (2 : Int32)) hx hb dX11_kindAt_7 (by decide) ?_
  obtain ⟨x4, w3, hc, hf⟩ := bd_some hf
  refine q_callV1 (v := .int x4) (As := [.int x2, .int (2 : Int32)]) C hH (ci := 11) rfl (by omega) gk_X11_127 yd_X11_of (by omega) (by omega) kc_713 (c_X11_of hc) hl.1 rfl (Nat.le_of_ble_eq_true rfl) dX11_kindAt_8 ⟨by decide, by decide⟩ (fun H locs hH hP => ?_)
  cases hf
  exact q_reti C hH trivial dX11_kindAt_11
set_option maxRecDepth 100000 in
theorem c_X11_kindAt {l : Launch} {D : va_G} {B : Nat} {Y : Nat → ClassId} {v1 : Int32} {v2 : Int32} {w : Wd} {r : Int32} {w1 : Wd}   (hf : f_X11_kindAt v1 v2 w = some (r, w1)) : CM l D B Y yX11_kindAt cX11_kindAt 3 (some .int) 1 [.ref (B + 713), .int v1, .int v2] w (some (.int r)) w1 True :=
  CM_of (by decide +kernel) (Nat.le_of_ble_eq_true rfl) (fun p e s m args below meth c ls C hH hl => t_X11_kindAt_0 C  hH (lv_sub hl [0, 1, 2] rfl) hf)
/-! LetterTablesModel.isCluster -/
set_option maxRecDepth 100000 in
set_option maxHeartbeats 4000000 in
theorem t_X11_isCluster_0 {D : va_G} {B : Nat} {Y : Nat → ClassId} {p : Program} {l : Launch} {e : Env} {s : State} {m : MethodId} {args : Array Value} {below : List Frame} {meth : Method} {c : Code} {z : (Int32 × Wd)} {H : Heap} {locs : List Loc} {ls : Array Slot} {w : Wd} {v1 : Int32} {v2 : Int32} (C : CX D B Y p s m args meth c cX11_isCluster 3 RX11 (some .boolean))     (hH : HS D B Y w s H locs) (hl : lv_has ls 3 [(0, .ref (B + 713)), (1, .int v1), (2, .int v2)]) (hf : f_X11_isCluster v1 v2 w = some z) : W p l e (RM 2 0 0) s m args below meth c H locs 0 0 (MQ below (QG D B Y (some (.int z.1)) z.2 (isZ z.1)) args s 0 0 (AB B)) (F0 m 0 ls []) := by
  have hx := C.1
  have hb := C.2.1
  unfold f_X11_isCluster at hf
  refine lv_iload_n hx hb dX11_isCluster_0 rfl (lv_at hl 2 rfl) ?_
  refine b_if_eq (tgt := 26) hx hb hf dX11_isCluster_1 (by decide) (fun hf => ?_) (fun hf => ?_)
  · refine lv_iconst (v := (1 : Int32)) hx hb dX11_isCluster_26 (by decide) ?_
    refine lv_goto (tgt := 31) hx hb dX11_isCluster_27 (by decide) ?_
    cases hf
    exact q_retz C hH isZ_1 isZ_1 dX11_isCluster_31
  · refine lv_aload_n hx hb dX11_isCluster_4 rfl (lv_at hl 0 rfl) ?_
    refine lv_iload_n hx hb dX11_isCluster_5 rfl (lv_at hl 1 rfl) ?_
    refine lv_iload_n hx hb dX11_isCluster_6 rfl (lv_at hl 2 rfl) ?_
    obtain ⟨x2, w1, hc, hf⟩ := bd_some hf
    refine q_callV1 (v := .int x2) (As := [.int v1, .int v2]) C hH (ci := 11) rfl (by omega) gk_X11_252 yd_X11_kindAt (by omega) (by omega) kc_713 (c_X11_kindAt hc) hl.1 rfl (Nat.le_of_ble_eq_true rfl) dX11_isCluster_7 ⟨by decide, by decide⟩ (fun H locs hH hP => ?_)
    refine lv_iconst (v := (2 : Int32)) hx hb dX11_isCluster_10 (by decide) ?_
    refine b_icmp_eq (tgt := 30) hx hb hf dX11_isCluster_11 (by decide) (fun hf => ?_) (fun hf => ?_)
    · refine lv_iconst (v := (0 : Int32)) hx hb dX11_isCluster_30 (by decide) ?_
      cases hf
      exact q_retz C hH isZ_0 isZ_0 dX11_isCluster_31
    · refine lv_aload_n hx hb dX11_isCluster_14 rfl (lv_at hl 0 rfl) ?_
      refine lv_iload_n hx hb dX11_isCluster_15 rfl (lv_at hl 1 rfl) ?_
      refine lv_iload_n hx hb dX11_isCluster_16 rfl (lv_at hl 2 rfl) ?_
      refine lv_iconst (v := (1 : Int32)) hx hb dX11_isCluster_17 (by decide) ?_
      refine lv_isub hx hb dX11_isCluster_18 ?_
      obtain ⟨x4, w3, hc, hf⟩ := bd_some hf
      refine q_callV1 (v := .int x4) (As := [.int v1, .int (v2 - (1 : Int32))]) C hH (ci := 11) rfl (by omega) gk_X11_252 yd_X11_kindAt (by omega) (by omega) kc_713 (c_X11_kindAt hc) hl.1 rfl (Nat.le_of_ble_eq_true rfl) dX11_isCluster_19 ⟨by decide, by decide⟩ (fun H locs hH hP => ?_)
      refine lv_iconst (v := (5 : Int32)) hx hb dX11_isCluster_22 (by decide) ?_
      refine b_icmp_eq (tgt := 30) hx hb hf dX11_isCluster_23 (by decide) (fun hf => ?_) (fun hf => ?_)
      · refine lv_iconst (v := (0 : Int32)) hx hb dX11_isCluster_30 (by decide) ?_
        cases hf
        exact q_retz C hH isZ_0 isZ_0 dX11_isCluster_31
      · refine lv_iconst (v := (1 : Int32)) hx hb dX11_isCluster_26 (by decide) ?_
        refine lv_goto (tgt := 31) hx hb dX11_isCluster_27 (by decide) ?_
        cases hf
        exact q_retz C hH isZ_1 isZ_1 dX11_isCluster_31
set_option maxRecDepth 100000 in
theorem c_X11_isCluster {l : Launch} {D : va_G} {B : Nat} {Y : Nat → ClassId} {v1 : Int32} {v2 : Int32} {w : Wd} {r : Int32} {w1 : Wd}   (hf : f_X11_isCluster v1 v2 w = some (r, w1)) : CM l D B Y yX11_isCluster cX11_isCluster 3 (some .boolean) 2 [.ref (B + 713), .int v1, .int v2] w (some (.int r)) w1 (isZ r) :=
  CM_of (by decide +kernel) (Nat.le_of_ble_eq_true rfl) (fun p e s m args below meth c ls C hH hl => t_X11_isCluster_0 C  hH (lv_sub hl [0, 1, 2] rfl) hf)
/-! LetterTablesModel.bySight -/
set_option maxRecDepth 100000 in
set_option maxHeartbeats 4000000 in
theorem t_X11_bySight_112 {D : va_G} {B : Nat} {Y : Nat → ClassId} {p : Program} {l : Launch} {e : Env} {s : State} {m : MethodId} {args : Array Value} {below : List Frame} {meth : Method} {c : Code} {z : (Int32 × Wd)} {H : Heap} {locs : List Loc} {ls : Array Slot} {w : Wd} {v1 : Int32} {v4 : Int32} (C : CX D B Y p s m args meth c cX11_bySight 5 RX11 (some .int))     (hH : HS D B Y w s H locs) (hl : lv_has ls 5 [(0, .ref (B + 713)), (1, .int v1), (4, .int v4)]) (hf : f_X11_bySight_112 v1 v4 w = some z) : W p l e (RM 6 0 0) s m args below meth c H locs 0 0 (MQ below (QG D B Y (some (.int z.1)) z.2 True) args s 0 0 (AB B)) (F0 m 112 ls []) := by
  have hx := C.1
  have hb := C.2.1
  unfold f_X11_bySight_112 at hf
  refine lv_iload hx hb dX11_bySight_112 (lv_at hl 2 rfl) ?_
  refine lv_iconst (v := (0 : Int32)) hx hb dX11_bySight_114 (by decide) ?_
  refine lv_aload_n hx hb dX11_bySight_115 rfl (lv_at hl 0 rfl) ?_
  refine fg_X11_19 C hH dX11_bySight_116 ?_
  refine lv_iload_n hx hb dX11_bySight_119 rfl (lv_at hl 1 rfl) ?_
  refine g_iald C hH kc_717 hf dX11_bySight_120 (fun x1 hf => ?_)
  refine lv_iconst (v := (1 : Int32)) hx hb dX11_bySight_121 (by decide) ?_
  refine lv_isub hx hb dX11_bySight_122 ?_
  obtain ⟨x3, w2, hc, hf⟩ := bd_some hf
  refine q_callS1 (v := .int x3) (As := [.int v4, .int (0 : Int32), .int (x1 - (1 : Int32))]) C hH gk_X11_111 yd_X11_in (by omega) (by omega) (c_X11_in hc) hl.1 rfl (Nat.le_of_ble_eq_true rfl) dX11_bySight_123 ⟨by decide, by decide⟩ (fun H locs hH z_x3 => ?_)
  refine b_if_eq (tgt := 139) hx hb hf dX11_bySight_126 (by decide) (fun hf => ?_) (fun hf => ?_)
  · refine lv_iconst (v := (-1 : Int32)) hx hb dX11_bySight_139 (by decide) ?_
    cases hf
    exact q_reti C hH trivial dX11_bySight_140
  · refine lv_aload_n hx hb dX11_bySight_129 rfl (lv_at hl 0 rfl) ?_
    refine fg_X11_64 C hH dX11_bySight_130 ?_
    refine lv_iload hx hb dX11_bySight_133 (lv_at hl 2 rfl) ?_
    refine g_iald C hH kc_732 hf dX11_bySight_135 (fun x4 hf => ?_)
    refine lv_goto (tgt := 140) hx hb dX11_bySight_136 (by decide) ?_
    cases hf
    exact q_reti C hH trivial dX11_bySight_140
set_option maxRecDepth 100000 in
set_option maxHeartbeats 4000000 in
theorem tb_X11_bySight_63 {D : va_G} {B : Nat} {Y : Nat → ClassId} {p : Program} {l : Launch} {e : Env} {s : State} {m : MethodId} {args : Array Value} {below : List Frame} {meth : Method} {c : Code} {z : (Int32 × Wd)} {H : Heap} {locs : List Loc} {ls : Array Slot} {w : Wd} {v1 : Int32} {v3 : Int32} {v4 : Int32} (C : CX D B Y p s m args meth c cX11_bySight 5 RX11 (some .int))  {rc_63 : Int32 × Int32 × Int32 × Wd → Option (Int32 × Wd)} (hr_63 : ∀ (v1 : Int32) (v3 : Int32) (v4 : Int32) (w : Wd), rc_63 (v1, v3, v4, w) = some z → isZ v3 → ∀ (H : Heap) (locs : List Loc) (ls : Array Slot), HS D B Y w s H locs → lv_has ls 5 [(0, .ref (B + 713)), (1, .int v1), (3, .int v3), (4, .int v4)] → W p l e (RM 6 0 0) s m args below meth c H locs 0 0 (MQ below (QG D B Y (some (.int z.1)) z.2 True) args s 0 0 (AB B)) (F0 m 63 ls []))   (z_v3 : isZ v3) (hH : HS D B Y w s H locs) (hl : lv_has ls 5 [(0, .ref (B + 713)), (1, .int v1), (3, .int v3), (4, .int v4)]) (hf : g_X11_bySight_63 rc_63 v1 v3 v4 w = some z) : W p l e (RM 6 0 0) s m args below meth c H locs 0 0 (MQ below (QG D B Y (some (.int z.1)) z.2 True) args s 0 0 (AB B)) (F0 m 63 ls []) := by
  have hx := C.1
  have hb := C.2.1
  unfold g_X11_bySight_63 at hf
  refine lv_iload hx hb dX11_bySight_63 (lv_at hl 3 rfl) ?_
  refine lv_iconst (v := (0 : Int32)) hx hb dX11_bySight_65 (by decide) ?_
  refine lv_aload_n hx hb dX11_bySight_66 rfl (lv_at hl 0 rfl) ?_
  refine fg_X11_19 C hH dX11_bySight_67 ?_
  refine lv_iload_n hx hb dX11_bySight_70 rfl (lv_at hl 1 rfl) ?_
  refine g_iald C hH kc_717 hf dX11_bySight_71 (fun x1 hf => ?_)
  refine lv_iconst (v := (1 : Int32)) hx hb dX11_bySight_72 (by decide) ?_
  refine lv_isub hx hb dX11_bySight_73 ?_
  obtain ⟨x3, w2, hc, hf⟩ := bd_some hf
  refine q_callS1 (v := .int x3) (As := [.int v4, .int (0 : Int32), .int (x1 - (1 : Int32))]) C hH gk_X11_111 yd_X11_in (by omega) (by omega) (c_X11_in hc) hl.1 rfl (Nat.le_of_ble_eq_true rfl) dX11_bySight_74 ⟨by decide, by decide⟩ (fun H locs hH z_x3 => ?_)
  refine b_if_eq (tgt := 112) hx hb hf dX11_bySight_77 (by decide) (fun hf => ?_) (fun hf => ?_)
  · exact t_X11_bySight_112 C hH (lv_sub hl [0, 1, 3] rfl) hf
  · refine lv_aload_n hx hb dX11_bySight_80 rfl (lv_at hl 0 rfl) ?_
    refine lv_iload_n hx hb dX11_bySight_81 rfl (lv_at hl 1 rfl) ?_
    refine lv_aload_n hx hb dX11_bySight_82 rfl (lv_at hl 0 rfl) ?_
    refine fg_X11_64 C hH dX11_bySight_83 ?_
    refine lv_iload hx hb dX11_bySight_86 (lv_at hl 3 rfl) ?_
    refine g_iald C hH kc_732 hf dX11_bySight_88 (fun x4 hf => ?_)
    obtain ⟨x6, w5, hc, hf⟩ := bd_some hf
    refine q_callV1 (v := .int x6) (As := [.int v1, .int x4]) C hH (ci := 11) rfl (by omega) gk_X11_249 yd_X11_isCluster (by omega) (by omega) kc_713 (c_X11_isCluster hc) hl.1 rfl (Nat.le_of_ble_eq_true rfl) dX11_bySight_89 ⟨by decide, by decide⟩ (fun H locs hH z_x6 => ?_)
    refine b_if_ne (tgt := 112) hx hb hf dX11_bySight_92 (by decide) (fun hf => ?_) (fun hf => ?_)
    · exact t_X11_bySight_112 C hH (lv_sub hl [0, 1, 3] rfl) hf
    · refine lv_iload hx hb dX11_bySight_95 (lv_at hl 3 rfl) ?_
      refine lv_iload_n hx hb dX11_bySight_97 rfl (lv_at hl 2 rfl) ?_
      refine b_if_eq (tgt := 105) hx hb hf dX11_bySight_98 (by decide) (fun hf => ?_) (fun hf => ?_)
      · refine lv_iconst (v := (-1 : Int32)) hx hb dX11_bySight_105 (by decide) ?_
        refine lv_iadd hx hb dX11_bySight_106 ?_
        refine b_leti hf (fun x7 hf => ?_)
        refine lv_istore (lv' := [(4, .int x7), (0, .ref (B + 713)), (1, .int v1), (3, .int v3)]) hx hb dX11_bySight_107 hl (by decide) rfl (fun ls hl => ?_)
        refine lv_goto (tgt := 63) hx hb dX11_bySight_109 (by decide) ?_
        exact hr_63 v1 v3 x7 w5 hf z_v3 _ _ _ hH (lv_sub hl [1, 2, 3, 0] rfl)
      · refine lv_iconst (v := (1 : Int32)) hx hb dX11_bySight_101 (by decide) ?_
        refine lv_goto (tgt := 106) hx hb dX11_bySight_102 (by decide) ?_
        refine lv_iadd hx hb dX11_bySight_106 ?_
        refine b_leti hf (fun x8 hf => ?_)
        refine lv_istore (lv' := [(4, .int x8), (0, .ref (B + 713)), (1, .int v1), (3, .int v3)]) hx hb dX11_bySight_107 hl (by decide) rfl (fun ls hl => ?_)
        refine lv_goto (tgt := 63) hx hb dX11_bySight_109 (by decide) ?_
        exact hr_63 v1 v3 x8 w5 hf z_v3 _ _ _ hH (lv_sub hl [1, 2, 3, 0] rfl)
set_option maxRecDepth 100000 in
set_option maxHeartbeats 4000000 in
theorem t_X11_bySight_63 {D : va_G} {B : Nat} {Y : Nat → ClassId} {p : Program} {l : Launch} {e : Env} {s : State} {m : MethodId} {args : Array Value} {below : List Frame} {meth : Method} {c : Code} {z : (Int32 × Wd)} {H : Heap} {locs : List Loc} {ls : Array Slot} {w : Wd} {v1 : Int32} {v3 : Int32} {v4 : Int32} (C : CX D B Y p s m args meth c cX11_bySight 5 RX11 (some .int))    (z_v3 : isZ v3) (hH : HS D B Y w s H locs) (hl : lv_has ls 5 [(0, .ref (B + 713)), (1, .int v1), (3, .int v3), (4, .int v4)]) (hf : f_X11_bySight_63 v1 v3 v4 w = some z) : W p l e (RM 6 0 0) s m args below meth c H locs 0 0 (MQ below (QG D B Y (some (.int z.1)) z.2 True) args s 0 0 (AB B)) (F0 m 63 ls []) := by
  exact loopN_ind (z := z) (body := fun rc σ => g_X11_bySight_63 rc  σ.1 σ.2.1 σ.2.2.1 σ.2.2.2)
    (P := fun σ => isZ σ.2.1 → ∀ (H : Heap) (locs : List Loc) (ls : Array Slot), HS D B Y σ.2.2.2 s H locs → lv_has ls 5 [(0, .ref (B + 713)), (1, .int σ.1), (3, .int σ.2.1), (4, .int σ.2.2.1)] → W p l e (RM 6 0 0) s m args below meth c H locs 0 0 (MQ below (QG D B Y (some (.int z.1)) z.2 True) args s 0 0 (AB B)) (F0 m 63 ls []))
    (fun rc hrec σ hf z_v3 H locs ls hH hl => tb_X11_bySight_63 C (fun v1 v3 v4 w hr z_v3 H locs ls hH hl => hrec (v1, v3, v4, w) hr z_v3 H locs ls hH hl)  z_v3 hH hl hf) FU (v1, v3, v4, w) hf z_v3 H locs ls hH hl
set_option maxRecDepth 100000 in
set_option maxHeartbeats 4000000 in
theorem t_X11_bySight_60 {D : va_G} {B : Nat} {Y : Nat → ClassId} {p : Program} {l : Launch} {e : Env} {s : State} {m : MethodId} {args : Array Value} {below : List Frame} {meth : Method} {c : Code} {z : (Int32 × Wd)} {H : Heap} {locs : List Loc} {ls : Array Slot} {w : Wd} {v1 : Int32} {v3 : Int32} {t0 : Int32} {t1 : Int32} (C : CX D B Y p s m args meth c cX11_bySight 5 RX11 (some .int))    (z_v3 : isZ v3) (hH : HS D B Y w s H locs) (hl : lv_has ls 5 [(0, .ref (B + 713)), (1, .int v1), (3, .int v3)]) (hf : f_X11_bySight_60 v1 v3 t0 t1 w = some z) : W p l e (RM 6 0 0) s m args below meth c H locs 0 0 (MQ below (QG D B Y (some (.int z.1)) z.2 True) args s 0 0 (AB B)) (F0 m 60 ls [.int t1, .int t0]) := by
  have hx := C.1
  have hb := C.2.1
  unfold f_X11_bySight_60 at hf
  refine lv_iadd hx hb dX11_bySight_60 ?_
  refine b_leti hf (fun x1 hf => ?_)
  refine lv_istore (lv' := [(4, .int x1), (0, .ref (B + 713)), (1, .int v1), (3, .int v3)]) hx hb dX11_bySight_61 hl (by decide) rfl (fun ls hl => ?_)
  exact t_X11_bySight_63 C z_v3 hH (lv_sub hl [1, 2, 3, 0] rfl) hf
set_option maxRecDepth 100000 in
set_option maxHeartbeats 4000000 in
theorem tb_X11_bySight_32 {D : va_G} {B : Nat} {Y : Nat → ClassId} {p : Program} {l : Launch} {e : Env} {s : State} {m : MethodId} {args : Array Value} {below : List Frame} {meth : Method} {c : Code} {z : (Int32 × Wd)} {H : Heap} {locs : List Loc} {ls : Array Slot} {w : Wd} {v1 : Int32} {v2 : Int32} {v3 : Int32} {v4 : Int32} (C : CX D B Y p s m args meth c cX11_bySight 5 RX11 (some .int))  {rc_32 : Int32 × Int32 × Int32 × Int32 × Wd → Option (Int32 × Wd)} (hr_32 : ∀ (v1 : Int32) (v2 : Int32) (v3 : Int32) (v4 : Int32) (w : Wd), rc_32 (v1, v2, v3, v4, w) = some z → isZ v3 → ∀ (H : Heap) (locs : List Loc) (ls : Array Slot), HS D B Y w s H locs → lv_has ls 5 [(0, .ref (B + 713)), (1, .int v1), (2, .int v2), (3, .int v3), (4, .int v4)] → W p l e (RM 6 0 0) s m args below meth c H locs 0 0 (MQ below (QG D B Y (some (.int z.1)) z.2 True) args s 0 0 (AB B)) (F0 m 32 ls []))   (z_v3 : isZ v3) (hH : HS D B Y w s H locs) (hl : lv_has ls 5 [(0, .ref (B + 713)), (1, .int v1), (2, .int v2), (3, .int v3), (4, .int v4)]) (hf : g_X11_bySight_32 rc_32 v1 v2 v3 v4 w = some z) : W p l e (RM 6 0 0) s m args below meth c H locs 0 0 (MQ below (QG D B Y (some (.int z.1)) z.2 True) args s 0 0 (AB B)) (F0 m 32 ls []) := by
  have hx := C.1
  have hb := C.2.1
  unfold g_X11_bySight_32 at hf
  refine lv_aload_n hx hb dX11_bySight_32 rfl (lv_at hl 0 rfl) ?_
  refine fg_X11_64 C hH dX11_bySight_33 ?_
  refine lv_iload hx hb dX11_bySight_36 (lv_at hl 4 rfl) ?_
  refine g_iald C hH kc_732 hf dX11_bySight_38 (fun x1 hf => ?_)
  refine lv_iload_n hx hb dX11_bySight_39 rfl (lv_at hl 2 rfl) ?_
  refine b_icmp_eq (tgt := 49) hx hb hf dX11_bySight_40 (by decide) (fun hf => ?_) (fun hf => ?_)
  · refine lv_iload hx hb dX11_bySight_49 (lv_at hl 4 rfl) ?_
    refine lv_iload_n hx hb dX11_bySight_51 rfl (lv_at hl 3 rfl) ?_
    refine b_if_eq (tgt := 59) hx hb hf dX11_bySight_52 (by decide) (fun hf => ?_) (fun hf => ?_)
    · refine lv_iconst (v := (-1 : Int32)) hx hb dX11_bySight_59 (by decide) ?_
      exact t_X11_bySight_60 C z_v3 hH (lv_sub hl [0, 1, 3] rfl) hf
    · refine lv_iconst (v := (1 : Int32)) hx hb dX11_bySight_55 (by decide) ?_
      refine lv_goto (tgt := 60) hx hb dX11_bySight_56 (by decide) ?_
      exact t_X11_bySight_60 C z_v3 hH (lv_sub hl [0, 1, 3] rfl) hf
  · refine b_let hf (fun x2 he hf => ?_)
    refine lv_iinc (v := x2) (lv' := [(4, .int x2), (0, .ref (B + 713)), (1, .int v1), (2, .int v2), (3, .int v3)]) hx hb dX11_bySight_43 hl (k := 4) rfl (by rw [← he]; rfl) (by decide) rfl (fun ls hl => ?_)
    refine lv_goto (tgt := 32) hx hb dX11_bySight_46 (by decide) ?_
    exact hr_32 v1 v2 v3 x2 w hf z_v3 _ _ _ hH (lv_sub hl [1, 2, 3, 4, 0] rfl)
set_option maxRecDepth 100000 in
set_option maxHeartbeats 4000000 in
theorem t_X11_bySight_32 {D : va_G} {B : Nat} {Y : Nat → ClassId} {p : Program} {l : Launch} {e : Env} {s : State} {m : MethodId} {args : Array Value} {below : List Frame} {meth : Method} {c : Code} {z : (Int32 × Wd)} {H : Heap} {locs : List Loc} {ls : Array Slot} {w : Wd} {v1 : Int32} {v2 : Int32} {v3 : Int32} {v4 : Int32} (C : CX D B Y p s m args meth c cX11_bySight 5 RX11 (some .int))    (z_v3 : isZ v3) (hH : HS D B Y w s H locs) (hl : lv_has ls 5 [(0, .ref (B + 713)), (1, .int v1), (2, .int v2), (3, .int v3), (4, .int v4)]) (hf : f_X11_bySight_32 v1 v2 v3 v4 w = some z) : W p l e (RM 6 0 0) s m args below meth c H locs 0 0 (MQ below (QG D B Y (some (.int z.1)) z.2 True) args s 0 0 (AB B)) (F0 m 32 ls []) := by
  exact loopN_ind (z := z) (body := fun rc σ => g_X11_bySight_32 rc  σ.1 σ.2.1 σ.2.2.1 σ.2.2.2.1 σ.2.2.2.2)
    (P := fun σ => isZ σ.2.2.1 → ∀ (H : Heap) (locs : List Loc) (ls : Array Slot), HS D B Y σ.2.2.2.2 s H locs → lv_has ls 5 [(0, .ref (B + 713)), (1, .int σ.1), (2, .int σ.2.1), (3, .int σ.2.2.1), (4, .int σ.2.2.2.1)] → W p l e (RM 6 0 0) s m args below meth c H locs 0 0 (MQ below (QG D B Y (some (.int z.1)) z.2 True) args s 0 0 (AB B)) (F0 m 32 ls []))
    (fun rc hrec σ hf z_v3 H locs ls hH hl => tb_X11_bySight_32 C (fun v1 v2 v3 v4 w hr z_v3 H locs ls hH hl => hrec (v1, v2, v3, v4, w) hr z_v3 H locs ls hH hl)  z_v3 hH hl hf) FU (v1, v2, v3, v4, w) hf z_v3 H locs ls hH hl
set_option maxRecDepth 100000 in
set_option maxHeartbeats 4000000 in
theorem t_X11_bySight_15 {D : va_G} {B : Nat} {Y : Nat → ClassId} {p : Program} {l : Launch} {e : Env} {s : State} {m : MethodId} {args : Array Value} {below : List Frame} {meth : Method} {c : Code} {z : (Int32 × Wd)} {H : Heap} {locs : List Loc} {ls : Array Slot} {w : Wd} {v1 : Int32} {v2 : Int32} {v3 : Int32} {t1 : Int32} (C : CX D B Y p s m args meth c cX11_bySight 5 RX11 (some .int))    (z_v3 : isZ v3) (z_t1 : isZ t1) (hH : HS D B Y w s H locs) (hl : lv_has ls 5 [(0, .ref (B + 713)), (1, .int v1), (2, .int v2), (3, .int v3)]) (hf : f_X11_bySight_15 v1 v2 v3 t1 w = some z) : W p l e (RM 6 0 0) s m args below meth c H locs 0 0 (MQ below (QG D B Y (some (.int z.1)) z.2 True) args s 0 0 (AB B)) (F0 m 15 ls [.int t1, .ref (B + 713)]) := by
  have hx := C.1
  have hb := C.2.1
  unfold f_X11_bySight_15 at hf
  obtain ⟨x2, w1, hc, hf⟩ := bd_some hf
  refine q_callV1 (v := .int x2) (As := [.int t1]) C hH (ci := 11) rfl (by omega) gk_X11_118 yd_X11_holds (by omega) (by omega) kc_713 (c_X11_holds hc) hl.1 rfl (Nat.le_of_ble_eq_true rfl) dX11_bySight_15 ⟨by decide, by decide⟩ (fun H locs hH z_x2 => ?_)
  refine b_if_ne (tgt := 23) hx hb hf dX11_bySight_18 (by decide) (fun hf => ?_) (fun hf => ?_)
  · refine lv_aload_n hx hb dX11_bySight_23 rfl (lv_at hl 0 rfl) ?_
    refine lv_iload_n hx hb dX11_bySight_24 rfl (lv_at hl 1 rfl) ?_
    refine lv_iconst (v := (-1 : Int32)) hx hb dX11_bySight_25 (by decide) ?_
    obtain ⟨u, w3, hc, hf⟩ := bd_some hf
    refine q_callV0 (As := [.int v1, .int (-1 : Int32)]) C hH (ci := 11) rfl (by omega) gk_X11_246 yd_X11_laysOrder (by omega) (by omega) kc_713 (c_X11_laysOrder hc) hl.1 rfl (Nat.le_of_ble_eq_true rfl) dX11_bySight_26 ⟨by decide, by decide⟩ (fun H locs hH hP => ?_)
    refine lv_iconst (v := (0 : Int32)) hx hb dX11_bySight_29 (by decide) ?_
    refine lv_istore (lv' := [(4, .int (0 : Int32)), (0, .ref (B + 713)), (1, .int v1), (2, .int v2), (3, .int v3)]) hx hb dX11_bySight_30 hl (by decide) rfl (fun ls hl => ?_)
    exact t_X11_bySight_32 C z_v3 hH (lv_sub hl [1, 2, 3, 4, 0] rfl) hf
  · refine lv_iconst (v := (0 : Int32)) hx hb dX11_bySight_21 (by decide) ?_
    cases hf
    exact q_reti C hH trivial dX11_bySight_22
set_option maxRecDepth 100000 in
set_option maxHeartbeats 4000000 in
theorem t_X11_bySight_0 {D : va_G} {B : Nat} {Y : Nat → ClassId} {p : Program} {l : Launch} {e : Env} {s : State} {m : MethodId} {args : Array Value} {below : List Frame} {meth : Method} {c : Code} {z : (Int32 × Wd)} {H : Heap} {locs : List Loc} {ls : Array Slot} {w : Wd} {v1 : Int32} {v2 : Int32} {v3 : Int32} (C : CX D B Y p s m args meth c cX11_bySight 5 RX11 (some .int))    (z_v3 : isZ v3) (hH : HS D B Y w s H locs) (hl : lv_has ls 5 [(0, .ref (B + 713)), (1, .int v1), (2, .int v2), (3, .int v3)]) (hf : f_X11_bySight v1 v2 v3 w = some z) : W p l e (RM 6 0 0) s m args below meth c H locs 0 0 (MQ below (QG D B Y (some (.int z.1)) z.2 True) args s 0 0 (AB B)) (F0 m 0 ls []) := by
  have hx := C.1
  have hb := C.2.1
  unfold f_X11_bySight at hf
  refine lv_aload_n hx hb dX11_bySight_0 rfl (lv_at hl 0 rfl) ?_
  refine lv_aload_n hx hb dX11_bySight_1 rfl (lv_at hl 0 rfl) ?_
  refine lv_iload_n hx hb dX11_bySight_2 rfl (lv_at hl 1 rfl) ?_
  refine lv_iload_n hx hb dX11_bySight_3 rfl (lv_at hl 2 rfl) ?_
  obtain ⟨x2, w1, hc, hf⟩ := bd_some hf
  refine q_callV1 (v := .int x2) (As := [.int v1, .int v2]) C hH (ci := 11) rfl (by omega) gk_X11_243 yd_X11_isPlace (by omega) (by omega) kc_713 (c_X11_isPlace hc) hl.1 rfl (Nat.le_of_ble_eq_true rfl) dX11_bySight_4 ⟨by decide, by decide⟩ (fun H locs hH z_x2 => ?_)
  refine b_if_eq (tgt := 14) hx hb hf dX11_bySight_7 (by decide) (fun hf => ?_) (fun hf => ?_)
  · refine lv_iconst (v := (1 : Int32)) hx hb dX11_bySight_14 (by decide) ?_
    exact t_X11_bySight_15 C z_v3 isZ_1 hH (lv_sub hl [0, 1, 2, 3] rfl) hf
  · refine lv_iconst (v := (0 : Int32)) hx hb dX11_bySight_10 (by decide) ?_
    refine lv_goto (tgt := 15) hx hb dX11_bySight_11 (by decide) ?_
    exact t_X11_bySight_15 C z_v3 isZ_0 hH (lv_sub hl [0, 1, 2, 3] rfl) hf
set_option maxRecDepth 100000 in
theorem c_X11_bySight {l : Launch} {D : va_G} {B : Nat} {Y : Nat → ClassId} {v1 : Int32} {v2 : Int32} {v3 : Int32} {w : Wd} {r : Int32} {w1 : Wd}  (z_v3 : isZ v3) (hf : f_X11_bySight v1 v2 v3 w = some (r, w1)) : CM l D B Y yX11_bySight cX11_bySight 5 (some .int) 6 [.ref (B + 713), .int v1, .int v2, .int v3] w (some (.int r)) w1 True :=
  CM_of (by decide +kernel) (Nat.le_of_ble_eq_true rfl) (fun p e s m args below meth c ls C hH hl => t_X11_bySight_0 C z_v3 hH (lv_sub hl [0, 1, 2, 3] rfl) hf)
