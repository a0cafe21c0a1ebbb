set_option maxRecDepth 100000 in
set_option maxHeartbeats 8000000 in
theorem t_L_law_1858 {D : va_G} {B : Nat} {Y : Nat → ClassId} {p : Program} {l : Launch} {e : Env} {s : State} {m : MethodId} {below : List Frame} {meth : Method} {c : Code} {b L : Nat} {xs : Nat → Int32} {rc : Int32 × Wd → Option Unit} {cells slots : Nat} {H : Heap} {locs : List Loc} {ls : Array Slot} {w : Wd} {v4 : Int32} {z : Unit} (C : CX D B Y p s m #[.ref b] meth c cL_law 8 RL (some .boolean)) (htr : l.stackTraces = false) (hL : LXS b L xs s B) (hcs : cells + 6 ≤ room_1.cells ∧ slots + 36 ≤ room_1.slots) (hr : ∀ (v4 : Int32) (w : Wd), rc (v4, w) = some z → ∀ (H : Heap) (locs : List Loc) (ls : Array Slot), HS D B Y w s H locs → lv_has ls 8 [(0, .ref b), (1, .ref (B + 0)), (2, .ref (B + 713)), (3, .ref (B + 746)), (4, .int v4)] → W p l e room_1 s m #[.ref b] below meth c H locs (cells + 6) (slots + 36) (lw_Z below #[.ref b] s) (F0 m 23 ls [])) (hH : HS D B Y w s H locs) (hl : lv_has ls 8 [(0, .ref b), (1, .ref (B + 0)), (2, .ref (B + 713)), (3, .ref (B + 746)), (4, .int v4)]) (hf : f_L_law_1858 L xs rc v4 w = some z) : W p l e room_1 s m #[.ref b] below meth c H locs cells slots (lw_Z below #[.ref b] s) (F0 m 1858 ls []) := by
  have hx := C.1
  have hb := C.2.1
  unfold f_L_law_1858 at hf
  refine lv_aload_n hx hb dL_law_1858 rfl (lv_at hl 1 rfl) ?_
  refine lv_aload_n hx hb dL_law_1859 rfl (lv_at hl 0 rfl) ?_
  refine lv_iload hx hb dL_law_1860 (lv_at hl 4 rfl) ?_
  refine lv_iconst (v := (1 : Int32)) hx hb dL_law_1862 (by decide) ?_
  refine lv_iadd hx hb dL_law_1863 ?_
  refine g_sld C hL hH hf dL_law_1864 (fun x1 hf => ?_)
  refine lv_aload_n hx hb dL_law_1865 rfl (lv_at hl 0 rfl) ?_
  refine lv_iload hx hb dL_law_1866 (lv_at hl 4 rfl) ?_
  refine lv_iconst (v := (2 : Int32)) hx hb dL_law_1868 (by decide) ?_
  refine lv_iadd hx hb dL_law_1869 ?_
  refine g_sld C hL hH hf dL_law_1870 (fun x2 hf => ?_)
  refine lv_aload_n hx hb dL_law_1871 rfl (lv_at hl 0 rfl) ?_
  refine lv_iload hx hb dL_law_1872 (lv_at hl 4 rfl) ?_
  refine lv_iconst (v := (3 : Int32)) hx hb dL_law_1874 (by decide) ?_
  refine lv_iadd hx hb dL_law_1875 ?_
  refine g_sld C hL hH hf dL_law_1876 (fun x3 hf => ?_)
  refine b_if_eq (tgt := 1884) hx hb hf dL_law_1877 (by decide) (fun hf => ?_) (fun hf => ?_)
  · refine lv_iconst (v := (0 : Int32)) hx hb dL_law_1884 (by decide) ?_
    refine lv_aload_n hx hb dL_law_1885 rfl (lv_at hl 3 rfl) ?_
    obtain ⟨x5, w4, hc, hf⟩ := bd_some hf
    refine q_callLW (As := [.ref (B + 0), .int x1, .int x2, .int (0 : Int32), .ref (B + 746)]) C hH (k := x5) (goodSW wd_1184 wd_1185 wd_108 wd_1186) yd_L_bySense (c_L_bySense htr isZ_0 hc) (by exact Nat.le_of_ble_eq_true rfl) (by exact Nat.le_of_ble_eq_true rfl) hl.1 rfl (Nat.le_of_ble_eq_true rfl) dL_law_1886 ⟨by omega, by omega⟩ (fun H locs hH => ?_)
    refine lv_istore (lv' := [(5, .int x5), (0, .ref b), (1, .ref (B + 0)), (2, .ref (B + 713)), (3, .ref (B + 746)), (4, .int v4)]) hx hb dL_law_1889 hl (by decide) rfl (fun ls hl => ?_)
    refine lv_aload_n hx hb dL_law_1891 rfl (lv_at hl 3 rfl) ?_
    refine lv_aload_n hx hb dL_law_1892 rfl (lv_at hl 1 rfl) ?_
    refine lv_iload hx hb dL_law_1893 (lv_at hl 5 rfl) ?_
    refine lv_iconst (v := (1 : Int32)) hx hb dL_law_1895 (by decide) ?_
    refine lv_iadd hx hb dL_law_1896 ?_
    refine g_sld C hL hH hf dL_law_1897 (fun x6 hf => ?_)
    refine lv_aload_n hx hb dL_law_1898 rfl (lv_at hl 1 rfl) ?_
    refine lv_iload hx hb dL_law_1899 (lv_at hl 5 rfl) ?_
    refine lv_iconst (v := (2 : Int32)) hx hb dL_law_1901 (by decide) ?_
    refine lv_iadd hx hb dL_law_1902 ?_
    refine g_sld C hL hH hf dL_law_1903 (fun x7 hf => ?_)
    refine lv_aload_n hx hb dL_law_1904 rfl (lv_at hl 1 rfl) ?_
    refine lv_iload hx hb dL_law_1905 (lv_at hl 5 rfl) ?_
    refine lv_iconst (v := (3 : Int32)) hx hb dL_law_1907 (by decide) ?_
    refine lv_iadd hx hb dL_law_1908 ?_
    refine g_sld C hL hH hf dL_law_1909 (fun x8 hf => ?_)
    refine b_if_eq (tgt := 1917) hx hb hf dL_law_1910 (by decide) (fun hf => ?_) (fun hf => ?_)
    · refine lv_iconst (v := (0 : Int32)) hx hb dL_law_1917 (by decide) ?_
      obtain ⟨x10, w9, hc, hf⟩ := bd_some hf
      refine q_callRV1 (v := .int x10) (As := [.int x6, .int x7, .int (0 : Int32)]) C hH (ci := 11) rfl (by omega) gk_L_221 yd_X11_bySense kc_713 (c_X11_bySense isZ_0 hc) (by exact Nat.le_of_ble_eq_true rfl) (by exact Nat.le_of_ble_eq_true rfl) hl.1 rfl (Nat.le_of_ble_eq_true rfl) dL_law_1918 ⟨by omega, by omega⟩ (fun H locs hH hP => ?_)
      refine lv_istore (lv' := [(6, .int x10), (5, .int x5), (0, .ref b), (1, .ref (B + 0)), (2, .ref (B + 713)), (3, .ref (B + 746)), (4, .int v4)]) hx hb dL_law_1921 hl (by decide) rfl (fun ls hl => ?_)
      refine lv_aload_n hx hb dL_law_1923 rfl (lv_at hl 4 rfl) ?_
      obtain ⟨x12, w11, hc, hf⟩ := bd_some hf
      refine q_callRV1 (v := .int x12) (As := []) C hH (ci := 11) rfl (by omega) gk_L_141 yd_X11_thrown kc_713 (c_X11_thrown hc) (by exact Nat.le_of_ble_eq_true rfl) (by exact Nat.le_of_ble_eq_true rfl) hl.1 rfl (Nat.le_of_ble_eq_true rfl) dL_law_1924 ⟨by omega, by omega⟩ (fun H locs hH hP => ?_)
      refine lv_iload hx hb dL_law_1927 (lv_at hl 1 rfl) ?_
      refine b_icmp_eq (tgt := 1934) hx hb hf dL_law_1929 (by decide) (fun hf => ?_) (fun hf => ?_)
      · refine lv_iload hx hb dL_law_1934 (lv_at hl 1 rfl) ?_
        refine b_if_ne (tgt := 1951) hx hb hf dL_law_1936 (by decide) (fun hf => ?_) (fun hf => ?_)
        · refine lv_goto (tgt := 2712) hx hb dL_law_1951 (by decide) ?_
          refine b_let hf (fun x13 he hf => ?_)
          refine lv_iinc (v := x13) (lv' := [(4, .int x13), (6, .int x10), (5, .int x5), (0, .ref b), (1, .ref (B + 0)), (2, .ref (B + 713)), (3, .ref (B + 746))]) hx hb dL_law_2712 hl (k := 6) rfl (by rw [← he]; rfl) (by decide) rfl (fun ls hl => ?_)
          refine lv_goto (tgt := 23) hx hb dL_law_2715 (by decide) ?_
          refine W.widen (k := cells + 6) (n := slots + 36) (by omega) (by omega) ?_
          exact hr x13 w11 hf _ _ _ hH (lv_sub hl [3, 4, 5, 6, 0] rfl)
        · refine lv_aload_n hx hb dL_law_1939 rfl (lv_at hl 5 rfl) ?_
          refine lv_iconst (v := (0 : Int32)) hx hb dL_law_1940 (by decide) ?_
          refine g_lald C hH kc_746 hf dL_law_1941 (fun y14 hf => ?_)
          refine lv_iload hx hb dL_law_1942 (lv_at hl 0 rfl) ?_
          refine lv_i2l (v := x10.toInt64) hx hb dL_law_1944 rfl ?_
          refine W.lcmp hx hb dL_law_1945 ?_
          refine b_if_eq (tgt := 1951) hx hb hf dL_law_1946 (by decide) (fun hf => ?_) (fun hf => ?_)
          · refine lv_goto (tgt := 2712) hx hb dL_law_1951 (by decide) ?_
            refine b_let hf (fun x15 he hf => ?_)
            refine lv_iinc (v := x15) (lv' := [(4, .int x15), (6, .int x10), (5, .int x5), (0, .ref b), (1, .ref (B + 0)), (2, .ref (B + 713)), (3, .ref (B + 746))]) hx hb dL_law_2712 hl (k := 6) rfl (by rw [← he]; rfl) (by decide) rfl (fun ls hl => ?_)
            refine lv_goto (tgt := 23) hx hb dL_law_2715 (by decide) ?_
            refine W.widen (k := cells + 6) (n := slots + 36) (by omega) (by omega) ?_
            exact hr x15 w11 hf _ _ _ hH (lv_sub hl [3, 4, 5, 6, 0] rfl)
          · refine lv_iconst (v := (0 : Int32)) hx hb dL_law_1949 (by decide) ?_
            cases hf
      · refine lv_iconst (v := (0 : Int32)) hx hb dL_law_1932 (by decide) ?_
        cases hf
    · refine lv_iconst (v := (1 : Int32)) hx hb dL_law_1913 (by decide) ?_
      refine lv_goto (tgt := 1918) hx hb dL_law_1914 (by decide) ?_
      obtain ⟨x17, w16, hc, hf⟩ := bd_some hf
      refine q_callRV1 (v := .int x17) (As := [.int x6, .int x7, .int (1 : Int32)]) C hH (ci := 11) rfl (by omega) gk_L_221 yd_X11_bySense kc_713 (c_X11_bySense isZ_1 hc) (by exact Nat.le_of_ble_eq_true rfl) (by exact Nat.le_of_ble_eq_true rfl) hl.1 rfl (Nat.le_of_ble_eq_true rfl) dL_law_1918 ⟨by omega, by omega⟩ (fun H locs hH hP => ?_)
      refine lv_istore (lv' := [(6, .int x17), (5, .int x5), (0, .ref b), (1, .ref (B + 0)), (2, .ref (B + 713)), (3, .ref (B + 746)), (4, .int v4)]) hx hb dL_law_1921 hl (by decide) rfl (fun ls hl => ?_)
      refine lv_aload_n hx hb dL_law_1923 rfl (lv_at hl 4 rfl) ?_
      obtain ⟨x19, w18, hc, hf⟩ := bd_some hf
      refine q_callRV1 (v := .int x19) (As := []) C hH (ci := 11) rfl (by omega) gk_L_141 yd_X11_thrown kc_713 (c_X11_thrown hc) (by exact Nat.le_of_ble_eq_true rfl) (by exact Nat.le_of_ble_eq_true rfl) hl.1 rfl (Nat.le_of_ble_eq_true rfl) dL_law_1924 ⟨by omega, by omega⟩ (fun H locs hH hP => ?_)
      refine lv_iload hx hb dL_law_1927 (lv_at hl 1 rfl) ?_
      refine b_icmp_eq (tgt := 1934) hx hb hf dL_law_1929 (by decide) (fun hf => ?_) (fun hf => ?_)
      · refine lv_iload hx hb dL_law_1934 (lv_at hl 1 rfl) ?_
        refine b_if_ne (tgt := 1951) hx hb hf dL_law_1936 (by decide) (fun hf => ?_) (fun hf => ?_)
        · refine lv_goto (tgt := 2712) hx hb dL_law_1951 (by decide) ?_
          refine b_let hf (fun x20 he hf => ?_)
          refine lv_iinc (v := x20) (lv' := [(4, .int x20), (6, .int x17), (5, .int x5), (0, .ref b), (1, .ref (B + 0)), (2, .ref (B + 713)), (3, .ref (B + 746))]) hx hb dL_law_2712 hl (k := 6) rfl (by rw [← he]; rfl) (by decide) rfl (fun ls hl => ?_)
          refine lv_goto (tgt := 23) hx hb dL_law_2715 (by decide) ?_
          refine W.widen (k := cells + 6) (n := slots + 36) (by omega) (by omega) ?_
          exact hr x20 w18 hf _ _ _ hH (lv_sub hl [3, 4, 5, 6, 0] rfl)
        · refine lv_aload_n hx hb dL_law_1939 rfl (lv_at hl 5 rfl) ?_
          refine lv_iconst (v := (0 : Int32)) hx hb dL_law_1940 (by decide) ?_
          refine g_lald C hH kc_746 hf dL_law_1941 (fun y21 hf => ?_)
          refine lv_iload hx hb dL_law_1942 (lv_at hl 0 rfl) ?_
          refine lv_i2l (v := x17.toInt64) hx hb dL_law_1944 rfl ?_
          refine W.lcmp hx hb dL_law_1945 ?_
          refine b_if_eq (tgt := 1951) hx hb hf dL_law_1946 (by decide) (fun hf => ?_) (fun hf => ?_)
          · refine lv_goto (tgt := 2712) hx hb dL_law_1951 (by decide) ?_
            refine b_let hf (fun x22 he hf => ?_)
            refine lv_iinc (v := x22) (lv' := [(4, .int x22), (6, .int x17), (5, .int x5), (0, .ref b), (1, .ref (B + 0)), (2, .ref (B + 713)), (3, .ref (B + 746))]) hx hb dL_law_2712 hl (k := 6) rfl (by rw [← he]; rfl) (by decide) rfl (fun ls hl => ?_)
            refine lv_goto (tgt := 23) hx hb dL_law_2715 (by decide) ?_
            refine W.widen (k := cells + 6) (n := slots + 36) (by omega) (by omega) ?_
            exact hr x22 w18 hf _ _ _ hH (lv_sub hl [3, 4, 5, 6, 0] rfl)
          · refine lv_iconst (v := (0 : Int32)) hx hb dL_law_1949 (by decide) ?_
            cases hf
      · refine lv_iconst (v := (0 : Int32)) hx hb dL_law_1932 (by decide) ?_
        cases hf
  · refine lv_iconst (v := (1 : Int32)) hx hb dL_law_1880 (by decide) ?_
    refine lv_goto (tgt := 1885) hx hb dL_law_1881 (by decide) ?_
    refine lv_aload_n hx hb dL_law_1885 rfl (lv_at hl 3 rfl) ?_
    obtain ⟨x24, w23, hc, hf⟩ := bd_some hf
    refine q_callLW (As := [.ref (B + 0), .int x1, .int x2, .int (1 : Int32), .ref (B + 746)]) C hH (k := x24) (goodSW wd_1184 wd_1185 wd_108 wd_1186) yd_L_bySense (c_L_bySense htr isZ_1 hc) (by exact Nat.le_of_ble_eq_true rfl) (by exact Nat.le_of_ble_eq_true rfl) hl.1 rfl (Nat.le_of_ble_eq_true rfl) dL_law_1886 ⟨by omega, by omega⟩ (fun H locs hH => ?_)
    refine lv_istore (lv' := [(5, .int x24), (0, .ref b), (1, .ref (B + 0)), (2, .ref (B + 713)), (3, .ref (B + 746)), (4, .int v4)]) hx hb dL_law_1889 hl (by decide) rfl (fun ls hl => ?_)
    refine lv_aload_n hx hb dL_law_1891 rfl (lv_at hl 3 rfl) ?_
    refine lv_aload_n hx hb dL_law_1892 rfl (lv_at hl 1 rfl) ?_
    refine lv_iload hx hb dL_law_1893 (lv_at hl 5 rfl) ?_
    refine lv_iconst (v := (1 : Int32)) hx hb dL_law_1895 (by decide) ?_
    refine lv_iadd hx hb dL_law_1896 ?_
    refine g_sld C hL hH hf dL_law_1897 (fun x25 hf => ?_)
    refine lv_aload_n hx hb dL_law_1898 rfl (lv_at hl 1 rfl) ?_
    refine lv_iload hx hb dL_law_1899 (lv_at hl 5 rfl) ?_
    refine lv_iconst (v := (2 : Int32)) hx hb dL_law_1901 (by decide) ?_
    refine lv_iadd hx hb dL_law_1902 ?_
    refine g_sld C hL hH hf dL_law_1903 (fun x26 hf => ?_)
    refine lv_aload_n hx hb dL_law_1904 rfl (lv_at hl 1 rfl) ?_
    refine lv_iload hx hb dL_law_1905 (lv_at hl 5 rfl) ?_
    refine lv_iconst (v := (3 : Int32)) hx hb dL_law_1907 (by decide) ?_
    refine lv_iadd hx hb dL_law_1908 ?_
    refine g_sld C hL hH hf dL_law_1909 (fun x27 hf => ?_)
    refine b_if_eq (tgt := 1917) hx hb hf dL_law_1910 (by decide) (fun hf => ?_) (fun hf => ?_)
    · refine lv_iconst (v := (0 : Int32)) hx hb dL_law_1917 (by decide) ?_
      obtain ⟨x29, w28, hc, hf⟩ := bd_some hf
      refine q_callRV1 (v := .int x29) (As := [.int x25, .int x26, .int (0 : Int32)]) C hH (ci := 11) rfl (by omega) gk_L_221 yd_X11_bySense kc_713 (c_X11_bySense isZ_0 hc) (by exact Nat.le_of_ble_eq_true rfl) (by exact Nat.le_of_ble_eq_true rfl) hl.1 rfl (Nat.le_of_ble_eq_true rfl) dL_law_1918 ⟨by omega, by omega⟩ (fun H locs hH hP => ?_)
      refine lv_istore (lv' := [(6, .int x29), (5, .int x24), (0, .ref b), (1, .ref (B + 0)), (2, .ref (B + 713)), (3, .ref (B + 746)), (4, .int v4)]) hx hb dL_law_1921 hl (by decide) rfl (fun ls hl => ?_)
      refine lv_aload_n hx hb dL_law_1923 rfl (lv_at hl 4 rfl) ?_
      obtain ⟨x31, w30, hc, hf⟩ := bd_some hf
      refine q_callRV1 (v := .int x31) (As := []) C hH (ci := 11) rfl (by omega) gk_L_141 yd_X11_thrown kc_713 (c_X11_thrown hc) (by exact Nat.le_of_ble_eq_true rfl) (by exact Nat.le_of_ble_eq_true rfl) hl.1 rfl (Nat.le_of_ble_eq_true rfl) dL_law_1924 ⟨by omega, by omega⟩ (fun H locs hH hP => ?_)
      refine lv_iload hx hb dL_law_1927 (lv_at hl 1 rfl) ?_
      refine b_icmp_eq (tgt := 1934) hx hb hf dL_law_1929 (by decide) (fun hf => ?_) (fun hf => ?_)
      · refine lv_iload hx hb dL_law_1934 (lv_at hl 1 rfl) ?_
        refine b_if_ne (tgt := 1951) hx hb hf dL_law_1936 (by decide) (fun hf => ?_) (fun hf => ?_)
        · refine lv_goto (tgt := 2712) hx hb dL_law_1951 (by decide) ?_
          refine b_let hf (fun x32 he hf => ?_)
          refine lv_iinc (v := x32) (lv' := [(4, .int x32), (6, .int x29), (5, .int x24), (0, .ref b), (1, .ref (B + 0)), (2, .ref (B + 713)), (3, .ref (B + 746))]) hx hb dL_law_2712 hl (k := 6) rfl (by rw [← he]; rfl) (by decide) rfl (fun ls hl => ?_)
          refine lv_goto (tgt := 23) hx hb dL_law_2715 (by decide) ?_
          refine W.widen (k := cells + 6) (n := slots + 36) (by omega) (by omega) ?_
          exact hr x32 w30 hf _ _ _ hH (lv_sub hl [3, 4, 5, 6, 0] rfl)
        · refine lv_aload_n hx hb dL_law_1939 rfl (lv_at hl 5 rfl) ?_
          refine lv_iconst (v := (0 : Int32)) hx hb dL_law_1940 (by decide) ?_
          refine g_lald C hH kc_746 hf dL_law_1941 (fun y33 hf => ?_)
          refine lv_iload hx hb dL_law_1942 (lv_at hl 0 rfl) ?_
          refine lv_i2l (v := x29.toInt64) hx hb dL_law_1944 rfl ?_
          refine W.lcmp hx hb dL_law_1945 ?_
          refine b_if_eq (tgt := 1951) hx hb hf dL_law_1946 (by decide) (fun hf => ?_) (fun hf => ?_)
          · refine lv_goto (tgt := 2712) hx hb dL_law_1951 (by decide) ?_
            refine b_let hf (fun x34 he hf => ?_)
            refine lv_iinc (v := x34) (lv' := [(4, .int x34), (6, .int x29), (5, .int x24), (0, .ref b), (1, .ref (B + 0)), (2, .ref (B + 713)), (3, .ref (B + 746))]) hx hb dL_law_2712 hl (k := 6) rfl (by rw [← he]; rfl) (by decide) rfl (fun ls hl => ?_)
            refine lv_goto (tgt := 23) hx hb dL_law_2715 (by decide) ?_
            refine W.widen (k := cells + 6) (n := slots + 36) (by omega) (by omega) ?_
            exact hr x34 w30 hf _ _ _ hH (lv_sub hl [3, 4, 5, 6, 0] rfl)
          · refine lv_iconst (v := (0 : Int32)) hx hb dL_law_1949 (by decide) ?_
            cases hf
      · refine lv_iconst (v := (0 : Int32)) hx hb dL_law_1932 (by decide) ?_
        cases hf
    · refine lv_iconst (v := (1 : Int32)) hx hb dL_law_1913 (by decide) ?_
      refine lv_goto (tgt := 1918) hx hb dL_law_1914 (by decide) ?_
      obtain ⟨x36, w35, hc, hf⟩ := bd_some hf
      refine q_callRV1 (v := .int x36) (As := [.int x25, .int x26, .int (1 : Int32)]) C hH (ci := 11) rfl (by omega) gk_L_221 yd_X11_bySense kc_713 (c_X11_bySense isZ_1 hc) (by exact Nat.le_of_ble_eq_true rfl) (by exact Nat.le_of_ble_eq_true rfl) hl.1 rfl (Nat.le_of_ble_eq_true rfl) dL_law_1918 ⟨by omega, by omega⟩ (fun H locs hH hP => ?_)
      refine lv_istore (lv' := [(6, .int x36), (5, .int x24), (0, .ref b), (1, .ref (B + 0)), (2, .ref (B + 713)), (3, .ref (B + 746)), (4, .int v4)]) hx hb dL_law_1921 hl (by decide) rfl (fun ls hl => ?_)
      refine lv_aload_n hx hb dL_law_1923 rfl (lv_at hl 4 rfl) ?_
      obtain ⟨x38, w37, hc, hf⟩ := bd_some hf
      refine q_callRV1 (v := .int x38) (As := []) C hH (ci := 11) rfl (by omega) gk_L_141 yd_X11_thrown kc_713 (c_X11_thrown hc) (by exact Nat.le_of_ble_eq_true rfl) (by exact Nat.le_of_ble_eq_true rfl) hl.1 rfl (Nat.le_of_ble_eq_true rfl) dL_law_1924 ⟨by omega, by omega⟩ (fun H locs hH hP => ?_)
      refine lv_iload hx hb dL_law_1927 (lv_at hl 1 rfl) ?_
      refine b_icmp_eq (tgt := 1934) hx hb hf dL_law_1929 (by decide) (fun hf => ?_) (fun hf => ?_)
      · refine lv_iload hx hb dL_law_1934 (lv_at hl 1 rfl) ?_
        refine b_if_ne (tgt := 1951) hx hb hf dL_law_1936 (by decide) (fun hf => ?_) (fun hf => ?_)
        · refine lv_goto (tgt := 2712) hx hb dL_law_1951 (by decide) ?_
          refine b_let hf (fun x39 he hf => ?_)
          refine lv_iinc (v := x39) (lv' := [(4, .int x39), (6, .int x36), (5, .int x24), (0, .ref b), (1, .ref (B + 0)), (2, .ref (B + 713)), (3, .ref (B + 746))]) hx hb dL_law_2712 hl (k := 6) rfl (by rw [← he]; rfl) (by decide) rfl (fun ls hl => ?_)
          refine lv_goto (tgt := 23) hx hb dL_law_2715 (by decide) ?_
          refine W.widen (k := cells + 6) (n := slots + 36) (by omega) (by omega) ?_
          exact hr x39 w37 hf _ _ _ hH (lv_sub hl [3, 4, 5, 6, 0] rfl)
        · refine lv_aload_n hx hb dL_law_1939 rfl (lv_at hl 5 rfl) ?_
          refine lv_iconst (v := (0 : Int32)) hx hb dL_law_1940 (by decide) ?_
          refine g_lald C hH kc_746 hf dL_law_1941 (fun y40 hf => ?_)
          refine lv_iload hx hb dL_law_1942 (lv_at hl 0 rfl) ?_
          refine lv_i2l (v := x36.toInt64) hx hb dL_law_1944 rfl ?_
          refine W.lcmp hx hb dL_law_1945 ?_
          refine b_if_eq (tgt := 1951) hx hb hf dL_law_1946 (by decide) (fun hf => ?_) (fun hf => ?_)
          · refine lv_goto (tgt := 2712) hx hb dL_law_1951 (by decide) ?_
            refine b_let hf (fun x41 he hf => ?_)
            refine lv_iinc (v := x41) (lv' := [(4, .int x41), (6, .int x36), (5, .int x24), (0, .ref b), (1, .ref (B + 0)), (2, .ref (B + 713)), (3, .ref (B + 746))]) hx hb dL_law_2712 hl (k := 6) rfl (by rw [← he]; rfl) (by decide) rfl (fun ls hl => ?_)
            refine lv_goto (tgt := 23) hx hb dL_law_2715 (by decide) ?_
            refine W.widen (k := cells + 6) (n := slots + 36) (by omega) (by omega) ?_
            exact hr x41 w37 hf _ _ _ hH (lv_sub hl [3, 4, 5, 6, 0] rfl)
          · refine lv_iconst (v := (0 : Int32)) hx hb dL_law_1949 (by decide) ?_
            cases hf
      · refine lv_iconst (v := (0 : Int32)) hx hb dL_law_1932 (by decide) ?_
        cases hf
set_option maxRecDepth 100000 in
set_option maxHeartbeats 8000000 in
theorem t_L_law_1954 {D : va_G} {B : Nat} {Y : Nat → ClassId} {p : Program} {l : Launch} {e : Env} {s : State} {m : MethodId} {below : List Frame} {meth : Method} {c : Code} {b L : Nat} {xs : Nat → Int32} {rc : Int32 × Wd → Option Unit} {cells slots : Nat} {H : Heap} {locs : List Loc} {ls : Array Slot} {w : Wd} {v4 : Int32} {z : Unit} (C : CX D B Y p s m #[.ref b] meth c cL_law 8 RL (some .boolean)) (htr : l.stackTraces = false) (hL : LXS b L xs s B) (hcs : cells + 6 ≤ room_1.cells ∧ slots + 36 ≤ room_1.slots) (hr : ∀ (v4 : Int32) (w : Wd), rc (v4, w) = some z → ∀ (H : Heap) (locs : List Loc) (ls : Array Slot), HS D B Y w s H locs → lv_has ls 8 [(0, .ref b), (1, .ref (B + 0)), (2, .ref (B + 713)), (3, .ref (B + 746)), (4, .int v4)] → W p l e room_1 s m #[.ref b] below meth c H locs (cells + 6) (slots + 36) (lw_Z below #[.ref b] s) (F0 m 23 ls [])) (hH : HS D B Y w s H locs) (hl : lv_has ls 8 [(0, .ref b), (1, .ref (B + 0)), (2, .ref (B + 713)), (3, .ref (B + 746)), (4, .int v4)]) (hf : f_L_law_1954 L xs rc v4 w = some z) : W p l e room_1 s m #[.ref b] below meth c H locs cells slots (lw_Z below #[.ref b] s) (F0 m 1954 ls []) := by
  have hx := C.1
  have hb := C.2.1
  unfold f_L_law_1954 at hf
  refine lv_aload_n hx hb dL_law_1954 rfl (lv_at hl 1 rfl) ?_
  refine lv_aload_n hx hb dL_law_1955 rfl (lv_at hl 0 rfl) ?_
  refine lv_iload hx hb dL_law_1956 (lv_at hl 4 rfl) ?_
  refine lv_iconst (v := (1 : Int32)) hx hb dL_law_1958 (by decide) ?_
  refine lv_iadd hx hb dL_law_1959 ?_
  refine g_sld C hL hH hf dL_law_1960 (fun x1 hf => ?_)
  refine lv_aload_n hx hb dL_law_1961 rfl (lv_at hl 0 rfl) ?_
  refine lv_iload hx hb dL_law_1962 (lv_at hl 4 rfl) ?_
  refine lv_iconst (v := (2 : Int32)) hx hb dL_law_1964 (by decide) ?_
  refine lv_iadd hx hb dL_law_1965 ?_
  refine g_sld C hL hH hf dL_law_1966 (fun x2 hf => ?_)
  refine lv_aload_n hx hb dL_law_1967 rfl (lv_at hl 0 rfl) ?_
  refine lv_iload hx hb dL_law_1968 (lv_at hl 4 rfl) ?_
  refine lv_iconst (v := (3 : Int32)) hx hb dL_law_1970 (by decide) ?_
  refine lv_iadd hx hb dL_law_1971 ?_
  refine g_sld C hL hH hf dL_law_1972 (fun x3 hf => ?_)
  refine lv_aload_n hx hb dL_law_1973 rfl (lv_at hl 3 rfl) ?_
  obtain ⟨x5, w4, hc, hf⟩ := bd_some hf
  refine q_callLW (As := [.ref (B + 0), .int x1, .int x2, .int x3, .ref (B + 746)]) C hH (k := x5) (goodSW wd_1191 wd_1192 wd_108 wd_1193) yd_L_compare (c_L_compare htr hc) (by exact Nat.le_of_ble_eq_true rfl) (by exact Nat.le_of_ble_eq_true rfl) hl.1 rfl (Nat.le_of_ble_eq_true rfl) dL_law_1974 ⟨by omega, by omega⟩ (fun H locs hH => ?_)
  refine lv_istore (lv' := [(5, .int x5), (0, .ref b), (1, .ref (B + 0)), (2, .ref (B + 713)), (3, .ref (B + 746)), (4, .int v4)]) hx hb dL_law_1977 hl (by decide) rfl (fun ls hl => ?_)
  refine lv_aload_n hx hb dL_law_1979 rfl (lv_at hl 3 rfl) ?_
  refine lv_aload_n hx hb dL_law_1980 rfl (lv_at hl 1 rfl) ?_
  refine lv_iload hx hb dL_law_1981 (lv_at hl 5 rfl) ?_
  refine lv_iconst (v := (1 : Int32)) hx hb dL_law_1983 (by decide) ?_
  refine lv_iadd hx hb dL_law_1984 ?_
  refine g_sld C hL hH hf dL_law_1985 (fun x6 hf => ?_)
  refine lv_aload_n hx hb dL_law_1986 rfl (lv_at hl 1 rfl) ?_
  refine lv_iload hx hb dL_law_1987 (lv_at hl 5 rfl) ?_
  refine lv_iconst (v := (2 : Int32)) hx hb dL_law_1989 (by decide) ?_
  refine lv_iadd hx hb dL_law_1990 ?_
  refine g_sld C hL hH hf dL_law_1991 (fun x7 hf => ?_)
  refine lv_aload_n hx hb dL_law_1992 rfl (lv_at hl 1 rfl) ?_
  refine lv_iload hx hb dL_law_1993 (lv_at hl 5 rfl) ?_
  refine lv_iconst (v := (3 : Int32)) hx hb dL_law_1995 (by decide) ?_
  refine lv_iadd hx hb dL_law_1996 ?_
  refine g_sld C hL hH hf dL_law_1997 (fun x8 hf => ?_)
  obtain ⟨x10, w9, hc, hf⟩ := bd_some hf
  refine q_callRV1 (v := .int x10) (As := [.int x6, .int x7, .int x8]) C hH (ci := 11) rfl (by omega) gk_L_224 yd_X11_compare kc_713 (c_X11_compare hc) (by exact Nat.le_of_ble_eq_true rfl) (by exact Nat.le_of_ble_eq_true rfl) hl.1 rfl (Nat.le_of_ble_eq_true rfl) dL_law_1998 ⟨by omega, by omega⟩ (fun H locs hH hP => ?_)
  refine lv_istore (lv' := [(6, .int x10), (5, .int x5), (0, .ref b), (1, .ref (B + 0)), (2, .ref (B + 713)), (3, .ref (B + 746)), (4, .int v4)]) hx hb dL_law_2001 hl (by decide) rfl (fun ls hl => ?_)
  refine lv_aload_n hx hb dL_law_2003 rfl (lv_at hl 4 rfl) ?_
  obtain ⟨x12, w11, hc, hf⟩ := bd_some hf
  refine q_callRV1 (v := .int x12) (As := []) C hH (ci := 11) rfl (by omega) gk_L_141 yd_X11_thrown kc_713 (c_X11_thrown hc) (by exact Nat.le_of_ble_eq_true rfl) (by exact Nat.le_of_ble_eq_true rfl) hl.1 rfl (Nat.le_of_ble_eq_true rfl) dL_law_2004 ⟨by omega, by omega⟩ (fun H locs hH hP => ?_)
  refine lv_iload hx hb dL_law_2007 (lv_at hl 1 rfl) ?_
  refine b_icmp_eq (tgt := 2014) hx hb hf dL_law_2009 (by decide) (fun hf => ?_) (fun hf => ?_)
  · refine lv_iload hx hb dL_law_2014 (lv_at hl 1 rfl) ?_
    refine b_if_ne (tgt := 2031) hx hb hf dL_law_2016 (by decide) (fun hf => ?_) (fun hf => ?_)
    · refine lv_goto (tgt := 2712) hx hb dL_law_2031 (by decide) ?_
      refine b_let hf (fun x13 he hf => ?_)
      refine lv_iinc (v := x13) (lv' := [(4, .int x13), (6, .int x10), (5, .int x5), (0, .ref b), (1, .ref (B + 0)), (2, .ref (B + 713)), (3, .ref (B + 746))]) hx hb dL_law_2712 hl (k := 6) rfl (by rw [← he]; rfl) (by decide) rfl (fun ls hl => ?_)
      refine lv_goto (tgt := 23) hx hb dL_law_2715 (by decide) ?_
      refine W.widen (k := cells + 6) (n := slots + 36) (by omega) (by omega) ?_
      exact hr x13 w11 hf _ _ _ hH (lv_sub hl [3, 4, 5, 6, 0] rfl)
    · refine lv_aload_n hx hb dL_law_2019 rfl (lv_at hl 5 rfl) ?_
      refine lv_iconst (v := (0 : Int32)) hx hb dL_law_2020 (by decide) ?_
      refine g_lald C hH kc_746 hf dL_law_2021 (fun y14 hf => ?_)
      refine lv_iload hx hb dL_law_2022 (lv_at hl 0 rfl) ?_
      refine lv_i2l (v := x10.toInt64) hx hb dL_law_2024 rfl ?_
      refine W.lcmp hx hb dL_law_2025 ?_
      refine b_if_eq (tgt := 2031) hx hb hf dL_law_2026 (by decide) (fun hf => ?_) (fun hf => ?_)
      · refine lv_goto (tgt := 2712) hx hb dL_law_2031 (by decide) ?_
        refine b_let hf (fun x15 he hf => ?_)
        refine lv_iinc (v := x15) (lv' := [(4, .int x15), (6, .int x10), (5, .int x5), (0, .ref b), (1, .ref (B + 0)), (2, .ref (B + 713)), (3, .ref (B + 746))]) hx hb dL_law_2712 hl (k := 6) rfl (by rw [← he]; rfl) (by decide) rfl (fun ls hl => ?_)
        refine lv_goto (tgt := 23) hx hb dL_law_2715 (by decide) ?_
        refine W.widen (k := cells + 6) (n := slots + 36) (by omega) (by omega) ?_
        exact hr x15 w11 hf _ _ _ hH (lv_sub hl [3, 4, 5, 6, 0] rfl)
      · refine lv_iconst (v := (0 : Int32)) hx hb dL_law_2029 (by decide) ?_
        cases hf
  · refine lv_iconst (v := (0 : Int32)) hx hb dL_law_2012 (by decide) ?_
    cases hf
set_option maxRecDepth 100000 in
set_option maxHeartbeats 8000000 in
theorem t_L_law_2034 {D : va_G} {B : Nat} {Y : Nat → ClassId} {p : Program} {l : Launch} {e : Env} {s : State} {m : MethodId} {below : List Frame} {meth : Method} {c : Code} {b L : Nat} {xs : Nat → Int32} {rc : Int32 × Wd → Option Unit} {cells slots : Nat} {H : Heap} {locs : List Loc} {ls : Array Slot} {w : Wd} {v4 : Int32} {z : Unit} (C : CX D B Y p s m #[.ref b] meth c cL_law 8 RL (some .boolean)) (htr : l.stackTraces = false) (hL : LXS b L xs s B) (hcs : cells + 6 ≤ room_1.cells ∧ slots + 36 ≤ room_1.slots) (hr : ∀ (v4 : Int32) (w : Wd), rc (v4, w) = some z → ∀ (H : Heap) (locs : List Loc) (ls : Array Slot), HS D B Y w s H locs → lv_has ls 8 [(0, .ref b), (1, .ref (B + 0)), (2, .ref (B + 713)), (3, .ref (B + 746)), (4, .int v4)] → W p l e room_1 s m #[.ref b] below meth c H locs (cells + 6) (slots + 36) (lw_Z below #[.ref b] s) (F0 m 23 ls [])) (hH : HS D B Y w s H locs) (hl : lv_has ls 8 [(0, .ref b), (1, .ref (B + 0)), (2, .ref (B + 713)), (3, .ref (B + 746)), (4, .int v4)]) (hf : f_L_law_2034 L xs rc v4 w = some z) : W p l e room_1 s m #[.ref b] below meth c H locs cells slots (lw_Z below #[.ref b] s) (F0 m 2034 ls []) := by
  have hx := C.1
  have hb := C.2.1
  unfold f_L_law_2034 at hf
  refine lv_aload_n hx hb dL_law_2034 rfl (lv_at hl 1 rfl) ?_
  refine lv_aload_n hx hb dL_law_2035 rfl (lv_at hl 0 rfl) ?_
  refine lv_iload hx hb dL_law_2036 (lv_at hl 4 rfl) ?_
  refine lv_iconst (v := (1 : Int32)) hx hb dL_law_2038 (by decide) ?_
  refine lv_iadd hx hb dL_law_2039 ?_
  refine g_sld C hL hH hf dL_law_2040 (fun x1 hf => ?_)
  refine lv_aload_n hx hb dL_law_2041 rfl (lv_at hl 0 rfl) ?_
  refine lv_iload hx hb dL_law_2042 (lv_at hl 4 rfl) ?_
  refine lv_iconst (v := (2 : Int32)) hx hb dL_law_2044 (by decide) ?_
  refine lv_iadd hx hb dL_law_2045 ?_
  refine g_sld C hL hH hf dL_law_2046 (fun x2 hf => ?_)
  refine lv_aload_n hx hb dL_law_2047 rfl (lv_at hl 0 rfl) ?_
  refine lv_iload hx hb dL_law_2048 (lv_at hl 4 rfl) ?_
  refine lv_iconst (v := (3 : Int32)) hx hb dL_law_2050 (by decide) ?_
  refine lv_iadd hx hb dL_law_2051 ?_
  refine g_sld C hL hH hf dL_law_2052 (fun x3 hf => ?_)
  refine lv_aload_n hx hb dL_law_2053 rfl (lv_at hl 3 rfl) ?_
  obtain ⟨x5, w4, hc, hf⟩ := bd_some hf
  refine q_callLW (As := [.ref (B + 0), .int x1, .int x2, .int x3, .ref (B + 746)]) C hH (k := x5) (goodSW wd_1218 wd_1219 wd_108 wd_1220) yd_L_key (c_L_key htr hc) (by exact Nat.le_of_ble_eq_true rfl) (by exact Nat.le_of_ble_eq_true rfl) hl.1 rfl (Nat.le_of_ble_eq_true rfl) dL_law_2054 ⟨by omega, by omega⟩ (fun H locs hH => ?_)
  refine lv_istore (lv' := [(5, .int x5), (0, .ref b), (1, .ref (B + 0)), (2, .ref (B + 713)), (3, .ref (B + 746)), (4, .int v4)]) hx hb dL_law_2057 hl (by decide) rfl (fun ls hl => ?_)
  refine lv_aload_n hx hb dL_law_2059 rfl (lv_at hl 3 rfl) ?_
  refine lv_aload_n hx hb dL_law_2060 rfl (lv_at hl 1 rfl) ?_
  refine lv_iload hx hb dL_law_2061 (lv_at hl 5 rfl) ?_
  refine lv_iconst (v := (1 : Int32)) hx hb dL_law_2063 (by decide) ?_
  refine lv_iadd hx hb dL_law_2064 ?_
  refine g_sld C hL hH hf dL_law_2065 (fun x6 hf => ?_)
  refine lv_aload_n hx hb dL_law_2066 rfl (lv_at hl 1 rfl) ?_
  refine lv_iload hx hb dL_law_2067 (lv_at hl 5 rfl) ?_
  refine lv_iconst (v := (2 : Int32)) hx hb dL_law_2069 (by decide) ?_
  refine lv_iadd hx hb dL_law_2070 ?_
  refine g_sld C hL hH hf dL_law_2071 (fun x7 hf => ?_)
  refine lv_aload_n hx hb dL_law_2072 rfl (lv_at hl 1 rfl) ?_
  refine lv_iload hx hb dL_law_2073 (lv_at hl 5 rfl) ?_
  refine lv_iconst (v := (3 : Int32)) hx hb dL_law_2075 (by decide) ?_
  refine lv_iadd hx hb dL_law_2076 ?_
  refine g_sld C hL hH hf dL_law_2077 (fun x8 hf => ?_)
  obtain ⟨x10, w9, hc, hf⟩ := bd_some hf
  refine q_callRV1 (v := .int x10) (As := [.int x6, .int x7, .int x8]) C hH (ci := 11) rfl (by omega) gk_L_227 yd_X11_key kc_713 (c_X11_key hc) (by exact Nat.le_of_ble_eq_true rfl) (by exact Nat.le_of_ble_eq_true rfl) hl.1 rfl (Nat.le_of_ble_eq_true rfl) dL_law_2078 ⟨by omega, by omega⟩ (fun H locs hH hP => ?_)
  refine lv_istore (lv' := [(6, .int x10), (5, .int x5), (0, .ref b), (1, .ref (B + 0)), (2, .ref (B + 713)), (3, .ref (B + 746)), (4, .int v4)]) hx hb dL_law_2081 hl (by decide) rfl (fun ls hl => ?_)
  refine lv_aload_n hx hb dL_law_2083 rfl (lv_at hl 4 rfl) ?_
  obtain ⟨x12, w11, hc, hf⟩ := bd_some hf
  refine q_callRV1 (v := .int x12) (As := []) C hH (ci := 11) rfl (by omega) gk_L_141 yd_X11_thrown kc_713 (c_X11_thrown hc) (by exact Nat.le_of_ble_eq_true rfl) (by exact Nat.le_of_ble_eq_true rfl) hl.1 rfl (Nat.le_of_ble_eq_true rfl) dL_law_2084 ⟨by omega, by omega⟩ (fun H locs hH hP => ?_)
  refine lv_iload hx hb dL_law_2087 (lv_at hl 1 rfl) ?_
  refine b_icmp_eq (tgt := 2094) hx hb hf dL_law_2089 (by decide) (fun hf => ?_) (fun hf => ?_)
  · refine lv_iload hx hb dL_law_2094 (lv_at hl 1 rfl) ?_
    refine b_if_ne (tgt := 2111) hx hb hf dL_law_2096 (by decide) (fun hf => ?_) (fun hf => ?_)
    · refine lv_goto (tgt := 2712) hx hb dL_law_2111 (by decide) ?_
      refine b_let hf (fun x13 he hf => ?_)
      refine lv_iinc (v := x13) (lv' := [(4, .int x13), (6, .int x10), (5, .int x5), (0, .ref b), (1, .ref (B + 0)), (2, .ref (B + 713)), (3, .ref (B + 746))]) hx hb dL_law_2712 hl (k := 6) rfl (by rw [← he]; rfl) (by decide) rfl (fun ls hl => ?_)
      refine lv_goto (tgt := 23) hx hb dL_law_2715 (by decide) ?_
      refine W.widen (k := cells + 6) (n := slots + 36) (by omega) (by omega) ?_
      exact hr x13 w11 hf _ _ _ hH (lv_sub hl [3, 4, 5, 6, 0] rfl)
    · refine lv_aload_n hx hb dL_law_2099 rfl (lv_at hl 5 rfl) ?_
      refine lv_iconst (v := (0 : Int32)) hx hb dL_law_2100 (by decide) ?_
      refine g_lald C hH kc_746 hf dL_law_2101 (fun y14 hf => ?_)
      refine lv_iload hx hb dL_law_2102 (lv_at hl 0 rfl) ?_
      refine lv_i2l (v := x10.toInt64) hx hb dL_law_2104 rfl ?_
      refine W.lcmp hx hb dL_law_2105 ?_
      refine b_if_eq (tgt := 2111) hx hb hf dL_law_2106 (by decide) (fun hf => ?_) (fun hf => ?_)
      · refine lv_goto (tgt := 2712) hx hb dL_law_2111 (by decide) ?_
        refine b_let hf (fun x15 he hf => ?_)
        refine lv_iinc (v := x15) (lv' := [(4, .int x15), (6, .int x10), (5, .int x5), (0, .ref b), (1, .ref (B + 0)), (2, .ref (B + 713)), (3, .ref (B + 746))]) hx hb dL_law_2712 hl (k := 6) rfl (by rw [← he]; rfl) (by decide) rfl (fun ls hl => ?_)
        refine lv_goto (tgt := 23) hx hb dL_law_2715 (by decide) ?_
        refine W.widen (k := cells + 6) (n := slots + 36) (by omega) (by omega) ?_
        exact hr x15 w11 hf _ _ _ hH (lv_sub hl [3, 4, 5, 6, 0] rfl)
      · refine lv_iconst (v := (0 : Int32)) hx hb dL_law_2109 (by decide) ?_
        cases hf
  · refine lv_iconst (v := (0 : Int32)) hx hb dL_law_2092 (by decide) ?_
    cases hf
set_option maxRecDepth 100000 in
set_option maxHeartbeats 8000000 in
theorem t_L_law_2114 {D : va_G} {B : Nat} {Y : Nat → ClassId} {p : Program} {l : Launch} {e : Env} {s : State} {m : MethodId} {below : List Frame} {meth : Method} {c : Code} {b L : Nat} {xs : Nat → Int32} {rc : Int32 × Wd → Option Unit} {cells slots : Nat} {H : Heap} {locs : List Loc} {ls : Array Slot} {w : Wd} {v4 : Int32} {z : Unit} (C : CX D B Y p s m #[.ref b] meth c cL_law 8 RL (some .boolean)) (htr : l.stackTraces = false) (hL : LXS b L xs s B) (hcs : cells + 6 ≤ room_1.cells ∧ slots + 36 ≤ room_1.slots) (hr : ∀ (v4 : Int32) (w : Wd), rc (v4, w) = some z → ∀ (H : Heap) (locs : List Loc) (ls : Array Slot), HS D B Y w s H locs → lv_has ls 8 [(0, .ref b), (1, .ref (B + 0)), (2, .ref (B + 713)), (3, .ref (B + 746)), (4, .int v4)] → W p l e room_1 s m #[.ref b] below meth c H locs (cells + 6) (slots + 36) (lw_Z below #[.ref b] s) (F0 m 23 ls [])) (hH : HS D B Y w s H locs) (hl : lv_has ls 8 [(0, .ref b), (1, .ref (B + 0)), (2, .ref (B + 713)), (3, .ref (B + 746)), (4, .int v4)]) (hf : f_L_law_2114 L xs rc v4 w = some z) : W p l e room_1 s m #[.ref b] below meth c H locs cells slots (lw_Z below #[.ref b] s) (F0 m 2114 ls []) := by
  have hx := C.1
  have hb := C.2.1
  unfold f_L_law_2114 at hf
  refine lv_aload_n hx hb dL_law_2114 rfl (lv_at hl 1 rfl) ?_
  refine lv_aload_n hx hb dL_law_2115 rfl (lv_at hl 0 rfl) ?_
  refine lv_iload hx hb dL_law_2116 (lv_at hl 4 rfl) ?_
  refine lv_iconst (v := (1 : Int32)) hx hb dL_law_2118 (by decide) ?_
  refine lv_iadd hx hb dL_law_2119 ?_
  refine g_sld C hL hH hf dL_law_2120 (fun x1 hf => ?_)
  refine lv_aload_n hx hb dL_law_2121 rfl (lv_at hl 0 rfl) ?_
  refine lv_iload hx hb dL_law_2122 (lv_at hl 4 rfl) ?_
  refine lv_iconst (v := (2 : Int32)) hx hb dL_law_2124 (by decide) ?_
  refine lv_iadd hx hb dL_law_2125 ?_
  refine g_sld C hL hH hf dL_law_2126 (fun x2 hf => ?_)
  refine lv_aload_n hx hb dL_law_2127 rfl (lv_at hl 0 rfl) ?_
  refine lv_iload hx hb dL_law_2128 (lv_at hl 4 rfl) ?_
  refine lv_iconst (v := (3 : Int32)) hx hb dL_law_2130 (by decide) ?_
  refine lv_iadd hx hb dL_law_2131 ?_
  refine g_sld C hL hH hf dL_law_2132 (fun x3 hf => ?_)
  refine lv_aload_n hx hb dL_law_2133 rfl (lv_at hl 3 rfl) ?_
  obtain ⟨x5, w4, hc, hf⟩ := bd_some hf
  refine q_callLW (As := [.ref (B + 0), .int x1, .int x2, .int x3, .ref (B + 746)]) C hH (k := x5) (goodSW wd_1229 wd_1230 wd_108 wd_1231) yd_L_find (c_L_find htr hc) (by exact Nat.le_of_ble_eq_true rfl) (by exact Nat.le_of_ble_eq_true rfl) hl.1 rfl (Nat.le_of_ble_eq_true rfl) dL_law_2134 ⟨by omega, by omega⟩ (fun H locs hH => ?_)
  refine lv_istore (lv' := [(5, .int x5), (0, .ref b), (1, .ref (B + 0)), (2, .ref (B + 713)), (3, .ref (B + 746)), (4, .int v4)]) hx hb dL_law_2137 hl (by decide) rfl (fun ls hl => ?_)
  refine lv_aload_n hx hb dL_law_2139 rfl (lv_at hl 3 rfl) ?_
  refine lv_aload_n hx hb dL_law_2140 rfl (lv_at hl 1 rfl) ?_
  refine lv_iload hx hb dL_law_2141 (lv_at hl 5 rfl) ?_
  refine lv_iconst (v := (1 : Int32)) hx hb dL_law_2143 (by decide) ?_
  refine lv_iadd hx hb dL_law_2144 ?_
  refine g_sld C hL hH hf dL_law_2145 (fun x6 hf => ?_)
  refine lv_aload_n hx hb dL_law_2146 rfl (lv_at hl 1 rfl) ?_
  refine lv_iload hx hb dL_law_2147 (lv_at hl 5 rfl) ?_
  refine lv_iconst (v := (2 : Int32)) hx hb dL_law_2149 (by decide) ?_
  refine lv_iadd hx hb dL_law_2150 ?_
  refine g_sld C hL hH hf dL_law_2151 (fun x7 hf => ?_)
  refine lv_aload_n hx hb dL_law_2152 rfl (lv_at hl 1 rfl) ?_
  refine lv_iload hx hb dL_law_2153 (lv_at hl 5 rfl) ?_
  refine lv_iconst (v := (3 : Int32)) hx hb dL_law_2155 (by decide) ?_
  refine lv_iadd hx hb dL_law_2156 ?_
  refine g_sld C hL hH hf dL_law_2157 (fun x8 hf => ?_)
  obtain ⟨x10, w9, hc, hf⟩ := bd_some hf
  refine q_callRV1 (v := .int x10) (As := [.int x6, .int x7, .int x8]) C hH (ci := 11) rfl (by omega) gk_L_230 yd_X11_find kc_713 (c_X11_find hc) (by exact Nat.le_of_ble_eq_true rfl) (by exact Nat.le_of_ble_eq_true rfl) hl.1 rfl (Nat.le_of_ble_eq_true rfl) dL_law_2158 ⟨by omega, by omega⟩ (fun H locs hH hP => ?_)
  refine lv_istore (lv' := [(6, .int x10), (5, .int x5), (0, .ref b), (1, .ref (B + 0)), (2, .ref (B + 713)), (3, .ref (B + 746)), (4, .int v4)]) hx hb dL_law_2161 hl (by decide) rfl (fun ls hl => ?_)
  refine lv_aload_n hx hb dL_law_2163 rfl (lv_at hl 4 rfl) ?_
  obtain ⟨x12, w11, hc, hf⟩ := bd_some hf
  refine q_callRV1 (v := .int x12) (As := []) C hH (ci := 11) rfl (by omega) gk_L_141 yd_X11_thrown kc_713 (c_X11_thrown hc) (by exact Nat.le_of_ble_eq_true rfl) (by exact Nat.le_of_ble_eq_true rfl) hl.1 rfl (Nat.le_of_ble_eq_true rfl) dL_law_2164 ⟨by omega, by omega⟩ (fun H locs hH hP => ?_)
  refine lv_iload hx hb dL_law_2167 (lv_at hl 1 rfl) ?_
  refine b_icmp_eq (tgt := 2174) hx hb hf dL_law_2169 (by decide) (fun hf => ?_) (fun hf => ?_)
  · refine lv_iload hx hb dL_law_2174 (lv_at hl 1 rfl) ?_
    refine b_if_ne (tgt := 2191) hx hb hf dL_law_2176 (by decide) (fun hf => ?_) (fun hf => ?_)
    · refine lv_goto (tgt := 2712) hx hb dL_law_2191 (by decide) ?_
      refine b_let hf (fun x13 he hf => ?_)
      refine lv_iinc (v := x13) (lv' := [(4, .int x13), (6, .int x10), (5, .int x5), (0, .ref b), (1, .ref (B + 0)), (2, .ref (B + 713)), (3, .ref (B + 746))]) hx hb dL_law_2712 hl (k := 6) rfl (by rw [← he]; rfl) (by decide) rfl (fun ls hl => ?_)
      refine lv_goto (tgt := 23) hx hb dL_law_2715 (by decide) ?_
      refine W.widen (k := cells + 6) (n := slots + 36) (by omega) (by omega) ?_
      exact hr x13 w11 hf _ _ _ hH (lv_sub hl [3, 4, 5, 6, 0] rfl)
    · refine lv_aload_n hx hb dL_law_2179 rfl (lv_at hl 5 rfl) ?_
      refine lv_iconst (v := (0 : Int32)) hx hb dL_law_2180 (by decide) ?_
      refine g_lald C hH kc_746 hf dL_law_2181 (fun y14 hf => ?_)
      refine lv_iload hx hb dL_law_2182 (lv_at hl 0 rfl) ?_
      refine lv_i2l (v := x10.toInt64) hx hb dL_law_2184 rfl ?_
      refine W.lcmp hx hb dL_law_2185 ?_
      refine b_if_eq (tgt := 2191) hx hb hf dL_law_2186 (by decide) (fun hf => ?_) (fun hf => ?_)
      · refine lv_goto (tgt := 2712) hx hb dL_law_2191 (by decide) ?_
        refine b_let hf (fun x15 he hf => ?_)
        refine lv_iinc (v := x15) (lv' := [(4, .int x15), (6, .int x10), (5, .int x5), (0, .ref b), (1, .ref (B + 0)), (2, .ref (B + 713)), (3, .ref (B + 746))]) hx hb dL_law_2712 hl (k := 6) rfl (by rw [← he]; rfl) (by decide) rfl (fun ls hl => ?_)
        refine lv_goto (tgt := 23) hx hb dL_law_2715 (by decide) ?_
        refine W.widen (k := cells + 6) (n := slots + 36) (by omega) (by omega) ?_
        exact hr x15 w11 hf _ _ _ hH (lv_sub hl [3, 4, 5, 6, 0] rfl)
      · refine lv_iconst (v := (0 : Int32)) hx hb dL_law_2189 (by decide) ?_
        cases hf
  · refine lv_iconst (v := (0 : Int32)) hx hb dL_law_2172 (by decide) ?_
    cases hf
set_option maxRecDepth 100000 in
set_option maxHeartbeats 8000000 in
theorem t_L_law_2194 {D : va_G} {B : Nat} {Y : Nat → ClassId} {p : Program} {l : Launch} {e : Env} {s : State} {m : MethodId} {below : List Frame} {meth : Method} {c : Code} {b L : Nat} {xs : Nat → Int32} {rc : Int32 × Wd → Option Unit} {cells slots : Nat} {H : Heap} {locs : List Loc} {ls : Array Slot} {w : Wd} {v4 : Int32} {z : Unit} (C : CX D B Y p s m #[.ref b] meth c cL_law 8 RL (some .boolean)) (htr : l.stackTraces = false) (hL : LXS b L xs s B) (hcs : cells + 6 ≤ room_1.cells ∧ slots + 36 ≤ room_1.slots) (hr : ∀ (v4 : Int32) (w : Wd), rc (v4, w) = some z → ∀ (H : Heap) (locs : List Loc) (ls : Array Slot), HS D B Y w s H locs → lv_has ls 8 [(0, .ref b), (1, .ref (B + 0)), (2, .ref (B + 713)), (3, .ref (B + 746)), (4, .int v4)] → W p l e room_1 s m #[.ref b] below meth c H locs (cells + 6) (slots + 36) (lw_Z below #[.ref b] s) (F0 m 23 ls [])) (hH : HS D B Y w s H locs) (hl : lv_has ls 8 [(0, .ref b), (1, .ref (B + 0)), (2, .ref (B + 713)), (3, .ref (B + 746)), (4, .int v4)]) (hf : f_L_law_2194 L xs rc v4 w = some z) : W p l e room_1 s m #[.ref b] below meth c H locs cells slots (lw_Z below #[.ref b] s) (F0 m 2194 ls []) := by
  have hx := C.1
  have hb := C.2.1
  unfold f_L_law_2194 at hf
  refine lv_aload_n hx hb dL_law_2194 rfl (lv_at hl 1 rfl) ?_
  refine lv_aload_n hx hb dL_law_2195 rfl (lv_at hl 3 rfl) ?_
  obtain ⟨x2, w1, hc, hf⟩ := bd_some hf
  refine q_callLW (As := [.ref (B + 0), .ref (B + 746)]) C hH (k := x2) (goodSW wd_1246 wd_1247 wd_108 wd_1248) yd_L_pattern (c_L_pattern htr hc) (by exact Nat.le_of_ble_eq_true rfl) (by exact Nat.le_of_ble_eq_true rfl) hl.1 rfl (Nat.le_of_ble_eq_true rfl) dL_law_2196 ⟨by omega, by omega⟩ (fun H locs hH => ?_)
  refine lv_istore (lv' := [(5, .int x2), (0, .ref b), (1, .ref (B + 0)), (2, .ref (B + 713)), (3, .ref (B + 746)), (4, .int v4)]) hx hb dL_law_2199 hl (by decide) rfl (fun ls hl => ?_)
  refine lv_aload_n hx hb dL_law_2201 rfl (lv_at hl 3 rfl) ?_
  obtain ⟨x4, w3, hc, hf⟩ := bd_some hf
  refine q_callRV1 (v := .int x4) (As := []) C hH (ci := 11) rfl (by omega) gk_L_233 yd_X11_pattern kc_713 (c_X11_pattern hc) (by exact Nat.le_of_ble_eq_true rfl) (by exact Nat.le_of_ble_eq_true rfl) hl.1 rfl (Nat.le_of_ble_eq_true rfl) dL_law_2202 ⟨by omega, by omega⟩ (fun H locs hH hP => ?_)
  refine lv_istore (lv' := [(6, .int x4), (5, .int x2), (0, .ref b), (1, .ref (B + 0)), (2, .ref (B + 713)), (3, .ref (B + 746)), (4, .int v4)]) hx hb dL_law_2205 hl (by decide) rfl (fun ls hl => ?_)
  refine lv_aload_n hx hb dL_law_2207 rfl (lv_at hl 4 rfl) ?_
  obtain ⟨x6, w5, hc, hf⟩ := bd_some hf
  refine q_callRV1 (v := .int x6) (As := []) C hH (ci := 11) rfl (by omega) gk_L_141 yd_X11_thrown kc_713 (c_X11_thrown hc) (by exact Nat.le_of_ble_eq_true rfl) (by exact Nat.le_of_ble_eq_true rfl) hl.1 rfl (Nat.le_of_ble_eq_true rfl) dL_law_2208 ⟨by omega, by omega⟩ (fun H locs hH hP => ?_)
  refine lv_iload hx hb dL_law_2211 (lv_at hl 1 rfl) ?_
  refine b_icmp_eq (tgt := 2218) hx hb hf dL_law_2213 (by decide) (fun hf => ?_) (fun hf => ?_)
  · refine lv_iload hx hb dL_law_2218 (lv_at hl 1 rfl) ?_
    refine b_if_ne (tgt := 2235) hx hb hf dL_law_2220 (by decide) (fun hf => ?_) (fun hf => ?_)
    · refine lv_goto (tgt := 2712) hx hb dL_law_2235 (by decide) ?_
      refine b_let hf (fun x7 he hf => ?_)
      refine lv_iinc (v := x7) (lv' := [(4, .int x7), (6, .int x4), (5, .int x2), (0, .ref b), (1, .ref (B + 0)), (2, .ref (B + 713)), (3, .ref (B + 746))]) hx hb dL_law_2712 hl (k := 6) rfl (by rw [← he]; rfl) (by decide) rfl (fun ls hl => ?_)
      refine lv_goto (tgt := 23) hx hb dL_law_2715 (by decide) ?_
      refine W.widen (k := cells + 6) (n := slots + 36) (by omega) (by omega) ?_
      exact hr x7 w5 hf _ _ _ hH (lv_sub hl [3, 4, 5, 6, 0] rfl)
    · refine lv_aload_n hx hb dL_law_2223 rfl (lv_at hl 5 rfl) ?_
      refine lv_iconst (v := (0 : Int32)) hx hb dL_law_2224 (by decide) ?_
      refine g_lald C hH kc_746 hf dL_law_2225 (fun y8 hf => ?_)
      refine lv_iload hx hb dL_law_2226 (lv_at hl 0 rfl) ?_
      refine lv_i2l (v := x4.toInt64) hx hb dL_law_2228 rfl ?_
      refine W.lcmp hx hb dL_law_2229 ?_
      refine b_if_eq (tgt := 2235) hx hb hf dL_law_2230 (by decide) (fun hf => ?_) (fun hf => ?_)
      · refine lv_goto (tgt := 2712) hx hb dL_law_2235 (by decide) ?_
        refine b_let hf (fun x9 he hf => ?_)
        refine lv_iinc (v := x9) (lv' := [(4, .int x9), (6, .int x4), (5, .int x2), (0, .ref b), (1, .ref (B + 0)), (2, .ref (B + 713)), (3, .ref (B + 746))]) hx hb dL_law_2712 hl (k := 6) rfl (by rw [← he]; rfl) (by decide) rfl (fun ls hl => ?_)
        refine lv_goto (tgt := 23) hx hb dL_law_2715 (by decide) ?_
        refine W.widen (k := cells + 6) (n := slots + 36) (by omega) (by omega) ?_
        exact hr x9 w5 hf _ _ _ hH (lv_sub hl [3, 4, 5, 6, 0] rfl)
      · refine lv_iconst (v := (0 : Int32)) hx hb dL_law_2233 (by decide) ?_
        cases hf
  · refine lv_iconst (v := (0 : Int32)) hx hb dL_law_2216 (by decide) ?_
    cases hf
set_option maxRecDepth 100000 in
set_option maxHeartbeats 8000000 in
theorem t_L_law_2238 {D : va_G} {B : Nat} {Y : Nat → ClassId} {p : Program} {l : Launch} {e : Env} {s : State} {m : MethodId} {below : List Frame} {meth : Method} {c : Code} {b L : Nat} {xs : Nat → Int32} {rc : Int32 × Wd → Option Unit} {cells slots : Nat} {H : Heap} {locs : List Loc} {ls : Array Slot} {w : Wd} {v4 : Int32} {z : Unit} (C : CX D B Y p s m #[.ref b] meth c cL_law 8 RL (some .boolean)) (htr : l.stackTraces = false) (hL : LXS b L xs s B) (hcs : cells + 6 ≤ room_1.cells ∧ slots + 36 ≤ room_1.slots) (hr : ∀ (v4 : Int32) (w : Wd), rc (v4, w) = some z → ∀ (H : Heap) (locs : List Loc) (ls : Array Slot), HS D B Y w s H locs → lv_has ls 8 [(0, .ref b), (1, .ref (B + 0)), (2, .ref (B + 713)), (3, .ref (B + 746)), (4, .int v4)] → W p l e room_1 s m #[.ref b] below meth c H locs (cells + 6) (slots + 36) (lw_Z below #[.ref b] s) (F0 m 23 ls [])) (hH : HS D B Y w s H locs) (hl : lv_has ls 8 [(0, .ref b), (1, .ref (B + 0)), (2, .ref (B + 713)), (3, .ref (B + 746)), (4, .int v4)]) (hf : f_L_law_2238 L xs rc v4 w = some z) : W p l e room_1 s m #[.ref b] below meth c H locs cells slots (lw_Z below #[.ref b] s) (F0 m 2238 ls []) := by
  have hx := C.1
  have hb := C.2.1
  unfold f_L_law_2238 at hf
  refine lv_aload_n hx hb dL_law_2238 rfl (lv_at hl 1 rfl) ?_
  refine lv_aload_n hx hb dL_law_2239 rfl (lv_at hl 0 rfl) ?_
  refine lv_iload hx hb dL_law_2240 (lv_at hl 4 rfl) ?_
  refine lv_iconst (v := (1 : Int32)) hx hb dL_law_2242 (by decide) ?_
  refine lv_iadd hx hb dL_law_2243 ?_
  refine g_sld C hL hH hf dL_law_2244 (fun x1 hf => ?_)
  refine lv_aload_n hx hb dL_law_2245 rfl (lv_at hl 0 rfl) ?_
  refine lv_iload hx hb dL_law_2246 (lv_at hl 4 rfl) ?_
  refine lv_iconst (v := (2 : Int32)) hx hb dL_law_2248 (by decide) ?_
  refine lv_iadd hx hb dL_law_2249 ?_
  refine g_sld C hL hH hf dL_law_2250 (fun x2 hf => ?_)
  refine lv_aload_n hx hb dL_law_2251 rfl (lv_at hl 3 rfl) ?_
  obtain ⟨x4, w3, hc, hf⟩ := bd_some hf
  refine q_callLW (As := [.ref (B + 0), .int x1, .int x2, .ref (B + 746)]) C hH (k := x4) (goodSW wd_1283 wd_1284 wd_108 wd_1285) yd_L_match (c_L_match htr hc) (by exact Nat.le_of_ble_eq_true rfl) (by exact Nat.le_of_ble_eq_true rfl) hl.1 rfl (Nat.le_of_ble_eq_true rfl) dL_law_2252 ⟨by omega, by omega⟩ (fun H locs hH => ?_)
  refine lv_istore (lv' := [(5, .int x4), (0, .ref b), (1, .ref (B + 0)), (2, .ref (B + 713)), (3, .ref (B + 746)), (4, .int v4)]) hx hb dL_law_2255 hl (by decide) rfl (fun ls hl => ?_)
  refine lv_aload_n hx hb dL_law_2257 rfl (lv_at hl 3 rfl) ?_
  refine lv_aload_n hx hb dL_law_2258 rfl (lv_at hl 1 rfl) ?_
  refine lv_iload hx hb dL_law_2259 (lv_at hl 5 rfl) ?_
  refine lv_iconst (v := (1 : Int32)) hx hb dL_law_2261 (by decide) ?_
  refine lv_iadd hx hb dL_law_2262 ?_
  refine g_sld C hL hH hf dL_law_2263 (fun x5 hf => ?_)
  refine lv_aload_n hx hb dL_law_2264 rfl (lv_at hl 1 rfl) ?_
  refine lv_iload hx hb dL_law_2265 (lv_at hl 5 rfl) ?_
  refine lv_iconst (v := (2 : Int32)) hx hb dL_law_2267 (by decide) ?_
  refine lv_iadd hx hb dL_law_2268 ?_
  refine g_sld C hL hH hf dL_law_2269 (fun x6 hf => ?_)
  obtain ⟨x8, w7, hc, hf⟩ := bd_some hf
  refine q_callRV1 (v := .int x8) (As := [.int x5, .int x6]) C hH (ci := 11) rfl (by omega) gk_L_236 yd_X11_match kc_713 (c_X11_match hc) (by exact Nat.le_of_ble_eq_true rfl) (by exact Nat.le_of_ble_eq_true rfl) hl.1 rfl (Nat.le_of_ble_eq_true rfl) dL_law_2270 ⟨by omega, by omega⟩ (fun H locs hH hP => ?_)
  refine lv_istore (lv' := [(6, .int x8), (5, .int x4), (0, .ref b), (1, .ref (B + 0)), (2, .ref (B + 713)), (3, .ref (B + 746)), (4, .int v4)]) hx hb dL_law_2273 hl (by decide) rfl (fun ls hl => ?_)
  refine lv_aload_n hx hb dL_law_2275 rfl (lv_at hl 4 rfl) ?_
  obtain ⟨x10, w9, hc, hf⟩ := bd_some hf
  refine q_callRV1 (v := .int x10) (As := []) C hH (ci := 11) rfl (by omega) gk_L_141 yd_X11_thrown kc_713 (c_X11_thrown hc) (by exact Nat.le_of_ble_eq_true rfl) (by exact Nat.le_of_ble_eq_true rfl) hl.1 rfl (Nat.le_of_ble_eq_true rfl) dL_law_2276 ⟨by omega, by omega⟩ (fun H locs hH hP => ?_)
  refine lv_iload hx hb dL_law_2279 (lv_at hl 1 rfl) ?_
  refine b_icmp_eq (tgt := 2286) hx hb hf dL_law_2281 (by decide) (fun hf => ?_) (fun hf => ?_)
  · refine lv_iload hx hb dL_law_2286 (lv_at hl 1 rfl) ?_
    refine b_if_ne (tgt := 2303) hx hb hf dL_law_2288 (by decide) (fun hf => ?_) (fun hf => ?_)
    · refine lv_goto (tgt := 2712) hx hb dL_law_2303 (by decide) ?_
      refine b_let hf (fun x11 he hf => ?_)
      refine lv_iinc (v := x11) (lv' := [(4, .int x11), (6, .int x8), (5, .int x4), (0, .ref b), (1, .ref (B + 0)), (2, .ref (B + 713)), (3, .ref (B + 746))]) hx hb dL_law_2712 hl (k := 6) rfl (by rw [← he]; rfl) (by decide) rfl (fun ls hl => ?_)
      refine lv_goto (tgt := 23) hx hb dL_law_2715 (by decide) ?_
      refine W.widen (k := cells + 6) (n := slots + 36) (by omega) (by omega) ?_
      exact hr x11 w9 hf _ _ _ hH (lv_sub hl [3, 4, 5, 6, 0] rfl)
    · refine lv_aload_n hx hb dL_law_2291 rfl (lv_at hl 5 rfl) ?_
      refine lv_iconst (v := (0 : Int32)) hx hb dL_law_2292 (by decide) ?_
      refine g_lald C hH kc_746 hf dL_law_2293 (fun y12 hf => ?_)
      refine lv_iload hx hb dL_law_2294 (lv_at hl 0 rfl) ?_
      refine lv_i2l (v := x8.toInt64) hx hb dL_law_2296 rfl ?_
      refine W.lcmp hx hb dL_law_2297 ?_
      refine b_if_eq (tgt := 2303) hx hb hf dL_law_2298 (by decide) (fun hf => ?_) (fun hf => ?_)
      · refine lv_goto (tgt := 2712) hx hb dL_law_2303 (by decide) ?_
        refine b_let hf (fun x13 he hf => ?_)
        refine lv_iinc (v := x13) (lv' := [(4, .int x13), (6, .int x8), (5, .int x4), (0, .ref b), (1, .ref (B + 0)), (2, .ref (B + 713)), (3, .ref (B + 746))]) hx hb dL_law_2712 hl (k := 6) rfl (by rw [← he]; rfl) (by decide) rfl (fun ls hl => ?_)
        refine lv_goto (tgt := 23) hx hb dL_law_2715 (by decide) ?_
        refine W.widen (k := cells + 6) (n := slots + 36) (by omega) (by omega) ?_
        exact hr x13 w9 hf _ _ _ hH (lv_sub hl [3, 4, 5, 6, 0] rfl)
      · refine lv_iconst (v := (0 : Int32)) hx hb dL_law_2301 (by decide) ?_
        cases hf
  · refine lv_iconst (v := (0 : Int32)) hx hb dL_law_2284 (by decide) ?_
    cases hf
set_option maxRecDepth 100000 in
set_option maxHeartbeats 8000000 in
theorem t_L_law_2306 {D : va_G} {B : Nat} {Y : Nat → ClassId} {p : Program} {l : Launch} {e : Env} {s : State} {m : MethodId} {below : List Frame} {meth : Method} {c : Code} {b L : Nat} {xs : Nat → Int32} {rc : Int32 × Wd → Option Unit} {cells slots : Nat} {H : Heap} {locs : List Loc} {ls : Array Slot} {w : Wd} {v4 : Int32} {z : Unit} (C : CX D B Y p s m #[.ref b] meth c cL_law 8 RL (some .boolean)) (htr : l.stackTraces = false) (hL : LXS b L xs s B) (hcs : cells + 6 ≤ room_1.cells ∧ slots + 36 ≤ room_1.slots) (hr : ∀ (v4 : Int32) (w : Wd), rc (v4, w) = some z → ∀ (H : Heap) (locs : List Loc) (ls : Array Slot), HS D B Y w s H locs → lv_has ls 8 [(0, .ref b), (1, .ref (B + 0)), (2, .ref (B + 713)), (3, .ref (B + 746)), (4, .int v4)] → W p l e room_1 s m #[.ref b] below meth c H locs (cells + 6) (slots + 36) (lw_Z below #[.ref b] s) (F0 m 23 ls [])) (hH : HS D B Y w s H locs) (hl : lv_has ls 8 [(0, .ref b), (1, .ref (B + 0)), (2, .ref (B + 713)), (3, .ref (B + 746)), (4, .int v4)]) (hf : f_L_law_2306 L xs rc v4 w = some z) : W p l e room_1 s m #[.ref b] below meth c H locs cells slots (lw_Z below #[.ref b] s) (F0 m 2306 ls []) := by
  have hx := C.1
  have hb := C.2.1
  unfold f_L_law_2306 at hf
  refine lv_aload_n hx hb dL_law_2306 rfl (lv_at hl 1 rfl) ?_
  refine lv_aload_n hx hb dL_law_2307 rfl (lv_at hl 0 rfl) ?_
  refine lv_iload hx hb dL_law_2308 (lv_at hl 4 rfl) ?_
  refine lv_iconst (v := (1 : Int32)) hx hb dL_law_2310 (by decide) ?_
  refine lv_iadd hx hb dL_law_2311 ?_
  refine g_sld C hL hH hf dL_law_2312 (fun x1 hf => ?_)
  refine lv_aload_n hx hb dL_law_2313 rfl (lv_at hl 0 rfl) ?_
  refine lv_iload hx hb dL_law_2314 (lv_at hl 4 rfl) ?_
  refine lv_iconst (v := (2 : Int32)) hx hb dL_law_2316 (by decide) ?_
  refine lv_iadd hx hb dL_law_2317 ?_
  refine g_sld C hL hH hf dL_law_2318 (fun x2 hf => ?_)
  refine lv_aload_n hx hb dL_law_2319 rfl (lv_at hl 0 rfl) ?_
  refine lv_iload hx hb dL_law_2320 (lv_at hl 4 rfl) ?_
  refine lv_iconst (v := (3 : Int32)) hx hb dL_law_2322 (by decide) ?_
  refine lv_iadd hx hb dL_law_2323 ?_
  refine g_sld C hL hH hf dL_law_2324 (fun x3 hf => ?_)
  refine b_if_eq (tgt := 2332) hx hb hf dL_law_2325 (by decide) (fun hf => ?_) (fun hf => ?_)
  · refine lv_iconst (v := (0 : Int32)) hx hb dL_law_2332 (by decide) ?_
    refine lv_aload_n hx hb dL_law_2333 rfl (lv_at hl 3 rfl) ?_
    obtain ⟨x5, w4, hc, hf⟩ := bd_some hf
    refine q_callLW (As := [.ref (B + 0), .int x1, .int x2, .int (0 : Int32), .ref (B + 746)]) C hH (k := x5) (goodSW wd_1320 wd_1321 wd_108 wd_1322) yd_L_transliterate (c_L_transliterate htr isZ_0 hc) (by exact Nat.le_of_ble_eq_true rfl) (by exact Nat.le_of_ble_eq_true rfl) hl.1 rfl (Nat.le_of_ble_eq_true rfl) dL_law_2334 ⟨by omega, by omega⟩ (fun H locs hH => ?_)
    refine lv_istore (lv' := [(5, .int x5), (0, .ref b), (1, .ref (B + 0)), (2, .ref (B + 713)), (3, .ref (B + 746)), (4, .int v4)]) hx hb dL_law_2337 hl (by decide) rfl (fun ls hl => ?_)
    refine lv_aload_n hx hb dL_law_2339 rfl (lv_at hl 3 rfl) ?_
    refine lv_aload_n hx hb dL_law_2340 rfl (lv_at hl 1 rfl) ?_
    refine lv_iload hx hb dL_law_2341 (lv_at hl 5 rfl) ?_
    refine lv_iconst (v := (1 : Int32)) hx hb dL_law_2343 (by decide) ?_
    refine lv_iadd hx hb dL_law_2344 ?_
    refine g_sld C hL hH hf dL_law_2345 (fun x6 hf => ?_)
    refine lv_aload_n hx hb dL_law_2346 rfl (lv_at hl 1 rfl) ?_
    refine lv_iload hx hb dL_law_2347 (lv_at hl 5 rfl) ?_
    refine lv_iconst (v := (2 : Int32)) hx hb dL_law_2349 (by decide) ?_
    refine lv_iadd hx hb dL_law_2350 ?_
    refine g_sld C hL hH hf dL_law_2351 (fun x7 hf => ?_)
    refine lv_aload_n hx hb dL_law_2352 rfl (lv_at hl 1 rfl) ?_
    refine lv_iload hx hb dL_law_2353 (lv_at hl 5 rfl) ?_
    refine lv_iconst (v := (3 : Int32)) hx hb dL_law_2355 (by decide) ?_
    refine lv_iadd hx hb dL_law_2356 ?_
    refine g_sld C hL hH hf dL_law_2357 (fun x8 hf => ?_)
    refine b_if_eq (tgt := 2365) hx hb hf dL_law_2358 (by decide) (fun hf => ?_) (fun hf => ?_)
    · refine lv_iconst (v := (0 : Int32)) hx hb dL_law_2365 (by decide) ?_
      obtain ⟨x10, w9, hc, hf⟩ := bd_some hf
      refine q_callRV1 (v := .int x10) (As := [.int x6, .int x7, .int (0 : Int32)]) C hH (ci := 11) rfl (by omega) gk_L_239 yd_X11_transliterate kc_713 (c_X11_transliterate isZ_0 hc) (by exact Nat.le_of_ble_eq_true rfl) (by exact Nat.le_of_ble_eq_true rfl) hl.1 rfl (Nat.le_of_ble_eq_true rfl) dL_law_2366 ⟨by omega, by omega⟩ (fun H locs hH hP => ?_)
      refine lv_istore (lv' := [(6, .int x10), (5, .int x5), (0, .ref b), (1, .ref (B + 0)), (2, .ref (B + 713)), (3, .ref (B + 746)), (4, .int v4)]) hx hb dL_law_2369 hl (by decide) rfl (fun ls hl => ?_)
      refine lv_aload_n hx hb dL_law_2371 rfl (lv_at hl 4 rfl) ?_
      obtain ⟨x12, w11, hc, hf⟩ := bd_some hf
      refine q_callRV1 (v := .int x12) (As := []) C hH (ci := 11) rfl (by omega) gk_L_141 yd_X11_thrown kc_713 (c_X11_thrown hc) (by exact Nat.le_of_ble_eq_true rfl) (by exact Nat.le_of_ble_eq_true rfl) hl.1 rfl (Nat.le_of_ble_eq_true rfl) dL_law_2372 ⟨by omega, by omega⟩ (fun H locs hH hP => ?_)
      refine lv_iload hx hb dL_law_2375 (lv_at hl 1 rfl) ?_
      refine b_icmp_eq (tgt := 2382) hx hb hf dL_law_2377 (by decide) (fun hf => ?_) (fun hf => ?_)
      · refine lv_iload hx hb dL_law_2382 (lv_at hl 1 rfl) ?_
        refine b_if_ne (tgt := 2399) hx hb hf dL_law_2384 (by decide) (fun hf => ?_) (fun hf => ?_)
        · refine lv_goto (tgt := 2712) hx hb dL_law_2399 (by decide) ?_
          refine b_let hf (fun x13 he hf => ?_)
          refine lv_iinc (v := x13) (lv' := [(4, .int x13), (6, .int x10), (5, .int x5), (0, .ref b), (1, .ref (B + 0)), (2, .ref (B + 713)), (3, .ref (B + 746))]) hx hb dL_law_2712 hl (k := 6) rfl (by rw [← he]; rfl) (by decide) rfl (fun ls hl => ?_)
          refine lv_goto (tgt := 23) hx hb dL_law_2715 (by decide) ?_
          refine W.widen (k := cells + 6) (n := slots + 36) (by omega) (by omega) ?_
          exact hr x13 w11 hf _ _ _ hH (lv_sub hl [3, 4, 5, 6, 0] rfl)
        · refine lv_aload_n hx hb dL_law_2387 rfl (lv_at hl 5 rfl) ?_
          refine lv_iconst (v := (0 : Int32)) hx hb dL_law_2388 (by decide) ?_
          refine g_lald C hH kc_746 hf dL_law_2389 (fun y14 hf => ?_)
          refine lv_iload hx hb dL_law_2390 (lv_at hl 0 rfl) ?_
          refine lv_i2l (v := x10.toInt64) hx hb dL_law_2392 rfl ?_
          refine W.lcmp hx hb dL_law_2393 ?_
          refine b_if_eq (tgt := 2399) hx hb hf dL_law_2394 (by decide) (fun hf => ?_) (fun hf => ?_)
          · refine lv_goto (tgt := 2712) hx hb dL_law_2399 (by decide) ?_
            refine b_let hf (fun x15 he hf => ?_)
            refine lv_iinc (v := x15) (lv' := [(4, .int x15), (6, .int x10), (5, .int x5), (0, .ref b), (1, .ref (B + 0)), (2, .ref (B + 713)), (3, .ref (B + 746))]) hx hb dL_law_2712 hl (k := 6) rfl (by rw [← he]; rfl) (by decide) rfl (fun ls hl => ?_)
            refine lv_goto (tgt := 23) hx hb dL_law_2715 (by decide) ?_
            refine W.widen (k := cells + 6) (n := slots + 36) (by omega) (by omega) ?_
            exact hr x15 w11 hf _ _ _ hH (lv_sub hl [3, 4, 5, 6, 0] rfl)
          · refine lv_iconst (v := (0 : Int32)) hx hb dL_law_2397 (by decide) ?_
            cases hf
      · refine lv_iconst (v := (0 : Int32)) hx hb dL_law_2380 (by decide) ?_
        cases hf
    · refine lv_iconst (v := (1 : Int32)) hx hb dL_law_2361 (by decide) ?_
      refine lv_goto (tgt := 2366) hx hb dL_law_2362 (by decide) ?_
      obtain ⟨x17, w16, hc, hf⟩ := bd_some hf
      refine q_callRV1 (v := .int x17) (As := [.int x6, .int x7, .int (1 : Int32)]) C hH (ci := 11) rfl (by omega) gk_L_239 yd_X11_transliterate kc_713 (c_X11_transliterate isZ_1 hc) (by exact Nat.le_of_ble_eq_true rfl) (by exact Nat.le_of_ble_eq_true rfl) hl.1 rfl (Nat.le_of_ble_eq_true rfl) dL_law_2366 ⟨by omega, by omega⟩ (fun H locs hH hP => ?_)
      refine lv_istore (lv' := [(6, .int x17), (5, .int x5), (0, .ref b), (1, .ref (B + 0)), (2, .ref (B + 713)), (3, .ref (B + 746)), (4, .int v4)]) hx hb dL_law_2369 hl (by decide) rfl (fun ls hl => ?_)
      refine lv_aload_n hx hb dL_law_2371 rfl (lv_at hl 4 rfl) ?_
      obtain ⟨x19, w18, hc, hf⟩ := bd_some hf
      refine q_callRV1 (v := .int x19) (As := []) C hH (ci := 11) rfl (by omega) gk_L_141 yd_X11_thrown kc_713 (c_X11_thrown hc) (by exact Nat.le_of_ble_eq_true rfl) (by exact Nat.le_of_ble_eq_true rfl) hl.1 rfl (Nat.le_of_ble_eq_true rfl) dL_law_2372 ⟨by omega, by omega⟩ (fun H locs hH hP => ?_)
      refine lv_iload hx hb dL_law_2375 (lv_at hl 1 rfl) ?_
      refine b_icmp_eq (tgt := 2382) hx hb hf dL_law_2377 (by decide) (fun hf => ?_) (fun hf => ?_)
      · refine lv_iload hx hb dL_law_2382 (lv_at hl 1 rfl) ?_
        refine b_if_ne (tgt := 2399) hx hb hf dL_law_2384 (by decide) (fun hf => ?_) (fun hf => ?_)
        · refine lv_goto (tgt := 2712) hx hb dL_law_2399 (by decide) ?_
          refine b_let hf (fun x20 he hf => ?_)
          refine lv_iinc (v := x20) (lv' := [(4, .int x20), (6, .int x17), (5, .int x5), (0, .ref b), (1, .ref (B + 0)), (2, .ref (B + 713)), (3, .ref (B + 746))]) hx hb dL_law_2712 hl (k := 6) rfl (by rw [← he]; rfl) (by decide) rfl (fun ls hl => ?_)
          refine lv_goto (tgt := 23) hx hb dL_law_2715 (by decide) ?_
          refine W.widen (k := cells + 6) (n := slots + 36) (by omega) (by omega) ?_
          exact hr x20 w18 hf _ _ _ hH (lv_sub hl [3, 4, 5, 6, 0] rfl)
        · refine lv_aload_n hx hb dL_law_2387 rfl (lv_at hl 5 rfl) ?_
          refine lv_iconst (v := (0 : Int32)) hx hb dL_law_2388 (by decide) ?_
          refine g_lald C hH kc_746 hf dL_law_2389 (fun y21 hf => ?_)
          refine lv_iload hx hb dL_law_2390 (lv_at hl 0 rfl) ?_
          refine lv_i2l (v := x17.toInt64) hx hb dL_law_2392 rfl ?_
          refine W.lcmp hx hb dL_law_2393 ?_
          refine b_if_eq (tgt := 2399) hx hb hf dL_law_2394 (by decide) (fun hf => ?_) (fun hf => ?_)
          · refine lv_goto (tgt := 2712) hx hb dL_law_2399 (by decide) ?_
            refine b_let hf (fun x22 he hf => ?_)
            refine lv_iinc (v := x22) (lv' := [(4, .int x22), (6, .int x17), (5, .int x5), (0, .ref b), (1, .ref (B + 0)), (2, .ref (B + 713)), (3, .ref (B + 746))]) hx hb dL_law_2712 hl (k := 6) rfl (by rw [← he]; rfl) (by decide) rfl (fun ls hl => ?_)
            refine lv_goto (tgt := 23) hx hb dL_law_2715 (by decide) ?_
            refine W.widen (k := cells + 6) (n := slots + 36) (by omega) (by omega) ?_
            exact hr x22 w18 hf _ _ _ hH (lv_sub hl [3, 4, 5, 6, 0] rfl)
          · refine lv_iconst (v := (0 : Int32)) hx hb dL_law_2397 (by decide) ?_
            cases hf
      · refine lv_iconst (v := (0 : Int32)) hx hb dL_law_2380 (by decide) ?_
        cases hf
  · refine lv_iconst (v := (1 : Int32)) hx hb dL_law_2328 (by decide) ?_
    refine lv_goto (tgt := 2333) hx hb dL_law_2329 (by decide) ?_
    refine lv_aload_n hx hb dL_law_2333 rfl (lv_at hl 3 rfl) ?_
    obtain ⟨x24, w23, hc, hf⟩ := bd_some hf
    refine q_callLW (As := [.ref (B + 0), .int x1, .int x2, .int (1 : Int32), .ref (B + 746)]) C hH (k := x24) (goodSW wd_1320 wd_1321 wd_108 wd_1322) yd_L_transliterate (c_L_transliterate htr isZ_1 hc) (by exact Nat.le_of_ble_eq_true rfl) (by exact Nat.le_of_ble_eq_true rfl) hl.1 rfl (Nat.le_of_ble_eq_true rfl) dL_law_2334 ⟨by omega, by omega⟩ (fun H locs hH => ?_)
    refine lv_istore (lv' := [(5, .int x24), (0, .ref b), (1, .ref (B + 0)), (2, .ref (B + 713)), (3, .ref (B + 746)), (4, .int v4)]) hx hb dL_law_2337 hl (by decide) rfl (fun ls hl => ?_)
    refine lv_aload_n hx hb dL_law_2339 rfl (lv_at hl 3 rfl) ?_
    refine lv_aload_n hx hb dL_law_2340 rfl (lv_at hl 1 rfl) ?_
    refine lv_iload hx hb dL_law_2341 (lv_at hl 5 rfl) ?_
    refine lv_iconst (v := (1 : Int32)) hx hb dL_law_2343 (by decide) ?_
    refine lv_iadd hx hb dL_law_2344 ?_
    refine g_sld C hL hH hf dL_law_2345 (fun x25 hf => ?_)
    refine lv_aload_n hx hb dL_law_2346 rfl (lv_at hl 1 rfl) ?_
    refine lv_iload hx hb dL_law_2347 (lv_at hl 5 rfl) ?_
    refine lv_iconst (v := (2 : Int32)) hx hb dL_law_2349 (by decide) ?_
    refine lv_iadd hx hb dL_law_2350 ?_
    refine g_sld C hL hH hf dL_law_2351 (fun x26 hf => ?_)
    refine lv_aload_n hx hb dL_law_2352 rfl (lv_at hl 1 rfl) ?_
    refine lv_iload hx hb dL_law_2353 (lv_at hl 5 rfl) ?_
    refine lv_iconst (v := (3 : Int32)) hx hb dL_law_2355 (by decide) ?_
    refine lv_iadd hx hb dL_law_2356 ?_
    refine g_sld C hL hH hf dL_law_2357 (fun x27 hf => ?_)
    refine b_if_eq (tgt := 2365) hx hb hf dL_law_2358 (by decide) (fun hf => ?_) (fun hf => ?_)
    · refine lv_iconst (v := (0 : Int32)) hx hb dL_law_2365 (by decide) ?_
      obtain ⟨x29, w28, hc, hf⟩ := bd_some hf
      refine q_callRV1 (v := .int x29) (As := [.int x25, .int x26, .int (0 : Int32)]) C hH (ci := 11) rfl (by omega) gk_L_239 yd_X11_transliterate kc_713 (c_X11_transliterate isZ_0 hc) (by exact Nat.le_of_ble_eq_true rfl) (by exact Nat.le_of_ble_eq_true rfl) hl.1 rfl (Nat.le_of_ble_eq_true rfl) dL_law_2366 ⟨by omega, by omega⟩ (fun H locs hH hP => ?_)
      refine lv_istore (lv' := [(6, .int x29), (5, .int x24), (0, .ref b), (1, .ref (B + 0)), (2, .ref (B + 713)), (3, .ref (B + 746)), (4, .int v4)]) hx hb dL_law_2369 hl (by decide) rfl (fun ls hl => ?_)
      refine lv_aload_n hx hb dL_law_2371 rfl (lv_at hl 4 rfl) ?_
      obtain ⟨x31, w30, hc, hf⟩ := bd_some hf
      refine q_callRV1 (v := .int x31) (As := []) C hH (ci := 11) rfl (by omega) gk_L_141 yd_X11_thrown kc_713 (c_X11_thrown hc) (by exact Nat.le_of_ble_eq_true rfl) (by exact Nat.le_of_ble_eq_true rfl) hl.1 rfl (Nat.le_of_ble_eq_true rfl) dL_law_2372 ⟨by omega, by omega⟩ (fun H locs hH hP => ?_)
      refine lv_iload hx hb dL_law_2375 (lv_at hl 1 rfl) ?_
      refine b_icmp_eq (tgt := 2382) hx hb hf dL_law_2377 (by decide) (fun hf => ?_) (fun hf => ?_)
      · refine lv_iload hx hb dL_law_2382 (lv_at hl 1 rfl) ?_
        refine b_if_ne (tgt := 2399) hx hb hf dL_law_2384 (by decide) (fun hf => ?_) (fun hf => ?_)
        · refine lv_goto (tgt := 2712) hx hb dL_law_2399 (by decide) ?_
          refine b_let hf (fun x32 he hf => ?_)
          refine lv_iinc (v := x32) (lv' := [(4, .int x32), (6, .int x29), (5, .int x24), (0, .ref b), (1, .ref (B + 0)), (2, .ref (B + 713)), (3, .ref (B + 746))]) hx hb dL_law_2712 hl (k := 6) rfl (by rw [← he]; rfl) (by decide) rfl (fun ls hl => ?_)
          refine lv_goto (tgt := 23) hx hb dL_law_2715 (by decide) ?_
          refine W.widen (k := cells + 6) (n := slots + 36) (by omega) (by omega) ?_
          exact hr x32 w30 hf _ _ _ hH (lv_sub hl [3, 4, 5, 6, 0] rfl)
        · refine lv_aload_n hx hb dL_law_2387 rfl (lv_at hl 5 rfl) ?_
          refine lv_iconst (v := (0 : Int32)) hx hb dL_law_2388 (by decide) ?_
          refine g_lald C hH kc_746 hf dL_law_2389 (fun y33 hf => ?_)
          refine lv_iload hx hb dL_law_2390 (lv_at hl 0 rfl) ?_
          refine lv_i2l (v := x29.toInt64) hx hb dL_law_2392 rfl ?_
          refine W.lcmp hx hb dL_law_2393 ?_
          refine b_if_eq (tgt := 2399) hx hb hf dL_law_2394 (by decide) (fun hf => ?_) (fun hf => ?_)
          · refine lv_goto (tgt := 2712) hx hb dL_law_2399 (by decide) ?_
            refine b_let hf (fun x34 he hf => ?_)
            refine lv_iinc (v := x34) (lv' := [(4, .int x34), (6, .int x29), (5, .int x24), (0, .ref b), (1, .ref (B + 0)), (2, .ref (B + 713)), (3, .ref (B + 746))]) hx hb dL_law_2712 hl (k := 6) rfl (by rw [← he]; rfl) (by decide) rfl (fun ls hl => ?_)
            refine lv_goto (tgt := 23) hx hb dL_law_2715 (by decide) ?_
            refine W.widen (k := cells + 6) (n := slots + 36) (by omega) (by omega) ?_
            exact hr x34 w30 hf _ _ _ hH (lv_sub hl [3, 4, 5, 6, 0] rfl)
          · refine lv_iconst (v := (0 : Int32)) hx hb dL_law_2397 (by decide) ?_
            cases hf
      · refine lv_iconst (v := (0 : Int32)) hx hb dL_law_2380 (by decide) ?_
        cases hf
    · refine lv_iconst (v := (1 : Int32)) hx hb dL_law_2361 (by decide) ?_
      refine lv_goto (tgt := 2366) hx hb dL_law_2362 (by decide) ?_
      obtain ⟨x36, w35, hc, hf⟩ := bd_some hf
      refine q_callRV1 (v := .int x36) (As := [.int x25, .int x26, .int (1 : Int32)]) C hH (ci := 11) rfl (by omega) gk_L_239 yd_X11_transliterate kc_713 (c_X11_transliterate isZ_1 hc) (by exact Nat.le_of_ble_eq_true rfl) (by exact Nat.le_of_ble_eq_true rfl) hl.1 rfl (Nat.le_of_ble_eq_true rfl) dL_law_2366 ⟨by omega, by omega⟩ (fun H locs hH hP => ?_)
      refine lv_istore (lv' := [(6, .int x36), (5, .int x24), (0, .ref b), (1, .ref (B + 0)), (2, .ref (B + 713)), (3, .ref (B + 746)), (4, .int v4)]) hx hb dL_law_2369 hl (by decide) rfl (fun ls hl => ?_)
      refine lv_aload_n hx hb dL_law_2371 rfl (lv_at hl 4 rfl) ?_
      obtain ⟨x38, w37, hc, hf⟩ := bd_some hf
      refine q_callRV1 (v := .int x38) (As := []) C hH (ci := 11) rfl (by omega) gk_L_141 yd_X11_thrown kc_713 (c_X11_thrown hc) (by exact Nat.le_of_ble_eq_true rfl) (by exact Nat.le_of_ble_eq_true rfl) hl.1 rfl (Nat.le_of_ble_eq_true rfl) dL_law_2372 ⟨by omega, by omega⟩ (fun H locs hH hP => ?_)
      refine lv_iload hx hb dL_law_2375 (lv_at hl 1 rfl) ?_
      refine b_icmp_eq (tgt := 2382) hx hb hf dL_law_2377 (by decide) (fun hf => ?_) (fun hf => ?_)
      · refine lv_iload hx hb dL_law_2382 (lv_at hl 1 rfl) ?_
        refine b_if_ne (tgt := 2399) hx hb hf dL_law_2384 (by decide) (fun hf => ?_) (fun hf => ?_)
        · refine lv_goto (tgt := 2712) hx hb dL_law_2399 (by decide) ?_
          refine b_let hf (fun x39 he hf => ?_)
          refine lv_iinc (v := x39) (lv' := [(4, .int x39), (6, .int x36), (5, .int x24), (0, .ref b), (1, .ref (B + 0)), (2, .ref (B + 713)), (3, .ref (B + 746))]) hx hb dL_law_2712 hl (k := 6) rfl (by rw [← he]; rfl) (by decide) rfl (fun ls hl => ?_)
          refine lv_goto (tgt := 23) hx hb dL_law_2715 (by decide) ?_
          refine W.widen (k := cells + 6) (n := slots + 36) (by omega) (by omega) ?_
          exact hr x39 w37 hf _ _ _ hH (lv_sub hl [3, 4, 5, 6, 0] rfl)
        · refine lv_aload_n hx hb dL_law_2387 rfl (lv_at hl 5 rfl) ?_
          refine lv_iconst (v := (0 : Int32)) hx hb dL_law_2388 (by decide) ?_
          refine g_lald C hH kc_746 hf dL_law_2389 (fun y40 hf => ?_)
          refine lv_iload hx hb dL_law_2390 (lv_at hl 0 rfl) ?_
          refine lv_i2l (v := x36.toInt64) hx hb dL_law_2392 rfl ?_
          refine W.lcmp hx hb dL_law_2393 ?_
          refine b_if_eq (tgt := 2399) hx hb hf dL_law_2394 (by decide) (fun hf => ?_) (fun hf => ?_)
          · refine lv_goto (tgt := 2712) hx hb dL_law_2399 (by decide) ?_
            refine b_let hf (fun x41 he hf => ?_)
            refine lv_iinc (v := x41) (lv' := [(4, .int x41), (6, .int x36), (5, .int x24), (0, .ref b), (1, .ref (B + 0)), (2, .ref (B + 713)), (3, .ref (B + 746))]) hx hb dL_law_2712 hl (k := 6) rfl (by rw [← he]; rfl) (by decide) rfl (fun ls hl => ?_)
            refine lv_goto (tgt := 23) hx hb dL_law_2715 (by decide) ?_
            refine W.widen (k := cells + 6) (n := slots + 36) (by omega) (by omega) ?_
            exact hr x41 w37 hf _ _ _ hH (lv_sub hl [3, 4, 5, 6, 0] rfl)
          · refine lv_iconst (v := (0 : Int32)) hx hb dL_law_2397 (by decide) ?_
            cases hf
      · refine lv_iconst (v := (0 : Int32)) hx hb dL_law_2380 (by decide) ?_
        cases hf
set_option maxRecDepth 100000 in
set_option maxHeartbeats 8000000 in
theorem t_L_law_2402 {D : va_G} {B : Nat} {Y : Nat → ClassId} {p : Program} {l : Launch} {e : Env} {s : State} {m : MethodId} {below : List Frame} {meth : Method} {c : Code} {b L : Nat} {xs : Nat → Int32} {rc : Int32 × Wd → Option Unit} {cells slots : Nat} {H : Heap} {locs : List Loc} {ls : Array Slot} {w : Wd} {v4 : Int32} {z : Unit} (C : CX D B Y p s m #[.ref b] meth c cL_law 8 RL (some .boolean)) (htr : l.stackTraces = false) (hL : LXS b L xs s B) (hcs : cells + 6 ≤ room_1.cells ∧ slots + 36 ≤ room_1.slots) (hr : ∀ (v4 : Int32) (w : Wd), rc (v4, w) = some z → ∀ (H : Heap) (locs : List Loc) (ls : Array Slot), HS D B Y w s H locs → lv_has ls 8 [(0, .ref b), (1, .ref (B + 0)), (2, .ref (B + 713)), (3, .ref (B + 746)), (4, .int v4)] → W p l e room_1 s m #[.ref b] below meth c H locs (cells + 6) (slots + 36) (lw_Z below #[.ref b] s) (F0 m 23 ls [])) (hH : HS D B Y w s H locs) (hl : lv_has ls 8 [(0, .ref b), (1, .ref (B + 0)), (2, .ref (B + 713)), (3, .ref (B + 746)), (4, .int v4)]) (hf : f_L_law_2402 L xs rc v4 w = some z) : W p l e room_1 s m #[.ref b] below meth c H locs cells slots (lw_Z below #[.ref b] s) (F0 m 2402 ls []) := by
  have hx := C.1
  have hb := C.2.1
  unfold f_L_law_2402 at hf
  refine lv_aload_n hx hb dL_law_2402 rfl (lv_at hl 1 rfl) ?_
  refine lv_aload_n hx hb dL_law_2403 rfl (lv_at hl 0 rfl) ?_
  refine lv_iload hx hb dL_law_2404 (lv_at hl 4 rfl) ?_
  refine lv_iconst (v := (1 : Int32)) hx hb dL_law_2406 (by decide) ?_
  refine lv_iadd hx hb dL_law_2407 ?_
  refine g_sld C hL hH hf dL_law_2408 (fun x1 hf => ?_)
  refine lv_aload_n hx hb dL_law_2409 rfl (lv_at hl 0 rfl) ?_
  refine lv_iload hx hb dL_law_2410 (lv_at hl 4 rfl) ?_
  refine lv_iconst (v := (2 : Int32)) hx hb dL_law_2412 (by decide) ?_
  refine lv_iadd hx hb dL_law_2413 ?_
  refine g_sld C hL hH hf dL_law_2414 (fun x2 hf => ?_)
  refine lv_aload_n hx hb dL_law_2415 rfl (lv_at hl 3 rfl) ?_
  obtain ⟨x4, w3, hc, hf⟩ := bd_some hf
  refine q_callLW (As := [.ref (B + 0), .int x1, .int x2, .ref (B + 746)]) C hH (k := x4) (goodSW wd_1357 wd_1358 wd_108 wd_1359) yd_L_classOf (c_L_classOf htr hc) (by exact Nat.le_of_ble_eq_true rfl) (by exact Nat.le_of_ble_eq_true rfl) hl.1 rfl (Nat.le_of_ble_eq_true rfl) dL_law_2416 ⟨by omega, by omega⟩ (fun H locs hH => ?_)
  refine lv_istore (lv' := [(5, .int x4), (0, .ref b), (1, .ref (B + 0)), (2, .ref (B + 713)), (3, .ref (B + 746)), (4, .int v4)]) hx hb dL_law_2419 hl (by decide) rfl (fun ls hl => ?_)
  refine lv_aload_n hx hb dL_law_2421 rfl (lv_at hl 3 rfl) ?_
  refine lv_aload_n hx hb dL_law_2422 rfl (lv_at hl 1 rfl) ?_
  refine lv_iload hx hb dL_law_2423 (lv_at hl 5 rfl) ?_
  refine lv_iconst (v := (1 : Int32)) hx hb dL_law_2425 (by decide) ?_
  refine lv_iadd hx hb dL_law_2426 ?_
  refine g_sld C hL hH hf dL_law_2427 (fun x5 hf => ?_)
  refine lv_aload_n hx hb dL_law_2428 rfl (lv_at hl 1 rfl) ?_
  refine lv_iload hx hb dL_law_2429 (lv_at hl 5 rfl) ?_
  refine lv_iconst (v := (2 : Int32)) hx hb dL_law_2431 (by decide) ?_
  refine lv_iadd hx hb dL_law_2432 ?_
  refine g_sld C hL hH hf dL_law_2433 (fun x6 hf => ?_)
  obtain ⟨x8, w7, hc, hf⟩ := bd_some hf
  refine q_callRV1 (v := .int x8) (As := [.int x5, .int x6]) C hH (ci := 11) rfl (by omega) gk_L_242 yd_X11_classOf kc_713 (c_X11_classOf hc) (by exact Nat.le_of_ble_eq_true rfl) (by exact Nat.le_of_ble_eq_true rfl) hl.1 rfl (Nat.le_of_ble_eq_true rfl) dL_law_2434 ⟨by omega, by omega⟩ (fun H locs hH hP => ?_)
  refine lv_istore (lv' := [(6, .int x8), (5, .int x4), (0, .ref b), (1, .ref (B + 0)), (2, .ref (B + 713)), (3, .ref (B + 746)), (4, .int v4)]) hx hb dL_law_2437 hl (by decide) rfl (fun ls hl => ?_)
  refine lv_aload_n hx hb dL_law_2439 rfl (lv_at hl 4 rfl) ?_
  obtain ⟨x10, w9, hc, hf⟩ := bd_some hf
  refine q_callRV1 (v := .int x10) (As := []) C hH (ci := 11) rfl (by omega) gk_L_141 yd_X11_thrown kc_713 (c_X11_thrown hc) (by exact Nat.le_of_ble_eq_true rfl) (by exact Nat.le_of_ble_eq_true rfl) hl.1 rfl (Nat.le_of_ble_eq_true rfl) dL_law_2440 ⟨by omega, by omega⟩ (fun H locs hH hP => ?_)
  refine lv_iload hx hb dL_law_2443 (lv_at hl 1 rfl) ?_
  refine b_icmp_eq (tgt := 2450) hx hb hf dL_law_2445 (by decide) (fun hf => ?_) (fun hf => ?_)
  · refine lv_iload hx hb dL_law_2450 (lv_at hl 1 rfl) ?_
    refine b_if_ne (tgt := 2467) hx hb hf dL_law_2452 (by decide) (fun hf => ?_) (fun hf => ?_)
    · refine lv_goto (tgt := 2712) hx hb dL_law_2467 (by decide) ?_
      refine b_let hf (fun x11 he hf => ?_)
      refine lv_iinc (v := x11) (lv' := [(4, .int x11), (6, .int x8), (5, .int x4), (0, .ref b), (1, .ref (B + 0)), (2, .ref (B + 713)), (3, .ref (B + 746))]) hx hb dL_law_2712 hl (k := 6) rfl (by rw [← he]; rfl) (by decide) rfl (fun ls hl => ?_)
      refine lv_goto (tgt := 23) hx hb dL_law_2715 (by decide) ?_
      refine W.widen (k := cells + 6) (n := slots + 36) (by omega) (by omega) ?_
      exact hr x11 w9 hf _ _ _ hH (lv_sub hl [3, 4, 5, 6, 0] rfl)
    · refine lv_aload_n hx hb dL_law_2455 rfl (lv_at hl 5 rfl) ?_
      refine lv_iconst (v := (0 : Int32)) hx hb dL_law_2456 (by decide) ?_
      refine g_lald C hH kc_746 hf dL_law_2457 (fun y12 hf => ?_)
      refine lv_iload hx hb dL_law_2458 (lv_at hl 0 rfl) ?_
      refine lv_i2l (v := x8.toInt64) hx hb dL_law_2460 rfl ?_
      refine W.lcmp hx hb dL_law_2461 ?_
      refine b_if_eq (tgt := 2467) hx hb hf dL_law_2462 (by decide) (fun hf => ?_) (fun hf => ?_)
      · refine lv_goto (tgt := 2712) hx hb dL_law_2467 (by decide) ?_
        refine b_let hf (fun x13 he hf => ?_)
        refine lv_iinc (v := x13) (lv' := [(4, .int x13), (6, .int x8), (5, .int x4), (0, .ref b), (1, .ref (B + 0)), (2, .ref (B + 713)), (3, .ref (B + 746))]) hx hb dL_law_2712 hl (k := 6) rfl (by rw [← he]; rfl) (by decide) rfl (fun ls hl => ?_)
        refine lv_goto (tgt := 23) hx hb dL_law_2715 (by decide) ?_
        refine W.widen (k := cells + 6) (n := slots + 36) (by omega) (by omega) ?_
        exact hr x13 w9 hf _ _ _ hH (lv_sub hl [3, 4, 5, 6, 0] rfl)
      · refine lv_iconst (v := (0 : Int32)) hx hb dL_law_2465 (by decide) ?_
        cases hf
  · refine lv_iconst (v := (0 : Int32)) hx hb dL_law_2448 (by decide) ?_
    cases hf
set_option maxRecDepth 100000 in
set_option maxHeartbeats 8000000 in
theorem t_L_law_2470 {D : va_G} {B : Nat} {Y : Nat → ClassId} {p : Program} {l : Launch} {e : Env} {s : State} {m : MethodId} {below : List Frame} {meth : Method} {c : Code} {b L : Nat} {xs : Nat → Int32} {rc : Int32 × Wd → Option Unit} {cells slots : Nat} {H : Heap} {locs : List Loc} {ls : Array Slot} {w : Wd} {v4 : Int32} {z : Unit} (C : CX D B Y p s m #[.ref b] meth c cL_law 8 RL (some .boolean)) (htr : l.stackTraces = false) (hL : LXS b L xs s B) (hcs : cells + 6 ≤ room_1.cells ∧ slots + 36 ≤ room_1.slots) (hr : ∀ (v4 : Int32) (w : Wd), rc (v4, w) = some z → ∀ (H : Heap) (locs : List Loc) (ls : Array Slot), HS D B Y w s H locs → lv_has ls 8 [(0, .ref b), (1, .ref (B + 0)), (2, .ref (B + 713)), (3, .ref (B + 746)), (4, .int v4)] → W p l e room_1 s m #[.ref b] below meth c H locs (cells + 6) (slots + 36) (lw_Z below #[.ref b] s) (F0 m 23 ls [])) (hH : HS D B Y w s H locs) (hl : lv_has ls 8 [(0, .ref b), (1, .ref (B + 0)), (2, .ref (B + 713)), (3, .ref (B + 746)), (4, .int v4)]) (hf : f_L_law_2470 L xs rc v4 w = some z) : W p l e room_1 s m #[.ref b] below meth c H locs cells slots (lw_Z below #[.ref b] s) (F0 m 2470 ls []) := by
  have hx := C.1
  have hb := C.2.1
  unfold f_L_law_2470 at hf
  refine lv_aload_n hx hb dL_law_2470 rfl (lv_at hl 1 rfl) ?_
  refine lv_aload_n hx hb dL_law_2471 rfl (lv_at hl 0 rfl) ?_
  refine lv_iload hx hb dL_law_2472 (lv_at hl 4 rfl) ?_
  refine lv_iconst (v := (1 : Int32)) hx hb dL_law_2474 (by decide) ?_
  refine lv_iadd hx hb dL_law_2475 ?_
  refine g_sld C hL hH hf dL_law_2476 (fun x1 hf => ?_)
  refine lv_aload_n hx hb dL_law_2477 rfl (lv_at hl 0 rfl) ?_
  refine lv_iload hx hb dL_law_2478 (lv_at hl 4 rfl) ?_
  refine lv_iconst (v := (2 : Int32)) hx hb dL_law_2480 (by decide) ?_
  refine lv_iadd hx hb dL_law_2481 ?_
  refine g_sld C hL hH hf dL_law_2482 (fun x2 hf => ?_)
  refine lv_aload_n hx hb dL_law_2483 rfl (lv_at hl 0 rfl) ?_
  refine lv_iload hx hb dL_law_2484 (lv_at hl 4 rfl) ?_
  refine lv_iconst (v := (3 : Int32)) hx hb dL_law_2486 (by decide) ?_
  refine lv_iadd hx hb dL_law_2487 ?_
  refine g_sld C hL hH hf dL_law_2488 (fun x3 hf => ?_)
  refine lv_aload_n hx hb dL_law_2489 rfl (lv_at hl 0 rfl) ?_
  refine lv_iload hx hb dL_law_2490 (lv_at hl 4 rfl) ?_
  refine lv_iconst (v := (4 : Int32)) hx hb dL_law_2492 (by decide) ?_
  refine lv_iadd hx hb dL_law_2493 ?_
  refine g_sld C hL hH hf dL_law_2494 (fun x4 hf => ?_)
  refine lv_aload_n hx hb dL_law_2495 rfl (lv_at hl 0 rfl) ?_
  refine lv_iload hx hb dL_law_2496 (lv_at hl 4 rfl) ?_
  refine lv_iconst (v := (5 : Int32)) hx hb dL_law_2498 (by decide) ?_
  refine lv_iadd hx hb dL_law_2499 ?_
  refine g_sld C hL hH hf dL_law_2500 (fun x5 hf => ?_)
  refine lv_aload_n hx hb dL_law_2501 rfl (lv_at hl 3 rfl) ?_
  obtain ⟨x7, w6, hc, hf⟩ := bd_some hf
  refine q_callLW (As := [.ref (B + 0), .int x1, .int x2, .int x3, .int x4, .int x5, .ref (B + 746)]) C hH (k := x7) (goodSW wd_1384 wd_1385 wd_108 wd_1386) yd_L_message (c_L_message htr hc) (by exact Nat.le_of_ble_eq_true rfl) (by exact Nat.le_of_ble_eq_true rfl) hl.1 rfl (Nat.le_of_ble_eq_true rfl) dL_law_2502 ⟨by omega, by omega⟩ (fun H locs hH => ?_)
  refine lv_istore (lv' := [(5, .int x7), (0, .ref b), (1, .ref (B + 0)), (2, .ref (B + 713)), (3, .ref (B + 746)), (4, .int v4)]) hx hb dL_law_2505 hl (by decide) rfl (fun ls hl => ?_)
  refine lv_aload_n hx hb dL_law_2507 rfl (lv_at hl 3 rfl) ?_
  refine lv_aload_n hx hb dL_law_2508 rfl (lv_at hl 1 rfl) ?_
  refine lv_iload hx hb dL_law_2509 (lv_at hl 5 rfl) ?_
  refine lv_iconst (v := (1 : Int32)) hx hb dL_law_2511 (by decide) ?_
  refine lv_iadd hx hb dL_law_2512 ?_
  refine g_sld C hL hH hf dL_law_2513 (fun x8 hf => ?_)
  refine lv_aload_n hx hb dL_law_2514 rfl (lv_at hl 1 rfl) ?_
  refine lv_iload hx hb dL_law_2515 (lv_at hl 5 rfl) ?_
  refine lv_iconst (v := (2 : Int32)) hx hb dL_law_2517 (by decide) ?_
  refine lv_iadd hx hb dL_law_2518 ?_
  refine g_sld C hL hH hf dL_law_2519 (fun x9 hf => ?_)
  refine lv_aload_n hx hb dL_law_2520 rfl (lv_at hl 1 rfl) ?_
  refine lv_iload hx hb dL_law_2521 (lv_at hl 5 rfl) ?_
  refine lv_iconst (v := (3 : Int32)) hx hb dL_law_2523 (by decide) ?_
  refine lv_iadd hx hb dL_law_2524 ?_
  refine g_sld C hL hH hf dL_law_2525 (fun x10 hf => ?_)
  refine lv_aload_n hx hb dL_law_2526 rfl (lv_at hl 1 rfl) ?_
  refine lv_iload hx hb dL_law_2527 (lv_at hl 5 rfl) ?_
  refine lv_iconst (v := (4 : Int32)) hx hb dL_law_2529 (by decide) ?_
  refine lv_iadd hx hb dL_law_2530 ?_
  refine g_sld C hL hH hf dL_law_2531 (fun x11 hf => ?_)
  refine lv_aload_n hx hb dL_law_2532 rfl (lv_at hl 1 rfl) ?_
  refine lv_iload hx hb dL_law_2533 (lv_at hl 5 rfl) ?_
  refine lv_iconst (v := (5 : Int32)) hx hb dL_law_2535 (by decide) ?_
  refine lv_iadd hx hb dL_law_2536 ?_
  refine g_sld C hL hH hf dL_law_2537 (fun x12 hf => ?_)
  obtain ⟨x14, w13, hc, hf⟩ := bd_some hf
  refine q_callRV1 (v := .int x14) (As := [.int x8, .int x9, .int x10, .int x11, .int x12]) C hH (ci := 11) rfl (by omega) gk_L_245 yd_X11_message kc_713 (c_X11_message hc) (by exact Nat.le_of_ble_eq_true rfl) (by exact Nat.le_of_ble_eq_true rfl) hl.1 rfl (Nat.le_of_ble_eq_true rfl) dL_law_2538 ⟨by omega, by omega⟩ (fun H locs hH hP => ?_)
  refine lv_istore (lv' := [(6, .int x14), (5, .int x7), (0, .ref b), (1, .ref (B + 0)), (2, .ref (B + 713)), (3, .ref (B + 746)), (4, .int v4)]) hx hb dL_law_2541 hl (by decide) rfl (fun ls hl => ?_)
  refine lv_aload_n hx hb dL_law_2543 rfl (lv_at hl 4 rfl) ?_
  obtain ⟨x16, w15, hc, hf⟩ := bd_some hf
  refine q_callRV1 (v := .int x16) (As := []) C hH (ci := 11) rfl (by omega) gk_L_141 yd_X11_thrown kc_713 (c_X11_thrown hc) (by exact Nat.le_of_ble_eq_true rfl) (by exact Nat.le_of_ble_eq_true rfl) hl.1 rfl (Nat.le_of_ble_eq_true rfl) dL_law_2544 ⟨by omega, by omega⟩ (fun H locs hH hP => ?_)
  refine lv_iload hx hb dL_law_2547 (lv_at hl 1 rfl) ?_
  refine b_icmp_eq (tgt := 2554) hx hb hf dL_law_2549 (by decide) (fun hf => ?_) (fun hf => ?_)
  · refine lv_iload hx hb dL_law_2554 (lv_at hl 1 rfl) ?_
    refine b_if_ne (tgt := 2571) hx hb hf dL_law_2556 (by decide) (fun hf => ?_) (fun hf => ?_)
    · refine lv_goto (tgt := 2712) hx hb dL_law_2571 (by decide) ?_
      refine b_let hf (fun x17 he hf => ?_)
      refine lv_iinc (v := x17) (lv' := [(4, .int x17), (6, .int x14), (5, .int x7), (0, .ref b), (1, .ref (B + 0)), (2, .ref (B + 713)), (3, .ref (B + 746))]) hx hb dL_law_2712 hl (k := 6) rfl (by rw [← he]; rfl) (by decide) rfl (fun ls hl => ?_)
      refine lv_goto (tgt := 23) hx hb dL_law_2715 (by decide) ?_
      refine W.widen (k := cells + 6) (n := slots + 36) (by omega) (by omega) ?_
      exact hr x17 w15 hf _ _ _ hH (lv_sub hl [3, 4, 5, 6, 0] rfl)
    · refine lv_aload_n hx hb dL_law_2559 rfl (lv_at hl 5 rfl) ?_
      refine lv_iconst (v := (0 : Int32)) hx hb dL_law_2560 (by decide) ?_
      refine g_lald C hH kc_746 hf dL_law_2561 (fun y18 hf => ?_)
      refine lv_iload hx hb dL_law_2562 (lv_at hl 0 rfl) ?_
      refine lv_i2l (v := x14.toInt64) hx hb dL_law_2564 rfl ?_
      refine W.lcmp hx hb dL_law_2565 ?_
      refine b_if_eq (tgt := 2571) hx hb hf dL_law_2566 (by decide) (fun hf => ?_) (fun hf => ?_)
      · refine lv_goto (tgt := 2712) hx hb dL_law_2571 (by decide) ?_
        refine b_let hf (fun x19 he hf => ?_)
        refine lv_iinc (v := x19) (lv' := [(4, .int x19), (6, .int x14), (5, .int x7), (0, .ref b), (1, .ref (B + 0)), (2, .ref (B + 713)), (3, .ref (B + 746))]) hx hb dL_law_2712 hl (k := 6) rfl (by rw [← he]; rfl) (by decide) rfl (fun ls hl => ?_)
        refine lv_goto (tgt := 23) hx hb dL_law_2715 (by decide) ?_
        refine W.widen (k := cells + 6) (n := slots + 36) (by omega) (by omega) ?_
        exact hr x19 w15 hf _ _ _ hH (lv_sub hl [3, 4, 5, 6, 0] rfl)
      · refine lv_iconst (v := (0 : Int32)) hx hb dL_law_2569 (by decide) ?_
        cases hf
  · refine lv_iconst (v := (0 : Int32)) hx hb dL_law_2552 (by decide) ?_
    cases hf
set_option maxRecDepth 100000 in
set_option maxHeartbeats 8000000 in
theorem t_L_law_2574 {D : va_G} {B : Nat} {Y : Nat → ClassId} {p : Program} {l : Launch} {e : Env} {s : State} {m : MethodId} {below : List Frame} {meth : Method} {c : Code} {b L : Nat} {xs : Nat → Int32} {rc : Int32 × Wd → Option Unit} {cells slots : Nat} {H : Heap} {locs : List Loc} {ls : Array Slot} {w : Wd} {v4 : Int32} {z : Unit} (C : CX D B Y p s m #[.ref b] meth c cL_law 8 RL (some .boolean)) (htr : l.stackTraces = false) (hL : LXS b L xs s B) (hcs : cells + 6 ≤ room_1.cells ∧ slots + 36 ≤ room_1.slots) (hr : ∀ (v4 : Int32) (w : Wd), rc (v4, w) = some z → ∀ (H : Heap) (locs : List Loc) (ls : Array Slot), HS D B Y w s H locs → lv_has ls 8 [(0, .ref b), (1, .ref (B + 0)), (2, .ref (B + 713)), (3, .ref (B + 746)), (4, .int v4)] → W p l e room_1 s m #[.ref b] below meth c H locs (cells + 6) (slots + 36) (lw_Z below #[.ref b] s) (F0 m 23 ls [])) (hH : HS D B Y w s H locs) (hl : lv_has ls 8 [(0, .ref b), (1, .ref (B + 0)), (2, .ref (B + 713)), (3, .ref (B + 746)), (4, .int v4)]) (hf : f_L_law_2574 L xs rc v4 w = some z) : W p l e room_1 s m #[.ref b] below meth c H locs cells slots (lw_Z below #[.ref b] s) (F0 m 2574 ls []) := by
  have hx := C.1
  have hb := C.2.1
  unfold f_L_law_2574 at hf
  refine lv_aload_n hx hb dL_law_2574 rfl (lv_at hl 1 rfl) ?_
  refine lv_aload_n hx hb dL_law_2575 rfl (lv_at hl 0 rfl) ?_
  refine lv_iload hx hb dL_law_2576 (lv_at hl 4 rfl) ?_
  refine lv_iconst (v := (1 : Int32)) hx hb dL_law_2578 (by decide) ?_
  refine lv_iadd hx hb dL_law_2579 ?_
  refine g_sld C hL hH hf dL_law_2580 (fun x1 hf => ?_)
  obtain ⟨y3, w2, hc, hf⟩ := bd_some hf
  refine q_callRV1 (v := .long y3) (As := [.int x1]) C hH (ci := 10) rfl (by omega) gk_L_246 yd_X10_word kc_0 (c_X10_word hc) (by exact Nat.le_of_ble_eq_true rfl) (by exact Nat.le_of_ble_eq_true rfl) hl.1 rfl (Nat.le_of_ble_eq_true rfl) dL_law_2581 ⟨by omega, by omega⟩ (fun H locs hH hP => ?_)
  refine lv_aload_n hx hb dL_law_2584 rfl (lv_at hl 2 rfl) ?_
  refine lv_aload_n hx hb dL_law_2585 rfl (lv_at hl 0 rfl) ?_
  refine lv_iload hx hb dL_law_2586 (lv_at hl 4 rfl) ?_
  refine lv_iconst (v := (1 : Int32)) hx hb dL_law_2588 (by decide) ?_
  refine lv_iadd hx hb dL_law_2589 ?_
  refine g_sld C hL hH hf dL_law_2590 (fun x4 hf => ?_)
  obtain ⟨y6, w5, hc, hf⟩ := bd_some hf
  refine q_callRV1 (v := .long y6) (As := [.int x4]) C hH (ci := 11) rfl (by omega) gk_L_250 yd_X11_word kc_713 (c_X11_word hc) (by exact Nat.le_of_ble_eq_true rfl) (by exact Nat.le_of_ble_eq_true rfl) hl.1 rfl (Nat.le_of_ble_eq_true rfl) dL_law_2591 ⟨by omega, by omega⟩ (fun H locs hH hP => ?_)
  refine W.lcmp hx hb dL_law_2594 ?_
  refine b_if_eq (tgt := 2712) hx hb hf dL_law_2595 (by decide) (fun hf => ?_) (fun hf => ?_)
  · refine b_let hf (fun x7 he hf => ?_)
    refine lv_iinc (v := x7) (lv' := [(4, .int x7), (0, .ref b), (1, .ref (B + 0)), (2, .ref (B + 713)), (3, .ref (B + 746))]) hx hb dL_law_2712 hl (k := 4) rfl (by rw [← he]; rfl) (by decide) rfl (fun ls hl => ?_)
    refine lv_goto (tgt := 23) hx hb dL_law_2715 (by decide) ?_
    refine W.widen (k := cells + 6) (n := slots + 36) (by omega) (by omega) ?_
    exact hr x7 w5 hf _ _ _ hH (lv_sub hl [1, 2, 3, 4, 0] rfl)
  · refine lv_iconst (v := (0 : Int32)) hx hb dL_law_2598 (by decide) ?_
    cases hf
set_option maxRecDepth 100000 in
set_option maxHeartbeats 8000000 in
theorem t_L_law_2600 {D : va_G} {B : Nat} {Y : Nat → ClassId} {p : Program} {l : Launch} {e : Env} {s : State} {m : MethodId} {below : List Frame} {meth : Method} {c : Code} {b L : Nat} {xs : Nat → Int32} {rc : Int32 × Wd → Option Unit} {cells slots : Nat} {H : Heap} {locs : List Loc} {ls : Array Slot} {w : Wd} {v4 : Int32} {z : Unit} (C : CX D B Y p s m #[.ref b] meth c cL_law 8 RL (some .boolean)) (htr : l.stackTraces = false) (hL : LXS b L xs s B) (hcs : cells + 6 ≤ room_1.cells ∧ slots + 36 ≤ room_1.slots) (hr : ∀ (v4 : Int32) (w : Wd), rc (v4, w) = some z → ∀ (H : Heap) (locs : List Loc) (ls : Array Slot), HS D B Y w s H locs → lv_has ls 8 [(0, .ref b), (1, .ref (B + 0)), (2, .ref (B + 713)), (3, .ref (B + 746)), (4, .int v4)] → W p l e room_1 s m #[.ref b] below meth c H locs (cells + 6) (slots + 36) (lw_Z below #[.ref b] s) (F0 m 23 ls [])) (hH : HS D B Y w s H locs) (hl : lv_has ls 8 [(0, .ref b), (1, .ref (B + 0)), (2, .ref (B + 713)), (3, .ref (B + 746)), (4, .int v4)]) (hf : f_L_law_2600 L xs rc v4 w = some z) : W p l e room_1 s m #[.ref b] below meth c H locs cells slots (lw_Z below #[.ref b] s) (F0 m 2600 ls []) := by
  have hx := C.1
  have hb := C.2.1
  unfold f_L_law_2600 at hf
  refine lv_aload_n hx hb dL_law_2600 rfl (lv_at hl 1 rfl) ?_
  refine lv_aload_n hx hb dL_law_2601 rfl (lv_at hl 0 rfl) ?_
  refine lv_iload hx hb dL_law_2602 (lv_at hl 4 rfl) ?_
  refine lv_iconst (v := (1 : Int32)) hx hb dL_law_2604 (by decide) ?_
  refine lv_iadd hx hb dL_law_2605 ?_
  refine g_sld C hL hH hf dL_law_2606 (fun x1 hf => ?_)
  refine lv_aload_n hx hb dL_law_2607 rfl (lv_at hl 3 rfl) ?_
  obtain ⟨x3, w2, hc, hf⟩ := bd_some hf
  refine q_callLW (As := [.ref (B + 0), .int x1, .ref (B + 746)]) C hH (k := x3) (goodSW wd_1446 wd_1447 wd_108 wd_1448) yd_L_encode (c_L_encode htr hc) (by exact Nat.le_of_ble_eq_true rfl) (by exact Nat.le_of_ble_eq_true rfl) hl.1 rfl (Nat.le_of_ble_eq_true rfl) dL_law_2608 ⟨by omega, by omega⟩ (fun H locs hH => ?_)
  refine lv_istore (lv' := [(5, .int x3), (0, .ref b), (1, .ref (B + 0)), (2, .ref (B + 713)), (3, .ref (B + 746)), (4, .int v4)]) hx hb dL_law_2611 hl (by decide) rfl (fun ls hl => ?_)
  refine lv_aload_n hx hb dL_law_2613 rfl (lv_at hl 3 rfl) ?_
  refine lv_aload_n hx hb dL_law_2614 rfl (lv_at hl 1 rfl) ?_
  refine lv_iload hx hb dL_law_2615 (lv_at hl 5 rfl) ?_
  refine lv_iconst (v := (1 : Int32)) hx hb dL_law_2617 (by decide) ?_
  refine lv_iadd hx hb dL_law_2618 ?_
  refine g_sld C hL hH hf dL_law_2619 (fun x4 hf => ?_)
  obtain ⟨x6, w5, hc, hf⟩ := bd_some hf
  refine q_callRV1 (v := .int x6) (As := [.int x4]) C hH (ci := 11) rfl (by omega) gk_L_253 yd_X11_encode kc_713 (c_X11_encode hc) (by exact Nat.le_of_ble_eq_true rfl) (by exact Nat.le_of_ble_eq_true rfl) hl.1 rfl (Nat.le_of_ble_eq_true rfl) dL_law_2620 ⟨by omega, by omega⟩ (fun H locs hH hP => ?_)
  refine lv_istore (lv' := [(6, .int x6), (5, .int x3), (0, .ref b), (1, .ref (B + 0)), (2, .ref (B + 713)), (3, .ref (B + 746)), (4, .int v4)]) hx hb dL_law_2623 hl (by decide) rfl (fun ls hl => ?_)
  refine lv_aload_n hx hb dL_law_2625 rfl (lv_at hl 4 rfl) ?_
  obtain ⟨x8, w7, hc, hf⟩ := bd_some hf
  refine q_callRV1 (v := .int x8) (As := []) C hH (ci := 11) rfl (by omega) gk_L_141 yd_X11_thrown kc_713 (c_X11_thrown hc) (by exact Nat.le_of_ble_eq_true rfl) (by exact Nat.le_of_ble_eq_true rfl) hl.1 rfl (Nat.le_of_ble_eq_true rfl) dL_law_2626 ⟨by omega, by omega⟩ (fun H locs hH hP => ?_)
  refine lv_iload hx hb dL_law_2629 (lv_at hl 1 rfl) ?_
  refine b_icmp_eq (tgt := 2636) hx hb hf dL_law_2631 (by decide) (fun hf => ?_) (fun hf => ?_)
  · refine lv_iload hx hb dL_law_2636 (lv_at hl 1 rfl) ?_
    refine b_if_ne (tgt := 2653) hx hb hf dL_law_2638 (by decide) (fun hf => ?_) (fun hf => ?_)
    · refine lv_goto (tgt := 2712) hx hb dL_law_2653 (by decide) ?_
      refine b_let hf (fun x9 he hf => ?_)
      refine lv_iinc (v := x9) (lv' := [(4, .int x9), (6, .int x6), (5, .int x3), (0, .ref b), (1, .ref (B + 0)), (2, .ref (B + 713)), (3, .ref (B + 746))]) hx hb dL_law_2712 hl (k := 6) rfl (by rw [← he]; rfl) (by decide) rfl (fun ls hl => ?_)
      refine lv_goto (tgt := 23) hx hb dL_law_2715 (by decide) ?_
      refine W.widen (k := cells + 6) (n := slots + 36) (by omega) (by omega) ?_
      exact hr x9 w7 hf _ _ _ hH (lv_sub hl [3, 4, 5, 6, 0] rfl)
    · refine lv_aload_n hx hb dL_law_2641 rfl (lv_at hl 5 rfl) ?_
      refine lv_iconst (v := (0 : Int32)) hx hb dL_law_2642 (by decide) ?_
      refine g_lald C hH kc_746 hf dL_law_2643 (fun y10 hf => ?_)
      refine lv_iload hx hb dL_law_2644 (lv_at hl 0 rfl) ?_
      refine lv_i2l (v := x6.toInt64) hx hb dL_law_2646 rfl ?_
      refine W.lcmp hx hb dL_law_2647 ?_
      refine b_if_eq (tgt := 2653) hx hb hf dL_law_2648 (by decide) (fun hf => ?_) (fun hf => ?_)
      · refine lv_goto (tgt := 2712) hx hb dL_law_2653 (by decide) ?_
        refine b_let hf (fun x11 he hf => ?_)
        refine lv_iinc (v := x11) (lv' := [(4, .int x11), (6, .int x6), (5, .int x3), (0, .ref b), (1, .ref (B + 0)), (2, .ref (B + 713)), (3, .ref (B + 746))]) hx hb dL_law_2712 hl (k := 6) rfl (by rw [← he]; rfl) (by decide) rfl (fun ls hl => ?_)
        refine lv_goto (tgt := 23) hx hb dL_law_2715 (by decide) ?_
        refine W.widen (k := cells + 6) (n := slots + 36) (by omega) (by omega) ?_
        exact hr x11 w7 hf _ _ _ hH (lv_sub hl [3, 4, 5, 6, 0] rfl)
      · refine lv_iconst (v := (0 : Int32)) hx hb dL_law_2651 (by decide) ?_
        cases hf
  · refine lv_iconst (v := (0 : Int32)) hx hb dL_law_2634 (by decide) ?_
    cases hf
set_option maxRecDepth 100000 in
set_option maxHeartbeats 8000000 in
theorem t_L_law_2656 {D : va_G} {B : Nat} {Y : Nat → ClassId} {p : Program} {l : Launch} {e : Env} {s : State} {m : MethodId} {below : List Frame} {meth : Method} {c : Code} {b L : Nat} {xs : Nat → Int32} {rc : Int32 × Wd → Option Unit} {cells slots : Nat} {H : Heap} {locs : List Loc} {ls : Array Slot} {w : Wd} {v4 : Int32} {z : Unit} (C : CX D B Y p s m #[.ref b] meth c cL_law 8 RL (some .boolean)) (htr : l.stackTraces = false) (hL : LXS b L xs s B) (hcs : cells + 6 ≤ room_1.cells ∧ slots + 36 ≤ room_1.slots) (hr : ∀ (v4 : Int32) (w : Wd), rc (v4, w) = some z → ∀ (H : Heap) (locs : List Loc) (ls : Array Slot), HS D B Y w s H locs → lv_has ls 8 [(0, .ref b), (1, .ref (B + 0)), (2, .ref (B + 713)), (3, .ref (B + 746)), (4, .int v4)] → W p l e room_1 s m #[.ref b] below meth c H locs (cells + 6) (slots + 36) (lw_Z below #[.ref b] s) (F0 m 23 ls [])) (hH : HS D B Y w s H locs) (hl : lv_has ls 8 [(0, .ref b), (1, .ref (B + 0)), (2, .ref (B + 713)), (3, .ref (B + 746)), (4, .int v4)]) (hf : f_L_law_2656 L xs rc v4 w = some z) : W p l e room_1 s m #[.ref b] below meth c H locs cells slots (lw_Z below #[.ref b] s) (F0 m 2656 ls []) := by
  have hx := C.1
  have hb := C.2.1
  unfold f_L_law_2656 at hf
  refine lv_aload_n hx hb dL_law_2656 rfl (lv_at hl 1 rfl) ?_
  refine lv_aload_n hx hb dL_law_2657 rfl (lv_at hl 0 rfl) ?_
  refine lv_iload hx hb dL_law_2658 (lv_at hl 4 rfl) ?_
  refine lv_iconst (v := (1 : Int32)) hx hb dL_law_2660 (by decide) ?_
  refine lv_iadd hx hb dL_law_2661 ?_
  refine g_sld C hL hH hf dL_law_2662 (fun x1 hf => ?_)
  refine lv_aload_n hx hb dL_law_2663 rfl (lv_at hl 3 rfl) ?_
  obtain ⟨x3, w2, hc, hf⟩ := bd_some hf
  refine q_callLW (As := [.ref (B + 0), .int x1, .ref (B + 746)]) C hH (k := x3) (goodSW wd_1453 wd_1454 wd_108 wd_1455) yd_L_decode (c_L_decode htr hc) (by exact Nat.le_of_ble_eq_true rfl) (by exact Nat.le_of_ble_eq_true rfl) hl.1 rfl (Nat.le_of_ble_eq_true rfl) dL_law_2664 ⟨by omega, by omega⟩ (fun H locs hH => ?_)
  refine lv_istore (lv' := [(5, .int x3), (0, .ref b), (1, .ref (B + 0)), (2, .ref (B + 713)), (3, .ref (B + 746)), (4, .int v4)]) hx hb dL_law_2667 hl (by decide) rfl (fun ls hl => ?_)
  refine lv_aload_n hx hb dL_law_2669 rfl (lv_at hl 3 rfl) ?_
  refine lv_aload_n hx hb dL_law_2670 rfl (lv_at hl 1 rfl) ?_
  refine lv_iload hx hb dL_law_2671 (lv_at hl 5 rfl) ?_
  refine lv_iconst (v := (1 : Int32)) hx hb dL_law_2673 (by decide) ?_
  refine lv_iadd hx hb dL_law_2674 ?_
  refine g_sld C hL hH hf dL_law_2675 (fun x4 hf => ?_)
  obtain ⟨x6, w5, hc, hf⟩ := bd_some hf
  refine q_callRV1 (v := .int x6) (As := [.int x4]) C hH (ci := 11) rfl (by omega) gk_L_256 yd_X11_decode kc_713 (c_X11_decode hc) (by exact Nat.le_of_ble_eq_true rfl) (by exact Nat.le_of_ble_eq_true rfl) hl.1 rfl (Nat.le_of_ble_eq_true rfl) dL_law_2676 ⟨by omega, by omega⟩ (fun H locs hH hP => ?_)
  refine lv_istore (lv' := [(6, .int x6), (5, .int x3), (0, .ref b), (1, .ref (B + 0)), (2, .ref (B + 713)), (3, .ref (B + 746)), (4, .int v4)]) hx hb dL_law_2679 hl (by decide) rfl (fun ls hl => ?_)
  refine lv_aload_n hx hb dL_law_2681 rfl (lv_at hl 4 rfl) ?_
  obtain ⟨x8, w7, hc, hf⟩ := bd_some hf
  refine q_callRV1 (v := .int x8) (As := []) C hH (ci := 11) rfl (by omega) gk_L_141 yd_X11_thrown kc_713 (c_X11_thrown hc) (by exact Nat.le_of_ble_eq_true rfl) (by exact Nat.le_of_ble_eq_true rfl) hl.1 rfl (Nat.le_of_ble_eq_true rfl) dL_law_2682 ⟨by omega, by omega⟩ (fun H locs hH hP => ?_)
  refine lv_iload hx hb dL_law_2685 (lv_at hl 1 rfl) ?_
  refine b_icmp_eq (tgt := 2692) hx hb hf dL_law_2687 (by decide) (fun hf => ?_) (fun hf => ?_)
  · refine lv_iload hx hb dL_law_2692 (lv_at hl 1 rfl) ?_
    refine b_if_ne (tgt := 2709) hx hb hf dL_law_2694 (by decide) (fun hf => ?_) (fun hf => ?_)
    · refine lv_goto (tgt := 2712) hx hb dL_law_2709 (by decide) ?_
      refine b_let hf (fun x9 he hf => ?_)
      refine lv_iinc (v := x9) (lv' := [(4, .int x9), (6, .int x6), (5, .int x3), (0, .ref b), (1, .ref (B + 0)), (2, .ref (B + 713)), (3, .ref (B + 746))]) hx hb dL_law_2712 hl (k := 6) rfl (by rw [← he]; rfl) (by decide) rfl (fun ls hl => ?_)
      refine lv_goto (tgt := 23) hx hb dL_law_2715 (by decide) ?_
      refine W.widen (k := cells + 6) (n := slots + 36) (by omega) (by omega) ?_
      exact hr x9 w7 hf _ _ _ hH (lv_sub hl [3, 4, 5, 6, 0] rfl)
    · refine lv_aload_n hx hb dL_law_2697 rfl (lv_at hl 5 rfl) ?_
      refine lv_iconst (v := (0 : Int32)) hx hb dL_law_2698 (by decide) ?_
      refine g_lald C hH kc_746 hf dL_law_2699 (fun y10 hf => ?_)
      refine lv_iload hx hb dL_law_2700 (lv_at hl 0 rfl) ?_
      refine lv_i2l (v := x6.toInt64) hx hb dL_law_2702 rfl ?_
      refine W.lcmp hx hb dL_law_2703 ?_
      refine b_if_eq (tgt := 2709) hx hb hf dL_law_2704 (by decide) (fun hf => ?_) (fun hf => ?_)
      · refine lv_goto (tgt := 2712) hx hb dL_law_2709 (by decide) ?_
        refine b_let hf (fun x11 he hf => ?_)
        refine lv_iinc (v := x11) (lv' := [(4, .int x11), (6, .int x6), (5, .int x3), (0, .ref b), (1, .ref (B + 0)), (2, .ref (B + 713)), (3, .ref (B + 746))]) hx hb dL_law_2712 hl (k := 6) rfl (by rw [← he]; rfl) (by decide) rfl (fun ls hl => ?_)
        refine lv_goto (tgt := 23) hx hb dL_law_2715 (by decide) ?_
        refine W.widen (k := cells + 6) (n := slots + 36) (by omega) (by omega) ?_
        exact hr x11 w7 hf _ _ _ hH (lv_sub hl [3, 4, 5, 6, 0] rfl)
      · refine lv_iconst (v := (0 : Int32)) hx hb dL_law_2707 (by decide) ?_
        cases hf
  · refine lv_iconst (v := (0 : Int32)) hx hb dL_law_2690 (by decide) ?_
    cases hf
set_option maxRecDepth 100000 in
set_option maxHeartbeats 8000000 in
theorem t_L_law_23 {D : va_G} {B : Nat} {Y : Nat → ClassId} {p : Program} {l : Launch} {e : Env} {s : State} {m : MethodId} {below : List Frame} {meth : Method} {c : Code} {b L : Nat} {xs : Nat → Int32} {rc : Int32 × Wd → Option Unit} {cells slots : Nat} {H : Heap} {locs : List Loc} {ls : Array Slot} {w : Wd} {v4 : Int32} {z : Unit} (C : CX D B Y p s m #[.ref b] meth c cL_law 8 RL (some .boolean)) (htr : l.stackTraces = false) (hL : LXS b L xs s B) (hcs : cells + 6 ≤ room_1.cells ∧ slots + 36 ≤ room_1.slots) (hr : ∀ (v4 : Int32) (w : Wd), rc (v4, w) = some z → ∀ (H : Heap) (locs : List Loc) (ls : Array Slot), HS D B Y w s H locs → lv_has ls 8 [(0, .ref b), (1, .ref (B + 0)), (2, .ref (B + 713)), (3, .ref (B + 746)), (4, .int v4)] → W p l e room_1 s m #[.ref b] below meth c H locs (cells + 6) (slots + 36) (lw_Z below #[.ref b] s) (F0 m 23 ls [])) (hH : HS D B Y w s H locs) (hl : lv_has ls 8 [(0, .ref b), (1, .ref (B + 0)), (2, .ref (B + 713)), (3, .ref (B + 746)), (4, .int v4)]) (hf : f_L_law_23 L xs rc v4 w = some z) : W p l e room_1 s m #[.ref b] below meth c H locs cells slots (lw_Z below #[.ref b] s) (F0 m 23 ls []) := by
  have hx := C.1
  have hb := C.2.1
  unfold f_L_law_23 at hf
  refine lv_iload hx hb dL_law_23 (lv_at hl 4 rfl) ?_
  refine lv_aload_n hx hb dL_law_25 rfl (lv_at hl 0 rfl) ?_
  refine g_slen C hL hH dL_law_26 ?_
  refine lv_bipush (v := (9 : Int32)) hx hb dL_law_27 (by decide) ?_
  refine lv_isub hx hb dL_law_29 ?_
  refine b_icmp_gt (tgt := 2718) hx hb hf dL_law_30 (by decide) (fun hf => ?_) (fun hf => ?_)
  · refine lv_iconst (v := (1 : Int32)) hx hb dL_law_2718 (by decide) ?_
    exact q_lawret C hL hcs hH dL_law_2719
  · refine lv_aload_n hx hb dL_law_33 rfl (lv_at hl 0 rfl) ?_
    refine lv_iload hx hb dL_law_34 (lv_at hl 4 rfl) ?_
    refine g_sld C hL hH hf dL_law_36 (fun x1 hf => ?_)
    refine lv_bipush (v := (63 : Int32)) hx hb dL_law_37 (by decide) ?_
    refine lv_iand hx hb dL_law_39 ?_
    refine b_leti hf (fun x2 hf => ?_)
    by_cases h_0 : x2 = 0
    · rw [if_pos h_0] at hf
      refine lv_tableIn (tgt := 192) hx hb dL_law_40 (by rw [h_0]; decide) (by rw [h_0]; decide) (by rw [h_0]; rfl) (by decide) ?_
      exact t_L_law_192 C htr hL hcs hr hH (lv_sub hl [0, 1, 2, 3, 4] rfl) hf
    rw [if_neg h_0] at hf
    by_cases h_1 : x2 = 1
    · rw [if_pos h_1] at hf
      refine lv_tableIn (tgt := 292) hx hb dL_law_40 (by rw [h_1]; decide) (by rw [h_1]; decide) (by rw [h_1]; rfl) (by decide) ?_
      exact t_L_law_292 C htr hL hcs hr hH (lv_sub hl [0, 1, 2, 3, 4] rfl) hf
    rw [if_neg h_1] at hf
    by_cases h_2 : x2 = 2
    · rw [if_pos h_2] at hf
      refine lv_tableIn (tgt := 376) hx hb dL_law_40 (by rw [h_2]; decide) (by rw [h_2]; decide) (by rw [h_2]; rfl) (by decide) ?_
      exact t_L_law_376 C htr hL hcs hr hH (lv_sub hl [0, 1, 2, 3, 4] rfl) hf
    rw [if_neg h_2] at hf
    by_cases h_3 : x2 = 3
    · rw [if_pos h_3] at hf
      refine lv_tableIn (tgt := 436) hx hb dL_law_40 (by rw [h_3]; decide) (by rw [h_3]; decide) (by rw [h_3]; rfl) (by decide) ?_
      exact t_L_law_436 C htr hL hcs hr hH (lv_sub hl [0, 1, 2, 3, 4] rfl) hf
    rw [if_neg h_3] at hf
    by_cases h_4 : x2 = 4
    · rw [if_pos h_4] at hf
      refine lv_tableIn (tgt := 496) hx hb dL_law_40 (by rw [h_4]; decide) (by rw [h_4]; decide) (by rw [h_4]; rfl) (by decide) ?_
      exact t_L_law_496 C htr hL hcs hr hH (lv_sub hl [0, 1, 2, 3, 4] rfl) hf
    rw [if_neg h_4] at hf
    by_cases h_5 : x2 = 5
    · rw [if_pos h_5] at hf
      refine lv_tableIn (tgt := 544) hx hb dL_law_40 (by rw [h_5]; decide) (by rw [h_5]; decide) (by rw [h_5]; rfl) (by decide) ?_
      exact t_L_law_544 C htr hL hcs hr hH (lv_sub hl [0, 1, 2, 3, 4] rfl) hf
    rw [if_neg h_5] at hf
    by_cases h_6 : x2 = 6
    · rw [if_pos h_6] at hf
      refine lv_tableIn (tgt := 628) hx hb dL_law_40 (by rw [h_6]; decide) (by rw [h_6]; decide) (by rw [h_6]; rfl) (by decide) ?_
      exact t_L_law_628 C htr hL hcs hr hH (lv_sub hl [0, 1, 2, 3, 4] rfl) hf
    rw [if_neg h_6] at hf
    by_cases h_7 : x2 = 7
    · rw [if_pos h_7] at hf
      refine lv_tableIn (tgt := 746) hx hb dL_law_40 (by rw [h_7]; decide) (by rw [h_7]; decide) (by rw [h_7]; rfl) (by decide) ?_
      exact t_L_law_746 C htr hL hcs hr hH (lv_sub hl [0, 1, 2, 3, 4] rfl) hf
    rw [if_neg h_7] at hf
    by_cases h_8 : x2 = 8
    · rw [if_pos h_8] at hf
      refine lv_tableIn (tgt := 892) hx hb dL_law_40 (by rw [h_8]; decide) (by rw [h_8]; decide) (by rw [h_8]; rfl) (by decide) ?_
      exact t_L_law_892 C htr hL hcs hr hH (lv_sub hl [0, 1, 2, 3, 4] rfl) hf
    rw [if_neg h_8] at hf
    by_cases h_9 : x2 = 9
    · rw [if_pos h_9] at hf
      refine lv_tableIn (tgt := 948) hx hb dL_law_40 (by rw [h_9]; decide) (by rw [h_9]; decide) (by rw [h_9]; rfl) (by decide) ?_
      exact t_L_law_948 C htr hL hcs hr hH (lv_sub hl [0, 1, 2, 3, 4] rfl) hf
    rw [if_neg h_9] at hf
    by_cases h_10 : x2 = 10
    · rw [if_pos h_10] at hf
      refine lv_tableIn (tgt := 1052) hx hb dL_law_40 (by rw [h_10]; decide) (by rw [h_10]; decide) (by rw [h_10]; rfl) (by decide) ?_
      exact t_L_law_1052 C htr hL hcs hr hH (lv_sub hl [0, 1, 2, 3, 4] rfl) hf
    rw [if_neg h_10] at hf
    by_cases h_11 : x2 = 11
    · rw [if_pos h_11] at hf
      refine lv_tableIn (tgt := 1096) hx hb dL_law_40 (by rw [h_11]; decide) (by rw [h_11]; decide) (by rw [h_11]; rfl) (by decide) ?_
      exact t_L_law_1096 C htr hL hcs hr hH (lv_sub hl [0, 1, 2, 3, 4] rfl) hf
    rw [if_neg h_11] at hf
    by_cases h_12 : x2 = 12
    · rw [if_pos h_12] at hf
      refine lv_tableIn (tgt := 1132) hx hb dL_law_40 (by rw [h_12]; decide) (by rw [h_12]; decide) (by rw [h_12]; rfl) (by decide) ?_
      exact t_L_law_1132 C htr hL hcs hr hH (lv_sub hl [0, 1, 2, 3, 4] rfl) hf
    rw [if_neg h_12] at hf
    by_cases h_13 : x2 = 13
    · rw [if_pos h_13] at hf
      refine lv_tableIn (tgt := 1200) hx hb dL_law_40 (by rw [h_13]; decide) (by rw [h_13]; decide) (by rw [h_13]; rfl) (by decide) ?_
      exact t_L_law_1200 C htr hL hcs hr hH (lv_sub hl [0, 1, 2, 3, 4] rfl) hf
    rw [if_neg h_13] at hf
    by_cases h_14 : x2 = 14
    · rw [if_pos h_14] at hf
      refine lv_tableIn (tgt := 1256) hx hb dL_law_40 (by rw [h_14]; decide) (by rw [h_14]; decide) (by rw [h_14]; rfl) (by decide) ?_
      exact t_L_law_1256 C htr hL hcs hr hH (lv_sub hl [0, 1, 2, 3, 4] rfl) hf
    rw [if_neg h_14] at hf
    by_cases h_15 : x2 = 15
    · rw [if_pos h_15] at hf
      refine lv_tableIn (tgt := 1324) hx hb dL_law_40 (by rw [h_15]; decide) (by rw [h_15]; decide) (by rw [h_15]; rfl) (by decide) ?_
      exact t_L_law_1324 C htr hL hcs hr hH (lv_sub hl [0, 1, 2, 3, 4] rfl) hf
    rw [if_neg h_15] at hf
    by_cases h_16 : x2 = 16
    · rw [if_pos h_16] at hf
      refine lv_tableIn (tgt := 1404) hx hb dL_law_40 (by rw [h_16]; decide) (by rw [h_16]; decide) (by rw [h_16]; rfl) (by decide) ?_
      exact t_L_law_1404 C htr hL hcs hr hH (lv_sub hl [0, 1, 2, 3, 4] rfl) hf
    rw [if_neg h_16] at hf
    by_cases h_17 : x2 = 17
    · rw [if_pos h_17] at hf
      refine lv_tableIn (tgt := 1479) hx hb dL_law_40 (by rw [h_17]; decide) (by rw [h_17]; decide) (by rw [h_17]; rfl) (by decide) ?_
      exact t_L_law_1479 C htr hL hcs hr hH (lv_sub hl [0, 1, 2, 3, 4] rfl) hf
    rw [if_neg h_17] at hf
    by_cases h_18 : x2 = 18
    · rw [if_pos h_18] at hf
      refine lv_tableIn (tgt := 1535) hx hb dL_law_40 (by rw [h_18]; decide) (by rw [h_18]; decide) (by rw [h_18]; rfl) (by decide) ?_
      exact t_L_law_1535 C htr hL hcs hr hH (lv_sub hl [0, 1, 2, 3, 4] rfl) hf
    rw [if_neg h_18] at hf
    by_cases h_19 : x2 = 19
    · rw [if_pos h_19] at hf
      refine lv_tableIn (tgt := 1615) hx hb dL_law_40 (by rw [h_19]; decide) (by rw [h_19]; decide) (by rw [h_19]; rfl) (by decide) ?_
      exact t_L_law_1615 C htr hL hcs hr hH (lv_sub hl [0, 1, 2, 3, 4] rfl) hf
    rw [if_neg h_19] at hf
    by_cases h_20 : x2 = 20
    · rw [if_pos h_20] at hf
      refine lv_tableIn (tgt := 1695) hx hb dL_law_40 (by rw [h_20]; decide) (by rw [h_20]; decide) (by rw [h_20]; rfl) (by decide) ?_
      exact t_L_law_1695 C htr hL hcs hr hH (lv_sub hl [0, 1, 2, 3, 4] rfl) hf
    rw [if_neg h_20] at hf
    by_cases h_21 : x2 = 21
    · rw [if_pos h_21] at hf
      refine lv_tableIn (tgt := 1791) hx hb dL_law_40 (by rw [h_21]; decide) (by rw [h_21]; decide) (by rw [h_21]; rfl) (by decide) ?_
      exact t_L_law_1791 C htr hL hcs hr hH (lv_sub hl [0, 1, 2, 3, 4] rfl) hf
    rw [if_neg h_21] at hf
    by_cases h_22 : x2 = 22
    · rw [if_pos h_22] at hf
      refine lv_tableIn (tgt := 1858) hx hb dL_law_40 (by rw [h_22]; decide) (by rw [h_22]; decide) (by rw [h_22]; rfl) (by decide) ?_
      exact t_L_law_1858 C htr hL hcs hr hH (lv_sub hl [0, 1, 2, 3, 4] rfl) hf
    rw [if_neg h_22] at hf
    by_cases h_23 : x2 = 23
    · rw [if_pos h_23] at hf
      refine lv_tableIn (tgt := 1954) hx hb dL_law_40 (by rw [h_23]; decide) (by rw [h_23]; decide) (by rw [h_23]; rfl) (by decide) ?_
      exact t_L_law_1954 C htr hL hcs hr hH (lv_sub hl [0, 1, 2, 3, 4] rfl) hf
    rw [if_neg h_23] at hf
    by_cases h_24 : x2 = 24
    · rw [if_pos h_24] at hf
      refine lv_tableIn (tgt := 2034) hx hb dL_law_40 (by rw [h_24]; decide) (by rw [h_24]; decide) (by rw [h_24]; rfl) (by decide) ?_
      exact t_L_law_2034 C htr hL hcs hr hH (lv_sub hl [0, 1, 2, 3, 4] rfl) hf
    rw [if_neg h_24] at hf
    by_cases h_25 : x2 = 25
    · rw [if_pos h_25] at hf
      refine lv_tableIn (tgt := 2114) hx hb dL_law_40 (by rw [h_25]; decide) (by rw [h_25]; decide) (by rw [h_25]; rfl) (by decide) ?_
      exact t_L_law_2114 C htr hL hcs hr hH (lv_sub hl [0, 1, 2, 3, 4] rfl) hf
    rw [if_neg h_25] at hf
    by_cases h_26 : x2 = 26
    · rw [if_pos h_26] at hf
      refine lv_tableIn (tgt := 2194) hx hb dL_law_40 (by rw [h_26]; decide) (by rw [h_26]; decide) (by rw [h_26]; rfl) (by decide) ?_
      exact t_L_law_2194 C htr hL hcs hr hH (lv_sub hl [0, 1, 2, 3, 4] rfl) hf
    rw [if_neg h_26] at hf
    by_cases h_27 : x2 = 27
    · rw [if_pos h_27] at hf
      refine lv_tableIn (tgt := 2238) hx hb dL_law_40 (by rw [h_27]; decide) (by rw [h_27]; decide) (by rw [h_27]; rfl) (by decide) ?_
      exact t_L_law_2238 C htr hL hcs hr hH (lv_sub hl [0, 1, 2, 3, 4] rfl) hf
    rw [if_neg h_27] at hf
    by_cases h_28 : x2 = 28
    · rw [if_pos h_28] at hf
      refine lv_tableIn (tgt := 2306) hx hb dL_law_40 (by rw [h_28]; decide) (by rw [h_28]; decide) (by rw [h_28]; rfl) (by decide) ?_
      exact t_L_law_2306 C htr hL hcs hr hH (lv_sub hl [0, 1, 2, 3, 4] rfl) hf
    rw [if_neg h_28] at hf
    by_cases h_29 : x2 = 29
    · rw [if_pos h_29] at hf
      refine lv_tableIn (tgt := 2402) hx hb dL_law_40 (by rw [h_29]; decide) (by rw [h_29]; decide) (by rw [h_29]; rfl) (by decide) ?_
      exact t_L_law_2402 C htr hL hcs hr hH (lv_sub hl [0, 1, 2, 3, 4] rfl) hf
    rw [if_neg h_29] at hf
    by_cases h_30 : x2 = 30
    · rw [if_pos h_30] at hf
      refine lv_tableIn (tgt := 2470) hx hb dL_law_40 (by rw [h_30]; decide) (by rw [h_30]; decide) (by rw [h_30]; rfl) (by decide) ?_
      exact t_L_law_2470 C htr hL hcs hr hH (lv_sub hl [0, 1, 2, 3, 4] rfl) hf
    rw [if_neg h_30] at hf
    by_cases h_31 : x2 = 31
    · rw [if_pos h_31] at hf
      refine lv_tableIn (tgt := 2574) hx hb dL_law_40 (by rw [h_31]; decide) (by rw [h_31]; decide) (by rw [h_31]; rfl) (by decide) ?_
      exact t_L_law_2574 C htr hL hcs hr hH (lv_sub hl [0, 1, 2, 3, 4] rfl) hf
    rw [if_neg h_31] at hf
    by_cases h_32 : x2 = 32
    · rw [if_pos h_32] at hf
      refine lv_tableIn (tgt := 2600) hx hb dL_law_40 (by rw [h_32]; decide) (by rw [h_32]; decide) (by rw [h_32]; rfl) (by decide) ?_
      exact t_L_law_2600 C htr hL hcs hr hH (lv_sub hl [0, 1, 2, 3, 4] rfl) hf
    rw [if_neg h_32] at hf
    by_cases h_33 : x2 = 33
    · rw [if_pos h_33] at hf
      refine lv_tableIn (tgt := 2656) hx hb dL_law_40 (by rw [h_33]; decide) (by rw [h_33]; decide) (by rw [h_33]; rfl) (by decide) ?_
      exact t_L_law_2656 C htr hL hcs hr hH (lv_sub hl [0, 1, 2, 3, 4] rfl) hf
    rw [if_neg h_33] at hf
    refine lv_tableOut (tgt := 2712) hx hb dL_law_40 (by have q_0 := sw_ne2 (n := 0) h_0 (by decide); have q_1 := sw_ne2 (n := 1) h_1 (by decide); have q_2 := sw_ne2 (n := 2) h_2 (by decide); have q_3 := sw_ne2 (n := 3) h_3 (by decide); have q_4 := sw_ne2 (n := 4) h_4 (by decide); have q_5 := sw_ne2 (n := 5) h_5 (by decide); have q_6 := sw_ne2 (n := 6) h_6 (by decide); have q_7 := sw_ne2 (n := 7) h_7 (by decide); have q_8 := sw_ne2 (n := 8) h_8 (by decide); have q_9 := sw_ne2 (n := 9) h_9 (by decide); have q_10 := sw_ne2 (n := 10) h_10 (by decide); have q_11 := sw_ne2 (n := 11) h_11 (by decide); have q_12 := sw_ne2 (n := 12) h_12 (by decide); have q_13 := sw_ne2 (n := 13) h_13 (by decide); have q_14 := sw_ne2 (n := 14) h_14 (by decide); have q_15 := sw_ne2 (n := 15) h_15 (by decide); have q_16 := sw_ne2 (n := 16) h_16 (by decide); have q_17 := sw_ne2 (n := 17) h_17 (by decide); have q_18 := sw_ne2 (n := 18) h_18 (by decide); have q_19 := sw_ne2 (n := 19) h_19 (by decide); have q_20 := sw_ne2 (n := 20) h_20 (by decide); have q_21 := sw_ne2 (n := 21) h_21 (by decide); have q_22 := sw_ne2 (n := 22) h_22 (by decide); have q_23 := sw_ne2 (n := 23) h_23 (by decide); have q_24 := sw_ne2 (n := 24) h_24 (by decide); have q_25 := sw_ne2 (n := 25) h_25 (by decide); have q_26 := sw_ne2 (n := 26) h_26 (by decide); have q_27 := sw_ne2 (n := 27) h_27 (by decide); have q_28 := sw_ne2 (n := 28) h_28 (by decide); have q_29 := sw_ne2 (n := 29) h_29 (by decide); have q_30 := sw_ne2 (n := 30) h_30 (by decide); have q_31 := sw_ne2 (n := 31) h_31 (by decide); have q_32 := sw_ne2 (n := 32) h_32 (by decide); have q_33 := sw_ne2 (n := 33) h_33 (by decide); omega) (by decide) ?_
    refine b_let hf (fun x3 he hf => ?_)
    refine lv_iinc (v := x3) (lv' := [(4, .int x3), (0, .ref b), (1, .ref (B + 0)), (2, .ref (B + 713)), (3, .ref (B + 746))]) hx hb dL_law_2712 hl (k := 4) rfl (by rw [← he]; rfl) (by decide) rfl (fun ls hl => ?_)
    refine lv_goto (tgt := 23) hx hb dL_law_2715 (by decide) ?_
    refine W.widen (k := cells + 6) (n := slots + 36) (by omega) (by omega) ?_
    exact hr x3 w hf _ _ _ hH (lv_sub hl [1, 2, 3, 4, 0] rfl)
