/-! ===== the constructors by hand: rows of numbers, the loops ===== -/
theorem fillV_2 : fillV 2 = fun j => if j < 96 then (3 : Int32) else 0 := by
  funext j; unfold fillV; rw [if_pos rfl]
theorem fillV_4 : fillV 4 = fun j => if j < 96 then Int32.ofNat j else 0 := by
  funext j; unfold fillV; rw [if_neg (by omega), if_pos rfl]
theorem fillV_5 : fillV 5 = fun j => if j < 96 then (-1 : Int32) else 0 := by
  funext j; unfold fillV; rw [if_neg (by omega), if_neg (by omega), if_pos (by omega)]
theorem fillV_6 : fillV 6 = fun j => if j < 96 then (-1 : Int32) else 0 := by
  funext j; unfold fillV; rw [if_neg (by omega), if_neg (by omega), if_pos (by omega)]
theorem fillV_7 : fillV 7 = fun j => if j < 96 then (-1 : Int32) else 0 := by
  funext j; unfold fillV; rw [if_neg (by omega), if_neg (by omega), if_pos (by omega)]
theorem fillV_8 : fillV 8 = fun j => if j < 96 then (-1 : Int32) else 0 := by
  funext j; unfold fillV; rw [if_neg (by omega), if_neg (by omega), if_pos (by omega)]
theorem fillV_9 : fillV 9 = fun j => if j < 96 then (-1 : Int32) else 0 := by
  funext j; unfold fillV; rw [if_neg (by omega), if_neg (by omega), if_pos (by omega)]
theorem wF_eq (k j : Nat) : wF.1 k j = if KD k = 6 then (if j = 1 then 1 else 0) else if k = 714 then tV j else fillV (FL k) j := rfl
section
variable {D : va_G} {Y : Nat → ClassId} {p : Program} {l : Launch} {E : Env} {R : Room} {s : State} {m : MethodId} {args : Array Value} {below : List Frame} {meth : Method} {c : Code} {H : Heap} {locs : List Loc} {cells slots : Nat} {Q : State → Prop} {cc : ByteArray} {nL : Nat} {own : String} {pc : Nat} {ls : Array Slot}
theorem p_oinit (C : KX D Y p s m args c cc nL own) {a : Addr} {idx : Nat} (w1 : Cond.methodLink own idx objectInit ∈ ws0) (w2 : Cond.instanceMethod objectInit ∈ ws0) (w3 : Cond.code objectInit ⟨#[0xb1]⟩ 1 none ∈ ws0) (hsize : ls.size = nL) (hd : decode cc pc = .ok (.invokespecial idx, 3)) (hfr : 1 ≤ R.frames) (hlo : 12 ≤ R.locals)
    (kk : W p l E R s m args below meth c H locs cells slots Q (F0 m (pc + 3) ls [])) : W p l E R s m args below meth c H locs cells slots Q (F0 m pc ls [.ref a]) :=
  W.objInit C.1 C.2.1 C.2.2.2.1 (C.2.2.2.2.1 _ w1) (C.2.2.2.2.1 _ w2) (C.2.2.2.2.1 _ w3) rfl (hsize.trans C.2.2.1.symm) rfl hd hfr hlo kk
end
set_option maxRecDepth 100000 in
set_option maxHeartbeats 4000000 in
theorem ci_X7 {l : Launch} {D : va_G} {B : Nat} {Y : Nat → ClassId} {e : Nat → va_E} {o N : Nat} {x : Int32} (hx0 : ¬ x < 0) (hN : x.toNatClampNeg = N) (hb : N * 4 ≤ 536870912) (hrow : rowOK N o = true) (he : e o = .inr (7, dfl tyX7 2)) : IM l D B Y yX7_init cX7_init 2 0 1 N [.ref (B + o), .int x] (o + 1) (o + 2) o e := by
  refine IM_of (by decide +kernel) (Nat.le_of_ble_eq_true rfl) (fun p E s m args below meth c ls C hr hlk hnm hH hl => ?_)
  have hx := C.1
  have hbb := C.2.1
  unfold rowOK at hrow
  rw [Bool.and_eq_true] at hrow
  have hK : Kp B Y o e o e [(0, .inr (7, [.null, .int 0]))] [] := ⟨fun k hk => rfl, fun q hq => by rw [List.mem_singleton.mp hq]; exact he, fun q hq => (List.not_mem_nil hq).elim⟩
  refine lv_aload_n hx hbb dX7_init_0 rfl (lv_at hl 0 rfl) ?_
  refine p_oinit C wd_96 wd_73 wd_74 hl.1 dX7_init_1 (Nat.le_of_ble_eq_true rfl) (Nat.le_of_ble_eq_true rfl) ?_
  refine lv_aload_n hx hbb dX7_init_4 rfl (lv_at hl 0 rfl) ?_
  refine lv_iload_n hx hbb dX7_init_5 rfl (lv_at hl 1 rfl) ?_
  refine lv_if_ge (tgt := 13) hx hbb dX7_init_6 (by decide) (fun _ => ?_) (fun h => absurd (Int32.not_lt.mp hx0) h)
  refine lv_iload_n hx hbb dX7_init_13 rfl (lv_at hl 1 rfl) ?_
  refine p_newa C hH (atype := .int) (ty := .int) (t0 := 0) (ci := 20) (N := N) (a0 := (N, .inl (fun _ => 0))) rfl wd_104 rfl (fun h => h) rfl hx0 hN hb (Nat.le_of_ble_eq_true rfl) (by show 0 + N ≤ N; omega) dX7_init_14 (fun e1 H hH hs hn => ?_)
  have hK : Kp B Y o e o e1 [(0, .inr (7, [.null, .int 0]))] [(1, 2)] := kp_seg (d := 1) hK rfl (by omega) hs (fun k h1 h2 => by rw [show k = o + 1 by omega, hn]; exact ev_z hrow.2)
  refine p_putF C hnm hH (ci := 7) (T := TX7) (N := 2) (j := 0) (ty0 := tyX7) rfl inC_7 tyX7_ok nmX7 (by omega) (by omega) (kp_at (d := 0) hK 0 rfl) wd_97 rfl rfl rfl rfl (Nat.le_of_ble_eq_true rfl) dX7_init_16 (fun e2 H locs hH hs hn => ?_)
  have hK : Kp B Y o e o e2 [(0, .inr (7, [.ref (B + (o + 1)), .int 0]))] [(1, 2)] := kp_set (d := 0) hK 0 rfl rfl (by omega) hs hn
  have hp : ∀ q ∈ ([(0, .inr (7, [.ref (B + (o + 1)), .int 0]))] : List (Nat × va_E)), ev q.2 (ent B Y wF (o + q.1)) := by
    intro q hq
    rw [List.mem_singleton.mp hq]
    exact ev_of (okO_ent (ci := 7) (sp := [(true, 1, 0), (false, 0, 0)]) (b := o) (by omega) hrow.1).symm
  refine W.widen (k := 1) (n := N) (Nat.le_of_ble_eq_true rfl) (by omega) ?_
  exact p_ret C hr hlk hH hK.1 (kp_end hK 0 2 rfl hp) dX7_init_19
/-! the loop of fillCells -/
theorem nI_in96 {i : Nat} {N : Nat} (h : i < N) (hN : N ≤ 1000) : vp_in (nI i) N := nI_in h (by omega)
theorem upd_fill {i : Nat} {v : Int32} : upd (fun j => if j < i then v else 0) i v = fun j => if j < i + 1 then v else 0 := by
  funext j
  unfold upd
  by_cases h : j = i
  · rw [if_pos h, if_pos (by omega)]
  · rw [if_neg h]
    show (if j < i then _ else _) = _
    by_cases h2 : j < i
    · rw [if_pos h2, if_pos (by omega)]
    · rw [if_neg h2, if_neg (by omega)]
set_option maxRecDepth 100000 in
set_option maxHeartbeats 4000000 in
theorem c_fill {l : Launch} {D : va_G} {B : Nat} {Y : Nat → ClassId} {e : Nat → va_E} {n q N : Nat} {v : Int32} (hN : N ≤ 1000) (hq : q < n) (he : e q = .inl (Y 20, N, .inl (fun _ => 0))) : FM l D B Y n q N v e := by
  refine Met.ofW (cc := cX10_fillCells) (maxL := 3) (ret := none) (by decide +kernel) rfl ?_
  intro p E s m args below meth c s₁ Bd hml hv
  obtain ⟨rfl, hz, hP, hKC⟩ := hv
  have C : KX D Y p s m _ c cX10_fillCells 3 RX10 := ⟨Bd.exec, Bd.bytes, hml, findClass_of_methodNamed Bd.named, fun w hw => atoms_spec (ws := WSM yX10_fillCells cX10_fillCells 3 none) Bd.pre w (List.mem_cons_of_mem _ hw), hKC⟩
  have hH : PH D B n e s s.heap [] := ⟨hz, hP, va_S.rf⟩
  have hx := C.1
  have hbb := C.2.1
  have hr := Bd.returns
  have hlk := Bd.notSynchronized
  have hl := lv_entry [.ref (B + q), .int v] (n := 3) (Nat.le_of_ble_eq_true rfl)
  rw [lg_entry_eq]
  generalize (lg_sl [Value.ref (B + q), Value.int v] ++ List.replicate (3 - (lg_sl [Value.ref (B + q), Value.int v]).length) Slot.unset).toArray = ls at hl ⊢
  have hl : lv_has ls 3 [(0, .ref (B + q)), (1, .int v)] := hl
  have key : ∀ (r i : Nat) (e1 : Nat → va_E) (H : Heap) (locs : List Loc) (ls : Array Slot), r + i = N → PH D B n e1 s H locs → (∀ k, k ≠ q → e1 k = e k) → e1 q = .inl (Y 20, N, .inl (fun j => if j < i then v else 0)) → lv_has ls 3 [(2, .int (nI i)), (0, .ref (B + q)), (1, .int v)] →
      W p l E (RM 0 0 0) s m #[.ref (B + q), .int v] below meth c H locs 0 0 (MQ below (QFi D B Y n q N v e) #[.ref (B + q), .int v] s 0 0 (ABc B)) (F0 m 2 ls []) := by
    intro r
    induction r with
    | zero =>
      intro i e1 H locs ls hri hH hs hn hl
      refine lv_iload_n hx hbb dX10_fillCells_2 rfl (lv_at hl 0 rfl) ?_
      refine lv_aload_n hx hbb dX10_fillCells_3 rfl (lv_at hl 1 rfl) ?_
      refine p_alen C hH (t0 := 0) (ci := 20) (v := nI N) hq hn rfl rfl dX10_fillCells_4 ?_
      refine lv_icmp_ge (tgt := 18) hx hbb dX10_fillCells_5 (by decide) (fun _ => ?_) (fun h => absurd (nI_le (by omega) (by omega)) h)
      exact W.vret C.1 C.2.1 hr (fun t ht hW => ⟨⟨rfl, e1, by rw [ht]; exact hH.1, by rw [ht]; exact hH.2.1, hs, by rw [hn, show i = N by omega]⟩, hH.2.2.F ht⟩) hH.2.2.2.2 dX10_fillCells_18 hlk
    | succ r ih =>
      intro i e1 H locs ls hri hH hs hn hl
      refine lv_iload_n hx hbb dX10_fillCells_2 rfl (lv_at hl 0 rfl) ?_
      refine lv_aload_n hx hbb dX10_fillCells_3 rfl (lv_at hl 1 rfl) ?_
      refine p_alen C hH (t0 := 0) (ci := 20) (v := nI N) hq hn rfl rfl dX10_fillCells_4 ?_
      refine lv_icmp_ge (tgt := 18) hx hbb dX10_fillCells_5 (by decide) (fun h => absurd h (nI_ge (by omega) (by omega))) (fun _ => ?_)
      refine lv_aload_n hx hbb dX10_fillCells_8 rfl (lv_at hl 1 rfl) ?_
      refine lv_iload_n hx hbb dX10_fillCells_9 rfl (lv_at hl 0 rfl) ?_
      refine lv_iload_n hx hbb dX10_fillCells_10 rfl (lv_at hl 2 rfl) ?_
      refine p_iast C hH hq hn (nI_in (by omega) (by omega)) dX10_fillCells_11 (fun e2 H locs hH hs2 hn2 => ?_)
      rw [nI_clamp (by omega), upd_fill] at hn2
      refine lv_iinc (v := nI (i + 1)) (lv' := [(2, .int (nI (i + 1))), (0, .ref (B + q)), (1, .int v)]) hx hbb dX10_fillCells_12 hl (k := 0) rfl (by rw [nI_succ]; rfl) (by decide) rfl (fun ls hl => ?_)
      refine lv_goto (tgt := 2) hx hbb dX10_fillCells_15 (by decide) ?_
      exact ih (i + 1) e2 H locs ls (by omega) hH (fun k hk => (hs2 k hk).trans (hs k hk)) hn2 hl
  refine lv_iconst (v := 0) hx hbb dX10_fillCells_0 (by decide) ?_
  refine lv_istore_n (lv' := [(2, .int 0), (0, .ref (B + q)), (1, .int v)]) hx hbb dX10_fillCells_1 rfl hl (by decide) rfl (fun ls hl => ?_)
  refine key N 0 e _ _ ls (by omega) hH (fun k hk => rfl) ?_ (by rw [nI_0]; exact hl)
  rw [he]
  refine congrArg (fun f : Nat → Int32 => (Sum.inl (Y 20, N, Sum.inl f) : va_E)) ?_
  funext j
  rw [if_neg (by omega)]
/-! the loop of Tables over the likes -/
theorem upd_likes {i : Nat} : upd (fun j => if j < i then Int32.ofNat j else 0) i (nI i) = fun j => if j < i + 1 then Int32.ofNat j else 0 := by
  funext j
  unfold upd
  by_cases h : j = i
  · rw [if_pos h, if_pos (by omega), h]; rfl
  · rw [if_neg h]
    show (if j < i then _ else _) = _
    by_cases h2 : j < i
    · rw [if_pos h2, if_pos (by omega)]
    · rw [if_neg h2, if_neg (by omega)]
section
variable {D : va_G} {B : Nat} {Y : Nat → ClassId} {p : Program} {l : Launch} {E : Env} {R : Room} {s : State} {m : MethodId} {args : Array Value} {below : List Frame} {meth : Method} {c : Code} {H : Heap} {locs : List Loc} {cells slots : Nat} {Q : State → Prop} {n o : Nat} {e : Nat → va_E} {ls : Array Slot} {fs : List Value}
set_option maxRecDepth 100000 in
set_option maxHeartbeats 4000000 in
theorem t_likes (C : KX D Y p s m args c cX9_init 2 RX9) (_ho : o ∈ TBL) (hH : PH D B n e s H locs) (hfs : fs[3]? = some (.ref (B + (o + 4)))) (he0 : e (o + 0) = .inr (9, fs)) (he4 : e (o + 4) = .inl (Y 20, 96, .inl (fun _ => 0))) (hl : lv_has ls 2 [(1, .int (0 : Int32)), (0, .ref (B + o))])
    (kk : ∀ (e1 : Nat → va_E) (H1 : Heap) (locs1 : List Loc) (ls1 : Array Slot), PH D B n e1 s H1 locs1 → (∀ k, k ≠ o + 4 → e1 k = e k) → e1 (o + 4) = .inl (Y 20, 96, .inl (fun j => if j < 96 then Int32.ofNat j else 0)) → lv_has ls1 2 [(1, .int (96 : Int32)), (0, .ref (B + o))] → W p l E R s m args below meth c H1 locs1 cells slots Q (F0 m 116 ls1 [])) (hn : o + 4 < n := by omega) : W p l E R s m args below meth c H locs cells slots Q (F0 m 94 ls []) := by
  have hx := C.1
  have hbb := C.2.1
  have key : ∀ (r i : Nat) (e1 : Nat → va_E) (H : Heap) (locs : List Loc) (ls : Array Slot), r + i = 96 → PH D B n e1 s H locs → (∀ k, k ≠ o + 4 → e1 k = e k) → e1 (o + 4) = .inl (Y 20, 96, .inl (fun j => if j < i then Int32.ofNat j else 0)) → lv_has ls 2 [(1, .int (nI i)), (0, .ref (B + o))] →
      W p l E R s m args below meth c H locs cells slots Q (F0 m 94 ls []) := by
    intro r
    induction r with
    | zero =>
      intro i e1 H locs ls hri hH hs hn4 hl
      have he1 : e1 o = .inr (9, fs) := (hs o (by omega)).trans he0
      refine lv_iload_n hx hbb dX9_init_94 rfl (lv_at hl 0 rfl) ?_
      refine lv_aload_n hx hbb dX9_init_95 rfl (lv_at hl 1 rfl) ?_
      refine p_get C hH (ci := 9) (T := TX9) (N := 15) (j := 3) rfl inC_9 (by omega) (by omega) he1 wd_187 hfs dX9_init_96 ?_
      refine p_alen C hH (t0 := 0) (ci := 20) (v := 96) hn hn4 rfl rfl dX9_init_99 ?_
      refine lv_icmp_ge (tgt := 116) hx hbb dX9_init_100 (by decide) (fun _ => ?_) (fun h => absurd (by rw [show i = 96 by omega]; decide) h)
      have e96 : i = 96 := by omega
      subst e96
      exact kk e1 H locs ls hH hs hn4 hl
    | succ r ih =>
      intro i e1 H locs ls hri hH hs hn4 hl
      have he1 : e1 o = .inr (9, fs) := (hs o (by omega)).trans he0
      refine lv_iload_n hx hbb dX9_init_94 rfl (lv_at hl 0 rfl) ?_
      refine lv_aload_n hx hbb dX9_init_95 rfl (lv_at hl 1 rfl) ?_
      refine p_get C hH (ci := 9) (T := TX9) (N := 15) (j := 3) rfl inC_9 (by omega) (by omega) he1 wd_187 hfs dX9_init_96 ?_
      refine p_alen C hH (t0 := 0) (ci := 20) (v := nI 96) hn hn4 rfl rfl dX9_init_99 ?_
      refine lv_icmp_ge (tgt := 116) hx hbb dX9_init_100 (by decide) (fun h => absurd h (nI_ge (by omega) (by omega))) (fun _ => ?_)
      refine lv_aload_n hx hbb dX9_init_103 rfl (lv_at hl 1 rfl) ?_
      refine p_get C hH (ci := 9) (T := TX9) (N := 15) (j := 3) rfl inC_9 (by omega) (by omega) he1 wd_187 hfs dX9_init_104 ?_
      refine lv_iload_n hx hbb dX9_init_107 rfl (lv_at hl 0 rfl) ?_
      refine lv_iload_n hx hbb dX9_init_108 rfl (lv_at hl 0 rfl) ?_
      refine p_iast C hH hn hn4 (nI_in (by omega) (by omega)) dX9_init_109 (fun e2 H locs hH hs2 hn2 => ?_)
      rw [nI_clamp (by omega), upd_likes] at hn2
      refine lv_iinc (v := nI (i + 1)) (lv' := [(1, .int (nI (i + 1))), (0, .ref (B + o))]) hx hbb dX9_init_110 hl (k := 0) rfl (by rw [nI_succ]; rfl) (by decide) rfl (fun ls hl => ?_)
      refine lv_goto (tgt := 94) hx hbb dX9_init_113 (by decide) ?_
      exact ih (i + 1) e2 H locs ls (by omega) hH (fun k hk => (hs2 k hk).trans (hs k hk)) hn2 hl
  refine key 96 0 e _ _ ls (by omega) hH (fun k hk => rfl) ?_ (by rw [nI_0]; exact hl)
  rw [he4]
  refine congrArg (fun f : Nat → Int32 => (Sum.inl (Y 20, 96, Sum.inl f) : va_E)) ?_
  funext j
  rw [if_neg (by omega)]
end
