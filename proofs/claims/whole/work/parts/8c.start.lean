/-! ===== the law from its entry ===== -/
theorem KD6 : ∀ k, k < 747 → KD k = 7 → FL k = 0 := by
  have h : (List.range 747).all (fun k => decide (KD k = 7 → FL k = 0)) = true := by decide +kernel
  intro k hk
  exact of_decide_eq_true (List.all_eq_true.mp h k (List.mem_range.mpr hk))
theorem wF_at {k : Nat} (h : KD k ≠ 6) (h2 : k ≠ 714) (j : Nat) : wF.1 k j = fillV (FL k) j := by rw [wF_arr h h2]
theorem wF_714 (j : Nat) : wF.1 714 j = tV j := by
  rw [wF_eq, if_neg (by decide +kernel), if_pos rfl]
theorem wF_zero {k : Nat} (h : KD k ≠ 6) (h2 : k ≠ 714) (h3 : FL k = 0) (j : Nat) : (wF.1 k j).toInt = 0 := by
  rw [wF_at h h2, h3, fillV_0]; rfl
theorem NEW_wF : NEW wF 3 := by
  refine ⟨by decide +kernel, fun k hk => ?_, by decide +kernel, by decide +kernel, fun l hl => ?_, fun n hn => ?_, by decide +kernel, by decide +kernel, fun l hl => ?_, fun i h1 h2 => ?_, fun q hq => ?_, by decide +kernel, by decide +kernel, by decide +kernel, by decide +kernel⟩
  · have h747 := KD_lt hk (by omega)
    exact wF_zero (by omega) (by rintro rfl; exact absurd hk (by decide +kernel)) (KD6 k h747 hk) 1
  · have h : (List.range 96).all (fun l => decide ((wF.1 2 l).toInt = 0 ∧ (wF.1 3 l).toInt = 3 ∧ (wF.1 4 l).toInt = 0 ∧ (wF.1 5 l).toInt = l ∧ (wF.1 6 l).toInt = -1 ∧ (wF.1 7 l).toInt = -1 ∧ (wF.1 8 l).toInt = -1 ∧ (wF.1 9 l).toInt = -1 ∧ (wF.1 10 l).toInt = -1)) = true := by decide +kernel
    exact of_decide_eq_true (List.all_eq_true.mp h l (List.mem_range.mpr hl))
  · have h : (List.range 2).all (fun n => decide (KD (13 + 13 * n) = 2 ∧ FL (13 + 13 * n) = 0) && (List.range 3).all (fun r => decide (KD (13 + 13 * n + 1 + r) = 20 ∧ FL (13 + 13 * n + 1 + r) = 0))) = true := by decide +kernel
    have h := List.all_eq_true.mp h n (List.mem_range.mpr hn)
    rw [Bool.and_eq_true] at h
    have h1 := of_decide_eq_true h.1
    refine ⟨wF_zero (by omega) (by omega) h1.2 6, fun u hu r hr => ?_⟩
    have h2 := of_decide_eq_true (List.all_eq_true.mp h.2 r (List.mem_range.mpr hr))
    exact wF_zero (by omega) (by omega) h2.2 u
  · have T : ∀ j, j < 9 → (wF.1 714 (9 * l + j)).toInt = if j = 1 then 3 else if j = 3 then (l : Int) else 0 := by
      intro j hj
      rw [wF_714]
      unfold tV tVi
      rw [if_pos (by omega)]
      by_cases h1 : j = 1
      · rw [if_pos (by omega), if_pos h1]; decide
      · rw [if_neg (by omega), if_neg h1]
        by_cases h3 : j = 3
        · rw [if_pos (by omega), if_pos h3, show (9 * l + j) / 9 = l by omega]
          exact i_ofNat (by omega)
        · rw [if_neg (by omega), if_neg h3]; decide
    refine ⟨T 0 (by omega), T 1 (by omega), T 2 (by omega), T 3 (by omega), fun j h4 h9 => ?_⟩
    rw [T j h9, if_neg (by omega), if_neg (by omega)]
  · rw [wF_714]
    unfold tV tVi
    rw [if_neg (by omega)]
    decide
  · exact wF_zero (by decide +kernel) (by omega) (by decide +kernel) q
theorem st_false {l : Launch} (h : l.flags = flags0) : l.stackTraces = false := by
  unfold Launch.stackTraces
  rw [h]
  decide +kernel
section
variable {s : State} {b : Nat}
theorem ws_tbl (hts : ∀ w ∈ lw_tbl, w.before #[Value.ref b] s = true) : ∀ w ∈ ws0, w.before #[Value.ref b] s = true := fun w hw => hts w (List.mem_filter.mp hw).1
theorem know_cl (hts : ∀ w ∈ ws0, w.before #[Value.ref b] s = true) : ∃ D : va_G, ∀ (k : Nat) (q : vw_C), vwCl[k]? = some q → u_Kn s q.1 q.2.1 q.2.2 (D.1 k) (D.2 k) := by
  have h : ∀ k : Nat, ∃ (cC : ClassId) (iS : Nat → Nat), ∀ q : vw_C, vwCl[k]? = some q → u_Kn s q.1 q.2.1 q.2.2 cC iS := by
    intro k
    rcases Nat.lt_or_ge k 12 with hk | hk
    · rcases (show k = 0 ∨ k = 1 ∨ k = 2 ∨ k = 3 ∨ k = 4 ∨ k = 5 ∨ k = 6 ∨ k = 7 ∨ k = 8 ∨ k = 9 ∨ k = 10 ∨ k = 11 by omega) with rfl | rfl | rfl | rfl | rfl | rfl | rfl | rfl | rfl | rfl | rfl | rfl
      · obtain ⟨c, i, h⟩ := u_known (C := RX0) (T := TX0) (N := 1) hts inC_0 (hts _ wd_366)
        exact ⟨c, i, fun q hq => by cases hq; exact h⟩
      · obtain ⟨c, i, h⟩ := u_known (C := RX1) (T := TX1) (N := 6) hts inC_1 (hts _ wd_294)
        exact ⟨c, i, fun q hq => by cases hq; exact h⟩
      · obtain ⟨c, i, h⟩ := u_known (C := RX2) (T := TX2) (N := 7) hts inC_2 (hts _ wd_146)
        exact ⟨c, i, fun q hq => by cases hq; exact h⟩
      · obtain ⟨c, i, h⟩ := u_known (C := RX3) (T := TX3) (N := 12) hts inC_3 (hts _ wd_321)
        exact ⟨c, i, fun q hq => by cases hq; exact h⟩
      · obtain ⟨c, i, h⟩ := u_known (C := RX4) (T := TX4) (N := 4) hts inC_4 (hts _ wd_400)
        exact ⟨c, i, fun q hq => by cases hq; exact h⟩
      · obtain ⟨c, i, h⟩ := u_known (C := RX5) (T := TX5) (N := 5) hts inC_5 (hts _ wd_376)
        exact ⟨c, i, fun q hq => by cases hq; exact h⟩
      · obtain ⟨c, i, h⟩ := u_known (C := RX6) (T := TX6) (N := 7) hts inC_6 (hts _ wd_167)
        exact ⟨c, i, fun q hq => by cases hq; exact h⟩
      · obtain ⟨c, i, h⟩ := u_known (C := RX7) (T := TX7) (N := 2) hts inC_7 (hts _ wd_152)
        exact ⟨c, i, fun q hq => by cases hq; exact h⟩
      · obtain ⟨c, i, h⟩ := u_known (C := RX8) (T := TX8) (N := 5) hts inC_8 (hts _ wd_221)
        exact ⟨c, i, fun q hq => by cases hq; exact h⟩
      · obtain ⟨c, i, h⟩ := u_known (C := RX9) (T := TX9) (N := 15) hts inC_9 (hts _ wd_136)
        exact ⟨c, i, fun q hq => by cases hq; exact h⟩
      · obtain ⟨c, i, h⟩ := u_known (C := RX10) (T := TX10) (N := 20) hts inC_10 (hts _ wd_128)
        exact ⟨c, i, fun q hq => by cases hq; exact h⟩
      · obtain ⟨c, i, h⟩ := u_known (C := RX11) (T := TX11) (N := 45) hts inC_11 (hts _ wd_1466)
        exact ⟨c, i, fun q hq => by cases hq; exact h⟩
    · refine ⟨0, fun _ => 0, fun q hq => ?_⟩
      rw [List.getElem?_eq_none (by exact hk)] at hq
      cases hq
  exact ⟨(fun k => Classical.choose (h k), fun k => Classical.choose (Classical.choose_spec (h k))), fun k q hq => Classical.choose_spec (Classical.choose_spec (h k)) q hq⟩
theorem yk_prim {ty : FieldType} (h : (Cond.arrayClass ty).before #[Value.ref b] s = true) (hra : ∀ cA, s.vm.findClass ("[" ++ ty.toString) = some cA → va_RA s cA ty) : ∃ cA, ArrOfT s cA ty ∧ va_RA s cA ty := by
  obtain ⟨cA, kA, comp, h1, h2, h3⟩ := Cond.arrayClass_spec h
  exact ⟨cA, fun n z => ⟨fun k h => (by cases h), kA, h2, comp, h3⟩, hra cA h1⟩
theorem yk_obj {C : String} (h : (Cond.arrayOver (.object C)).before #[Value.ref b] s = true) : ∃ cA, ArrOfT s cA (.object C) ∧ va_RA s cA (.object C) := by
  obtain ⟨comp, c, k, h1, h2, h3, h4, h5⟩ := Cond.arrayOver_spec h
  exact ⟨c, fun n z => ⟨fun k h => (by cases h), k, h3, comp, h4⟩, k, comp, h3, h4, h1, h5⟩
theorem know_ty (hts : ∀ w ∈ lw_tbl, w.before #[Value.ref b] s = true) : ∃ Y : Nat → ClassId, ∀ (k : Nat) (q : ClassId × FieldType), (tys Y)[k]? = some q → ArrOfT s q.1 q.2 ∧ va_RA s q.1 q.2 := by
  obtain ⟨c20, h20⟩ := yk_prim (ty := .int) (hts _ (List.mem_filter.mp wd_164).1) (fun _ h => h)
  obtain ⟨c21, h21⟩ := yk_prim (ty := .boolean) (hts _ (List.mem_filter.mp wd_1607).1) (fun _ h => h)
  obtain ⟨c22, h22⟩ := yk_prim (ty := .long) (hts _ (List.mem_filter.mp wd_2002).1) (fun _ h => h)
  obtain ⟨c23, h23⟩ := yk_obj (C := RX7) (hts _ (List.mem_of_getElem? (i := 217) (by decide +kernel)))
  obtain ⟨c24, h24⟩ := yk_obj (C := RX2) (hts _ (List.mem_of_getElem? (i := 145) (by decide +kernel)))
  obtain ⟨c25, h25⟩ := yk_obj (C := RX9) (hts _ (List.mem_of_getElem? (i := 290) (by decide +kernel)))
  obtain ⟨c26, h26⟩ := yk_obj (C := RX8) (hts _ (List.mem_of_getElem? (i := 220) (by decide +kernel)))
  obtain ⟨c27, h27⟩ := yk_obj (C := RX6) (hts _ (List.mem_of_getElem? (i := 166) (by decide +kernel)))
  refine ⟨fun k => if k = 20 then c20 else if k = 21 then c21 else if k = 22 then c22 else if k = 23 then c23 else if k = 24 then c24 else if k = 25 then c25 else if k = 26 then c26 else c27, fun k q hq => ?_⟩
  match k, hq with
  | 0, hq => cases hq; exact h20
  | 1, hq => cases hq; exact h21
  | 2, hq => cases hq; exact h22
  | 3, hq => cases hq; exact h23
  | 4, hq => cases hq; exact h24
  | 5, hq => cases hq; exact h25
  | 6, hq => cases hq; exact h26
  | 7, hq => cases hq; exact h27
  | k + 8, hq => simp [tys] at hq
theorem nestL_in : ∀ q ∈ nestL, Cond.methodLinkNest q.1 q.2.1 q.2.2.1 q.2.2.2 ∈ lw_tbl := by
  have h : nestL.all (fun q => decide (Cond.methodLinkNest q.1 q.2.1 q.2.2.1 q.2.2.2 ∈ lw_tbl)) = true := by decide +kernel
  exact fun q hq => of_decide_eq_true (List.all_eq_true.mp h q hq)
theorem strL_in : ∀ q ∈ strL, Cond.stringRef q.1 q.2.1 q.2.2 ∈ lw_tbl ∧ q.1 = RX10 := by
  have h : strL.all (fun q => decide (Cond.stringRef q.1 q.2.1 q.2.2 ∈ lw_tbl ∧ q.1 = RX10)) = true := by decide +kernel
  exact fun q hq => of_decide_eq_true (List.all_eq_true.mp h q hq)
theorem castL_inT : ∀ q ∈ castL, Cond.castable q.1 q.2 ∈ lw_tbl := by
  have h : castL.all (fun q => decide (Cond.castable q.1 q.2 ∈ lw_tbl)) = true := by decide +kernel
  exact fun q hq => of_decide_eq_true (List.all_eq_true.mp h q hq)
theorem declL_inT : ∀ q ∈ declL, Cond.declares q ∈ lw_tbl := by
  have h : declL.all (fun q => decide (Cond.declares q ∈ lw_tbl)) = true := by decide +kernel
  exact fun q hq => of_decide_eq_true (List.all_eq_true.mp h q hq)
theorem ncL_inT {args : Array Value} (h : ∀ w ∈ flatC (Jvm.Cond.and given_1 narrow_1), w.before args s = true) : ∀ q ∈ ncL, va_Nc q.1 q.2 s := by
  have g : ncL.all (fun q => decide (Cond.not (.castable q.1 q.2) ∈ flatC (Jvm.Cond.and given_1 narrow_1))) = true := by decide +kernel
  exact fun q hq => va_Nc.of (h _ (of_decide_eq_true (List.all_eq_true.mp g q hq)))
theorem know (hts : ∀ w ∈ lw_tbl, w.before #[Value.ref b] s = true) (hgv : (Jvm.Cond.and given_1 narrow_1).before #[Value.ref b] s = true) : ∃ (D : va_G) (Y : Nat → ClassId), KC D Y s ∧ KN D Y s := by
  obtain ⟨D, hD⟩ := know_cl (ws_tbl hts)
  obtain ⟨Y, hY⟩ := know_ty hts
  have hK : va_K D vwCl (tys Y) s := ⟨hD, hY⟩
  have hN : ∀ q ∈ nestL, va_Nw (.methodLinkNest q.1 q.2.1 q.2.2.1 q.2.2.2) s := fun q hq => va_Nw.of rfl (hts _ (nestL_in q hq))
  refine ⟨D, Y, ⟨hK, fun C hC => ?_, hN⟩, hK, hN, fun q hq => ?_, fun q hq => va_Nw.of rfl (hts _ (castL_inT q hq)), fun q hq => va_Nw.of rfl (hts _ (declL_inT q hq)), ncL_inT (flat_of_before _ hgv)⟩
  · have h : aoL.all (fun C => decide (Cond.arrayOver (.object C) ∈ lw_tbl)) = true := by decide +kernel
    exact va_AO.of (hts _ (of_decide_eq_true (List.all_eq_true.mp h C hC)))
  · obtain ⟨h1, h2⟩ := strL_in q hq
    have hf := (hD 10 _ rfl).2.1
    have hw := hts _ h1
    obtain ⟨k, cf, i, a, -, -, -, -, -, hev⟩ := Cond.stringRef_spec (cls := q.1) (by rw [h2]; exact hf) hw
    exact ⟨a, vk_R.of hw hev⟩
end
set_option maxHeartbeats 4000000 in
set_option maxRecDepth 100000 in
theorem law_loop {D : va_G} {B : Nat} {Y : Nat → ClassId} {p : Program} {l : Launch} {e : Env} {s : State} {m : MethodId} {below : List Frame} {meth : Method} {c : Code} {b L : Nat} {xs : Nat → Int32} (C : CX D B Y p s m #[.ref b] meth c cL_law 8 RL (some .boolean)) (htr : l.stackTraces = false) (hL : LXS b L xs s B) :
    ∀ (n : Nat) (v4 : Int32) (w : Wd), loopN (fun (rc : Int32 × Wd → Option Unit) (σ : Int32 × Wd) => f_L_law_23 L xs rc σ.1 σ.2) n (v4, w) = some () → ∀ (cells slots : Nat), cells + 6 * n ≤ room_1.cells ∧ slots + 36 * n ≤ room_1.slots → ∀ (H : Heap) (locs : List Loc) (ls : Array Slot), HS D B Y w s H locs → lv_has ls 8 [(0, .ref b), (1, .ref (B + 0)), (2, .ref (B + 713)), (3, .ref (B + 746)), (4, .int v4)] →
      W p l e room_1 s m #[.ref b] below meth c H locs cells slots (lw_Z below #[.ref b] s) (F0 m 23 ls []) := by
  intro n
  induction n with
  | zero => intro v4 w h; cases h
  | succ n ih =>
    intro v4 w h cells slots hcs H locs ls hH hl
    rw [loopN_s] at h
    exact t_L_law_23 C htr hL ⟨by omega, by omega⟩ (fun v4 w h H locs ls hH hl => ih v4 w h (cells + 6) (slots + 36) ⟨by omega, by omega⟩ H locs ls hH hl) hH hl h
set_option maxHeartbeats 4000000 in
set_option maxRecDepth 100000 in
/-- from the entry, for every script of at most 4608 ints, the law comes to its end with true -/
theorem whole_start {p : Program} {e : Env} {s : State} {m : MethodId} {below : List Frame} {meth : Method} {c : Code} (l : Launch) (hflags : l.flags = flags0) {b L : Nat} {xs : Nat → Int32} (hL : L ≤ 4608) (C0 : lw_At p s m meth c b L xs) : W p l e room_1 s m #[Value.ref b] below meth c s.heap [] 0 0 (lw_Z below #[Value.ref b] s) (entryFrame m ([Value.ref b] : List Value).toArray 8) := by
  obtain ⟨hx, hb, hr, hml, hown, hts, hX, hbl, hlocks, hgv⟩ := C0
  have htr := st_false hflags
  obtain ⟨D, Y, hKC, hKN⟩ := know hts hgv
  obtain ⟨B, hB⟩ : ∃ B : Nat, s.heap.size = B := ⟨_, rfl⟩
  have hfl := flat_of_before _ hgv
  have hZ : ZQ B s s.heap := ⟨vx_Zqof (hts _ (List.mem_of_getElem? (i := 536) (by decide +kernel))) (hts _ (List.mem_of_getElem? (i := 121) (by decide +kernel))) (hfl _ (by decide +kernel)) (fun a ha => by show ¬ B ≤ a; omega), vx_Zqof (hts _ (List.mem_of_getElem? (i := 538) (by decide +kernel))) (hts _ (List.mem_of_getElem? (i := 121) (by decide +kernel))) (hfl _ (by decide +kernel)) (fun a ha => by show ¬ B ≤ a; omega)⟩
  have CL : CX D B Y p s m #[.ref b] meth c cL_law 8 RL (some .boolean) := ⟨hx, hb, hml, hown, ws_tbl hts, hr, hlocks, hKN, hZ⟩
  have C : KX D Y p s m #[.ref b] c cL_law 8 RL := ⟨hx, hb, hml, hown, ws_tbl hts, hKC⟩
  have hLX : LXS b L xs s B := ⟨hX, hbl, by show ¬ B ≤ b; omega, hB⟩
  have hH : PH D B 0 (fun _ => .inr (0, [])) s s.heap [] := ⟨by omega, fun k hk => absurd hk (Nat.not_lt_zero k), va_S.rf⟩
  have hl := lv_entry ([.ref b]) (n := 8) (Nat.le_of_ble_eq_true rfl)
  rw [lg_entry_eq]
  generalize (lg_sl ([.ref b]) ++ List.replicate (8 - (lg_sl ([.ref b])).length) Slot.unset).toArray = ls at hl ⊢
  have hl : lv_has ls 8 [(0, .ref b)] := hl
  refine p_new C hH (ci := 10) (T := TX10) (N := 20) (ty := tyX10) rfl inC_10 tyX10_ok wd_127 wd_128 wd_109 (Nat.le_of_ble_eq_true rfl) (Nat.le_of_ble_eq_true rfl) dL_law_0 (fun e1 H hH hs1 hn1 => ?_)
  refine lv_dup hx hb dL_law_3 rfl ?_
  refine p_init C hH (As := []) (n1 := 713) wd_131 wd_109 wd_129 wd_130 rfl ydi_X10 (ci_X10 hn1) (Nat.le_of_ble_eq_true rfl) (Nat.le_of_ble_eq_true rfl) hl.1 rfl (Nat.le_of_ble_eq_true rfl) dL_law_4 ⟨(Nat.le_of_ble_eq_true rfl), (Nat.le_of_ble_eq_true rfl)⟩ (fun e2 H locs hH hs2 hf2 => ?_)
  refine lv_astore_n (lv' := [(1, .ref (B + 0)), (0, .ref b)]) hx hb dL_law_7 rfl hl (by decide) rfl (fun ls hl => ?_)
  refine p_new C hH (ci := 11) (T := TX11) (N := 45) (ty := tyX11) rfl inC_11 tyX11_ok wd_1465 wd_1466 wd_120 (Nat.le_of_ble_eq_true rfl) (Nat.le_of_ble_eq_true rfl) dL_law_8 (fun e3 H hH hs3 hn3 => ?_)
  refine lv_dup hx hb dL_law_11 rfl ?_
  refine p_init C hH (As := []) (n1 := 746) wd_1469 wd_120 wd_1467 wd_1468 rfl ydi_X11 (ci_X11 hn3) (Nat.le_of_ble_eq_true rfl) (Nat.le_of_ble_eq_true rfl) hl.1 rfl (Nat.le_of_ble_eq_true rfl) dL_law_12 ⟨(Nat.le_of_ble_eq_true rfl), (Nat.le_of_ble_eq_true rfl)⟩ (fun e4 H locs hH hs4 hf4 => ?_)
  refine lv_astore_n (lv' := [(2, .ref (B + 713)), (1, .ref (B + 0)), (0, .ref b)]) hx hb dL_law_15 rfl hl (by decide) rfl (fun ls hl => ?_)
  refine lv_iconst (v := (1 : Int32)) hx hb dL_law_16 (by decide) ?_
  refine p_newa C hH (atype := .long) (ty := .long) (t0 := 2) (ci := 22) (N := 1) (a0 := (1, .inr (.inl (fun _ => 0)))) rfl wd_2002 rfl (fun h => h) rfl (by decide) (by decide) (Nat.le_of_ble_eq_true rfl) (Nat.le_of_ble_eq_true rfl) (Nat.le_of_ble_eq_true rfl) dL_law_17 (fun e5 H hH hs5 hn5 => ?_)
  refine lv_astore_n (lv' := [(3, .ref (B + 746)), (2, .ref (B + 713)), (1, .ref (B + 0)), (0, .ref b)]) hx hb dL_law_19 rfl hl (by decide) rfl (fun ls hl => ?_)
  refine lv_iconst (v := (0 : Int32)) hx hb dL_law_20 (by decide) ?_
  refine lv_istore (lv' := [(4, .int 0), (3, .ref (B + 746)), (2, .ref (B + 713)), (1, .ref (B + 0)), (0, .ref b)]) hx hb dL_law_21 hl (by decide) rfl (fun ls hl => ?_)
  have hev : ∀ k, k < 747 → ev (e5 k) (ent B Y wF k) := by
    intro k hk
    rcases Nat.lt_or_ge k 713 with h1 | h1
    · rw [hs5 k (by omega), hs4 k h1, hs3 k h1]
      exact hf2 k (Nat.zero_le k) h1
    · rcases Nat.lt_or_ge k 746 with h2 | h2
      · rw [hs5 k h2]
        exact hf4 k h1 h2
      · rw [show k = 746 by omega, hn5]
        refine ev_of ?_
        rw [ent_long (show KD 746 = 22 by decide +kernel), show LEN 746 = 1 by decide +kernel]
        rfl
  have hHS : HS D B Y wF s H locs := by
    refine ⟨fun k q hq => ?_, hH.2.2, show KD wF.2.1 = 5 ∧ KD wF.2.2.1 = 5 by decide +kernel⟩
    have hk : k < 747 := by
      have := (List.getElem?_eq_some_iff.mp hq).1
      rwa [wl_len] at this
    rw [wl_get hk] at hq
    cases hq
    exact hev k hk _ _ _ _ (hH.2.1 k hk)
  have hI : INV wF := INV_new (N := 3) (by omega) NEW_wF
  refine law_loop CL htr hLX 600 0 wF (law_true hL 600 0 0 wF (by omega) (by omega) rfl hI) _ _ ⟨Nat.le_of_ble_eq_true rfl, Nat.le_of_ble_eq_true rfl⟩ H locs ls hHS (lv_sub hl [4, 3, 2, 1, 0] rfl)
