/-! ===== the law from its entry ===== -/
theorem KD6 : ∀ k, k < 713 → KD k = 7 → FL k = 0 := by
  have h : (List.range 713).all (fun k => decide (KD k = 7 → FL k = 0)) = true := by decide +kernel
  intro k hk
  exact of_decide_eq_true (List.all_eq_true.mp h k (List.mem_range.mpr hk))
theorem wF_at {k : Nat} (h : KD k ≠ 6) (h2 : k ≠ 714) (j : Nat) : wF.1 k j = fillV (FL k) j := by rw [wF_arr h h2]
theorem wF_zero {k : Nat} (h : KD k ≠ 6) (h2 : k ≠ 714) (h3 : FL k = 0) (j : Nat) : (wF.1 k j).toInt = 0 := by
  rw [wF_at h h2, h3, fillV_0]; rfl
/-- what a constructor leaves shows the empty state -/
def NEW (w : Wd) : Prop :=
  (KD w.2.1 = 5 ∧ KD w.2.2.1 = 5 ∧ w.2.1 ≠ w.2.2.1) ∧ (∀ k, KD k = 7 → (w.1 k 1).toInt = 0) ∧ (w.1 0 2).toInt = 0 ∧ (w.1 0 11).toInt = 0 ∧
  (∀ l, l < 96 → (w.1 2 l).toInt = 0 ∧ (w.1 3 l).toInt = 3 ∧ (w.1 4 l).toInt = 0 ∧ (w.1 5 l).toInt = l ∧ (w.1 6 l).toInt = -1 ∧ (w.1 7 l).toInt = -1 ∧ (w.1 8 l).toInt = -1 ∧ (w.1 9 l).toInt = -1 ∧ (w.1 10 l).toInt = -1) ∧
  (∀ n, n < 2 → (w.1 (13 + 13 * n) 6).toInt = 0 ∧ ∀ u, u < 96 → ∀ r, r < 3 → (w.1 (13 + 13 * n + 1 + r) u).toInt = 0) ∧ (w.1 1 12).toInt = 0 ∧ (w.1 1 14).toInt = 0
def tab0 : Nat → Int := fun i => if i < 864 then (if i % 9 = 1 then 3 else if i % 9 = 3 then ((i / 9 : Nat) : Int) else 0) else 0
theorem tab0_lo {l j : Nat} (hl : l < 96) (hj : j < 9) : tab0 (9 * l + j) = if j = 1 then 3 else if j = 3 then (l : Int) else 0 := by
  unfold tab0
  rw [if_pos (by omega), show (9 * l + j) % 9 = j by omega, show (9 * l + j) / 9 = l by omega]
theorem tab0_hi {i : Nat} (h : 864 ≤ i) : tab0 i = 0 := by
  unfold tab0
  rw [if_neg (by omega)]
def S0 : ST := (tab0, fun _ => [], 0, fun _ => tab0, [], [], none)
theorem CS_new {w : Wd} (h : NEW w) : CS w S0 ∧ OS S0 := by
  obtain ⟨hp, hz, h2, h11, hl, hu, h12, h14⟩ := h
  have emp : ∀ k, KD k = 7 → rl w k = [] := fun k hk => by
    have := hz k hk
    unfold rl
    rw [this]; rfl
  have rl9 : ∀ l, l < 96 → tab0 (9 * l) = 0 ∧ tab0 (9 * l + 1) = 3 ∧ tab0 (9 * l + 2) = 0 ∧ tab0 (9 * l + 3) = l ∧ ∀ j, 4 ≤ j → j < 9 → tab0 (9 * l + j) = 0 := by
    intro l hl96
    refine ⟨tab0_lo (j := 0) hl96 (by omega), tab0_lo (j := 1) hl96 (by omega), tab0_lo (j := 2) hl96 (by omega), tab0_lo (j := 3) hl96 (by omega), fun j h1 h2 => ?_⟩
    rw [tab0_lo hl96 h2, if_neg (by omega), if_neg (by omega)]
  have T : ∀ i, 864 ≤ i → i < 1740 → tab0 i = 0 := fun i hi _ => tab0_hi hi
  have tk : tok tab0 := by
    refine tok_parts.mpr ⟨fun l hl96 => ?_, fun n hn => ?_, ?_, ?_⟩
    · obtain ⟨a', b', c', d', e'⟩ := rl9 l hl96
      unfold lok
      rw [a', b', c', d', e' 4 (by omega) (by omega), e' 5 (by omega) (by omega), e' 6 (by omega) (by omega), e' 7 (by omega) (by omega), e' 8 (by omega) (by omega)]
      refine ⟨by omega, by omega, by omega, by omega, by omega, ⟨by omega, by omega, by omega, by omega, fun _ => rfl⟩, by omega⟩
    · have c1 := T (1440 + n) (by omega) (by omega)
      have c2 := T (1678 + n) (by omega) (by omega)
      unfold nok
      rw [c1, c2]
      refine ⟨by omega, by omega, fun i j _ hj => by omega, fun i hi => by omega, fun i hi => by omega⟩
    · have c1 := T 1502 (by omega) (by omega)
      unfold wok
      rw [c1]
      exact ⟨by omega, by omega, fun i hi => by omega⟩
    · have c1 := T 1557 (by omega) (by omega)
      unfold rrk
      rw [c1]
      exact ⟨by omega, by omega, fun i hi => by omega⟩
  have okw : okall w := fun k hk => ⟨hk, by rw [hz k hk]; omega, by rw [hz k hk]; omega⟩
  have tr : trel w 1 tab0 := by
    refine ⟨fun l hl96 => ?_, fun n hn => ?_, ⟨?_, fun i hi => ?_⟩, ⟨?_, fun i hi => ?_⟩⟩
    · obtain ⟨a', b', c', d', e'⟩ := rl9 l hl96
      obtain ⟨a1, a2, a3, a4, a5, a6, a7, a8, a9⟩ := hl l hl96
      unfold lrel
      rw [a', b', c', d', e' 4 (by omega) (by omega), e' 5 (by omega) (by omega), e' 6 (by omega) (by omega), e' 7 (by omega) (by omega), e' 8 (by omega) (by omega)]
      exact ⟨a1, a2, a3, a4, a5, a6, a7, a8, Or.inl ⟨rfl, a9⟩⟩
    · obtain ⟨b1, b2⟩ := hu n hn
      have L := lang_facts _ (lang_kd n hn)
      have c1 := T (1440 + n) (by omega) (by omega)
      have c2 := T (1678 + n) (by omega) (by omega)
      rw [show 1 + 12 + 13 * n = 13 + 13 * n by omega]
      unfold urel
      rw [c1, c2, emp _ L.2.1, emp _ L.2.2.2.1]
      refine ⟨fun u hu2 r hr => ?_, rfl, rfl, fun i hi => by omega, b1, fun i hi => by omega⟩
      rw [b2 u hu2 r hr]
      exact (T _ (by omega) (by omega)).symm
    · rw [T 1502 (by omega) (by omega)]; exact h12
    · rw [T 1502 (by omega) (by omega)] at hi; omega
    · rw [T 1557 (by omega) (by omega)]; exact h14
    · rw [T 1557 (by omega) (by omega)] at hi; omega
  exact ⟨⟨okw, tr, fun s hs => emp _ (slot_kd s hs).1, ⟨h2, fun v hv => absurd hv (Nat.not_lt_zero v)⟩, emp _ tape_kd.1, emp _ out_kd.1, h11, hp⟩, ⟨tk, fun s _ => ⟨Nat.zero_le _, fun x q => (List.not_mem_nil q).elim⟩, Nat.zero_le _, fun v hv => absurd hv (Nat.not_lt_zero v), tpok_nil, ⟨Nat.zero_le _, fun x q => (List.not_mem_nil q).elim⟩⟩⟩
theorem NEW_wF : NEW wF := by
  refine ⟨by decide +kernel, fun k hk => ?_, by decide +kernel, by decide +kernel, fun l hl => ?_, fun n hn => ?_, by decide +kernel, by decide +kernel⟩
  · have h713 := KD_lt hk (by omega)
    exact wF_zero (by omega) (by omega) (KD6 k h713 hk) 1
  · have h : (List.range 96).all (fun l => decide ((wF.1 2 l).toInt = 0 ∧ (wF.1 3 l).toInt = 3 ∧ (wF.1 4 l).toInt = 0 ∧ (wF.1 5 l).toInt = l ∧ (wF.1 6 l).toInt = -1 ∧ (wF.1 7 l).toInt = -1 ∧ (wF.1 8 l).toInt = -1 ∧ (wF.1 9 l).toInt = -1 ∧ (wF.1 10 l).toInt = -1)) = true := by decide +kernel
    exact of_decide_eq_true (List.all_eq_true.mp h l (List.mem_range.mpr hl))
  · have h : (List.range 2).all (fun n => decide (KD (13 + 13 * n) = 2 ∧ FL (13 + 13 * n) = 0) && (List.range 3).all (fun r => decide (KD (13 + 13 * n + 1 + r) = 20 ∧ FL (13 + 13 * n + 1 + r) = 0))) = true := by decide +kernel
    have h := List.all_eq_true.mp h n (List.mem_range.mpr hn)
    rw [Bool.and_eq_true] at h
    have h1 := of_decide_eq_true h.1
    refine ⟨wF_zero (by omega) (by omega) h1.2 6, fun u hu r hr => ?_⟩
    have h2 := of_decide_eq_true (List.all_eq_true.mp h.2 r (List.mem_range.mpr hr))
    exact wF_zero (by omega) (by omega) h2.2 u

theorem st_false {l : Launch} (h : l.flags = flags0) : l.stackTraces = false := by
  unfold Launch.stackTraces
  rw [h]
  decide +kernel
section
variable {s : State} {b : Nat}
theorem ws_tbl (hts : ∀ w ∈ lw_tbl, w.before #[Value.ref b] s = true) : ∀ w ∈ ws0, w.before #[Value.ref b] s = true := fun w hw => hts w (List.mem_filter.mp hw).1
theorem know_cl (hts : ∀ w ∈ ws0, w.before #[Value.ref b] s = true) : ∃ D : va_G, ∀ (k : Nat) (q : vw_C), vwCl[k]? = some q → u_Kn s q.1 q.2.1 q.2.2 (D.1 k) (D.2 k) := by
  have h : ∀ k : Nat, ∃ (cC : ClassId) (iS : Nat → Nat), ∀ q : vw_C, vwCl[k]? = some q → u_Kn s q.1 q.2.1 q.2.2 cC iS := by
    intro k
    rcases Nat.lt_or_ge k 11 with hk | hk
    · rcases (show k = 0 ∨ k = 1 ∨ k = 2 ∨ k = 3 ∨ k = 4 ∨ k = 5 ∨ k = 6 ∨ k = 7 ∨ k = 8 ∨ k = 9 ∨ k = 10 by omega) with rfl | rfl | rfl | rfl | rfl | rfl | rfl | rfl | rfl | rfl | rfl
      · obtain ⟨c, i, h⟩ := u_known (C := RX0) (T := TX0) (N := 1) hts inC_0 (hts _ wd_306)
        exact ⟨c, i, fun q hq => by cases hq; exact h⟩
      · obtain ⟨c, i, h⟩ := u_known (C := RX1) (T := TX1) (N := 6) hts inC_1 (hts _ wd_234)
        exact ⟨c, i, fun q hq => by cases hq; exact h⟩
      · obtain ⟨c, i, h⟩ := u_known (C := RX2) (T := TX2) (N := 7) hts inC_2 (hts _ wd_86)
        exact ⟨c, i, fun q hq => by cases hq; exact h⟩
      · obtain ⟨c, i, h⟩ := u_known (C := RX3) (T := TX3) (N := 12) hts inC_3 (hts _ wd_261)
        exact ⟨c, i, fun q hq => by cases hq; exact h⟩
      · obtain ⟨c, i, h⟩ := u_known (C := RX4) (T := TX4) (N := 4) hts inC_4 (hts _ wd_340)
        exact ⟨c, i, fun q hq => by cases hq; exact h⟩
      · obtain ⟨c, i, h⟩ := u_known (C := RX5) (T := TX5) (N := 5) hts inC_5 (hts _ wd_316)
        exact ⟨c, i, fun q hq => by cases hq; exact h⟩
      · obtain ⟨c, i, h⟩ := u_known (C := RX6) (T := TX6) (N := 7) hts inC_6 (hts _ wd_107)
        exact ⟨c, i, fun q hq => by cases hq; exact h⟩
      · obtain ⟨c, i, h⟩ := u_known (C := RX7) (T := TX7) (N := 2) hts inC_7 (hts _ wd_92)
        exact ⟨c, i, fun q hq => by cases hq; exact h⟩
      · obtain ⟨c, i, h⟩ := u_known (C := RX8) (T := TX8) (N := 5) hts inC_8 (hts _ wd_161)
        exact ⟨c, i, fun q hq => by cases hq; exact h⟩
      · obtain ⟨c, i, h⟩ := u_known (C := RX9) (T := TX9) (N := 15) hts inC_9 (hts _ wd_76)
        exact ⟨c, i, fun q hq => by cases hq; exact h⟩
      · obtain ⟨c, i, h⟩ := u_known (C := RX10) (T := TX10) (N := 20) hts inC_10 (hts _ wd_68)
        exact ⟨c, i, fun q hq => by cases hq; exact h⟩
    · refine ⟨0, fun _ => 0, fun q hq => ?_⟩
      rw [List.getElem?_eq_none (by exact hk)] at hq
      cases hq
  exact ⟨(fun k => Classical.choose (h k), fun k => Classical.choose (Classical.choose_spec (h k))), fun k q hq => Classical.choose_spec (Classical.choose_spec (h k)) q hq⟩
theorem yk_prim {ty : FieldType} (h : (Cond.arrayClass ty).before #[Value.ref b] s = true) (hra : ∀ cA, s.vm.findClass ("[" ++ ty.toString) = some cA → va_RA s cA ty) : ∃ cA, ArrOfT s cA ty ∧ va_RA s cA ty := by
  obtain ⟨cA, kA, comp, h1, h2, h3⟩ := Cond.arrayClass_spec h
  exact ⟨cA, fun n z => ⟨fun k h => (by cases h), kA, h2, comp, h3⟩, hra cA h1⟩
theorem yk_obj {C : String} (h : (Cond.arrayOver (.object C)).before #[Value.ref b] s = true) : ∃ cA, ArrOfT s cA (.object C) ∧ va_RA s cA (.object C) := by
  obtain ⟨comp, c, k, h1, h2, h3, h4, h5⟩ := Cond.arrayOver_spec h
  exact ⟨c, fun n z => ⟨fun k h => (by cases h), k, h3, comp, h4⟩, k, comp, h3, h4, h1, h5⟩
theorem know_ty (hts : ∀ w ∈ lw_tbl, w.before #[Value.ref b] s = true) : ∃ Y : Nat → ClassId, ∀ (k : Nat) (q : ClassId × FieldType), (tys Y)[k]? = some q → ArrOfT s q.1 q.2 ∧ va_RA s q.1 q.2 := by
  obtain ⟨c20, h20⟩ := yk_prim (ty := .int) (hts _ (List.mem_filter.mp wd_104).1) (fun _ h => h)
  obtain ⟨c23, h23⟩ := yk_obj (C := RX7) (hts _ (List.mem_of_getElem? (i := 157) (by decide +kernel)))
  obtain ⟨c24, h24⟩ := yk_obj (C := RX2) (hts _ (List.mem_of_getElem? (i := 85) (by decide +kernel)))
  obtain ⟨c25, h25⟩ := yk_obj (C := RX9) (hts _ (List.mem_of_getElem? (i := 230) (by decide +kernel)))
  obtain ⟨c26, h26⟩ := yk_obj (C := RX8) (hts _ (List.mem_of_getElem? (i := 160) (by decide +kernel)))
  obtain ⟨c27, h27⟩ := yk_obj (C := RX6) (hts _ (List.mem_of_getElem? (i := 106) (by decide +kernel)))
  refine ⟨fun k => if k = 20 then c20 else if k = 23 then c23 else if k = 24 then c24 else if k = 25 then c25 else if k = 26 then c26 else c27, fun k q hq => ?_⟩
  match k, hq with
  | 0, hq => cases hq; exact h20
  | 1, hq => cases hq; exact h20
  | 2, hq => cases hq; exact h20
  | 3, hq => cases hq; exact h23
  | 4, hq => cases hq; exact h24
  | 5, hq => cases hq; exact h25
  | 6, hq => cases hq; exact h26
  | 7, hq => cases hq; exact h27
  | k + 8, hq => simp [tys] at hq
theorem nestL_in : ∀ q ∈ nestL, Cond.methodLinkNest q.1 q.2.1 q.2.2.1 q.2.2.2 ∈ lw_tbl := by
  have h : nestL.all (fun q => decide (Cond.methodLinkNest q.1 q.2.1 q.2.2.1 q.2.2.2 ∈ lw_tbl)) = true := by decide +kernel
  exact fun q hq => of_decide_eq_true (List.all_eq_true.mp h q hq)
theorem strL_in : ∀ q ∈ strL, Cond.stringRef q.1 q.2.1 q.2.2 ∈ lw_tbl ∧ q.1 = RX10 := by
  have h : strL.all (fun q => decide (Cond.stringRef q.1 q.2.1 q.2.2 ∈ lw_tbl ∧ q.1 = RX10)) = true := by decide +kernel
  exact fun q hq => of_decide_eq_true (List.all_eq_true.mp h q hq)
theorem castL_inT : ∀ q ∈ castL, Cond.castable q.1 q.2 ∈ lw_tbl := by
  have h : castL.all (fun q => decide (Cond.castable q.1 q.2 ∈ lw_tbl)) = true := by decide +kernel
  exact fun q hq => of_decide_eq_true (List.all_eq_true.mp h q hq)
theorem declL_inT : ∀ q ∈ declL, Cond.declares q ∈ lw_tbl := by
  have h : declL.all (fun q => decide (Cond.declares q ∈ lw_tbl)) = true := by decide +kernel
  exact fun q hq => of_decide_eq_true (List.all_eq_true.mp h q hq)
theorem ncL_inT {args : Array Value} (h : ∀ w ∈ flatC (Jvm.Cond.and given_1 narrow_1), w.before args s = true) : ∀ q ∈ ncL, va_Nc q.1 q.2 s := by
  have g : ncL.all (fun q => decide (Cond.not (.castable q.1 q.2) ∈ flatC (Jvm.Cond.and given_1 narrow_1))) = true := by decide +kernel
  exact fun q hq => va_Nc.of (h _ (of_decide_eq_true (List.all_eq_true.mp g q hq)))
theorem know (hts : ∀ w ∈ lw_tbl, w.before #[Value.ref b] s = true) (hgv : (Jvm.Cond.and given_1 narrow_1).before #[Value.ref b] s = true) : ∃ (D : va_G) (Y : Nat → ClassId), KC D Y s ∧ KN D Y s := by
  obtain ⟨D, hD⟩ := know_cl (ws_tbl hts)
  obtain ⟨Y, hY⟩ := know_ty hts
  have hK : va_K D vwCl (tys Y) s := ⟨hD, hY⟩
  have hN : ∀ q ∈ nestL, va_Nw (.methodLinkNest q.1 q.2.1 q.2.2.1 q.2.2.2) s := fun q hq => va_Nw.of rfl (hts _ (nestL_in q hq))
  refine ⟨D, Y, ⟨hK, fun C hC => ?_, hN⟩, hK, hN, fun q hq => ?_, fun q hq => va_Nw.of rfl (hts _ (castL_inT q hq)), fun q hq => va_Nw.of rfl (hts _ (declL_inT q hq)), ncL_inT (flat_of_before _ hgv)⟩
  · have h : aoL.all (fun C => decide (Cond.arrayOver (.object C) ∈ lw_tbl)) = true := by decide +kernel
    exact va_AO.of (hts _ (of_decide_eq_true (List.all_eq_true.mp h C hC)))
  · obtain ⟨h1, h2⟩ := strL_in q hq
    have hf := (hD 10 _ rfl).2.1
    have hw := hts _ h1
    obtain ⟨k, cf, i, a, -, -, -, -, -, hev⟩ := Cond.stringRef_spec (cls := q.1) (by rw [h2]; exact hf) hw
    exact ⟨a, vk_R.of hw hev⟩
end
set_option maxHeartbeats 4000000 in
set_option maxRecDepth 100000 in
theorem law_loop {D : va_G} {B : Nat} {Y : Nat → ClassId} {p : Program} {l : Launch} {e : Env} {s : State} {m : MethodId} {below : List Frame} {meth : Method} {c : Code} {b L : Nat} {xs : Nat → Int32} (C : CX2 D (A2 B) Y p s m #[.ref b] meth c cL_law 9 RL (some .boolean)) (htr : l.stackTraces = false) (hX : LX2 b L xs s B) :
    ∀ (n : Nat) (v3 v4 : Int32) (w v : Wd), loopN (fun (rc : Int32 × Int32 × Wd × Wd → Option Unit) (σ : Int32 × Int32 × Wd × Wd) => f2_L_law_21 L xs rc σ.1 σ.2.1 σ.2.2.1 σ.2.2.2) n (v3, v4, w, v) = some () → isZ v3 → ∀ (cells slots : Nat), cells + 68 * n + 50 ≤ room_1.cells ∧ slots + 408 * n + 300 ≤ room_1.slots → ∀ (H : Heap) (locs : List Loc) (ls : Array Slot), HT D (A2 B) B (B + 713) Y w v s H locs → lv_has ls 9 [(0, .ref b), (1, .ref (B + 0)), (2, .ref (B + 713 + 0)), (3, .int v3), (4, .int v4)] →
      W p l e room_1 s m #[.ref b] below meth c H locs cells slots (lw_Z below #[.ref b] s) (F0 m 21 ls []) := by
  intro n
  induction n with
  | zero => intro v3 v4 w v h; cases h
  | succ n ih =>
    intro v3 v4 w v h z_v3 cells slots hcs H locs ls hH hl
    rw [loopN_s] at h
    exact t2_L_law_21 C htr hX ⟨by omega, by omega⟩ (fun v3 v4 w v h z_v3 H locs ls hH hl => ih v3 v4 w v h z_v3 (cells + 68) (slots + 408) ⟨by omega, by omega⟩ H locs ls hH hl) z_v3 hH hl h
set_option maxHeartbeats 4000000 in
set_option maxRecDepth 100000 in
/-- from the entry, for every script of at most 260 ints, the law comes to its end with true -/
theorem whole_start {p : Program} {e : Env} {s : State} {m : MethodId} {below : List Frame} {meth : Method} {c : Code} (l : Launch) (hflags : l.flags = flags0) {b L : Nat} {xs : Nat → Int32} (hL : L ≤ 260) (C0 : lw_At p s m meth c b L xs) : W p l e room_1 s m #[Value.ref b] below meth c s.heap [] 0 0 (lw_Z below #[Value.ref b] s) (entryFrame m ([Value.ref b] : List Value).toArray 9) := by
  obtain ⟨hx, hb, hr, hml, hown, hts, hX, hbl, hlocks, hgv⟩ := C0
  have htr := st_false hflags
  obtain ⟨D, Y, hKC, hKN⟩ := know hts hgv
  obtain ⟨B, hB⟩ : ∃ B : Nat, s.heap.size = B := ⟨_, rfl⟩
  have hfl := flat_of_before _ hgv
  have hZ : ZA (A2 B) s s.heap := ⟨vx_Zqof (hts _ (List.mem_of_getElem? (i := 480) (by decide +kernel))) (hts _ (List.mem_of_getElem? (i := 61) (by decide +kernel))) (hfl _ (by decide +kernel)) (fun a ha q => by have h1 : B ≤ a := q.1; omega), vx_Zqof (hts _ (List.mem_of_getElem? (i := 482) (by decide +kernel))) (hts _ (List.mem_of_getElem? (i := 61) (by decide +kernel))) (hfl _ (by decide +kernel)) (fun a ha q => by have h1 : B ≤ a := q.1; omega)⟩
  have CL : CX2 D (A2 B) Y p s m #[.ref b] meth c cL_law 9 RL (some .boolean) := ⟨hx, hb, hml, hown, ws_tbl hts, hr, hlocks, hKN, hZ⟩
  have C : KX D Y p s m #[.ref b] c cL_law 9 RL := ⟨hx, hb, hml, hown, ws_tbl hts, hKC⟩
  have hLX : LX2 b L xs s B := ⟨hX, hbl, hB⟩
  have hH : PA D (ABc B) B 0 (fun _ => .inr (0, [])) s s.heap [] := ⟨by omega, fun k hk => absurd hk (Nat.not_lt_zero k), va_S.rf⟩
  have hl := lv_entry ([.ref b]) (n := 9) (Nat.le_of_ble_eq_true rfl)
  rw [lg_entry_eq]
  generalize (lg_sl ([.ref b]) ++ List.replicate (9 - (lg_sl ([.ref b])).length) Slot.unset).toArray = ls at hl ⊢
  have hl : lv_has ls 9 [(0, .ref b)] := hl
  refine p_newL C hH (ci := 10) (T := TX10) (N := 20) (ty := tyX10) rfl inC_10 tyX10_ok wd_67 wd_68 wd_50 (Nat.le_of_ble_eq_true rfl) (Nat.le_of_ble_eq_true rfl) dL_law_0 (fun e1 H hH _ hs1 hn1 => ?_)
  refine lv_dup hx hb dL_law_3 rfl ?_
  refine p_initL (fun _ h => h) C hH (As := []) (n1 := 713) wd_71 wd_50 wd_69 wd_70 rfl ydi_X10 (ci_X10 hn1) (Nat.le_of_ble_eq_true rfl) (Nat.le_of_ble_eq_true rfl) hl.1 rfl (Nat.le_of_ble_eq_true rfl) dL_law_4 ⟨(Nat.le_of_ble_eq_true rfl), (Nat.le_of_ble_eq_true rfl)⟩ (fun e2 H1 locs hH1 _ hs2 hf2 => ?_)
  refine lv_astore_n (lv' := [(1, .ref (B + 0)), (0, .ref b)]) hx hb dL_law_7 rfl hl (by decide) rfl (fun ls hl => ?_)
  have hP : PA D (ABc B) (B + 713) 0 (fun _ => .inr (0, [])) s H1 locs := ⟨hH1.1, fun k hk => absurd hk (Nat.not_lt_zero k), hH1.2.2⟩
  refine p_newL C hP (ci := 10) (T := TX10) (N := 20) (ty := tyX10) rfl inC_10 tyX10_ok wd_67 wd_68 wd_50 (Nat.le_of_ble_eq_true rfl) (Nat.le_of_ble_eq_true rfl) dL_law_8 (fun e3 H2 hH2 hq2 hs3 hn3 => ?_)
  refine lv_dup hx hb dL_law_11 rfl ?_
  refine p_initL (fun q h => by have h1 : B + 713 ≤ q := h; show B ≤ q; omega) C hH2 (As := []) (n1 := 713) wd_71 wd_50 wd_69 wd_70 rfl ydi_X10 (ci_X10 hn3) (Nat.le_of_ble_eq_true rfl) (Nat.le_of_ble_eq_true rfl) hl.1 rfl (Nat.le_of_ble_eq_true rfl) dL_law_12 ⟨(Nat.le_of_ble_eq_true rfl), (Nat.le_of_ble_eq_true rfl)⟩ (fun e4 H3 locs hH3 hq3 hs4 hf4 => ?_)
  refine lv_astore_n (lv' := [(2, .ref (B + 713 + 0)), (1, .ref (B + 0)), (0, .ref b)]) hx hb dL_law_15 rfl hl (by decide) rfl (fun ls hl => ?_)
  refine lv_iconst (v := (1 : Int32)) hx hb dL_law_16 (by decide) ?_
  refine lv_istore_n (lv' := [(3, .int 1), (2, .ref (B + 713 + 0)), (1, .ref (B + 0)), (0, .ref b)]) hx hb dL_law_17 rfl hl (by decide) rfl (fun ls hl => ?_)
  refine lv_iconst (v := (0 : Int32)) hx hb dL_law_18 (by decide) ?_
  refine lv_istore (lv' := [(4, .int 0), (3, .int 1), (2, .ref (B + 713 + 0)), (1, .ref (B + 0)), (0, .ref b)]) hx hb dL_law_19 hl (by decide) rfl (fun ls hl => ?_)
  have hW : ∀ (B0 : Nat) (ee : Nat → va_E) (HH : Heap), FP D B0 713 ee HH → (∀ k, k < 713 → ev (ee k) (ent B0 Y wF k)) → va_P D vwCl (wl B0 Y wF) HH := by
    intro B0 ee HH hF hev k q hq
    have hk : k < 713 := by
      have := (List.getElem?_eq_some_iff.mp hq).1
      rwa [wl_len] at this
    rw [wl_get hk] at hq
    cases hq
    exact hev k hk _ _ _ _ (hF k hk)
  have hP1 : va_P D vwCl (wl B Y wF) H3 := hW B e2 H3 (fun k hk => (hH1.2.1 k hk).kept ((hq3 (B + k) (by omega)).trans (hq2 (B + k) (by omega)))) (fun k hk => hf2 k (Nat.zero_le k) hk)
  have hP2 : va_P D vwCl (wl (B + 713) Y wF) H3 := hW (B + 713) e4 H3 hH3.2.1 (fun k hk => hf4 k (Nat.zero_le k) hk)
  have hok : OKw wF := show KD wF.2.1 = 5 ∧ KD wF.2.2.1 = 5 by decide +kernel
  have hS3 := hH3.2.2
  have C0 := CS_new NEW_wF
  have hI : INVL wF wF := ⟨S0, ⟨C0.2, wF, C0.1⟩, C0.1, C0.1⟩
  refine va_forget (fun q hq => ?_) ?_
  · have h1 : B ≤ q.base := hS3.2.2 q hq
    omega
  have hHT : HT D (A2 B) B (B + 713) Y wF wF s H3 [] := by
    refine ⟨hP1, hP2, ⟨hS3.1, fun q h1 _ => hS3.2.1 q h1 (fun h2 => by have h3 : B ≤ q := h2; omega), fun q hq => (List.not_mem_nil hq).elim⟩, hok, hok, Or.inl (Nat.le_refl _), fun q h => ?_, fun q h => ?_⟩
    · have h1 : B ≤ q := h.1
      have h2 : q < B + 713 := h.2
      exact ⟨h1, by omega⟩
    · have h1 : B + 713 ≤ q := h.1
      have h2 : q < B + 713 + 713 := h.2
      exact ⟨by omega, by omega⟩
  exact law_loop CL htr hLX 141 1 0 wF wF (law_loopN hL 141 0 wF wF (by decide) (by decide) hI) isZ_1 _ _ ⟨Nat.le_of_ble_eq_true rfl, Nat.le_of_ble_eq_true rfl⟩ H3 [] ls hHT (lv_sub hl [4, 3, 2, 1, 0] rfl)
