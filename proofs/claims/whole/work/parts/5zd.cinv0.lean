/-! ===== the new objects ===== -/
/-- what the constructors leave: the class's cells, the reference's cells -/
def NEW (w : Wd) (N : Int) : Prop :=
  (KD w.2.1 = 5 ∧ KD w.2.2.1 = 5 ∧ w.2.1 ≠ w.2.2.1) ∧ (∀ k, KD k = 7 → (w.1 k 1).toInt = 0) ∧ (w.1 0 2).toInt = 0 ∧ (w.1 0 11).toInt = 0 ∧
  (∀ l, l < 96 → (w.1 2 l).toInt = 0 ∧ (w.1 3 l).toInt = N ∧ (w.1 4 l).toInt = 0 ∧ (w.1 5 l).toInt = l ∧ (w.1 6 l).toInt = -1 ∧ (w.1 7 l).toInt = -1 ∧ (w.1 8 l).toInt = -1 ∧ (w.1 9 l).toInt = -1 ∧ (w.1 10 l).toInt = -1) ∧
  (∀ n, n < 2 → (w.1 (13 + 13 * n) 6).toInt = 0 ∧ ∀ u, u < 96 → ∀ r, r < 3 → (w.1 (13 + 13 * n + 1 + r) u).toInt = 0) ∧ (w.1 1 12).toInt = 0 ∧ (w.1 1 14).toInt = 0 ∧
  (∀ l, l < 96 → (w.1 714 (9 * l)).toInt = 0 ∧ (w.1 714 (9 * l + 1)).toInt = N ∧ (w.1 714 (9 * l + 2)).toInt = 0 ∧ (w.1 714 (9 * l + 3)).toInt = l ∧ ∀ j, 4 ≤ j → j < 9 → (w.1 714 (9 * l + j)).toInt = 0) ∧
  (∀ i, 864 ≤ i → i < 1740 → (w.1 714 i).toInt = 0) ∧ (∀ s, s < 6 → (w.1 717 s).toInt = 0) ∧ (w.1 713 3).toInt = 0 ∧ (w.1 713 7).toInt = 0 ∧ (w.1 713 9).toInt = 0 ∧ (w.1 713 31).toInt = 0
theorem INV_new {w : Wd} {N : Int} (hN : 0 ≤ N ∧ N ≤ 10) (h : NEW w N) : INV w := by
  obtain ⟨hp, hz, h2, h11, hl, hu, h12, h14, rl9, r864, r717, f3, f7, f9, f31⟩ := h
  have emp : ∀ k, KD k = 7 → rl w k = [] := fun k hk => by
    have := hz k hk
    unfold rl
    rw [this]; rfl
  have T : ∀ i, 864 ≤ i → i < 1740 → rtab w i = 0 := r864
  have tk : tok (rtab w) := by
    refine tok_parts.mpr ⟨fun l hl96 => ?_, fun n hn => ?_, ?_, ?_⟩
    · obtain ⟨a, b, c, d, e⟩ := rl9 l hl96
      have a' : rtab w (9 * l) = 0 := a
      have b' : rtab w (9 * l + 1) = N := b
      have c' : rtab w (9 * l + 2) = 0 := c
      have d' : rtab w (9 * l + 3) = l := d
      have e' : ∀ j, 4 ≤ j → j < 9 → rtab w (9 * l + j) = 0 := e
      unfold lok
      rw [a', b', c', d', e' 4 (by omega) (by omega), e' 5 (by omega) (by omega), e' 6 (by omega) (by omega), e' 7 (by omega) (by omega), e' 8 (by omega) (by omega)]
      refine ⟨by omega, hN, by omega, by omega, by omega, ⟨by omega, by omega, by omega, by omega, fun _ => rfl⟩, by omega⟩
    · have c1 := T (1440 + n) (by omega) (by omega)
      have c2 := T (1678 + n) (by omega) (by omega)
      unfold nok
      rw [c1, c2]
      refine ⟨by omega, by omega, fun i j _ hj => by omega, fun i hi => by omega, fun i hi => by omega⟩
    · have c1 := T 1502 (by omega) (by omega)
      unfold wok
      rw [c1]
      exact ⟨by omega, by omega, fun i hi => by omega⟩
    · have c1 := T 1557 (by omega) (by omega)
      unfold rrk
      rw [c1]
      exact ⟨by omega, by omega, fun i hi => by omega⟩
  have okw : okall w := fun k hk => ⟨hk, by rw [hz k hk]; omega, by rw [hz k hk]; omega⟩
  have tr : trel w 1 (rtab w) := by
    refine ⟨fun l hl96 => ?_, fun n hn => ?_, ⟨?_, fun i hi => ?_⟩, ⟨?_, fun i hi => ?_⟩⟩
    · obtain ⟨a, b, c, d, e⟩ := rl9 l hl96
      obtain ⟨a1, a2, a3, a4, a5, a6, a7, a8, a9⟩ := hl l hl96
      have a' : rtab w (9 * l) = 0 := a
      have b' : rtab w (9 * l + 1) = N := b
      have c' : rtab w (9 * l + 2) = 0 := c
      have d' : rtab w (9 * l + 3) = l := d
      have e' : ∀ j, 4 ≤ j → j < 9 → rtab w (9 * l + j) = 0 := e
      unfold lrel
      rw [a', b', c', d', e' 4 (by omega) (by omega), e' 5 (by omega) (by omega), e' 6 (by omega) (by omega), e' 7 (by omega) (by omega), e' 8 (by omega) (by omega)]
      exact ⟨a1, a2, a3, a4, a5, a6, a7, a8, Or.inl ⟨rfl, a9⟩⟩
    · obtain ⟨b1, b2⟩ := hu n hn
      have L := lang_facts _ (lang_kd n hn)
      have c1 := T (1440 + n) (by omega) (by omega)
      have c2 := T (1678 + n) (by omega) (by omega)
      rw [show 1 + 12 + 13 * n = 13 + 13 * n by omega]
      unfold urel
      rw [c1, c2, emp _ L.2.1, emp _ L.2.2.2.1]
      refine ⟨fun u hu2 r hr => ?_, rfl, rfl, fun i hi => by omega, b1, fun i hi => by omega⟩
      rw [b2 u hu2 r hr]
      exact (T _ (by omega) (by omega)).symm
    · rw [T 1502 (by omega) (by omega)]; exact h12
    · rw [T 1502 (by omega) (by omega)] at hi; omega
    · rw [T 1557 (by omega) (by omega)]; exact h14
    · rw [T 1557 (by omega) (by omega)] at hi; omega
  refine ⟨rtab w, fun _ => [], 0, fun _ => rtab w, [], [], none, ⟨okw, tr, fun s hs => emp _ (slot_kd s hs).1, ⟨h2, fun v hv => absurd hv (Nat.not_lt_zero v)⟩, emp _ tape_kd.1, emp _ out_kd.1, h11, hp⟩, ⟨rfl, fun s hs => ⟨r717 s hs, rfl⟩, ⟨f3, fun v hv => absurd hv (Nat.not_lt_zero v)⟩, ⟨f7, rfl⟩, ⟨f9, fun k hk => absurd hk (Nat.not_lt_zero k)⟩, f31⟩, ⟨tk, fun s _ => ⟨Nat.zero_le _, fun x q => (List.not_mem_nil q).elim⟩, by omega, fun v hv => absurd hv (Nat.not_lt_zero v), tpok_nil, ⟨Nat.zero_le _, fun x q => (List.not_mem_nil q).elim⟩⟩⟩
