/-! ===== lines end with words, words with clusters; cursors go by clusters ===== -/
section
variable {S : ST} {w : Wd} {s : Int32}
theorem sen_w {p d : Int32} (hS : OS S) (hw : CS w S) (hs : slo s) (hp : 0 ≤ p.toInt ∧ p.toInt ≤ (Tx S s).length) : Wp (f_X10_bySense s p d w) (fun r w' => ∃ x, r = .inr x ∧ w = w' ∧ x.toInt = sns S.1 (Tx S s) (dir d.toInt) p.toInt) := by
  refine (k_bySense hw.2.1 hw.1 hw.2.2.1 hS.2.1).mono ?_
  rintro r w' ⟨e0, h⟩
  rcases h with ⟨c, -⟩ | ⟨-, x, rfl, hx⟩
  · exact absurd ⟨hs, hp.1, hp.2⟩ c
  · exact ⟨x, rfl, e0, hx⟩
theorem brk_w {k : Int32} (hS : OS S) (hw : CS w S) (hs : slo s) (hk : 0 ≤ k.toInt ∧ k.toInt ≤ 2) : Wp (f_X10_breaks s k w) (fun r w' => ∃ m : Int64, r = .inr m ∧ w = w' ∧ bits m (fun j => 0 < j ∧ j < (Tx S s).length ∧ brk S.1 (Tx S s) k.toInt j)) := by
  refine (k_breaks hS.1 hw.2.1 hw.1 hw.2.2.1 hS.2.1).mono ?_
  rintro r w' ⟨e0, h⟩
  rcases h with ⟨c, -⟩ | ⟨-, c, -⟩ | ⟨-, -, m, rfl, hm⟩
  · exact absurd hs c
  · exact absurd hk c
  · exact ⟨m, rfl, e0, hm⟩
/-- the bits are summed -/
theorem breaks_167 {n : Int32} {m : Int64} {st : Int32} (hn : n.toInt = (Tx S s).length) (h40 : (Tx S s).length ≤ 40) (hm : clb S.1 (Tx S s) m) (hst : 0 < (Tx S s).length → st.toInt = cnt S.1 (Tx S s) (Tx S s).length + 1) (hw : CS w S) : Wp (f_L_areBreaksSo_167 n m 1 st 0 1 w) (fun r w' => r = .inr 1 ∧ CS w' S) := by
  have L := LIT
  unfold f_L_areBreaksSo_167
  rw [FUv]
  have hc : ∀ k, k ≤ 41 → cnt S.1 (Tx S s) k ≤ k := by
    intro k
    induction k with
    | zero => intro _; exact Nat.le_refl _
    | succ k ih =>
      intro hk
      rw [cnt_s]
      have := ih (by omega)
      split <;> omega
  refine wp_loop (fun σ : Int32 × Int64 × Int32 × Int32 × Int32 × Int32 × Wd => σ.1 = n ∧ σ.2.1 = m ∧ σ.2.2.1 = 1 ∧ σ.2.2.2.1 = st ∧ σ.2.2.2.2.2.2 = w ∧ 1 ≤ σ.2.2.2.2.2.1.toInt ∧ (σ.2.2.2.2.2.1.toInt = 1 ∨ σ.2.2.2.2.2.1.toInt ≤ (Tx S s).length) ∧ σ.2.2.2.2.1.toInt = cnt S.1 (Tx S s) σ.2.2.2.2.2.1.toInt.toNat) (fun σ => (50 - σ.2.2.2.2.2.1.toInt).toNat) ?_ 100000 _
    ⟨rfl, rfl, rfl, rfl, rfl, by dsimp only; rw [L.2.1]; omega, Or.inl L.2.1, ?_⟩ (by dsimp only; rw [L.2.1]; omega)
  · rintro rc ⟨n', m', i, st', bt, k, u⟩ ⟨rfl, rfl, rfl, rfl, rfl, hk1, hk2, hb⟩ ih
    dsimp only at hk1 hk2 hb hn hm hst hw ⊢
    unfold g_L_areBreaksSo_167
    refine wp_ifle (fun q => ?_) (fun q => ?_)
    · refine wp_ifeq (fun q2 => absurd q2 (by decide)) (fun _ => ?_)
      refine wp_ifeq (fun _ => wp_ret ⟨rfl, hw⟩) (fun q3 => ?_)
      rw [L.1] at q3
      refine wp_if (fun _ => wp_ret ⟨rfl, hw⟩) (fun c => absurd ?_ c)
      have e : k.toInt.toNat = (Tx S s).length := by omega
      rw [e] at hb
      have := hc (Tx S s).length (by omega)
      rw [i_eq, i_add (by rw [L.2.1]; omega), L.2.1, hst (by omega), hb]
    · have hcs := cnt_s (tab := S.1) (l := Tx S s) (m := k.toInt.toNat)
      have hck := hc k.toInt.toNat (by omega)
      have hbit : ((m' >>> (k.toInt64 &&& 63)) &&& (1 : Int64)).toInt32.toInt = (if 1 ≤ k.toInt.toNat ∧ icl S.1 (Tx S s) (k.toInt.toNat : Nat) then 1 else 0 : Nat) := by
        rw [bit_at (by omega)]
        have B := hm k.toInt.toNat (by omega)
        dsimp only at B
        by_cases c : mk m' k.toInt.toNat
        · rw [if_pos c, if_pos ⟨by omega, (B.mp c).2.2⟩]; decide
        · rw [if_neg c, if_neg (fun q2 => c (B.mpr ⟨by omega, by omega, q2.2⟩))]; decide
      refine wp_add (by rw [hbit]; split <;> omega) (fun z hz => wp_add (by rw [L.2.1]; omega) (fun z2 hz2 => ?_))
      rw [L.2.1] at hz2
      refine ih (n', m', 1, st', z, z2, u) ⟨rfl, rfl, rfl, rfl, rfl, by dsimp only; omega, Or.inr (by dsimp only; omega), ?_⟩ (by dsimp only; omega)
      dsimp only
      rw [show z2.toInt.toNat = k.toInt.toNat + 1 by omega, hcs, hz, hbit, hb]
      omega
  · dsimp only
    rw [L.1, L.2.1]
    rfl
/-- the cursor goes by clusters -/
theorem breaks_86 {n : Int32} {m : Int64} (hS : OS S) (hs : slo s) (hn : n.toInt = (Tx S s).length) (hm : clb S.1 (Tx S s) m) (hw : CS w S) : Wp (f_L_areBreaksSo_86 s n m 1 0 0 w) (fun r w' => r = .inr 1 ∧ CS w' S) := by
  have L := LIT
  have h40 : (Tx S s).length ≤ 40 := (hS.2.1 _ (slot_lt hs)).1
  have hc : ∀ k, k ≤ 41 → cnt S.1 (Tx S s) k ≤ k := by
    intro k
    induction k with
    | zero => intro _; exact Nat.le_refl _
    | succ k ih =>
      intro hk
      rw [cnt_s]
      have := ih (by omega)
      split <;> omega
  unfold f_L_areBreaksSo_86
  rw [FUv]
  refine wp_loop (fun σ : Int32 × Int32 × Int64 × Int32 × Int32 × Int32 × Wd => σ.1 = s ∧ σ.2.1 = n ∧ σ.2.2.1 = m ∧ σ.2.2.2.1 = 1 ∧ σ.2.2.2.2.2.2 = w ∧ 0 ≤ σ.2.2.2.2.1.toInt ∧ σ.2.2.2.2.1.toInt ≤ (Tx S s).length ∧ ied S.1 (Tx S s) σ.2.2.2.2.1.toInt ∧ σ.2.2.2.2.2.1.toInt = (if σ.2.2.2.2.1.toInt.toNat = 0 then 0 else cnt S.1 (Tx S s) σ.2.2.2.2.1.toInt.toNat + 1 : Nat)) (fun σ => (50 - σ.2.2.2.2.1.toInt).toNat) ?_ 100000 _
    ⟨rfl, rfl, rfl, rfl, rfl, by dsimp only; rw [L.1]; omega, by dsimp only; rw [L.1]; omega, Or.inr (Or.inl (by dsimp only; exact L.1)), by dsimp only; rw [L.1]; rfl⟩ (by dsimp only; rw [L.1]; omega)
  rintro rc ⟨s', n', m', i, pl, st, u⟩ ⟨rfl, rfl, rfl, rfl, rfl, hp0, hp1, hpe, hst⟩ ih
  dsimp only at hp0 hp1 hpe hst hn hm hs h40 hw hc ⊢
  unfold g_L_areBreaksSo_86
  refine wp_ifle (fun q => ?_) (fun q => ?_)
  · unfold f_L_areBreaksSo_161
    refine breaks_167 hn h40 hm (fun hpos => ?_) hw
    have e : pl.toInt.toNat = (Tx S s').length := by omega
    rw [e, if_neg (by omega)] at hst
    rw [hst]
    omega
  refine wp_ifeq (fun q2 => absurd q2 (by decide)) (fun _ => ?_)
  have ON := sns_on (tab := S.1) (l := Tx S s') (p := pl.toInt) h40 (by omega)
  have BK := sns_back (tab := S.1) (l := Tx S s') (p := pl.toInt) h40 (by omega) hpe
  refine wp_bx (sen_w hS hw hs ⟨hp0, hp1⟩) ?_
  rintro x _ ⟨rfl, hx⟩
  have d1 : dir (1 : Int32).toInt = 1 := by decide
  have d0 : dir (0 : Int32).toInt = -1 := by decide
  rw [d1] at hx
  rw [← hx] at ON BK
  refine wp_ifle (fun c => by omega) (fun _ => ?_)
  have go : Wp (f_L_areBreaksSo_131 rc s' n' m' pl st x u) (fun r w' => r = .inr 1 ∧ CS w' S) := by
    unfold f_L_areBreaksSo_131
    refine wp_bx (sen_w hS hw hs ⟨by omega, ON.2.1⟩) ?_
    rintro y _ ⟨rfl, hy⟩
    rw [d0, BK] at hy
    refine wp_ifeq (fun _ => ?_) (fun c => absurd hy c)
    unfold f_L_areBreaksSo_149
    have hck := hc pl.toInt.toNat (by omega)
    refine wp_add (by rw [L.2.1, hst]; split <;> omega) (fun z hz => ?_)
    rw [L.2.1] at hz
    refine ih (s', n', m', 1, x, z, u) ⟨rfl, rfl, rfl, rfl, rfl, by dsimp only; omega, by dsimp only; exact ON.2.1, by dsimp only; exact ON.2.2.1, ?_⟩ (by dsimp only; omega)
    dsimp only
    have C := cnt_step (tab := S.1) (l := Tx S s') (p := pl.toInt.toNat) (n := x.toInt.toNat) (by omega) (by omega) (by rw [show ((pl.toInt.toNat : Nat) : Int) = pl.toInt by omega]; exact hpe) (fun e h1 h2 => ON.2.2.2 e (by omega) (by omega))
    rw [if_neg (show ¬ x.toInt.toNat = 0 by omega), C, hz, hst]
    by_cases c : pl.toInt.toNat = 0
    · rw [if_pos c, if_pos c, c]
      rfl
    · rw [if_neg c, if_neg c]
      omega
  refine wp_ifeq (fun _ => go) (fun q3 => ?_)
  refine wp_if (fun _ => go) (fun c => absurd (lg_eq.mpr ?_) c)
  have B := hm x.toInt.toNat (by omega)
  dsimp only at B
  have ic : icl S.1 (Tx S s') (x.toInt.toNat : Nat) := by
    rw [show ((x.toInt.toNat : Nat) : Int) = x.toInt by omega]
    exact ON.2.2.1.elim (fun e => absurd (by omega) q3) (fun e => e)
  rw [bit_at (by omega), if_pos (B.mpr ⟨by omega, by omega, ic⟩)]
/-- the check of breaks says yes -/
theorem breaks_so (hS : OS S) (hs : slo s) (hw : CS w S) : Wp (f_L_areBreaksSo s w) (fun r w' => r = .inr 1 ∧ CS w' S) := by
  have h40 : (Tx S s).length ≤ 40 := (hS.2.1 _ (slot_lt hs)).1
  unfold f_L_areBreaksSo
  refine wp_bx (at_len hS hs hw) ?_
  rintro n _ ⟨rfl, hn⟩
  have hn : n.toInt = ((Tx S s).length : Int) := hn
  refine wp_bx (brk_w (k := 0) hS hw hs (by decide)) ?_
  rintro m0 _ ⟨rfl, b0⟩
  refine wp_bx (brk_w (k := 1) hS hw hs (by decide)) ?_
  rintro m1 _ ⟨rfl, b1⟩
  refine wp_bx (brk_w (k := 2) hS hw hs (by decide)) ?_
  rintro m2 _ ⟨rfl, b2⟩
  have e0 : (0 : Int32).toInt = 0 := by decide
  have e1 : (1 : Int32).toInt = 1 := by decide
  have e2 : (2 : Int32).toInt = 2 := by decide
  rw [e0] at b0
  rw [e1] at b1
  rw [e2] at b2
  have hm := brk_0 b0
  refine wp_if (fun _ => ?_) (fun c => absurd (lg_eq.mpr (mk_nil (fun k hk q => ?_))) c)
  rotate_left
  · rw [mk_and, mk_not hk, b1 k hk, b0 k hk] at q
    exact q.2 ⟨q.1.1, q.1.2.1, brk_10 q.1.2.2, Or.inl rfl⟩
  refine wp_if (fun _ => ?_) (fun c => absurd (lg_eq.mpr (mk_nil (fun k hk q => ?_))) c)
  rotate_left
  · rw [mk_and, mk_not hk, b2 k hk, b1 k hk] at q
    exact q.2 ⟨q.1.1, q.1.2.1, brk_21 q.1.2.2⟩
  refine wp_if (fun _ => ?_) (fun c => absurd (lg_eq.mpr (mk_nil (fun k hk q => ?_))) c)
  rotate_left
  · rw [mk_and, mk_one, b0 k hk] at q
    have := q.1.1
    omega
  refine wp_if (fun _ => ?_) (fun c => absurd (lg_eq.mpr (mk_nil (fun k hk q => ?_))) c)
  rotate_left
  · rw [mk_sar (by omega) hk] at q
    split at q
    · rename_i h
      rw [b0 _ (by omega)] at q
      have := q.2.1
      omega
    · rw [b0 63 (by omega)] at q
      have := q.2.1
      omega
  unfold f_L_areBreaksSo_78
  exact breaks_86 hS hs hn hm hw
end
