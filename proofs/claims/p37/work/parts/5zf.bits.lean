/-! ===== sets of places; clusters, words, lines; cursors by sense ===== -/
section
theorem sr2_all : ∀ n, n < 64 → ((Int32.ofNat n).toInt64 &&& 63).toBitVec.smod 64 = BitVec.ofNat 64 n := by decide +kernel
theorem mk_sar {m : Int64} {x : Int32} (h : 0 ≤ x.toInt ∧ x.toInt < 64) {k : Nat} (hk : k < 64) : mk (m >>> (x.toInt64 &&& 63)) k ↔ (if x.toInt.toNat + k < 64 then mk m (x.toInt.toNat + k) else mk m 63) := by
  have h1 := sr2_all x.toInt.toNat (by omega)
  rw [i_back h.1] at h1
  have hx : x.toInt.toNat < 64 := by omega
  generalize x.toInt.toNat = n at hx h1 ⊢
  unfold mk
  rw [Int64.toBitVec_shiftRight, h1]
  have e : m.toBitVec.sshiftRight' (BitVec.ofNat 64 n) = m.toBitVec.sshiftRight n := by
    show m.toBitVec.sshiftRight (BitVec.ofNat 64 n).toNat = _
    rw [BitVec.toNat_ofNat, Nat.mod_eq_of_lt (by omega)]
  rw [e, BitVec.getLsbD_sshiftRight]
  rw [show decide (64 ≤ k) = false from decide_eq_false (by omega), Bool.not_false, Bool.true_and]
  by_cases c : n + k < 64
  · rw [if_pos c, if_pos c]
  · rw [if_neg c, if_neg c, BitVec.msb_eq_getLsbD_last]
theorem mk_and {a b : Int64} {k : Nat} : mk (a &&& b) k ↔ mk a k ∧ mk b k := by
  unfold mk
  rw [Int64.toBitVec_and, BitVec.getLsbD_and, Bool.and_eq_true]
theorem mk_not {a : Int64} {k : Nat} (hk : k < 64) : mk (a ^^^ (-1 : Int64)) k ↔ ¬ mk a k := by
  unfold mk
  rw [Int64.toBitVec_xor, BitVec.getLsbD_xor, show (-1 : Int64).toBitVec = BitVec.allOnes 64 from by decide, BitVec.getLsbD_allOnes, decide_eq_true hk, Bool.xor_true]
  cases a.toBitVec.getLsbD k <;> simp
theorem mk_one {k : Nat} : mk 1 k ↔ k = 0 := by
  unfold mk
  rw [show (1 : Int64).toBitVec = 1#64 from rfl, BitVec.getLsbD_one]
  simp
theorem mk_nil {m : Int64} (h : ∀ k, k < 64 → ¬ mk m k) : m = 0 := mk_ext (fun k hk => ⟨fun q => absurd q (h k hk), fun q => absurd q mk_zero⟩)
theorem lg_eq {a b : Int64} : lg_cmp a b = 0 ↔ a = b := by
  unfold lg_cmp
  by_cases h : a = b
  · subst h
    rw [if_neg (by rw [gt_iff_lt, Int64.lt_iff_toInt_lt]; omega), if_pos rfl]
    exact ⟨fun _ => rfl, fun _ => rfl⟩
  · by_cases g : a > b
    · rw [if_pos g]; exact ⟨fun q => absurd q (by decide), fun q => absurd q h⟩
    · rw [if_neg g, if_neg h]; exact ⟨fun q => absurd q (by decide), fun q => absurd q h⟩
/-- bit n, as a number -/
theorem bit_at {m : Int64} {x : Int32} (h : 0 ≤ x.toInt ∧ x.toInt < 64) : ((m >>> (x.toInt64 &&& 63)) &&& (1 : Int64)) = if mk m x.toInt.toNat then 1 else 0 := by
  apply mk_ext
  intro k hk
  rw [mk_and, mk_one, mk_sar h hk]
  by_cases c : k = 0
  · subst c
    rw [Nat.add_zero, if_pos (by omega)]
    by_cases d : mk m x.toInt.toNat
    · rw [if_pos d]
      exact ⟨fun _ => mk_one.mpr rfl, fun _ => ⟨d, rfl⟩⟩
    · rw [if_neg d]
      exact ⟨fun q => absurd q.1 d, fun q => absurd q mk_zero⟩
  · constructor
    · intro q; exact absurd q.2 c
    · intro q
      split at q
      · exact absurd (mk_one.mp q) c
      · exact absurd q mk_zero
end
section
variable {tab : Nat → Int} {l : List Int}
theorem sn_bk : ∀ (n : Nat) (i : Int), 0 ≤ i → i ≤ l.length → i < n → 0 ≤ sn tab l (-1) n i ∧ sn tab l (-1) n i ≤ i ∧ ied tab l (sn tab l (-1) n i) ∧ ∀ e : Int, sn tab l (-1) n i < e → e ≤ i → ¬ ied tab l e := by
  intro n
  induction n with
  | zero => intro i h0 h h2; omega
  | succ n ih =>
    intro i h0 h h2
    rw [sn_in ⟨h0, h⟩]
    by_cases c : ied tab l i
    · rw [if_pos c]; exact ⟨h0, Int.le_refl _, c, fun e h1 h2 => by omega⟩
    · rw [if_neg c]
      have hi : i ≠ 0 := fun e => c (Or.inr (Or.inl e))
      have I := ih (i + -1) (by omega) (by omega) (by omega)
      refine ⟨I.1, by omega, I.2.2.1, fun e h1 h2 => ?_⟩
      by_cases z : e = i
      · rw [z]; exact c
      · exact I.2.2.2 e h1 (by omega)
theorem sns_on {p : Int} (h40 : l.length ≤ 40) (hp : 0 ≤ p ∧ p < l.length) : p < sns tab l 1 p ∧ sns tab l 1 p ≤ l.length ∧ ied tab l (sns tab l 1 p) ∧ ∀ e : Int, p < e → e < sns tab l 1 p → ¬ ied tab l e := by
  have S := sn_bd (tab := tab) (l := l) 50 (p + 1) (by omega) (by omega) (by omega)
  unfold sns
  rw [if_neg (by omega)]
  exact ⟨by omega, S.2.1, S.2.2.1, fun e h1 h2 h3 => by have := S.2.2.2 e (by omega) (by omega) h3; omega⟩
theorem sns_back {p : Int} (h40 : l.length ≤ 40) (hp : 0 ≤ p ∧ p < l.length) (he : ied tab l p) : sns tab l (-1) (sns tab l 1 p) = p := by
  obtain ⟨a, b, c, d⟩ := sns_on (tab := tab) h40 hp
  generalize sns tab l 1 p = n at a b c d
  have S := sn_bk (tab := tab) (l := l) 50 (n + -1) (by omega) (by omega) (by omega)
  unfold sns
  rw [if_neg (by omega)]
  have h1 : p ≤ sn tab l (-1) 50 (n + -1) := by
    rcases Int.lt_or_le (sn tab l (-1) 50 (n + -1)) p with q | q
    · exact absurd he (S.2.2.2 p q (by omega))
    · exact q
  rcases Int.lt_or_le p (sn tab l (-1) 50 (n + -1)) with q | q
  · exact absurd S.2.2.1 (d _ q (by omega))
  · omega
/-- how many clusters begin from 1 on, up to a place -/
noncomputable def cnt (tab : Nat → Int) (l : List Int) : Nat → Nat
  | 0 => 0
  | m + 1 => cnt tab l m + (if 1 ≤ m ∧ icl tab l m then 1 else 0)
theorem cnt_s {m : Nat} : cnt tab l (m + 1) = cnt tab l m + (if 1 ≤ m ∧ icl tab l m then 1 else 0) := by rw [cnt]
theorem cnt_gap {a : Nat} : ∀ b : Nat, a ≤ b → (∀ k : Nat, a ≤ k → k < b → 1 ≤ k → ¬ icl tab l k) → cnt tab l b = cnt tab l a := by
  intro b
  induction b with
  | zero => intro h _; rw [show a = 0 by omega]
  | succ b ih =>
    intro h hk
    by_cases e : a = b + 1
    · rw [e]
    · rw [cnt_s, if_neg (fun q => hk b (by omega) (by omega) q.1 q.2), Nat.add_zero]
      exact ih (by omega) (fun k h1 h2 h3 => hk k h1 (by omega) h3)
/-- a step on is one more -/
theorem cnt_step {p n : Nat} (hp : p < n) (hn : n ≤ l.length) (he : ied tab l p) (hg : ∀ e : Int, (p : Int) < e → e < n → ¬ ied tab l e) : cnt tab l n = cnt tab l p + (if p = 0 then 0 else 1) := by
  rw [cnt_gap (a := p + 1) n (by omega) (fun k h1 h2 _ q => hg k (by omega) (by omega) (Or.inr q)), cnt_s]
  by_cases c : p = 0
  · rw [if_pos c, if_neg (by omega)]
  · rw [if_neg c, if_pos ⟨by omega, he.elim (fun q => by omega) (fun q => q)⟩]
theorem brk_0 {m : Int64} (h : bits m (fun k => 0 < k ∧ k < l.length ∧ brk tab l 0 k)) : clb tab l m := by
  intro k hk
  rw [h k hk]
  constructor
  · rintro ⟨a, b, c⟩; exact ⟨a, b, c.1⟩
  · rintro ⟨a, b, c⟩; exact ⟨a, b, c, Or.inl rfl⟩
theorem brk_10 {i : Nat} (h : brk tab l 1 i) : icl tab l i := h.1
theorem brk_21 {i : Nat} (h : brk tab l 2 i) : brk tab l 1 i := by
  obtain ⟨a, b⟩ := h
  rcases b with b | ⟨v, h1, h2, -⟩
  · omega
  · exact ⟨a, Or.inr ⟨v, h1, h2, Or.inl rfl⟩⟩
end
