/-! ===== word ===== -/
/-- what was put out -/
def cou (w : Wd) (os : List Int) : Prop := rl w 637 = os
def ouok (os : List Int) : Prop := os.length ≤ 200 ∧ ∀ x ∈ os, 0 ≤ x ∧ x ≤ 255
theorem out_kd : KD 637 = 7 ∧ LEN (637 + 1) = 200 := by decide +kernel
def ob (os : List Int) (p : Int) : Nat := if 0 ≤ p ∧ p < os.length then (gt os p).toNat else 0
/-- bytes, the first the least -/
def wsm (os : List Int) (i : Int) : Nat → Nat
  | 0 => 0
  | k + 1 => wsm os i k + ob os (8 * i + k) * 256 ^ k
theorem ou_rng {os : List Int} (h : ouok os) {p : Int} (h0 : 0 ≤ p) (h1 : p < os.length) : 0 ≤ gt os p ∧ gt os p ≤ 255 := by
  rw [gt_in h0, List.getD_eq_getElem?_getD, List.getElem?_eq_getElem (show p.toNat < os.length by omega)]
  exact h.2 _ (List.getElem_mem _)
theorem ob_lt {os : List Int} (h : ouok os) (p : Int) : ob os p < 256 := by
  unfold ob
  by_cases c : 0 ≤ p ∧ p < os.length
  · rw [if_pos c]; have := ou_rng h c.1 c.2; omega
  · rw [if_neg c]; omega
theorem wsm_lt {os : List Int} (h : ouok os) (i : Int) : ∀ k, wsm os i k < 256 ^ k := by
  intro k
  induction k with
  | zero => exact Nat.one_pos
  | succ k ih =>
    have b := ob_lt h (8 * i + k)
    have : ob os (8 * i + k) * 256 ^ k ≤ 255 * 256 ^ k := Nat.mul_le_mul_right _ (by omega)
    rw [wsm, Nat.pow_succ]; omega
theorem sm_all : ∀ n, n < 64 → ((Int32.ofNat n).toInt64 &&& 63).toBitVec.smod 64 = BitVec.ofNat 64 n := by decide +kernel
theorem an_all : ∀ n, n < 256 → Int32.ofNat n &&& (255 : Int32) = Int32.ofNat n := by decide +kernel
/-- a long as a number without sign -/
def un (x : Int64) : Nat := x.toBitVec.toNat
theorem un_inj {x y : Int64} (h : un x = un y) : x = y := Int64.toBitVec_inj.mp (BitVec.eq_of_toNat_eq h)
theorem un_shl {v : Int64} {x : Int32} (h : 0 ≤ x.toInt ∧ x.toInt < 64) : un (v <<< (x.toInt64 &&& 63)) = un v * 2 ^ x.toInt.toNat % 2 ^ 64 := by
  have A := sm_all x.toInt.toNat (by omega)
  rw [i_back h.1] at A
  unfold un
  rw [Int64.toBitVec_shiftLeft, A, BitVec.shiftLeft_eq', BitVec.toNat_ofNat, Nat.mod_eq_of_lt (show x.toInt.toNat < 2 ^ 64 by omega), BitVec.toNat_shiftLeft, Nat.shiftLeft_eq]
theorem un_or (a b : Int64) : un (a ||| b) = un a ||| un b := by
  unfold un; rw [Int64.toBitVec_or, BitVec.toNat_or]
theorem un_i {x : Int32} (h : 0 ≤ x.toInt) : un x.toInt64 = x.toInt.toNat := by
  have e : x.toInt64.toBitVec.toInt = x.toInt := Int32.toInt_toInt64 x
  have R := i_rng x
  rw [BitVec.toInt_eq_toNat_cond] at e
  unfold un
  have := x.toInt64.toBitVec.isLt
  split at e <;> omega
theorem lg_lt (a b : Int64) : (lg_cmp a b < 0) ↔ a.toInt < b.toInt := by
  unfold lg_cmp
  by_cases g : a > b
  · rw [if_pos g]
    exact ⟨fun q => absurd q (by decide), fun q => absurd (Int64.lt_iff_toInt_lt.mp g) (by omega)⟩
  · by_cases h : a = b
    · rw [if_neg g, if_pos h, h]
      exact ⟨fun q => absurd q (by decide), fun q => absurd q (by omega)⟩
    · rw [if_neg g, if_neg h]
      refine ⟨fun _ => ?_, fun _ => by decide⟩
      have h1 : ¬ b.toInt < a.toInt := fun q => g (Int64.lt_iff_toInt_lt.mpr q)
      have h2 : ¬ a.toInt = b.toInt := fun q => h (Int64.toInt_inj.mp q)
      omega
theorem lg_ge (a b : Int64) : (0 ≤ lg_cmp a b) ↔ b.toInt ≤ a.toInt := by
  unfold lg_cmp
  by_cases g : a > b
  · rw [if_pos g]
    exact ⟨fun _ => by have := Int64.lt_iff_toInt_lt.mp g; omega, fun _ => by decide⟩
  · by_cases h : a = b
    · rw [if_neg g, if_pos h, h]
      exact ⟨fun _ => Int.le_refl _, fun _ => by decide⟩
    · rw [if_neg g, if_neg h]
      refine ⟨fun q => absurd q (by decide), fun q => ?_⟩
      have h1 : ¬ b.toInt < a.toInt := fun q => g (Int64.lt_iff_toInt_lt.mpr q)
      have h2 : ¬ a.toInt = b.toInt := fun q => h (Int64.toInt_inj.mp q)
      omega
theorem bm64 {x : Int} (h1 : -9223372036854775808 ≤ x) (h2 : x < 9223372036854775808) : x.bmod (2 ^ 64) = x := Int.bmod_eq_of_le (by omega) (by omega)
theorem l_place {x y : Int32} : (((8 : Int64) * x.toInt64) + y.toInt64).toInt = 8 * x.toInt + y.toInt := by
  have R := i_rng x
  have S := i_rng y
  have e : (8 : Int64).toInt = 8 := by decide
  have m : ((8 : Int64) * x.toInt64).toInt = 8 * x.toInt := by rw [Int64.toInt_mul, e, Int32.toInt_toInt64]; exact bm64 (by omega) (by omega)
  rw [Int64.toInt_add, m, Int32.toInt_toInt64]; exact bm64 (by omega) (by omega)
theorem k_word {w : Wd} {os : List Int} {i : Int32} (ho : okall w) (hx : cou w os) (hk : ouok os) :
    Wp (f_X10_word i w) (fun r w' => w = w' ∧ un r = wsm os i.toInt 8) := by
  have L := LIT
  have e64 : (0 : Int64).toInt = 0 := by decide
  have p8 : (256 : Nat) ^ 8 = 2 ^ 64 := by decide
  unfold f_X10_word f_X10_word_6
  rw [FUv]
  refine wp_loop (fun σ : Int32 × Int64 × Int32 × Wd => σ.1 = i ∧ σ.2.2.2 = w ∧ -1 ≤ σ.2.2.1.toInt ∧ σ.2.2.1.toInt ≤ 7 ∧ un σ.2.1 * 256 ^ (σ.2.2.1.toInt + 1).toNat + wsm os i.toInt (σ.2.2.1.toInt + 1).toNat = wsm os i.toInt 8)
    (fun σ => (σ.2.2.1.toInt + 1).toNat) ?_ 100000 _ ⟨rfl, rfl, by dsimp only; omega, by dsimp only; omega, by
      dsimp only
      rw [show un 0 = 0 from rfl, Nat.zero_mul, Nat.zero_add, show ((7 : Int32).toInt + 1).toNat = 8 by decide]⟩ (by dsimp only; omega)
  rintro rc ⟨i', v, j, w'⟩ ⟨rfl, rfl, hj0, hj1, hs⟩ ih
  dsimp only at *
  unfold g_X10_word_6
  refine wp_iflt (fun z => wp_ret ⟨rfl, ?_⟩) (fun z => ?_)
  · rw [show (j.toInt + 1).toNat = 0 by omega, wsm, Nat.pow_zero, Nat.mul_one, Nat.add_zero] at hs
    exact hs
  rw [L.1] at z
  obtain ⟨m, hm⟩ : ∃ m : Nat, j.toInt = m := ⟨j.toInt.toNat, by omega⟩
  rw [show (j.toInt + 1).toNat = m + 1 by omega, wsm] at hs
  have next : ∀ b : Int32, 0 ≤ b.toInt → b.toInt.toNat = ob os (8 * i'.toInt + m) → Wp (f_X10_word_78 rc i' j (v <<< ((8 : Int32).toInt64 &&& 63)) b w') (fun r w_1 => w' = w_1 ∧ un r = wsm os i'.toInt 8) := by
    intro b hb0 hb
    unfold f_X10_word_78
    refine wp_lt (fun y1 hy1 => wp_add (by omega) (fun z3 hz3 => ?_))
    have hz4 : z3.toInt = m - 1 := by omega
    refine ih (i', y1, z3, w') ⟨rfl, rfl, by dsimp only; omega, by dsimp only; omega, ?_⟩ (by dsimp only; omega)
    dsimp only
    have bl := ob_lt hk (8 * i'.toInt + m)
    have W := wsm_lt hk i'.toInt 8
    rw [p8] at W
    have vb : un v * 256 < 2 ^ 64 := by
      have h1 : un v * 256 ≤ un v * 256 ^ (m + 1) := by
        refine Nat.mul_le_mul_left _ ?_
        rw [Nat.pow_succ]
        exact Nat.le_mul_of_pos_left _ (Nat.pow_pos (by omega))
      omega
    have u1 : un y1 = un v * 256 + ob os (8 * i'.toInt + m) := by
      rw [hy1, un_or, un_shl (by decide), un_i hb0, hb, show (2 : Nat) ^ (8 : Int32).toInt.toNat = 256 by decide, Nat.mod_eq_of_lt vb]
      have := Nat.shiftLeft_add_eq_or_of_lt (i := 8) (show ob os (8 * i'.toInt + m) < 2 ^ 8 by omega) (un v)
      rw [Nat.shiftLeft_eq, show (2 : Nat) ^ 8 = 256 by decide] at this
      exact this.symm
    rw [show (z3.toInt + 1).toNat = m by omega, u1, Nat.add_mul, Nat.mul_assoc, show 256 * 256 ^ m = 256 ^ (m + 1) by rw [Nat.pow_succ, Nat.mul_comm]]
    omega
  have out : ¬ (0 ≤ 8 * i'.toInt + (m : Int) ∧ 8 * i'.toInt + m < os.length) → Wp (f_X10_word_48 rc i' v j (((8 : Int64) * i'.toInt64) + j.toInt64) w') (fun r w_1 => w' = w_1 ∧ un r = wsm os i'.toInt 8) := by
    intro n
    unfold f_X10_word_48 f_X10_word_49
    refine wp_ifeq (fun _ => next 0 (by omega) ?_) (fun q => absurd rfl q)
    unfold ob
    rw [if_neg n, L.1]; rfl
  refine wp_lt (fun y1 hy1 => ?_)
  have P := l_place (x := i') (y := j)
  rw [← hy1] at P out
  refine wp_if (fun c => out (fun q => ?_)) (fun c => ?_)
  · have := (lg_lt _ _).mp c; omega
  have c' : 0 ≤ y1.toInt := by
    have h1 : ¬ y1.toInt < (0 : Int64).toInt := fun q => c ((lg_lt _ _).mpr q)
    omega
  refine wp_bd (s_size (ho _ out_kd.1)) ?_
  rintro n _ ⟨rfl, hn⟩
  rw [hx] at hn
  refine wp_if (fun c2 => out (fun q => ?_)) (fun c2 => ?_)
  · have := (lg_ge _ _).mp c2
    rw [Int32.toInt_toInt64] at this; omega
  have c2' : y1.toInt < os.length := by
    have h1 : ¬ n.toInt64.toInt ≤ y1.toInt := fun q => c2 ((lg_ge _ _).mpr q)
    rw [Int32.toInt_toInt64] at h1; omega
  have o200 := hk.1
  unfold f_X10_word_49
  refine wp_ifeq (fun q => by omega) (fun _ => ?_)
  have e32 : y1.toInt32.toInt = y1.toInt := by rw [Int64.toInt_toInt32]; exact Int.bmod_eq_of_le (by omega) (by omega)
  refine wp_bd (s_get (ho _ out_kd.1)) ?_
  rintro x _ ⟨rfl, hx2⟩
  rw [hx, e32] at hx2
  have G := ou_rng hk c' c2'
  have A := an_all x.toInt.toNat (by omega)
  rw [i_back (by omega)] at A
  rw [A]
  refine next x (by omega) ?_
  unfold ob
  rw [if_pos ⟨by omega, by omega⟩, show 8 * i'.toInt + (m : Int) = y1.toInt by omega, hx2]
theorem wsm_out {os : List Int} (h : ouok os) {i : Int} (hi : i < 0 ∨ 26 ≤ i) : ∀ k, k ≤ 8 → wsm os i k = 0 := by
  intro k
  induction k with
  | zero => intro _; rfl
  | succ k ih =>
    intro hk
    have := h.1
    rw [wsm, ih (by omega)]
    unfold ob
    rw [if_neg (by omega)]; simp
