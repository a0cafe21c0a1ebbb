/-! ===== feed ===== -/
/-- the tape: the class's, the reference's -/
def cta (w : Wd) (tp : List Int) : Prop := rl w 635 = tp
def tpok (tp : List Int) : Prop := tp.length ≤ 160 ∧ ∀ x ∈ tp, 0 ≤ x ∧ x ≤ 255
theorem tape_kd : KD 635 = 7 ∧ LEN (635 + 1) = 160 := by decide +kernel
/-- byte k of a long -/
def byt (b : Int64) (k : Int32) : Int32 := ((((b.toUInt64 >>> (((8 : Int32) * k).toInt64.toUInt64 &&& Int64.toUInt64 63)).toInt64) &&& (255 : Int64)).toInt32)
theorem byt_rng (b : Int64) (k : Int32) : 0 ≤ (byt b k).toInt ∧ (byt b k).toInt ≤ 255 := by
  unfold byt
  generalize (b.toUInt64 >>> (((8 : Int32) * k).toInt64.toUInt64 &&& Int64.toUInt64 63)).toInt64 = z
  have h : (z &&& 255).toBitVec.toNat ≤ 255 := by
    rw [Int64.toBitVec_and, BitVec.toNat_and]
    exact Nat.le_trans Nat.and_le_right (by decide)
  have hi : (z &&& 255).toInt = ((z &&& 255).toBitVec.toNat : Int) := by
    rw [← Int64.toInt_toBitVec, BitVec.toInt_eq_toNat_of_lt (by omega)]
  rw [Int64.toInt_toInt32, hi, Int.bmod_eq_of_le (by omega) (by omega)]
  omega
def byts (b : Int64) (n : Nat) : List Int := (List.range n).map (fun i => (byt b (Int32.ofNat i)).toInt)
theorem byts_s (b : Int64) (n : Nat) : byts b (n + 1) = byts b n ++ [(byt b (Int32.ofNat n)).toInt] := by simp [byts, List.range_succ]
theorem byts_len (b : Int64) (n : Nat) : (byts b n).length = n := by simp [byts]
theorem byts_rng (b : Int64) (n : Nat) : ∀ x ∈ byts b n, 0 ≤ x ∧ x ≤ 255 := by
  intro x hx
  obtain ⟨i, _, rfl⟩ := List.mem_map.mp hx
  exact byt_rng b _
theorem ofNat_eq {k : Int32} (h : 0 ≤ k.toInt) : Int32.ofNat k.toInt.toNat = k := by
  apply Int32.toInt_inj.mp
  have := k.toInt_lt
  rw [i_ofNat (by omega)]
  omega
def bad_n (n : Int) : Prop := ¬ (1 ≤ n ∧ n ≤ 8)
theorem k_feed {w : Wd} {tp : List Int} {b : Int64} {n : Int32} (ho : okall w) (ht : cta w tp) (hk : tpok tp) :
    Wp (f_X10_feed b n w) (fun r w' => (bad_n n.toInt ∧ r = .inl 2 ∧ w' = w) ∨ (¬ bad_n n.toInt ∧ 160 < tp.length + n.toInt ∧ r = .inl 3 ∧ w' = w) ∨
      (¬ bad_n n.toInt ∧ ¬ 160 < tp.length + n.toInt ∧ (∃ x : Int32, r = .inr x ∧ x.toInt = tp.length + n.toInt) ∧ cta w' (tp ++ byts b n.toInt.toNat) ∧ okall w' ∧ oc (fun k => k = 635 ∨ k = 636) w w')) := by
  have L := LIT
  have e160 : (160 : Int32).toInt = 160 := by decide
  unfold f_X10_feed
  simp only [e_isWithin, bd_r, e_checkArgument, bdx_c]
  rw [L.2.1, show (8 : Int32).toInt = 8 from by decide]
  refine wp_if (fun hn => ?_) (fun hn => wp_ret (Or.inl ⟨hn, rfl, rfl⟩))
  have nb : ¬ bad_n n.toInt := fun q => q hn
  have o1 := ho 635 tape_kd.1
  refine wp_bd (s_size o1) ?_
  rintro x _ ⟨rfl, hx⟩
  rw [ht] at hx
  have hk1 := hk.1
  have xs : (x + n).toInt = tp.length + n.toInt := by rw [i_add (by omega), hx]
  refine wp_ifle (fun q => ?_) (fun q => wp_ret (Or.inr (Or.inl ⟨nb, by omega, rfl, rfl⟩)))
  unfold f_X10_feed_38
  refine wp_loop (fun (σ : Int64 × Int32 × Int32 × Wd) => σ.1 = b ∧ σ.2.1 = n ∧ 0 ≤ σ.2.2.1.toInt ∧ σ.2.2.1.toInt ≤ n.toInt ∧ rs w σ.2.2.2 635 (tp ++ byts b σ.2.2.1.toInt.toNat)) (fun (σ : Int64 × Int32 × Int32 × Wd) => n.toInt.toNat - σ.2.2.1.toInt.toNat) ?_ FU _ ⟨rfl, rfl, by dsimp only; omega, by dsimp only; omega, ?_⟩ (by rw [FUv]; dsimp only; omega)
  · rintro rc ⟨b', n', k, w1⟩ ⟨e1, e2, hk0, hk1, hr⟩ ih
    dsimp only at e1 e2 hk0 hk1 hr
    subst e1; subst e2
    show Wp (g_X10_feed_38 rc b' n' k w1) _
    unfold g_X10_feed_38
    have ok1 := rs_okr hr o1
    refine wp_ifle (fun q2 => ?_) (fun q2 => ?_)
    · refine wp_bd (s_size ok1) ?_
      rintro y _ ⟨rfl, hy⟩
      rw [rs_l hr, List.length_append, byts_len] at hy
      rw [show k.toInt.toNat = n'.toInt.toNat by omega] at hr
      exact wp_ret (Or.inr (Or.inr ⟨nb, by omega, ⟨y, rfl, by omega⟩, rs_l hr, okall_rs ho hr, oc_rs hr (Or.inl rfl) (Or.inr rfl)⟩))
    · refine wp_bd (s_add ok1 (by rw [rs_l hr, List.length_append, byts_len, tape_kd.2]; omega)) ?_
      rintro _ w2 ⟨rfl, h2⟩
      refine wp_add (by omega) (fun z hz => ?_)
      refine ih (b', n', z, w2) ⟨rfl, rfl, by dsimp only; omega, by dsimp only; omega, ?_⟩ (by dsimp only; omega)
      dsimp only
      rw [show z.toInt.toNat = k.toInt.toNat + 1 by omega, byts_s, ofNat_eq hk0, ← List.append_assoc]
      have h3 := rs_tr hr h2
      rwa [rs_l hr] at h3
  · dsimp only
    rw [L.1]
    show rs w w 635 (tp ++ [])
    rw [List.append_nil, ← ht]
    exact rs_rf o1
