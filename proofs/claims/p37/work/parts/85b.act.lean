/-! ===== an act, whatever it is ===== -/
def lowV (a n : Int32) : Int32 := (a &&& (2147483647 : Int32)) - (a &&& (2147483647 : Int32)) / n * n
theorem low_e {a n : Int32} {w : Wd} (h : ¬ n = 0) : f_L_low a n w = some (lowV a n, w) := by
  unfold f_L_low dv
  rw [if_neg h]
  rfl
section
variable {S : ST} {F Q : Prop}
theorem AO_low {a n : Int32} {K : Int32 → Wd → Option (Int32 × Wd)} (hn : ¬ n = 0) (h : AO (fun w => K (lowV a n) w) S F Q) : AO (fun w => bd (f_L_low a n w) (fun x w1 => K x w1)) S F Q := by
  have e : (fun w => bd (f_L_low a n w) (fun x w1 => K x w1)) = fun w => K (lowV a n) w := funext (fun w => by rw [low_e hn]; rfl)
  rw [e]; exact h
theorem AO_lt {A : Type} {x : A} {K : A → Wd → Option (Int32 × Wd)} (h : AO (fun w => K x w) S F Q) : AO (fun w => lt x (fun y => K y w)) S F Q := h
theorem AO_ret {A : Wd → Option (Int32 × Wd)} (h : AO (fun w => A w) S F Q) : AO (fun w => bd (A w) (fun x w1 => some (x, w1))) S F Q := by
  have e : (fun w => bd (A w) (fun x w1 => some (x, w1))) = fun w => A w := funext (fun w => by rcases A w with _ | ⟨x, w1⟩ <;> rfl)
  rw [e]; exact h
theorem ao_doesS {h a b c : Int32} (hS : GS S) : AO (fun w => f_L_does h a b c w) S (nt h) (isq h) := by
  rcases S with ⟨tab, txt, nv, sav, tp, os, pt⟩
  exact ao_does hS
theorem AO_d {h a b c : Int32} (hS : GS S) (hF : F → nt h) : AO (fun w => bd (f_L_does h a b c w) (fun x w1 => some (x, w1))) S F False :=
  AO_ret (AO_mono hF (fun q => q.elim) (ao_doesS hS))
theorem AO_m {h a b c d f : Int32} (hS : GS S) : AO (fun w => bd (f_L_more h a b c d f w) (fun x w1 => some (x, w1))) S F False := by
  rcases S with ⟨tab, txt, nv, sav, tp, os, pt⟩
  exact AO_ret (AO_mono (fun _ => trivial) (fun q => q) (ao_more (e := 0) hS))
theorem AO_f {x : Int64} {a : Int32} (hS : GS S) : AO (fun w => bd (f_L_feed x a w) (fun x w1 => some (x, w1))) S F False := by
  rcases S with ⟨tab, txt, nv, sav, tp, os, pt⟩
  exact AO_ret (AO_mono (fun _ => trivial) (fun q => q) (ao_feed hS))
theorem no47 {x : Int32} (c : (47 : Int32) ≤ x) : ¬ x < 47 := by
  rw [Int32.le_iff_toInt_le] at c
  rw [Int32.lt_iff_toInt_lt]
  omega
theorem le47 {x k : Int32} (c : k ≤ x) (hk : 47 ≤ k.toInt) : ¬ x < 47 := by
  rw [Int32.le_iff_toInt_le] at c
  rw [Int32.lt_iff_toInt_lt, show (47 : Int32).toInt = 47 by decide]
  omega
variable {v1 v2 v3 v4 v5 v6 t0 t1 t2 t3 t4 t5 t6 t7 : Int32} {x0 : Int64}
theorem ao_874 (hS : GS S) (hF : F → nt t1) : AO (fun w => f_L_act_874 t1 t2 w) S F False := by
  unfold f_L_act_874
  exact AO_d hS hF
theorem ao_851 (hS : GS S) (hF : F → nt t1) (h4 : ¬ t4 = 0) : AO (fun w => f_L_act_851 t1 t2 t3 t4 w) S F False := by
  unfold f_L_act_851
  exact AO_low h4 (AO_d hS hF)
theorem ao_797 (hS : GS S) : AO (fun w => f_L_act_797 x0 t2 w) S F False := by
  unfold f_L_act_797
  exact AO_f hS
theorem ao_769 (hS : GS S) : AO (fun w => f_L_act_769 v1 v2 v3 v6 x0 w) S (v3 < 47) False := by
  unfold f_L_act_769
  refine AO_if (fun c => ?_) (fun _ => AO_if (fun _ => ao_797 hS) (fun _ => AO_low (by decide) (ao_797 hS)))
  have n := no47 c
  refine AO_if (fun _ => AO_d hS (fun f => absurd f n)) (fun _ => ?_)
  refine AO_if (fun _ => AO_if (fun _ => ao_851 hS (fun f => absurd f n) (by decide)) (fun _ => ao_851 hS (fun f => absurd f n) (by decide))) (fun _ => ?_)
  exact AO_if (fun _ => ao_874 hS (fun f => absurd f n)) (fun _ => ao_874 hS (fun f => absurd f n))
theorem ao_607 (hS : GS S) (hF : F → nt t1) : AO (fun w => f_L_act_607 v1 t1 t2 t3 w) S F False := by
  unfold f_L_act_607
  exact AO_d hS hF
theorem ao_582 (hS : GS S) (hF : F → nt t1) (h4 : ¬ t4 = 0) : AO (fun w => f_L_act_582 t1 t2 t3 t4 w) S F False := by
  unfold f_L_act_582
  exact AO_low h4 (AO_d hS hF)
theorem ao_404 (hS : GS S) (h3 : ¬ t3 = 0) : AO (fun w => f_L_act_404 v1 t1 t2 t3 w) S F False := by
  unfold f_L_act_404
  exact AO_low h3 (AO_low (by decide) (AO_low (by decide) (AO_m hS)))
theorem ao_371 (hS : GS S) (h5 : ¬ t5 = 0) : AO (fun w => f_L_act_371 v1 t1 t2 t3 t4 t5 w) S F False := by
  unfold f_L_act_371
  exact AO_low h5 (AO_low (by decide) (AO_m hS))
theorem ao_326 (hS : GS S) (hF : F → nt t1) (h4 : ¬ t4 = 0) : AO (fun w => f_L_act_326 v1 t1 t2 t3 t4 w) S F False := by
  unfold f_L_act_326
  exact AO_low h4 (AO_low (by decide) (AO_d hS hF))
theorem ao_187 (hS : GS S) (hF : F → nt t1) (h7 : ¬ t7 = 0) : AO (fun w => f_L_act_187 v1 t1 t2 t3 t4 t5 t6 t7 w) S F False := by
  unfold f_L_act_187
  exact AO_low h7 (AO_low (by decide) (AO_d hS hF))
theorem ao_154 (hS : GS S) (hF : F → nt t1) : AO (fun w => f_L_act_154 v1 v2 t1 t2 t3 w) S F False := by
  unfold f_L_act_154
  exact AO_low (by decide) (AO_if (fun _ => ao_187 hS hF (by decide)) (fun _ => ao_187 hS hF (by decide)))
theorem ao_151 (hS : GS S) (hF : F → nt t1) (h4 : ¬ t4 = 0) : AO (fun w => f_L_act_151 v1 v2 t1 t2 t3 t4 w) S F False := by
  unfold f_L_act_151
  exact AO_low h4 (ao_154 hS hF)
theorem nt_0 : nt 0 := by unfold nt; decide
theorem nt_1 : nt 1 := by unfold nt; decide
theorem nt_2 : nt 2 := by unfold nt; decide
theorem nt_3 : nt 3 := by unfold nt; decide
theorem nt_4 : nt 4 := by unfold nt; decide
theorem nt_5 : nt 5 := by unfold nt; decide
theorem nt_6 : nt 6 := by unfold nt; decide
theorem nt_7 : nt 7 := by unfold nt; decide
theorem nt_8 : nt 8 := by unfold nt; decide
theorem nt_9 : nt 9 := by unfold nt; decide
theorem nt_10 : nt 10 := by unfold nt; decide
theorem nt_12 : nt 12 := by unfold nt; decide
theorem nt_24 : nt 24 := by unfold nt; decide
theorem nt_27 : nt 27 := by unfold nt; decide
theorem ao_107 (hS : GS S) : AO (fun w => f_L_act_107 v1 v2 v3 v4 v5 t0 w) S (v3 < 47) False := by
  unfold f_L_act_107
  refine AO_if (fun _ => ?_) (fun _ => ?_)
  · refine AO_if (fun _ => ?_) (fun _ => ?_)
    · refine AO_if (fun _ => ?_) (fun _ => ?_)
      · refine AO_if (fun _ => ?_) (fun _ => ?_)
        · refine AO_if (fun _ => ?_) (fun _ => ?_)
          · refine AO_if (fun _ => AO_d hS (fun _ => nt_7)) (fun _ => ?_)
            refine AO_if (fun _ => AO_low (by decide) (AO_d hS (fun _ => nt_8))) (fun _ => ?_)
            exact AO_if (fun _ => AO_d hS (fun _ => nt_27)) (fun _ => AO_d hS (fun _ => nt_9))
          · refine AO_lt ?_
            refine AO_if (fun _ => ao_769 hS) (fun _ => ?_)
            refine AO_if (fun _ => ao_769 hS) (fun _ => ?_)
            refine AO_if (fun _ => ao_769 hS) (fun _ => ?_)
            refine AO_if (fun _ => ao_769 hS) (fun _ => ?_)
            refine AO_if (fun _ => ao_769 hS) (fun _ => ?_)
            refine AO_if (fun _ => ao_769 hS) (fun _ => ?_)
            refine AO_if (fun _ => ao_769 hS) (fun _ => ?_)
            refine AO_if (fun _ => ao_769 hS) (fun _ => ?_)
            refine AO_if (fun _ => ao_769 hS) (fun _ => ?_)
            refine AO_if (fun _ => ao_769 hS) (fun _ => ?_)
            exact AO_low (by decide) (ao_769 hS)
        · refine AO_if (fun _ => AO_d hS (fun _ => nt_5)) (fun _ => ?_)
          refine AO_if (fun _ => AO_low (by decide) (AO_low (by decide) (AO_low (by decide) (AO_d hS (fun _ => nt_6))))) (fun _ => ?_)
          refine AO_if (fun _ => AO_if (fun _ => ao_607 hS (fun _ => nt_24)) (fun _ => ao_607 hS (fun _ => nt_24))) (fun _ => ?_)
          exact AO_if (fun _ => ao_582 hS (fun _ => nt_12) (by decide)) (fun _ => ao_582 hS (fun _ => nt_12) (by decide))
      · exact AO_if (fun _ => AO_d hS (fun _ => nt_10)) (fun _ => AO_d hS (fun _ => nt_9))
    · refine AO_if (fun _ => ?_) (fun _ => AO_low (by decide) (AO_d hS (fun _ => nt_2)))
      refine AO_if (fun _ => ?_) (fun _ => AO_if (fun _ => ao_326 hS (fun _ => nt_4) (by decide)) (fun _ => ao_326 hS (fun _ => nt_4) (by decide)))
      refine AO_if (fun _ => AO_if (fun _ => ao_371 hS (by decide)) (fun _ => ao_371 hS (by decide))) (fun _ => ?_)
      exact AO_if (fun _ => ao_404 hS (by decide)) (fun _ => ao_404 hS (by decide))
  · refine AO_if (fun _ => ?_) (fun _ => ?_)
    · refine AO_if (fun _ => ?_) (fun _ => AO_low (by decide) (AO_d hS (fun _ => nt_1)))
      exact AO_if (fun _ => AO_d hS (fun _ => nt_3)) (fun _ => AO_d hS (fun _ => nt_2))
    · refine AO_if (fun _ => ao_154 hS (fun _ => nt_0)) (fun _ => ?_)
      exact AO_if (fun _ => ao_151 hS (fun _ => nt_0) (by decide)) (fun _ => ao_151 hS (fun _ => nt_0) (by decide))
theorem ao_81 (hS : GS S) : AO (fun w => f_L_act_81 v1 v2 v3 v4 t0 w) S (v3 < 47) False := by
  unfold f_L_act_81
  exact AO_if (fun _ => AO_low (by decide) (ao_107 hS)) (fun _ => AO_low (by decide) (ao_107 hS))
theorem ao_52 (hS : GS S) : AO (fun w => f_L_act_52 v1 v2 v3 t0 w) S (v3 < 47) False := by
  unfold f_L_act_52
  exact AO_if (fun _ => AO_low (by decide) (ao_81 hS)) (fun _ => AO_low (by decide) (ao_81 hS))
theorem ao_17 (hS : GS S) : AO (fun w => f_L_act_17 v1 t0 w) S (lowV v1 56 < 47) False := by
  unfold f_L_act_17
  exact AO_low (by decide) (AO_if (fun _ => AO_low (by decide) (ao_52 hS)) (fun _ => AO_low (by decide) (ao_52 hS)))
theorem ao_act (hS : GS S) : AO (fun w => f_L_act v1 w) S (lowV v1 56 < 47) False := by
  unfold f_L_act
  exact AO_if (fun _ => ao_17 hS) (fun _ => ao_17 hS)
end
