theorem kc_0 : KD 0 = 10 := by decide +kernel
theorem kc_1 : KD 1 = 9 := by decide +kernel
theorem kc_125 : KD 125 = 25 := by decide +kernel
theorem kc_622 : KD 622 = 23 := by decide +kernel
theorem kc_635 : KD 635 = 7 := by decide +kernel
theorem kc_637 : KD 637 = 7 := by decide +kernel
theorem kc_639 : KD 639 = 1 := by decide +kernel
theorem kc_640 : KD 640 = 7 := by decide +kernel
theorem kc_642 : KD 642 = 7 := by decide +kernel
theorem kc_644 : KD 644 = 7 := by decide +kernel
theorem kc_646 : KD 646 = 7 := by decide +kernel
theorem kc_648 : KD 648 = 7 := by decide +kernel
theorem kc_650 : KD 650 = 3 := by decide +kernel
theorem kc_651 : KD 651 = 7 := by decide +kernel
theorem kc_653 : KD 653 = 7 := by decide +kernel
theorem kc_655 : KD 655 = 7 := by decide +kernel
theorem kc_657 : KD 657 = 7 := by decide +kernel
theorem kc_659 : KD 659 = 7 := by decide +kernel
theorem kc_661 : KD 661 = 7 := by decide +kernel
theorem kc_663 : KD 663 = 7 := by decide +kernel
theorem kc_665 : KD 665 = 7 := by decide +kernel
theorem kc_667 : KD 667 = 7 := by decide +kernel
theorem kc_669 : KD 669 = 7 := by decide +kernel
theorem kc_671 : KD 671 = 7 := by decide +kernel
theorem kc_673 : KD 673 = 0 := by decide +kernel
theorem kc_692 : KD 692 = 4 := by decide +kernel
theorem kc_693 : KD 693 = 7 := by decide +kernel
theorem kc_695 : KD 695 = 7 := by decide +kernel
theorem kc_697 : KD 697 = 7 := by decide +kernel
theorem kc_699 : KD 699 = 7 := by decide +kernel
theorem kc_701 : KD 701 = 7 := by decide +kernel
theorem kc_703 : KD 703 = 7 := by decide +kernel
theorem kc_705 : KD 705 = 7 := by decide +kernel
theorem kc_707 : KD 707 = 7 := by decide +kernel
theorem kc_709 : KD 709 = 7 := by decide +kernel
theorem kc_711 : KD 711 = 7 := by decide +kernel
theorem ko_ne0 {o ci : Nat} (h : KD o = ci) (hc : ci < 10) : ¬ o = 0 := by
  rintro rfl
  rw [show KD 0 = 10 by decide +kernel] at h
  omega
theorem kd_all {P : Nat → Bool} {ci : Nat} (h : KDL.zipIdx.all (fun q => !(Nat.beq q.1 ci) || P q.2) = true) : ∀ o, o < 713 → KD o = ci → P o = true := by
  intro o ho hk
  have hl : o < KDL.length := by rw [KDL_len]; exact ho
  have hm : (KDL[o], o) ∈ KDL.zipIdx := List.mem_zipIdx_iff_getElem?.mpr (List.getElem?_eq_getElem hl)
  have h1 := List.all_eq_true.mp h _ hm
  have hk2 : KDL[o] = ci := by
    have : KD o = KDL[o] := by unfold KD; rw [List.getD_eq_getElem?_getD, List.getElem?_eq_getElem hl]; rfl
    rw [← this]; exact hk
  simp only [hk2, Nat.beq_refl, Bool.not_true, Bool.false_or] at h1
  exact h1
theorem roa_2_0 : ∀ o, o < 713 → KD o = 2 → RV o 0 = o + 1 ∧ KD (o + 1) = 20 := by
  intro o ho hk
  have h := kd_all (P := fun o => Nat.beq (RV o 0) (o + 1) && Nat.beq (KD (o + 1)) 20) (ci := 2) (by decide +kernel) o ho hk
  rw [Bool.and_eq_true] at h
  exact ⟨Nat.eq_of_beq_eq_true h.1, Nat.eq_of_beq_eq_true h.2⟩
theorem ro_2_0 {o : Nat} (h : KD o = 2) : RV o 0 = o + 1 := (roa_2_0 o (KD_lt h (by omega)) h).1
theorem ko_2_0 {o : Nat} (h : KD o = 2) : KD (o + 1) = 20 := (roa_2_0 o (KD_lt h (by omega)) h).2
theorem roa_2_1 : ∀ o, o < 713 → KD o = 2 → RV o 1 = o + 2 ∧ KD (o + 2) = 20 := by
  intro o ho hk
  have h := kd_all (P := fun o => Nat.beq (RV o 1) (o + 2) && Nat.beq (KD (o + 2)) 20) (ci := 2) (by decide +kernel) o ho hk
  rw [Bool.and_eq_true] at h
  exact ⟨Nat.eq_of_beq_eq_true h.1, Nat.eq_of_beq_eq_true h.2⟩
theorem ro_2_1 {o : Nat} (h : KD o = 2) : RV o 1 = o + 2 := (roa_2_1 o (KD_lt h (by omega)) h).1
theorem ko_2_1 {o : Nat} (h : KD o = 2) : KD (o + 2) = 20 := (roa_2_1 o (KD_lt h (by omega)) h).2
theorem roa_2_2 : ∀ o, o < 713 → KD o = 2 → RV o 2 = o + 3 ∧ KD (o + 3) = 20 := by
  intro o ho hk
  have h := kd_all (P := fun o => Nat.beq (RV o 2) (o + 3) && Nat.beq (KD (o + 3)) 20) (ci := 2) (by decide +kernel) o ho hk
  rw [Bool.and_eq_true] at h
  exact ⟨Nat.eq_of_beq_eq_true h.1, Nat.eq_of_beq_eq_true h.2⟩
theorem ro_2_2 {o : Nat} (h : KD o = 2) : RV o 2 = o + 3 := (roa_2_2 o (KD_lt h (by omega)) h).1
theorem ko_2_2 {o : Nat} (h : KD o = 2) : KD (o + 3) = 20 := (roa_2_2 o (KD_lt h (by omega)) h).2
theorem roa_2_3 : ∀ o, o < 713 → KD o = 2 → RV o 3 = o + 4 ∧ KD (o + 4) = 7 := by
  intro o ho hk
  have h := kd_all (P := fun o => Nat.beq (RV o 3) (o + 4) && Nat.beq (KD (o + 4)) 7) (ci := 2) (by decide +kernel) o ho hk
  rw [Bool.and_eq_true] at h
  exact ⟨Nat.eq_of_beq_eq_true h.1, Nat.eq_of_beq_eq_true h.2⟩
theorem ro_2_3 {o : Nat} (h : KD o = 2) : RV o 3 = o + 4 := (roa_2_3 o (KD_lt h (by omega)) h).1
theorem ko_2_3 {o : Nat} (h : KD o = 2) : KD (o + 4) = 7 := (roa_2_3 o (KD_lt h (by omega)) h).2
theorem roa_2_4 : ∀ o, o < 713 → KD o = 2 → RV o 4 = o + 6 ∧ KD (o + 6) = 7 := by
  intro o ho hk
  have h := kd_all (P := fun o => Nat.beq (RV o 4) (o + 6) && Nat.beq (KD (o + 6)) 7) (ci := 2) (by decide +kernel) o ho hk
  rw [Bool.and_eq_true] at h
  exact ⟨Nat.eq_of_beq_eq_true h.1, Nat.eq_of_beq_eq_true h.2⟩
theorem ro_2_4 {o : Nat} (h : KD o = 2) : RV o 4 = o + 6 := (roa_2_4 o (KD_lt h (by omega)) h).1
theorem ko_2_4 {o : Nat} (h : KD o = 2) : KD (o + 6) = 7 := (roa_2_4 o (KD_lt h (by omega)) h).2
theorem roa_2_5 : ∀ o, o < 713 → KD o = 2 → RV o 5 = o + 8 ∧ KD (o + 8) = 27 := by
  intro o ho hk
  have h := kd_all (P := fun o => Nat.beq (RV o 5) (o + 8) && Nat.beq (KD (o + 8)) 27) (ci := 2) (by decide +kernel) o ho hk
  rw [Bool.and_eq_true] at h
  exact ⟨Nat.eq_of_beq_eq_true h.1, Nat.eq_of_beq_eq_true h.2⟩
theorem ro_2_5 {o : Nat} (h : KD o = 2) : RV o 5 = o + 8 := (roa_2_5 o (KD_lt h (by omega)) h).1
theorem ko_2_5 {o : Nat} (h : KD o = 2) : KD (o + 8) = 27 := (roa_2_5 o (KD_lt h (by omega)) h).2
theorem roa_5_0 : ∀ o, o < 713 → KD o = 5 → RV o 0 = o + 1 ∧ KD (o + 1) = 7 := by
  intro o ho hk
  have h := kd_all (P := fun o => Nat.beq (RV o 0) (o + 1) && Nat.beq (KD (o + 1)) 7) (ci := 5) (by decide +kernel) o ho hk
  rw [Bool.and_eq_true] at h
  exact ⟨Nat.eq_of_beq_eq_true h.1, Nat.eq_of_beq_eq_true h.2⟩
theorem ro_5_0 {o : Nat} (h : KD o = 5) : RV o 0 = o + 1 := (roa_5_0 o (KD_lt h (by omega)) h).1
theorem ko_5_0 {o : Nat} (h : KD o = 5) : KD (o + 1) = 7 := (roa_5_0 o (KD_lt h (by omega)) h).2
theorem roa_5_1 : ∀ o, o < 713 → KD o = 5 → RV o 1 = o + 3 ∧ KD (o + 3) = 7 := by
  intro o ho hk
  have h := kd_all (P := fun o => Nat.beq (RV o 1) (o + 3) && Nat.beq (KD (o + 3)) 7) (ci := 5) (by decide +kernel) o ho hk
  rw [Bool.and_eq_true] at h
  exact ⟨Nat.eq_of_beq_eq_true h.1, Nat.eq_of_beq_eq_true h.2⟩
theorem ro_5_1 {o : Nat} (h : KD o = 5) : RV o 1 = o + 3 := (roa_5_1 o (KD_lt h (by omega)) h).1
theorem ko_5_1 {o : Nat} (h : KD o = 5) : KD (o + 3) = 7 := (roa_5_1 o (KD_lt h (by omega)) h).2
theorem roa_5_2 : ∀ o, o < 713 → KD o = 5 → RV o 2 = o + 5 ∧ KD (o + 5) = 7 := by
  intro o ho hk
  have h := kd_all (P := fun o => Nat.beq (RV o 2) (o + 5) && Nat.beq (KD (o + 5)) 7) (ci := 5) (by decide +kernel) o ho hk
  rw [Bool.and_eq_true] at h
  exact ⟨Nat.eq_of_beq_eq_true h.1, Nat.eq_of_beq_eq_true h.2⟩
theorem ro_5_2 {o : Nat} (h : KD o = 5) : RV o 2 = o + 5 := (roa_5_2 o (KD_lt h (by omega)) h).1
theorem ko_5_2 {o : Nat} (h : KD o = 5) : KD (o + 5) = 7 := (roa_5_2 o (KD_lt h (by omega)) h).2
theorem roa_5_3 : ∀ o, o < 713 → KD o = 5 → RV o 3 = o + 7 ∧ KD (o + 7) = 7 := by
  intro o ho hk
  have h := kd_all (P := fun o => Nat.beq (RV o 3) (o + 7) && Nat.beq (KD (o + 7)) 7) (ci := 5) (by decide +kernel) o ho hk
  rw [Bool.and_eq_true] at h
  exact ⟨Nat.eq_of_beq_eq_true h.1, Nat.eq_of_beq_eq_true h.2⟩
theorem ro_5_3 {o : Nat} (h : KD o = 5) : RV o 3 = o + 7 := (roa_5_3 o (KD_lt h (by omega)) h).1
theorem ko_5_3 {o : Nat} (h : KD o = 5) : KD (o + 7) = 7 := (roa_5_3 o (KD_lt h (by omega)) h).2
theorem roa_7_0 : ∀ o, o < 713 → KD o = 7 → RV o 0 = o + 1 ∧ KD (o + 1) = 20 := by
  intro o ho hk
  have h := kd_all (P := fun o => Nat.beq (RV o 0) (o + 1) && Nat.beq (KD (o + 1)) 20) (ci := 7) (by decide +kernel) o ho hk
  rw [Bool.and_eq_true] at h
  exact ⟨Nat.eq_of_beq_eq_true h.1, Nat.eq_of_beq_eq_true h.2⟩
theorem ro_7_0 {o : Nat} (h : KD o = 7) : RV o 0 = o + 1 := (roa_7_0 o (KD_lt h (by omega)) h).1
theorem ko_7_0 {o : Nat} (h : KD o = 7) : KD (o + 1) = 20 := (roa_7_0 o (KD_lt h (by omega)) h).2
theorem roa_8_1 : ∀ o, o < 713 → KD o = 8 → RV o 1 = o + 1 ∧ KD (o + 1) = 7 := by
  intro o ho hk
  have h := kd_all (P := fun o => Nat.beq (RV o 1) (o + 1) && Nat.beq (KD (o + 1)) 7) (ci := 8) (by decide +kernel) o ho hk
  rw [Bool.and_eq_true] at h
  exact ⟨Nat.eq_of_beq_eq_true h.1, Nat.eq_of_beq_eq_true h.2⟩
theorem ro_8_1 {o : Nat} (h : KD o = 8) : RV o 1 = o + 1 := (roa_8_1 o (KD_lt h (by omega)) h).1
theorem ko_8_1 {o : Nat} (h : KD o = 8) : KD (o + 1) = 7 := (roa_8_1 o (KD_lt h (by omega)) h).2
theorem roa_8_2 : ∀ o, o < 713 → KD o = 8 → RV o 2 = o + 3 ∧ KD (o + 3) = 7 := by
  intro o ho hk
  have h := kd_all (P := fun o => Nat.beq (RV o 2) (o + 3) && Nat.beq (KD (o + 3)) 7) (ci := 8) (by decide +kernel) o ho hk
  rw [Bool.and_eq_true] at h
  exact ⟨Nat.eq_of_beq_eq_true h.1, Nat.eq_of_beq_eq_true h.2⟩
theorem ro_8_2 {o : Nat} (h : KD o = 8) : RV o 2 = o + 3 := (roa_8_2 o (KD_lt h (by omega)) h).1
theorem ko_8_2 {o : Nat} (h : KD o = 8) : KD (o + 3) = 7 := (roa_8_2 o (KD_lt h (by omega)) h).2
theorem roa_8_3 : ∀ o, o < 713 → KD o = 8 → RV o 3 = o + 5 ∧ KD (o + 5) = 7 := by
  intro o ho hk
  have h := kd_all (P := fun o => Nat.beq (RV o 3) (o + 5) && Nat.beq (KD (o + 5)) 7) (ci := 8) (by decide +kernel) o ho hk
  rw [Bool.and_eq_true] at h
  exact ⟨Nat.eq_of_beq_eq_true h.1, Nat.eq_of_beq_eq_true h.2⟩
theorem ro_8_3 {o : Nat} (h : KD o = 8) : RV o 3 = o + 5 := (roa_8_3 o (KD_lt h (by omega)) h).1
theorem ko_8_3 {o : Nat} (h : KD o = 8) : KD (o + 5) = 7 := (roa_8_3 o (KD_lt h (by omega)) h).2
theorem roa_8_4 : ∀ o, o < 713 → KD o = 8 → RV o 4 = o + 7 ∧ KD (o + 7) = 7 := by
  intro o ho hk
  have h := kd_all (P := fun o => Nat.beq (RV o 4) (o + 7) && Nat.beq (KD (o + 7)) 7) (ci := 8) (by decide +kernel) o ho hk
  rw [Bool.and_eq_true] at h
  exact ⟨Nat.eq_of_beq_eq_true h.1, Nat.eq_of_beq_eq_true h.2⟩
theorem ro_8_4 {o : Nat} (h : KD o = 8) : RV o 4 = o + 7 := (roa_8_4 o (KD_lt h (by omega)) h).1
theorem ko_8_4 {o : Nat} (h : KD o = 8) : KD (o + 7) = 7 := (roa_8_4 o (KD_lt h (by omega)) h).2
theorem roa_9_0 : ∀ o, o < 713 → KD o = 9 → RV o 0 = o + 1 ∧ KD (o + 1) = 20 := by
  intro o ho hk
  have h := kd_all (P := fun o => Nat.beq (RV o 0) (o + 1) && Nat.beq (KD (o + 1)) 20) (ci := 9) (by decide +kernel) o ho hk
  rw [Bool.and_eq_true] at h
  exact ⟨Nat.eq_of_beq_eq_true h.1, Nat.eq_of_beq_eq_true h.2⟩
theorem ro_9_0 {o : Nat} (h : KD o = 9) : RV o 0 = o + 1 := (roa_9_0 o (KD_lt h (by omega)) h).1
theorem ko_9_0 {o : Nat} (h : KD o = 9) : KD (o + 1) = 20 := (roa_9_0 o (KD_lt h (by omega)) h).2
theorem roa_9_1 : ∀ o, o < 713 → KD o = 9 → RV o 1 = o + 2 ∧ KD (o + 2) = 20 := by
  intro o ho hk
  have h := kd_all (P := fun o => Nat.beq (RV o 1) (o + 2) && Nat.beq (KD (o + 2)) 20) (ci := 9) (by decide +kernel) o ho hk
  rw [Bool.and_eq_true] at h
  exact ⟨Nat.eq_of_beq_eq_true h.1, Nat.eq_of_beq_eq_true h.2⟩
theorem ro_9_1 {o : Nat} (h : KD o = 9) : RV o 1 = o + 2 := (roa_9_1 o (KD_lt h (by omega)) h).1
theorem ko_9_1 {o : Nat} (h : KD o = 9) : KD (o + 2) = 20 := (roa_9_1 o (KD_lt h (by omega)) h).2
theorem roa_9_2 : ∀ o, o < 713 → KD o = 9 → RV o 2 = o + 3 ∧ KD (o + 3) = 20 := by
  intro o ho hk
  have h := kd_all (P := fun o => Nat.beq (RV o 2) (o + 3) && Nat.beq (KD (o + 3)) 20) (ci := 9) (by decide +kernel) o ho hk
  rw [Bool.and_eq_true] at h
  exact ⟨Nat.eq_of_beq_eq_true h.1, Nat.eq_of_beq_eq_true h.2⟩
theorem ro_9_2 {o : Nat} (h : KD o = 9) : RV o 2 = o + 3 := (roa_9_2 o (KD_lt h (by omega)) h).1
theorem ko_9_2 {o : Nat} (h : KD o = 9) : KD (o + 3) = 20 := (roa_9_2 o (KD_lt h (by omega)) h).2
theorem roa_9_3 : ∀ o, o < 713 → KD o = 9 → RV o 3 = o + 4 ∧ KD (o + 4) = 20 := by
  intro o ho hk
  have h := kd_all (P := fun o => Nat.beq (RV o 3) (o + 4) && Nat.beq (KD (o + 4)) 20) (ci := 9) (by decide +kernel) o ho hk
  rw [Bool.and_eq_true] at h
  exact ⟨Nat.eq_of_beq_eq_true h.1, Nat.eq_of_beq_eq_true h.2⟩
theorem ro_9_3 {o : Nat} (h : KD o = 9) : RV o 3 = o + 4 := (roa_9_3 o (KD_lt h (by omega)) h).1
theorem ko_9_3 {o : Nat} (h : KD o = 9) : KD (o + 4) = 20 := (roa_9_3 o (KD_lt h (by omega)) h).2
theorem roa_9_4 : ∀ o, o < 713 → KD o = 9 → RV o 4 = o + 5 ∧ KD (o + 5) = 20 := by
  intro o ho hk
  have h := kd_all (P := fun o => Nat.beq (RV o 4) (o + 5) && Nat.beq (KD (o + 5)) 20) (ci := 9) (by decide +kernel) o ho hk
  rw [Bool.and_eq_true] at h
  exact ⟨Nat.eq_of_beq_eq_true h.1, Nat.eq_of_beq_eq_true h.2⟩
theorem ro_9_4 {o : Nat} (h : KD o = 9) : RV o 4 = o + 5 := (roa_9_4 o (KD_lt h (by omega)) h).1
theorem ko_9_4 {o : Nat} (h : KD o = 9) : KD (o + 5) = 20 := (roa_9_4 o (KD_lt h (by omega)) h).2
theorem roa_9_5 : ∀ o, o < 713 → KD o = 9 → RV o 5 = o + 6 ∧ KD (o + 6) = 20 := by
  intro o ho hk
  have h := kd_all (P := fun o => Nat.beq (RV o 5) (o + 6) && Nat.beq (KD (o + 6)) 20) (ci := 9) (by decide +kernel) o ho hk
  rw [Bool.and_eq_true] at h
  exact ⟨Nat.eq_of_beq_eq_true h.1, Nat.eq_of_beq_eq_true h.2⟩
theorem ro_9_5 {o : Nat} (h : KD o = 9) : RV o 5 = o + 6 := (roa_9_5 o (KD_lt h (by omega)) h).1
theorem ko_9_5 {o : Nat} (h : KD o = 9) : KD (o + 6) = 20 := (roa_9_5 o (KD_lt h (by omega)) h).2
theorem roa_9_6 : ∀ o, o < 713 → KD o = 9 → RV o 6 = o + 7 ∧ KD (o + 7) = 20 := by
  intro o ho hk
  have h := kd_all (P := fun o => Nat.beq (RV o 6) (o + 7) && Nat.beq (KD (o + 7)) 20) (ci := 9) (by decide +kernel) o ho hk
  rw [Bool.and_eq_true] at h
  exact ⟨Nat.eq_of_beq_eq_true h.1, Nat.eq_of_beq_eq_true h.2⟩
theorem ro_9_6 {o : Nat} (h : KD o = 9) : RV o 6 = o + 7 := (roa_9_6 o (KD_lt h (by omega)) h).1
theorem ko_9_6 {o : Nat} (h : KD o = 9) : KD (o + 7) = 20 := (roa_9_6 o (KD_lt h (by omega)) h).2
theorem roa_9_7 : ∀ o, o < 713 → KD o = 9 → RV o 7 = o + 8 ∧ KD (o + 8) = 20 := by
  intro o ho hk
  have h := kd_all (P := fun o => Nat.beq (RV o 7) (o + 8) && Nat.beq (KD (o + 8)) 20) (ci := 9) (by decide +kernel) o ho hk
  rw [Bool.and_eq_true] at h
  exact ⟨Nat.eq_of_beq_eq_true h.1, Nat.eq_of_beq_eq_true h.2⟩
theorem ro_9_7 {o : Nat} (h : KD o = 9) : RV o 7 = o + 8 := (roa_9_7 o (KD_lt h (by omega)) h).1
theorem ko_9_7 {o : Nat} (h : KD o = 9) : KD (o + 8) = 20 := (roa_9_7 o (KD_lt h (by omega)) h).2
theorem roa_9_8 : ∀ o, o < 713 → KD o = 9 → RV o 8 = o + 9 ∧ KD (o + 9) = 20 := by
  intro o ho hk
  have h := kd_all (P := fun o => Nat.beq (RV o 8) (o + 9) && Nat.beq (KD (o + 9)) 20) (ci := 9) (by decide +kernel) o ho hk
  rw [Bool.and_eq_true] at h
  exact ⟨Nat.eq_of_beq_eq_true h.1, Nat.eq_of_beq_eq_true h.2⟩
theorem ro_9_8 {o : Nat} (h : KD o = 9) : RV o 8 = o + 9 := (roa_9_8 o (KD_lt h (by omega)) h).1
theorem ko_9_8 {o : Nat} (h : KD o = 9) : KD (o + 9) = 20 := (roa_9_8 o (KD_lt h (by omega)) h).2
theorem roa_9_9 : ∀ o, o < 713 → KD o = 9 → RV o 9 = o + 10 ∧ KD (o + 10) = 20 := by
  intro o ho hk
  have h := kd_all (P := fun o => Nat.beq (RV o 9) (o + 10) && Nat.beq (KD (o + 10)) 20) (ci := 9) (by decide +kernel) o ho hk
  rw [Bool.and_eq_true] at h
  exact ⟨Nat.eq_of_beq_eq_true h.1, Nat.eq_of_beq_eq_true h.2⟩
theorem ro_9_9 {o : Nat} (h : KD o = 9) : RV o 9 = o + 10 := (roa_9_9 o (KD_lt h (by omega)) h).1
theorem ko_9_9 {o : Nat} (h : KD o = 9) : KD (o + 10) = 20 := (roa_9_9 o (KD_lt h (by omega)) h).2
theorem roa_9_10 : ∀ o, o < 713 → KD o = 9 → RV o 10 = o + 11 ∧ KD (o + 11) = 24 := by
  intro o ho hk
  have h := kd_all (P := fun o => Nat.beq (RV o 10) (o + 11) && Nat.beq (KD (o + 11)) 24) (ci := 9) (by decide +kernel) o ho hk
  rw [Bool.and_eq_true] at h
  exact ⟨Nat.eq_of_beq_eq_true h.1, Nat.eq_of_beq_eq_true h.2⟩
theorem ro_9_10 {o : Nat} (h : KD o = 9) : RV o 10 = o + 11 := (roa_9_10 o (KD_lt h (by omega)) h).1
theorem ko_9_10 {o : Nat} (h : KD o = 9) : KD (o + 11) = 24 := (roa_9_10 o (KD_lt h (by omega)) h).2
theorem roa_9_11 : ∀ o, o < 713 → KD o = 9 → RV o 11 = o + 38 ∧ KD (o + 38) = 23 := by
  intro o ho hk
  have h := kd_all (P := fun o => Nat.beq (RV o 11) (o + 38) && Nat.beq (KD (o + 38)) 23) (ci := 9) (by decide +kernel) o ho hk
  rw [Bool.and_eq_true] at h
  exact ⟨Nat.eq_of_beq_eq_true h.1, Nat.eq_of_beq_eq_true h.2⟩
theorem ro_9_11 {o : Nat} (h : KD o = 9) : RV o 11 = o + 38 := (roa_9_11 o (KD_lt h (by omega)) h).1
theorem ko_9_11 {o : Nat} (h : KD o = 9) : KD (o + 38) = 23 := (roa_9_11 o (KD_lt h (by omega)) h).2
theorem roa_9_13 : ∀ o, o < 713 → KD o = 9 → RV o 13 = o + 51 ∧ KD (o + 51) = 26 := by
  intro o ho hk
  have h := kd_all (P := fun o => Nat.beq (RV o 13) (o + 51) && Nat.beq (KD (o + 51)) 26) (ci := 9) (by decide +kernel) o ho hk
  rw [Bool.and_eq_true] at h
  exact ⟨Nat.eq_of_beq_eq_true h.1, Nat.eq_of_beq_eq_true h.2⟩
theorem ro_9_13 {o : Nat} (h : KD o = 9) : RV o 13 = o + 51 := (roa_9_13 o (KD_lt h (by omega)) h).1
theorem ko_9_13 {o : Nat} (h : KD o = 9) : KD (o + 51) = 26 := (roa_9_13 o (KD_lt h (by omega)) h).2
section FROWS
variable {D : va_G} {B : Nat} {Y : Nat → ClassId} {p : Program} {l : Launch} {e : Env} {R : Room} {s : State} {m : MethodId} {args : Array Value} {below : List Frame} {meth : Method} {c : Code} {H : Heap} {locs : List Loc} {cells slots : Nat} {Q : State → Prop} {cc : ByteArray} {n : Nat} {ret : Option FieldType} {w : Wd} {pc : Nat} {ls : Array Slot} {rest : List Value}
set_option maxRecDepth 100000 in
theorem fg_X0_9 (C : CX D B Y p s m args meth c cc n RX0 ret) (hH : HS D B Y w s H locs) (hdg : decode cc pc = .ok (.getfield 9, 3)) (kk : W p l e R s m args below meth c H locs cells slots Q (F0 m (pc + 3) ls (.ref (B + 1) :: rest))) : W p l e R s m args below meth c H locs cells slots Q (F0 m pc ls (.ref (B + 673) :: rest)) :=
  q_get C hH (ci := 0) (T := TX0) (N := 1) (j := 0) rfl inC_0 (by omega) rfl (by omega) wd_311  kc_673 (by unfold fv; rw [kc_673, if_pos (by decide +kernel)]; rfl) hdg kk
set_option maxRecDepth 100000 in
theorem fg_X10_12 (C : CX D B Y p s m args meth c cc n RX10 ret) (hH : HS D B Y w s H locs) (hdg : decode cc pc = .ok (.getfield 12, 3)) (kk : W p l e R s m args below meth c H locs cells slots Q (F0 m (pc + 3) ls (.ref (B + 1) :: rest))) : W p l e R s m args below meth c H locs cells slots Q (F0 m pc ls (.ref (B + 0) :: rest)) :=
  q_get C hH (ci := 10) (T := TX10) (N := 20) (j := 0) rfl inC_10 (by omega) rfl (by omega) wd_360  kc_0 (by unfold fv; rw [kc_0, if_pos (by decide +kernel)]; rfl) hdg kk
set_option maxRecDepth 100000 in
theorem fg_X10_16 (C : CX D B Y p s m args meth c cc n RX10 ret) (hH : HS D B Y w s H locs) (hdg : decode cc pc = .ok (.getfield 16, 3)) (kk : W p l e R s m args below meth c H locs cells slots Q (F0 m (pc + 3) ls (.ref (B + 125) :: rest))) : W p l e R s m args below meth c H locs cells slots Q (F0 m pc ls (.ref (B + 0) :: rest)) :=
  q_get C hH (ci := 10) (T := TX10) (N := 20) (j := 1) rfl inC_10 (by omega) rfl (by omega) wd_361  kc_0 (by unfold fv; rw [kc_0, if_pos (by decide +kernel)]; rfl) hdg kk
set_option maxRecDepth 100000 in
theorem fg_X10_22 (C : CX D B Y p s m args meth c cc n RX10 ret) (hH : HS D B Y w s H locs) (hdg : decode cc pc = .ok (.getfield 22, 3)) (kk : W p l e R s m args below meth c H locs cells slots Q (F0 m (pc + 3) ls (.ref (B + 622) :: rest))) : W p l e R s m args below meth c H locs cells slots Q (F0 m pc ls (.ref (B + 0) :: rest)) :=
  q_get C hH (ci := 10) (T := TX10) (N := 20) (j := 3) rfl inC_10 (by omega) rfl (by omega) wd_363  kc_0 (by unfold fv; rw [kc_0, if_pos (by decide +kernel)]; rfl) hdg kk
set_option maxRecDepth 100000 in
theorem fg_X10_221 (C : CX D B Y p s m args meth c cc n RX10 ret) (hH : HS D B Y w s H locs) (hdg : decode cc pc = .ok (.getfield 221, 3)) (kk : W p l e R s m args below meth c H locs cells slots Q (F0 m (pc + 3) ls (.int (w.1 0 2) :: rest))) : W p l e R s m args below meth c H locs cells slots Q (F0 m pc ls (.ref (B + 0) :: rest)) :=
  q_get C hH (ci := 10) (T := TX10) (N := 20) (j := 2) rfl inC_10 (by omega) rfl (by omega) wd_362  kc_0 (by unfold fv; rw [kc_0, if_neg (by decide +kernel)]) hdg kk
set_option maxRecDepth 100000 in
theorem fg_X10_29 (C : CX D B Y p s m args meth c cc n RX10 ret) (hH : HS D B Y w s H locs) (hdg : decode cc pc = .ok (.getfield 29, 3)) (kk : W p l e R s m args below meth c H locs cells slots Q (F0 m (pc + 3) ls (.ref (B + 635) :: rest))) : W p l e R s m args below meth c H locs cells slots Q (F0 m pc ls (.ref (B + 0) :: rest)) :=
  q_get C hH (ci := 10) (T := TX10) (N := 20) (j := 4) rfl inC_10 (by omega) rfl (by omega) wd_364  kc_0 (by unfold fv; rw [kc_0, if_pos (by decide +kernel)]; rfl) hdg kk
set_option maxRecDepth 100000 in
theorem fg_X10_319 (C : CX D B Y p s m args meth c cc n RX10 ret) (hH : HS D B Y w s H locs) (hdg : decode cc pc = .ok (.getfield 319, 3)) (kk : W p l e R s m args below meth c H locs cells slots Q (F0 m (pc + 3) ls (.int (w.1 0 11) :: rest))) : W p l e R s m args below meth c H locs cells slots Q (F0 m pc ls (.ref (B + 0) :: rest)) :=
  q_get C hH (ci := 10) (T := TX10) (N := 20) (j := 11) rfl inC_10 (by omega) rfl (by omega) wd_371  kc_0 (by unfold fv; rw [kc_0, if_neg (by decide +kernel)]) hdg kk
set_option maxRecDepth 100000 in
theorem fg_X10_33 (C : CX D B Y p s m args meth c cc n RX10 ret) (hH : HS D B Y w s H locs) (hdg : decode cc pc = .ok (.getfield 33, 3)) (kk : W p l e R s m args below meth c H locs cells slots Q (F0 m (pc + 3) ls (.ref (B + 637) :: rest))) : W p l e R s m args below meth c H locs cells slots Q (F0 m pc ls (.ref (B + 0) :: rest)) :=
  q_get C hH (ci := 10) (T := TX10) (N := 20) (j := 5) rfl inC_10 (by omega) rfl (by omega) wd_365  kc_0 (by unfold fv; rw [kc_0, if_pos (by decide +kernel)]; rfl) hdg kk
set_option maxRecDepth 100000 in
theorem fg_X10_41 (C : CX D B Y p s m args meth c cc n RX10 ret) (hH : HS D B Y w s H locs) (hdg : decode cc pc = .ok (.getfield 41, 3)) (kk : W p l e R s m args below meth c H locs cells slots Q (F0 m (pc + 3) ls (.ref (B + 639) :: rest))) : W p l e R s m args below meth c H locs cells slots Q (F0 m pc ls (.ref (B + 0) :: rest)) :=
  q_get C hH (ci := 10) (T := TX10) (N := 20) (j := 6) rfl inC_10 (by omega) rfl (by omega) wd_366  kc_0 (by unfold fv; rw [kc_0, if_pos (by decide +kernel)]; rfl) hdg kk
set_option maxRecDepth 100000 in
theorem fg_X10_48 (C : CX D B Y p s m args meth c cc n RX10 ret) (hH : HS D B Y w s H locs) (hdg : decode cc pc = .ok (.getfield 48, 3)) (kk : W p l e R s m args below meth c H locs cells slots Q (F0 m (pc + 3) ls (.ref (B + 650) :: rest))) : W p l e R s m args below meth c H locs cells slots Q (F0 m pc ls (.ref (B + 0) :: rest)) :=
  q_get C hH (ci := 10) (T := TX10) (N := 20) (j := 7) rfl inC_10 (by omega) rfl (by omega) wd_367  kc_0 (by unfold fv; rw [kc_0, if_pos (by decide +kernel)]; rfl) hdg kk
set_option maxRecDepth 100000 in
theorem fg_X10_55 (C : CX D B Y p s m args meth c cc n RX10 ret) (hH : HS D B Y w s H locs) (hdg : decode cc pc = .ok (.getfield 55, 3)) (kk : W p l e R s m args below meth c H locs cells slots Q (F0 m (pc + 3) ls (.ref (B + 673) :: rest))) : W p l e R s m args below meth c H locs cells slots Q (F0 m pc ls (.ref (B + 0) :: rest)) :=
  q_get C hH (ci := 10) (T := TX10) (N := 20) (j := 8) rfl inC_10 (by omega) rfl (by omega) wd_368  kc_0 (by unfold fv; rw [kc_0, if_pos (by decide +kernel)]; rfl) hdg kk
set_option maxRecDepth 100000 in
theorem fg_X10_62 (C : CX D B Y p s m args meth c cc n RX10 ret) (hH : HS D B Y w s H locs) (hdg : decode cc pc = .ok (.getfield 62, 3)) (kk : W p l e R s m args below meth c H locs cells slots Q (F0 m (pc + 3) ls (.ref (B + w.2.1) :: rest))) : W p l e R s m args below meth c H locs cells slots Q (F0 m pc ls (.ref (B + 0) :: rest)) :=
  q_get C hH (ci := 10) (T := TX10) (N := 20) (j := 9) rfl inC_10 (by omega) rfl (by omega) wd_369  kc_0 (by unfold fv; rw [kc_0, if_pos (by decide +kernel)]; rfl) hdg kk
set_option maxRecDepth 100000 in
theorem fg_X10_66 (C : CX D B Y p s m args meth c cc n RX10 ret) (hH : HS D B Y w s H locs) (hdg : decode cc pc = .ok (.getfield 66, 3)) (kk : W p l e R s m args below meth c H locs cells slots Q (F0 m (pc + 3) ls (.ref (B + w.2.2.1) :: rest))) : W p l e R s m args below meth c H locs cells slots Q (F0 m pc ls (.ref (B + 0) :: rest)) :=
  q_get C hH (ci := 10) (T := TX10) (N := 20) (j := 10) rfl inC_10 (by omega) rfl (by omega) wd_370  kc_0 (by unfold fv; rw [kc_0, if_pos (by decide +kernel)]; rfl) hdg kk
set_option maxRecDepth 100000 in
theorem fg_X10_74 (C : CX D B Y p s m args meth c cc n RX10 ret) (hH : HS D B Y w s H locs) (hdg : decode cc pc = .ok (.getfield 74, 3)) (kk : W p l e R s m args below meth c H locs cells slots Q (F0 m (pc + 3) ls (.ref (B + 692) :: rest))) : W p l e R s m args below meth c H locs cells slots Q (F0 m pc ls (.ref (B + 0) :: rest)) :=
  q_get C hH (ci := 10) (T := TX10) (N := 20) (j := 12) rfl inC_10 (by omega) rfl (by omega) wd_372  kc_0 (by unfold fv; rw [kc_0, if_pos (by decide +kernel)]; rfl) hdg kk
set_option maxRecDepth 100000 in
theorem fg_X10_78 (C : CX D B Y p s m args meth c cc n RX10 ret) (hH : HS D B Y w s H locs) (hdg : decode cc pc = .ok (.getfield 78, 3)) (kk : W p l e R s m args below meth c H locs cells slots Q (F0 m (pc + 3) ls (.ref (B + 699) :: rest))) : W p l e R s m args below meth c H locs cells slots Q (F0 m pc ls (.ref (B + 0) :: rest)) :=
  q_get C hH (ci := 10) (T := TX10) (N := 20) (j := 13) rfl inC_10 (by omega) rfl (by omega) wd_373  kc_0 (by unfold fv; rw [kc_0, if_pos (by decide +kernel)]; rfl) hdg kk
set_option maxRecDepth 100000 in
theorem fg_X10_81 (C : CX D B Y p s m args meth c cc n RX10 ret) (hH : HS D B Y w s H locs) (hdg : decode cc pc = .ok (.getfield 81, 3)) (kk : W p l e R s m args below meth c H locs cells slots Q (F0 m (pc + 3) ls (.ref (B + 701) :: rest))) : W p l e R s m args below meth c H locs cells slots Q (F0 m pc ls (.ref (B + 0) :: rest)) :=
  q_get C hH (ci := 10) (T := TX10) (N := 20) (j := 14) rfl inC_10 (by omega) rfl (by omega) wd_374  kc_0 (by unfold fv; rw [kc_0, if_pos (by decide +kernel)]; rfl) hdg kk
set_option maxRecDepth 100000 in
theorem fg_X10_84 (C : CX D B Y p s m args meth c cc n RX10 ret) (hH : HS D B Y w s H locs) (hdg : decode cc pc = .ok (.getfield 84, 3)) (kk : W p l e R s m args below meth c H locs cells slots Q (F0 m (pc + 3) ls (.ref (B + 703) :: rest))) : W p l e R s m args below meth c H locs cells slots Q (F0 m pc ls (.ref (B + 0) :: rest)) :=
  q_get C hH (ci := 10) (T := TX10) (N := 20) (j := 15) rfl inC_10 (by omega) rfl (by omega) wd_375  kc_0 (by unfold fv; rw [kc_0, if_pos (by decide +kernel)]; rfl) hdg kk
set_option maxRecDepth 100000 in
theorem fg_X10_87 (C : CX D B Y p s m args meth c cc n RX10 ret) (hH : HS D B Y w s H locs) (hdg : decode cc pc = .ok (.getfield 87, 3)) (kk : W p l e R s m args below meth c H locs cells slots Q (F0 m (pc + 3) ls (.ref (B + 705) :: rest))) : W p l e R s m args below meth c H locs cells slots Q (F0 m pc ls (.ref (B + 0) :: rest)) :=
  q_get C hH (ci := 10) (T := TX10) (N := 20) (j := 16) rfl inC_10 (by omega) rfl (by omega) wd_376  kc_0 (by unfold fv; rw [kc_0, if_pos (by decide +kernel)]; rfl) hdg kk
set_option maxRecDepth 100000 in
theorem fg_X10_90 (C : CX D B Y p s m args meth c cc n RX10 ret) (hH : HS D B Y w s H locs) (hdg : decode cc pc = .ok (.getfield 90, 3)) (kk : W p l e R s m args below meth c H locs cells slots Q (F0 m (pc + 3) ls (.ref (B + 707) :: rest))) : W p l e R s m args below meth c H locs cells slots Q (F0 m pc ls (.ref (B + 0) :: rest)) :=
  q_get C hH (ci := 10) (T := TX10) (N := 20) (j := 17) rfl inC_10 (by omega) rfl (by omega) wd_377  kc_0 (by unfold fv; rw [kc_0, if_pos (by decide +kernel)]; rfl) hdg kk
set_option maxRecDepth 100000 in
theorem fg_X10_93 (C : CX D B Y p s m args meth c cc n RX10 ret) (hH : HS D B Y w s H locs) (hdg : decode cc pc = .ok (.getfield 93, 3)) (kk : W p l e R s m args below meth c H locs cells slots Q (F0 m (pc + 3) ls (.ref (B + 709) :: rest))) : W p l e R s m args below meth c H locs cells slots Q (F0 m pc ls (.ref (B + 0) :: rest)) :=
  q_get C hH (ci := 10) (T := TX10) (N := 20) (j := 18) rfl inC_10 (by omega) rfl (by omega) wd_378  kc_0 (by unfold fv; rw [kc_0, if_pos (by decide +kernel)]; rfl) hdg kk
set_option maxRecDepth 100000 in
theorem fg_X10_96 (C : CX D B Y p s m args meth c cc n RX10 ret) (hH : HS D B Y w s H locs) (hdg : decode cc pc = .ok (.getfield 96, 3)) (kk : W p l e R s m args below meth c H locs cells slots Q (F0 m (pc + 3) ls (.ref (B + 711) :: rest))) : W p l e R s m args below meth c H locs cells slots Q (F0 m pc ls (.ref (B + 0) :: rest)) :=
  q_get C hH (ci := 10) (T := TX10) (N := 20) (j := 19) rfl inC_10 (by omega) rfl (by omega) wd_379  kc_0 (by unfold fv; rw [kc_0, if_pos (by decide +kernel)]; rfl) hdg kk
set_option maxRecDepth 100000 in
theorem fg_X1_20 (C : CX D B Y p s m args meth c cc n RX1 ret) (hH : HS D B Y w s H locs) (hdg : decode cc pc = .ok (.getfield 20, 3)) (kk : W p l e R s m args below meth c H locs cells slots Q (F0 m (pc + 3) ls (.ref (B + 640) :: rest))) : W p l e R s m args below meth c H locs cells slots Q (F0 m pc ls (.ref (B + 639) :: rest)) :=
  q_get C hH (ci := 1) (T := TX1) (N := 6) (j := 1) rfl inC_1 (by omega) rfl (by omega) wd_242  kc_639 (by unfold fv; rw [kc_639, if_pos (by decide +kernel)]; rfl) hdg kk
set_option maxRecDepth 100000 in
theorem fg_X1_24 (C : CX D B Y p s m args meth c cc n RX1 ret) (hH : HS D B Y w s H locs) (hdg : decode cc pc = .ok (.getfield 24, 3)) (kk : W p l e R s m args below meth c H locs cells slots Q (F0 m (pc + 3) ls (.ref (B + 642) :: rest))) : W p l e R s m args below meth c H locs cells slots Q (F0 m pc ls (.ref (B + 639) :: rest)) :=
  q_get C hH (ci := 1) (T := TX1) (N := 6) (j := 2) rfl inC_1 (by omega) rfl (by omega) wd_243  kc_639 (by unfold fv; rw [kc_639, if_pos (by decide +kernel)]; rfl) hdg kk
set_option maxRecDepth 100000 in
theorem fg_X1_27 (C : CX D B Y p s m args meth c cc n RX1 ret) (hH : HS D B Y w s H locs) (hdg : decode cc pc = .ok (.getfield 27, 3)) (kk : W p l e R s m args below meth c H locs cells slots Q (F0 m (pc + 3) ls (.ref (B + 644) :: rest))) : W p l e R s m args below meth c H locs cells slots Q (F0 m pc ls (.ref (B + 639) :: rest)) :=
  q_get C hH (ci := 1) (T := TX1) (N := 6) (j := 3) rfl inC_1 (by omega) rfl (by omega) wd_244  kc_639 (by unfold fv; rw [kc_639, if_pos (by decide +kernel)]; rfl) hdg kk
set_option maxRecDepth 100000 in
theorem fg_X1_30 (C : CX D B Y p s m args meth c cc n RX1 ret) (hH : HS D B Y w s H locs) (hdg : decode cc pc = .ok (.getfield 30, 3)) (kk : W p l e R s m args below meth c H locs cells slots Q (F0 m (pc + 3) ls (.ref (B + 646) :: rest))) : W p l e R s m args below meth c H locs cells slots Q (F0 m pc ls (.ref (B + 639) :: rest)) :=
  q_get C hH (ci := 1) (T := TX1) (N := 6) (j := 4) rfl inC_1 (by omega) rfl (by omega) wd_245  kc_639 (by unfold fv; rw [kc_639, if_pos (by decide +kernel)]; rfl) hdg kk
set_option maxRecDepth 100000 in
theorem fg_X1_33 (C : CX D B Y p s m args meth c cc n RX1 ret) (hH : HS D B Y w s H locs) (hdg : decode cc pc = .ok (.getfield 33, 3)) (kk : W p l e R s m args below meth c H locs cells slots Q (F0 m (pc + 3) ls (.ref (B + 648) :: rest))) : W p l e R s m args below meth c H locs cells slots Q (F0 m pc ls (.ref (B + 639) :: rest)) :=
  q_get C hH (ci := 1) (T := TX1) (N := 6) (j := 5) rfl inC_1 (by omega) rfl (by omega) wd_246  kc_639 (by unfold fv; rw [kc_639, if_pos (by decide +kernel)]; rfl) hdg kk
set_option maxRecDepth 100000 in
theorem fg_X1_9 (C : CX D B Y p s m args meth c cc n RX1 ret) (hH : HS D B Y w s H locs) (hdg : decode cc pc = .ok (.getfield 9, 3)) (kk : W p l e R s m args below meth c H locs cells slots Q (F0 m (pc + 3) ls (.ref (B + 1) :: rest))) : W p l e R s m args below meth c H locs cells slots Q (F0 m pc ls (.ref (B + 639) :: rest)) :=
  q_get C hH (ci := 1) (T := TX1) (N := 6) (j := 0) rfl inC_1 (by omega) rfl (by omega) wd_241  kc_639 (by unfold fv; rw [kc_639, if_pos (by decide +kernel)]; rfl) hdg kk
set_option maxRecDepth 100000 in
theorem fg_X2_15 (C : CX D B Y p s m args meth c cc n RX2 ret) (hH : HS D B Y w s H locs) {o : Nat} (hk : KD o = 2) (hdg : decode cc pc = .ok (.getfield 15, 3)) (kk : W p l e R s m args below meth c H locs cells slots Q (F0 m (pc + 3) ls (.ref (B + (o + 2)) :: rest))) : W p l e R s m args below meth c H locs cells slots Q (F0 m pc ls (.ref (B + o) :: rest)) :=
  q_get C hH (ci := 2) (T := TX2) (N := 7) (j := 1) rfl inC_2 (by omega) rfl (by omega) wd_135 hk (by unfold fv RVw; rw [hk, if_pos (by decide +kernel), if_neg (fun h => ko_ne0 hk (by omega) h.1), if_neg (fun h => ko_ne0 hk (by omega) h.1), ro_2_1 hk]) hdg kk
set_option maxRecDepth 100000 in
theorem fg_X2_18 (C : CX D B Y p s m args meth c cc n RX2 ret) (hH : HS D B Y w s H locs) {o : Nat} (hk : KD o = 2) (hdg : decode cc pc = .ok (.getfield 18, 3)) (kk : W p l e R s m args below meth c H locs cells slots Q (F0 m (pc + 3) ls (.ref (B + (o + 3)) :: rest))) : W p l e R s m args below meth c H locs cells slots Q (F0 m pc ls (.ref (B + o) :: rest)) :=
  q_get C hH (ci := 2) (T := TX2) (N := 7) (j := 2) rfl inC_2 (by omega) rfl (by omega) wd_136 hk (by unfold fv RVw; rw [hk, if_pos (by decide +kernel), if_neg (fun h => ko_ne0 hk (by omega) h.1), if_neg (fun h => ko_ne0 hk (by omega) h.1), ro_2_2 hk]) hdg kk
set_option maxRecDepth 100000 in
theorem fg_X2_26 (C : CX D B Y p s m args meth c cc n RX2 ret) (hH : HS D B Y w s H locs) {o : Nat} (hk : KD o = 2) (hdg : decode cc pc = .ok (.getfield 26, 3)) (kk : W p l e R s m args below meth c H locs cells slots Q (F0 m (pc + 3) ls (.ref (B + (o + 4)) :: rest))) : W p l e R s m args below meth c H locs cells slots Q (F0 m pc ls (.ref (B + o) :: rest)) :=
  q_get C hH (ci := 2) (T := TX2) (N := 7) (j := 3) rfl inC_2 (by omega) rfl (by omega) wd_137 hk (by unfold fv RVw; rw [hk, if_pos (by decide +kernel), if_neg (fun h => ko_ne0 hk (by omega) h.1), if_neg (fun h => ko_ne0 hk (by omega) h.1), ro_2_3 hk]) hdg kk
set_option maxRecDepth 100000 in
theorem fg_X2_30 (C : CX D B Y p s m args meth c cc n RX2 ret) (hH : HS D B Y w s H locs) {o : Nat} (hk : KD o = 2) (hdg : decode cc pc = .ok (.getfield 30, 3)) (kk : W p l e R s m args below meth c H locs cells slots Q (F0 m (pc + 3) ls (.ref (B + (o + 6)) :: rest))) : W p l e R s m args below meth c H locs cells slots Q (F0 m pc ls (.ref (B + o) :: rest)) :=
  q_get C hH (ci := 2) (T := TX2) (N := 7) (j := 4) rfl inC_2 (by omega) rfl (by omega) wd_138 hk (by unfold fv RVw; rw [hk, if_pos (by decide +kernel), if_neg (fun h => ko_ne0 hk (by omega) h.1), if_neg (fun h => ko_ne0 hk (by omega) h.1), ro_2_4 hk]) hdg kk
set_option maxRecDepth 100000 in
theorem fg_X2_35 (C : CX D B Y p s m args meth c cc n RX2 ret) (hH : HS D B Y w s H locs) {o : Nat} (hk : KD o = 2) (hdg : decode cc pc = .ok (.getfield 35, 3)) (kk : W p l e R s m args below meth c H locs cells slots Q (F0 m (pc + 3) ls (.ref (B + (o + 8)) :: rest))) : W p l e R s m args below meth c H locs cells slots Q (F0 m pc ls (.ref (B + o) :: rest)) :=
  q_get C hH (ci := 2) (T := TX2) (N := 7) (j := 5) rfl inC_2 (by omega) rfl (by omega) wd_139 hk (by unfold fv RVw; rw [hk, if_pos (by decide +kernel), if_neg (fun h => ko_ne0 hk (by omega) h.1), if_neg (fun h => ko_ne0 hk (by omega) h.1), ro_2_5 hk]) hdg kk
set_option maxRecDepth 100000 in
theorem fg_X2_52 (C : CX D B Y p s m args meth c cc n RX2 ret) (hH : HS D B Y w s H locs) {o : Nat} (hk : KD o = 2) (hdg : decode cc pc = .ok (.getfield 52, 3)) (kk : W p l e R s m args below meth c H locs cells slots Q (F0 m (pc + 3) ls (.int (w.1 o 6) :: rest))) : W p l e R s m args below meth c H locs cells slots Q (F0 m pc ls (.ref (B + o) :: rest)) :=
  q_get C hH (ci := 2) (T := TX2) (N := 7) (j := 6) rfl inC_2 (by omega) rfl (by omega) wd_140 hk (by unfold fv; rw [hk, if_neg (by decide +kernel)]) hdg kk
set_option maxRecDepth 100000 in
theorem fg_X2_9 (C : CX D B Y p s m args meth c cc n RX2 ret) (hH : HS D B Y w s H locs) {o : Nat} (hk : KD o = 2) (hdg : decode cc pc = .ok (.getfield 9, 3)) (kk : W p l e R s m args below meth c H locs cells slots Q (F0 m (pc + 3) ls (.ref (B + (o + 1)) :: rest))) : W p l e R s m args below meth c H locs cells slots Q (F0 m pc ls (.ref (B + o) :: rest)) :=
  q_get C hH (ci := 2) (T := TX2) (N := 7) (j := 0) rfl inC_2 (by omega) rfl (by omega) wd_134 hk (by unfold fv RVw; rw [hk, if_pos (by decide +kernel), if_neg (fun h => ko_ne0 hk (by omega) h.1), if_neg (fun h => ko_ne0 hk (by omega) h.1), ro_2_0 hk]) hdg kk
set_option maxRecDepth 100000 in
theorem fg_X3_20 (C : CX D B Y p s m args meth c cc n RX3 ret) (hH : HS D B Y w s H locs) (hdg : decode cc pc = .ok (.getfield 20, 3)) (kk : W p l e R s m args below meth c H locs cells slots Q (F0 m (pc + 3) ls (.ref (B + 651) :: rest))) : W p l e R s m args below meth c H locs cells slots Q (F0 m pc ls (.ref (B + 650) :: rest)) :=
  q_get C hH (ci := 3) (T := TX3) (N := 12) (j := 1) rfl inC_3 (by omega) rfl (by omega) wd_269  kc_650 (by unfold fv; rw [kc_650, if_pos (by decide +kernel)]; rfl) hdg kk
set_option maxRecDepth 100000 in
theorem fg_X3_24 (C : CX D B Y p s m args meth c cc n RX3 ret) (hH : HS D B Y w s H locs) (hdg : decode cc pc = .ok (.getfield 24, 3)) (kk : W p l e R s m args below meth c H locs cells slots Q (F0 m (pc + 3) ls (.ref (B + 653) :: rest))) : W p l e R s m args below meth c H locs cells slots Q (F0 m pc ls (.ref (B + 650) :: rest)) :=
  q_get C hH (ci := 3) (T := TX3) (N := 12) (j := 2) rfl inC_3 (by omega) rfl (by omega) wd_270  kc_650 (by unfold fv; rw [kc_650, if_pos (by decide +kernel)]; rfl) hdg kk
set_option maxRecDepth 100000 in
theorem fg_X3_27 (C : CX D B Y p s m args meth c cc n RX3 ret) (hH : HS D B Y w s H locs) (hdg : decode cc pc = .ok (.getfield 27, 3)) (kk : W p l e R s m args below meth c H locs cells slots Q (F0 m (pc + 3) ls (.ref (B + 655) :: rest))) : W p l e R s m args below meth c H locs cells slots Q (F0 m pc ls (.ref (B + 650) :: rest)) :=
  q_get C hH (ci := 3) (T := TX3) (N := 12) (j := 3) rfl inC_3 (by omega) rfl (by omega) wd_271  kc_650 (by unfold fv; rw [kc_650, if_pos (by decide +kernel)]; rfl) hdg kk
set_option maxRecDepth 100000 in
theorem fg_X3_30 (C : CX D B Y p s m args meth c cc n RX3 ret) (hH : HS D B Y w s H locs) (hdg : decode cc pc = .ok (.getfield 30, 3)) (kk : W p l e R s m args below meth c H locs cells slots Q (F0 m (pc + 3) ls (.ref (B + 657) :: rest))) : W p l e R s m args below meth c H locs cells slots Q (F0 m pc ls (.ref (B + 650) :: rest)) :=
  q_get C hH (ci := 3) (T := TX3) (N := 12) (j := 4) rfl inC_3 (by omega) rfl (by omega) wd_272  kc_650 (by unfold fv; rw [kc_650, if_pos (by decide +kernel)]; rfl) hdg kk
set_option maxRecDepth 100000 in
theorem fg_X3_33 (C : CX D B Y p s m args meth c cc n RX3 ret) (hH : HS D B Y w s H locs) (hdg : decode cc pc = .ok (.getfield 33, 3)) (kk : W p l e R s m args below meth c H locs cells slots Q (F0 m (pc + 3) ls (.ref (B + 659) :: rest))) : W p l e R s m args below meth c H locs cells slots Q (F0 m pc ls (.ref (B + 650) :: rest)) :=
  q_get C hH (ci := 3) (T := TX3) (N := 12) (j := 5) rfl inC_3 (by omega) rfl (by omega) wd_273  kc_650 (by unfold fv; rw [kc_650, if_pos (by decide +kernel)]; rfl) hdg kk
set_option maxRecDepth 100000 in
theorem fg_X3_36 (C : CX D B Y p s m args meth c cc n RX3 ret) (hH : HS D B Y w s H locs) (hdg : decode cc pc = .ok (.getfield 36, 3)) (kk : W p l e R s m args below meth c H locs cells slots Q (F0 m (pc + 3) ls (.ref (B + 661) :: rest))) : W p l e R s m args below meth c H locs cells slots Q (F0 m pc ls (.ref (B + 650) :: rest)) :=
  q_get C hH (ci := 3) (T := TX3) (N := 12) (j := 6) rfl inC_3 (by omega) rfl (by omega) wd_274  kc_650 (by unfold fv; rw [kc_650, if_pos (by decide +kernel)]; rfl) hdg kk
set_option maxRecDepth 100000 in
theorem fg_X3_39 (C : CX D B Y p s m args meth c cc n RX3 ret) (hH : HS D B Y w s H locs) (hdg : decode cc pc = .ok (.getfield 39, 3)) (kk : W p l e R s m args below meth c H locs cells slots Q (F0 m (pc + 3) ls (.ref (B + 663) :: rest))) : W p l e R s m args below meth c H locs cells slots Q (F0 m pc ls (.ref (B + 650) :: rest)) :=
  q_get C hH (ci := 3) (T := TX3) (N := 12) (j := 7) rfl inC_3 (by omega) rfl (by omega) wd_275  kc_650 (by unfold fv; rw [kc_650, if_pos (by decide +kernel)]; rfl) hdg kk
set_option maxRecDepth 100000 in
theorem fg_X3_42 (C : CX D B Y p s m args meth c cc n RX3 ret) (hH : HS D B Y w s H locs) (hdg : decode cc pc = .ok (.getfield 42, 3)) (kk : W p l e R s m args below meth c H locs cells slots Q (F0 m (pc + 3) ls (.ref (B + 665) :: rest))) : W p l e R s m args below meth c H locs cells slots Q (F0 m pc ls (.ref (B + 650) :: rest)) :=
  q_get C hH (ci := 3) (T := TX3) (N := 12) (j := 8) rfl inC_3 (by omega) rfl (by omega) wd_276  kc_650 (by unfold fv; rw [kc_650, if_pos (by decide +kernel)]; rfl) hdg kk
set_option maxRecDepth 100000 in
theorem fg_X3_45 (C : CX D B Y p s m args meth c cc n RX3 ret) (hH : HS D B Y w s H locs) (hdg : decode cc pc = .ok (.getfield 45, 3)) (kk : W p l e R s m args below meth c H locs cells slots Q (F0 m (pc + 3) ls (.ref (B + 667) :: rest))) : W p l e R s m args below meth c H locs cells slots Q (F0 m pc ls (.ref (B + 650) :: rest)) :=
  q_get C hH (ci := 3) (T := TX3) (N := 12) (j := 9) rfl inC_3 (by omega) rfl (by omega) wd_277  kc_650 (by unfold fv; rw [kc_650, if_pos (by decide +kernel)]; rfl) hdg kk
set_option maxRecDepth 100000 in
theorem fg_X3_48 (C : CX D B Y p s m args meth c cc n RX3 ret) (hH : HS D B Y w s H locs) (hdg : decode cc pc = .ok (.getfield 48, 3)) (kk : W p l e R s m args below meth c H locs cells slots Q (F0 m (pc + 3) ls (.ref (B + 669) :: rest))) : W p l e R s m args below meth c H locs cells slots Q (F0 m pc ls (.ref (B + 650) :: rest)) :=
  q_get C hH (ci := 3) (T := TX3) (N := 12) (j := 10) rfl inC_3 (by omega) rfl (by omega) wd_278  kc_650 (by unfold fv; rw [kc_650, if_pos (by decide +kernel)]; rfl) hdg kk
set_option maxRecDepth 100000 in
theorem fg_X3_51 (C : CX D B Y p s m args meth c cc n RX3 ret) (hH : HS D B Y w s H locs) (hdg : decode cc pc = .ok (.getfield 51, 3)) (kk : W p l e R s m args below meth c H locs cells slots Q (F0 m (pc + 3) ls (.ref (B + 671) :: rest))) : W p l e R s m args below meth c H locs cells slots Q (F0 m pc ls (.ref (B + 650) :: rest)) :=
  q_get C hH (ci := 3) (T := TX3) (N := 12) (j := 11) rfl inC_3 (by omega) rfl (by omega) wd_279  kc_650 (by unfold fv; rw [kc_650, if_pos (by decide +kernel)]; rfl) hdg kk
set_option maxRecDepth 100000 in
theorem fg_X3_9 (C : CX D B Y p s m args meth c cc n RX3 ret) (hH : HS D B Y w s H locs) (hdg : decode cc pc = .ok (.getfield 9, 3)) (kk : W p l e R s m args below meth c H locs cells slots Q (F0 m (pc + 3) ls (.ref (B + 1) :: rest))) : W p l e R s m args below meth c H locs cells slots Q (F0 m pc ls (.ref (B + 650) :: rest)) :=
  q_get C hH (ci := 3) (T := TX3) (N := 12) (j := 0) rfl inC_3 (by omega) rfl (by omega) wd_268  kc_650 (by unfold fv; rw [kc_650, if_pos (by decide +kernel)]; rfl) hdg kk
set_option maxRecDepth 100000 in
theorem fg_X4_20 (C : CX D B Y p s m args meth c cc n RX4 ret) (hH : HS D B Y w s H locs) (hdg : decode cc pc = .ok (.getfield 20, 3)) (kk : W p l e R s m args below meth c H locs cells slots Q (F0 m (pc + 3) ls (.ref (B + 693) :: rest))) : W p l e R s m args below meth c H locs cells slots Q (F0 m pc ls (.ref (B + 692) :: rest)) :=
  q_get C hH (ci := 4) (T := TX4) (N := 4) (j := 1) rfl inC_4 (by omega) rfl (by omega) wd_348  kc_692 (by unfold fv; rw [kc_692, if_pos (by decide +kernel)]; rfl) hdg kk
set_option maxRecDepth 100000 in
theorem fg_X4_23 (C : CX D B Y p s m args meth c cc n RX4 ret) (hH : HS D B Y w s H locs) (hdg : decode cc pc = .ok (.getfield 23, 3)) (kk : W p l e R s m args below meth c H locs cells slots Q (F0 m (pc + 3) ls (.ref (B + 695) :: rest))) : W p l e R s m args below meth c H locs cells slots Q (F0 m pc ls (.ref (B + 692) :: rest)) :=
  q_get C hH (ci := 4) (T := TX4) (N := 4) (j := 2) rfl inC_4 (by omega) rfl (by omega) wd_349  kc_692 (by unfold fv; rw [kc_692, if_pos (by decide +kernel)]; rfl) hdg kk
set_option maxRecDepth 100000 in
theorem fg_X4_26 (C : CX D B Y p s m args meth c cc n RX4 ret) (hH : HS D B Y w s H locs) (hdg : decode cc pc = .ok (.getfield 26, 3)) (kk : W p l e R s m args below meth c H locs cells slots Q (F0 m (pc + 3) ls (.ref (B + 697) :: rest))) : W p l e R s m args below meth c H locs cells slots Q (F0 m pc ls (.ref (B + 692) :: rest)) :=
  q_get C hH (ci := 4) (T := TX4) (N := 4) (j := 3) rfl inC_4 (by omega) rfl (by omega) wd_350  kc_692 (by unfold fv; rw [kc_692, if_pos (by decide +kernel)]; rfl) hdg kk
set_option maxRecDepth 100000 in
theorem fg_X4_9 (C : CX D B Y p s m args meth c cc n RX4 ret) (hH : HS D B Y w s H locs) (hdg : decode cc pc = .ok (.getfield 9, 3)) (kk : W p l e R s m args below meth c H locs cells slots Q (F0 m (pc + 3) ls (.ref (B + 635) :: rest))) : W p l e R s m args below meth c H locs cells slots Q (F0 m pc ls (.ref (B + 692) :: rest)) :=
  q_get C hH (ci := 4) (T := TX4) (N := 4) (j := 0) rfl inC_4 (by omega) rfl (by omega) wd_347  kc_692 (by unfold fv; rw [kc_692, if_pos (by decide +kernel)]; rfl) hdg kk
set_option maxRecDepth 100000 in
theorem fg_X5_14 (C : CX D B Y p s m args meth c cc n RX5 ret) (hH : HS D B Y w s H locs) {o : Nat} (hk : KD o = 5) (hdg : decode cc pc = .ok (.getfield 14, 3)) (kk : W p l e R s m args below meth c H locs cells slots Q (F0 m (pc + 3) ls (.ref (B + (o + 1)) :: rest))) : W p l e R s m args below meth c H locs cells slots Q (F0 m pc ls (.ref (B + o) :: rest)) :=
  q_get C hH (ci := 5) (T := TX5) (N := 5) (j := 0) rfl inC_5 (by omega) rfl (by omega) wd_323 hk (by unfold fv RVw; rw [hk, if_pos (by decide +kernel), if_neg (fun h => ko_ne0 hk (by omega) h.1), if_neg (fun h => ko_ne0 hk (by omega) h.1), ro_5_0 hk]) hdg kk
set_option maxRecDepth 100000 in
theorem fg_X5_20 (C : CX D B Y p s m args meth c cc n RX5 ret) (hH : HS D B Y w s H locs) {o : Nat} (hk : KD o = 5) (hdg : decode cc pc = .ok (.getfield 20, 3)) (kk : W p l e R s m args below meth c H locs cells slots Q (F0 m (pc + 3) ls (.ref (B + (o + 3)) :: rest))) : W p l e R s m args below meth c H locs cells slots Q (F0 m pc ls (.ref (B + o) :: rest)) :=
  q_get C hH (ci := 5) (T := TX5) (N := 5) (j := 1) rfl inC_5 (by omega) rfl (by omega) wd_324 hk (by unfold fv RVw; rw [hk, if_pos (by decide +kernel), if_neg (fun h => ko_ne0 hk (by omega) h.1), if_neg (fun h => ko_ne0 hk (by omega) h.1), ro_5_1 hk]) hdg kk
set_option maxRecDepth 100000 in
theorem fg_X5_23 (C : CX D B Y p s m args meth c cc n RX5 ret) (hH : HS D B Y w s H locs) {o : Nat} (hk : KD o = 5) (hdg : decode cc pc = .ok (.getfield 23, 3)) (kk : W p l e R s m args below meth c H locs cells slots Q (F0 m (pc + 3) ls (.ref (B + (o + 5)) :: rest))) : W p l e R s m args below meth c H locs cells slots Q (F0 m pc ls (.ref (B + o) :: rest)) :=
  q_get C hH (ci := 5) (T := TX5) (N := 5) (j := 2) rfl inC_5 (by omega) rfl (by omega) wd_325 hk (by unfold fv RVw; rw [hk, if_pos (by decide +kernel), if_neg (fun h => ko_ne0 hk (by omega) h.1), if_neg (fun h => ko_ne0 hk (by omega) h.1), ro_5_2 hk]) hdg kk
set_option maxRecDepth 100000 in
theorem fg_X5_26 (C : CX D B Y p s m args meth c cc n RX5 ret) (hH : HS D B Y w s H locs) {o : Nat} (hk : KD o = 5) (hdg : decode cc pc = .ok (.getfield 26, 3)) (kk : W p l e R s m args below meth c H locs cells slots Q (F0 m (pc + 3) ls (.ref (B + (o + 7)) :: rest))) : W p l e R s m args below meth c H locs cells slots Q (F0 m pc ls (.ref (B + o) :: rest)) :=
  q_get C hH (ci := 5) (T := TX5) (N := 5) (j := 3) rfl inC_5 (by omega) rfl (by omega) wd_326 hk (by unfold fv RVw; rw [hk, if_pos (by decide +kernel), if_neg (fun h => ko_ne0 hk (by omega) h.1), if_neg (fun h => ko_ne0 hk (by omega) h.1), ro_5_3 hk]) hdg kk
set_option maxRecDepth 100000 in
theorem fg_X5_36 (C : CX D B Y p s m args meth c cc n RX5 ret) (hH : HS D B Y w s H locs) {o : Nat} (hk : KD o = 5) (hdg : decode cc pc = .ok (.getfield 36, 3)) (kk : W p l e R s m args below meth c H locs cells slots Q (F0 m (pc + 3) ls (.int (w.1 o 4) :: rest))) : W p l e R s m args below meth c H locs cells slots Q (F0 m pc ls (.ref (B + o) :: rest)) :=
  q_get C hH (ci := 5) (T := TX5) (N := 5) (j := 4) rfl inC_5 (by omega) rfl (by omega) wd_327 hk (by unfold fv; rw [hk, if_neg (by decide +kernel)]) hdg kk
set_option maxRecDepth 100000 in
theorem fg_X6_13 (C : CX D B Y p s m args meth c cc n RX6 ret) (hH : HS D B Y w s H locs) {o : Nat} (hk : KD o = 6) (hdg : decode cc pc = .ok (.getfield 13, 3)) (kk : W p l e R s m args below meth c H locs cells slots Q (F0 m (pc + 3) ls (.int (w.1 o 0) :: rest))) : W p l e R s m args below meth c H locs cells slots Q (F0 m pc ls (.ref (B + o) :: rest)) :=
  q_get C hH (ci := 6) (T := TX6) (N := 7) (j := 0) rfl inC_6 (by omega) rfl (by omega) wd_112 hk (by unfold fv; rw [hk, if_neg (by decide +kernel)]) hdg kk
set_option maxRecDepth 100000 in
theorem fg_X6_16 (C : CX D B Y p s m args meth c cc n RX6 ret) (hH : HS D B Y w s H locs) {o : Nat} (hk : KD o = 6) (hdg : decode cc pc = .ok (.getfield 16, 3)) (kk : W p l e R s m args below meth c H locs cells slots Q (F0 m (pc + 3) ls (.int (w.1 o 2) :: rest))) : W p l e R s m args below meth c H locs cells slots Q (F0 m pc ls (.ref (B + o) :: rest)) :=
  q_get C hH (ci := 6) (T := TX6) (N := 7) (j := 2) rfl inC_6 (by omega) rfl (by omega) wd_114 hk (by unfold fv; rw [hk, if_neg (by decide +kernel)]) hdg kk
set_option maxRecDepth 100000 in
theorem fg_X6_19 (C : CX D B Y p s m args meth c cc n RX6 ret) (hH : HS D B Y w s H locs) {o : Nat} (hk : KD o = 6) (hdg : decode cc pc = .ok (.getfield 19, 3)) (kk : W p l e R s m args below meth c H locs cells slots Q (F0 m (pc + 3) ls (.int (w.1 o 3) :: rest))) : W p l e R s m args below meth c H locs cells slots Q (F0 m pc ls (.ref (B + o) :: rest)) :=
  q_get C hH (ci := 6) (T := TX6) (N := 7) (j := 3) rfl inC_6 (by omega) rfl (by omega) wd_115 hk (by unfold fv; rw [hk, if_neg (by decide +kernel)]) hdg kk
set_option maxRecDepth 100000 in
theorem fg_X6_22 (C : CX D B Y p s m args meth c cc n RX6 ret) (hH : HS D B Y w s H locs) {o : Nat} (hk : KD o = 6) (hdg : decode cc pc = .ok (.getfield 22, 3)) (kk : W p l e R s m args below meth c H locs cells slots Q (F0 m (pc + 3) ls (.int (w.1 o 4) :: rest))) : W p l e R s m args below meth c H locs cells slots Q (F0 m pc ls (.ref (B + o) :: rest)) :=
  q_get C hH (ci := 6) (T := TX6) (N := 7) (j := 4) rfl inC_6 (by omega) rfl (by omega) wd_116 hk (by unfold fv; rw [hk, if_neg (by decide +kernel)]) hdg kk
set_option maxRecDepth 100000 in
theorem fg_X6_25 (C : CX D B Y p s m args meth c cc n RX6 ret) (hH : HS D B Y w s H locs) {o : Nat} (hk : KD o = 6) (hdg : decode cc pc = .ok (.getfield 25, 3)) (kk : W p l e R s m args below meth c H locs cells slots Q (F0 m (pc + 3) ls (.int (w.1 o 5) :: rest))) : W p l e R s m args below meth c H locs cells slots Q (F0 m pc ls (.ref (B + o) :: rest)) :=
  q_get C hH (ci := 6) (T := TX6) (N := 7) (j := 5) rfl inC_6 (by omega) rfl (by omega) wd_117 hk (by unfold fv; rw [hk, if_neg (by decide +kernel)]) hdg kk
set_option maxRecDepth 100000 in
theorem fg_X6_28 (C : CX D B Y p s m args meth c cc n RX6 ret) (hH : HS D B Y w s H locs) {o : Nat} (hk : KD o = 6) (hdg : decode cc pc = .ok (.getfield 28, 3)) (kk : W p l e R s m args below meth c H locs cells slots Q (F0 m (pc + 3) ls (.int (w.1 o 6) :: rest))) : W p l e R s m args below meth c H locs cells slots Q (F0 m pc ls (.ref (B + o) :: rest)) :=
  q_get C hH (ci := 6) (T := TX6) (N := 7) (j := 6) rfl inC_6 (by omega) rfl (by omega) wd_118 hk (by unfold fv; rw [hk, if_neg (by decide +kernel)]) hdg kk
set_option maxRecDepth 100000 in
theorem fg_X6_7 (C : CX D B Y p s m args meth c cc n RX6 ret) (hH : HS D B Y w s H locs) {o : Nat} (hk : KD o = 6) (hdg : decode cc pc = .ok (.getfield 7, 3)) (kk : W p l e R s m args below meth c H locs cells slots Q (F0 m (pc + 3) ls (.int (w.1 o 1) :: rest))) : W p l e R s m args below meth c H locs cells slots Q (F0 m pc ls (.ref (B + o) :: rest)) :=
  q_get C hH (ci := 6) (T := TX6) (N := 7) (j := 1) rfl inC_6 (by omega) rfl (by omega) wd_113 hk (by unfold fv; rw [hk, if_neg (by decide +kernel)]) hdg kk
set_option maxRecDepth 100000 in
theorem fg_X7_15 (C : CX D B Y p s m args meth c cc n RX7 ret) (hH : HS D B Y w s H locs) {o : Nat} (hk : KD o = 7) (hdg : decode cc pc = .ok (.getfield 15, 3)) (kk : W p l e R s m args below meth c H locs cells slots Q (F0 m (pc + 3) ls (.int (w.1 o 1) :: rest))) : W p l e R s m args below meth c H locs cells slots Q (F0 m pc ls (.ref (B + o) :: rest)) :=
  q_get C hH (ci := 7) (T := TX7) (N := 2) (j := 1) rfl inC_7 (by omega) rfl (by omega) wd_98 hk (by unfold fv; rw [hk, if_neg (by decide +kernel)]) hdg kk
set_option maxRecDepth 100000 in
theorem fg_X7_9 (C : CX D B Y p s m args meth c cc n RX7 ret) (hH : HS D B Y w s H locs) {o : Nat} (hk : KD o = 7) (hdg : decode cc pc = .ok (.getfield 9, 3)) (kk : W p l e R s m args below meth c H locs cells slots Q (F0 m (pc + 3) ls (.ref (B + (o + 1)) :: rest))) : W p l e R s m args below meth c H locs cells slots Q (F0 m pc ls (.ref (B + o) :: rest)) :=
  q_get C hH (ci := 7) (T := TX7) (N := 2) (j := 0) rfl inC_7 (by omega) rfl (by omega) wd_97 hk (by unfold fv RVw; rw [hk, if_pos (by decide +kernel), if_neg (fun h => ko_ne0 hk (by omega) h.1), if_neg (fun h => ko_ne0 hk (by omega) h.1), ro_7_0 hk]) hdg kk
set_option maxRecDepth 100000 in
theorem fg_X8_14 (C : CX D B Y p s m args meth c cc n RX8 ret) (hH : HS D B Y w s H locs) {o : Nat} (hk : KD o = 8) (hdg : decode cc pc = .ok (.getfield 14, 3)) (kk : W p l e R s m args below meth c H locs cells slots Q (F0 m (pc + 3) ls (.ref (B + (o + 1)) :: rest))) : W p l e R s m args below meth c H locs cells slots Q (F0 m pc ls (.ref (B + o) :: rest)) :=
  q_get C hH (ci := 8) (T := TX8) (N := 5) (j := 1) rfl inC_8 (by omega) rfl (by omega) wd_169 hk (by unfold fv RVw; rw [hk, if_pos (by decide +kernel), if_neg (fun h => ko_ne0 hk (by omega) h.1), if_neg (fun h => ko_ne0 hk (by omega) h.1), ro_8_1 hk]) hdg kk
set_option maxRecDepth 100000 in
theorem fg_X8_20 (C : CX D B Y p s m args meth c cc n RX8 ret) (hH : HS D B Y w s H locs) {o : Nat} (hk : KD o = 8) (hdg : decode cc pc = .ok (.getfield 20, 3)) (kk : W p l e R s m args below meth c H locs cells slots Q (F0 m (pc + 3) ls (.ref (B + (o + 3)) :: rest))) : W p l e R s m args below meth c H locs cells slots Q (F0 m pc ls (.ref (B + o) :: rest)) :=
  q_get C hH (ci := 8) (T := TX8) (N := 5) (j := 2) rfl inC_8 (by omega) rfl (by omega) wd_170 hk (by unfold fv RVw; rw [hk, if_pos (by decide +kernel), if_neg (fun h => ko_ne0 hk (by omega) h.1), if_neg (fun h => ko_ne0 hk (by omega) h.1), ro_8_2 hk]) hdg kk
set_option maxRecDepth 100000 in
theorem fg_X8_23 (C : CX D B Y p s m args meth c cc n RX8 ret) (hH : HS D B Y w s H locs) {o : Nat} (hk : KD o = 8) (hdg : decode cc pc = .ok (.getfield 23, 3)) (kk : W p l e R s m args below meth c H locs cells slots Q (F0 m (pc + 3) ls (.ref (B + (o + 5)) :: rest))) : W p l e R s m args below meth c H locs cells slots Q (F0 m pc ls (.ref (B + o) :: rest)) :=
  q_get C hH (ci := 8) (T := TX8) (N := 5) (j := 3) rfl inC_8 (by omega) rfl (by omega) wd_171 hk (by unfold fv RVw; rw [hk, if_pos (by decide +kernel), if_neg (fun h => ko_ne0 hk (by omega) h.1), if_neg (fun h => ko_ne0 hk (by omega) h.1), ro_8_3 hk]) hdg kk
set_option maxRecDepth 100000 in
theorem fg_X8_26 (C : CX D B Y p s m args meth c cc n RX8 ret) (hH : HS D B Y w s H locs) {o : Nat} (hk : KD o = 8) (hdg : decode cc pc = .ok (.getfield 26, 3)) (kk : W p l e R s m args below meth c H locs cells slots Q (F0 m (pc + 3) ls (.ref (B + (o + 7)) :: rest))) : W p l e R s m args below meth c H locs cells slots Q (F0 m pc ls (.ref (B + o) :: rest)) :=
  q_get C hH (ci := 8) (T := TX8) (N := 5) (j := 4) rfl inC_8 (by omega) rfl (by omega) wd_172 hk (by unfold fv RVw; rw [hk, if_pos (by decide +kernel), if_neg (fun h => ko_ne0 hk (by omega) h.1), if_neg (fun h => ko_ne0 hk (by omega) h.1), ro_8_4 hk]) hdg kk
set_option maxRecDepth 100000 in
theorem fg_X8_29 (C : CX D B Y p s m args meth c cc n RX8 ret) (hH : HS D B Y w s H locs) {o : Nat} (hk : KD o = 8) (hdg : decode cc pc = .ok (.getfield 29, 3)) (kk : W p l e R s m args below meth c H locs cells slots Q (F0 m (pc + 3) ls (.int (w.1 o 0) :: rest))) : W p l e R s m args below meth c H locs cells slots Q (F0 m pc ls (.ref (B + o) :: rest)) :=
  q_get C hH (ci := 8) (T := TX8) (N := 5) (j := 0) rfl inC_8 (by omega) rfl (by omega) wd_168 hk (by unfold fv; rw [hk, if_neg (by decide +kernel)]) hdg kk
set_option maxRecDepth 100000 in
theorem fg_X9_15 (C : CX D B Y p s m args meth c cc n RX9 ret) (hH : HS D B Y w s H locs) {o : Nat} (hk : KD o = 9) (hdg : decode cc pc = .ok (.getfield 15, 3)) (kk : W p l e R s m args below meth c H locs cells slots Q (F0 m (pc + 3) ls (.ref (B + (o + 2)) :: rest))) : W p l e R s m args below meth c H locs cells slots Q (F0 m pc ls (.ref (B + o) :: rest)) :=
  q_get C hH (ci := 9) (T := TX9) (N := 15) (j := 1) rfl inC_9 (by omega) rfl (by omega) wd_185 hk (by unfold fv RVw; rw [hk, if_pos (by decide +kernel), if_neg (fun h => ko_ne0 hk (by omega) h.1), if_neg (fun h => ko_ne0 hk (by omega) h.1), ro_9_1 hk]) hdg kk
set_option maxRecDepth 100000 in
theorem fg_X9_18 (C : CX D B Y p s m args meth c cc n RX9 ret) (hH : HS D B Y w s H locs) {o : Nat} (hk : KD o = 9) (hdg : decode cc pc = .ok (.getfield 18, 3)) (kk : W p l e R s m args below meth c H locs cells slots Q (F0 m (pc + 3) ls (.ref (B + (o + 3)) :: rest))) : W p l e R s m args below meth c H locs cells slots Q (F0 m pc ls (.ref (B + o) :: rest)) :=
  q_get C hH (ci := 9) (T := TX9) (N := 15) (j := 2) rfl inC_9 (by omega) rfl (by omega) wd_186 hk (by unfold fv RVw; rw [hk, if_pos (by decide +kernel), if_neg (fun h => ko_ne0 hk (by omega) h.1), if_neg (fun h => ko_ne0 hk (by omega) h.1), ro_9_2 hk]) hdg kk
set_option maxRecDepth 100000 in
theorem fg_X9_21 (C : CX D B Y p s m args meth c cc n RX9 ret) (hH : HS D B Y w s H locs) {o : Nat} (hk : KD o = 9) (hdg : decode cc pc = .ok (.getfield 21, 3)) (kk : W p l e R s m args below meth c H locs cells slots Q (F0 m (pc + 3) ls (.ref (B + (o + 4)) :: rest))) : W p l e R s m args below meth c H locs cells slots Q (F0 m pc ls (.ref (B + o) :: rest)) :=
  q_get C hH (ci := 9) (T := TX9) (N := 15) (j := 3) rfl inC_9 (by omega) rfl (by omega) wd_187 hk (by unfold fv RVw; rw [hk, if_pos (by decide +kernel), if_neg (fun h => ko_ne0 hk (by omega) h.1), if_neg (fun h => ko_ne0 hk (by omega) h.1), ro_9_3 hk]) hdg kk
set_option maxRecDepth 100000 in
theorem fg_X9_24 (C : CX D B Y p s m args meth c cc n RX9 ret) (hH : HS D B Y w s H locs) {o : Nat} (hk : KD o = 9) (hdg : decode cc pc = .ok (.getfield 24, 3)) (kk : W p l e R s m args below meth c H locs cells slots Q (F0 m (pc + 3) ls (.ref (B + (o + 5)) :: rest))) : W p l e R s m args below meth c H locs cells slots Q (F0 m pc ls (.ref (B + o) :: rest)) :=
  q_get C hH (ci := 9) (T := TX9) (N := 15) (j := 4) rfl inC_9 (by omega) rfl (by omega) wd_188 hk (by unfold fv RVw; rw [hk, if_pos (by decide +kernel), if_neg (fun h => ko_ne0 hk (by omega) h.1), if_neg (fun h => ko_ne0 hk (by omega) h.1), ro_9_4 hk]) hdg kk
set_option maxRecDepth 100000 in
theorem fg_X9_27 (C : CX D B Y p s m args meth c cc n RX9 ret) (hH : HS D B Y w s H locs) {o : Nat} (hk : KD o = 9) (hdg : decode cc pc = .ok (.getfield 27, 3)) (kk : W p l e R s m args below meth c H locs cells slots Q (F0 m (pc + 3) ls (.ref (B + (o + 6)) :: rest))) : W p l e R s m args below meth c H locs cells slots Q (F0 m pc ls (.ref (B + o) :: rest)) :=
  q_get C hH (ci := 9) (T := TX9) (N := 15) (j := 5) rfl inC_9 (by omega) rfl (by omega) wd_189 hk (by unfold fv RVw; rw [hk, if_pos (by decide +kernel), if_neg (fun h => ko_ne0 hk (by omega) h.1), if_neg (fun h => ko_ne0 hk (by omega) h.1), ro_9_5 hk]) hdg kk
set_option maxRecDepth 100000 in
theorem fg_X9_30 (C : CX D B Y p s m args meth c cc n RX9 ret) (hH : HS D B Y w s H locs) {o : Nat} (hk : KD o = 9) (hdg : decode cc pc = .ok (.getfield 30, 3)) (kk : W p l e R s m args below meth c H locs cells slots Q (F0 m (pc + 3) ls (.ref (B + (o + 7)) :: rest))) : W p l e R s m args below meth c H locs cells slots Q (F0 m pc ls (.ref (B + o) :: rest)) :=
  q_get C hH (ci := 9) (T := TX9) (N := 15) (j := 6) rfl inC_9 (by omega) rfl (by omega) wd_190 hk (by unfold fv RVw; rw [hk, if_pos (by decide +kernel), if_neg (fun h => ko_ne0 hk (by omega) h.1), if_neg (fun h => ko_ne0 hk (by omega) h.1), ro_9_6 hk]) hdg kk
set_option maxRecDepth 100000 in
theorem fg_X9_33 (C : CX D B Y p s m args meth c cc n RX9 ret) (hH : HS D B Y w s H locs) {o : Nat} (hk : KD o = 9) (hdg : decode cc pc = .ok (.getfield 33, 3)) (kk : W p l e R s m args below meth c H locs cells slots Q (F0 m (pc + 3) ls (.ref (B + (o + 8)) :: rest))) : W p l e R s m args below meth c H locs cells slots Q (F0 m pc ls (.ref (B + o) :: rest)) :=
  q_get C hH (ci := 9) (T := TX9) (N := 15) (j := 7) rfl inC_9 (by omega) rfl (by omega) wd_191 hk (by unfold fv RVw; rw [hk, if_pos (by decide +kernel), if_neg (fun h => ko_ne0 hk (by omega) h.1), if_neg (fun h => ko_ne0 hk (by omega) h.1), ro_9_7 hk]) hdg kk
set_option maxRecDepth 100000 in
theorem fg_X9_36 (C : CX D B Y p s m args meth c cc n RX9 ret) (hH : HS D B Y w s H locs) {o : Nat} (hk : KD o = 9) (hdg : decode cc pc = .ok (.getfield 36, 3)) (kk : W p l e R s m args below meth c H locs cells slots Q (F0 m (pc + 3) ls (.ref (B + (o + 9)) :: rest))) : W p l e R s m args below meth c H locs cells slots Q (F0 m pc ls (.ref (B + o) :: rest)) :=
  q_get C hH (ci := 9) (T := TX9) (N := 15) (j := 8) rfl inC_9 (by omega) rfl (by omega) wd_192 hk (by unfold fv RVw; rw [hk, if_pos (by decide +kernel), if_neg (fun h => ko_ne0 hk (by omega) h.1), if_neg (fun h => ko_ne0 hk (by omega) h.1), ro_9_8 hk]) hdg kk
set_option maxRecDepth 100000 in
theorem fg_X9_39 (C : CX D B Y p s m args meth c cc n RX9 ret) (hH : HS D B Y w s H locs) {o : Nat} (hk : KD o = 9) (hdg : decode cc pc = .ok (.getfield 39, 3)) (kk : W p l e R s m args below meth c H locs cells slots Q (F0 m (pc + 3) ls (.ref (B + (o + 10)) :: rest))) : W p l e R s m args below meth c H locs cells slots Q (F0 m pc ls (.ref (B + o) :: rest)) :=
  q_get C hH (ci := 9) (T := TX9) (N := 15) (j := 9) rfl inC_9 (by omega) rfl (by omega) wd_193 hk (by unfold fv RVw; rw [hk, if_pos (by decide +kernel), if_neg (fun h => ko_ne0 hk (by omega) h.1), if_neg (fun h => ko_ne0 hk (by omega) h.1), ro_9_9 hk]) hdg kk
set_option maxRecDepth 100000 in
theorem fg_X9_48 (C : CX D B Y p s m args meth c cc n RX9 ret) (hH : HS D B Y w s H locs) {o : Nat} (hk : KD o = 9) (hdg : decode cc pc = .ok (.getfield 48, 3)) (kk : W p l e R s m args below meth c H locs cells slots Q (F0 m (pc + 3) ls (.ref (B + (o + 11)) :: rest))) : W p l e R s m args below meth c H locs cells slots Q (F0 m pc ls (.ref (B + o) :: rest)) :=
  q_get C hH (ci := 9) (T := TX9) (N := 15) (j := 10) rfl inC_9 (by omega) rfl (by omega) wd_194 hk (by unfold fv RVw; rw [hk, if_pos (by decide +kernel), if_neg (fun h => ko_ne0 hk (by omega) h.1), if_neg (fun h => ko_ne0 hk (by omega) h.1), ro_9_10 hk]) hdg kk
set_option maxRecDepth 100000 in
theorem fg_X9_55 (C : CX D B Y p s m args meth c cc n RX9 ret) (hH : HS D B Y w s H locs) {o : Nat} (hk : KD o = 9) (hdg : decode cc pc = .ok (.getfield 55, 3)) (kk : W p l e R s m args below meth c H locs cells slots Q (F0 m (pc + 3) ls (.ref (B + (o + 38)) :: rest))) : W p l e R s m args below meth c H locs cells slots Q (F0 m pc ls (.ref (B + o) :: rest)) :=
  q_get C hH (ci := 9) (T := TX9) (N := 15) (j := 11) rfl inC_9 (by omega) rfl (by omega) wd_195 hk (by unfold fv RVw; rw [hk, if_pos (by decide +kernel), if_neg (fun h => ko_ne0 hk (by omega) h.1), if_neg (fun h => ko_ne0 hk (by omega) h.1), ro_9_11 hk]) hdg kk
set_option maxRecDepth 100000 in
theorem fg_X9_64 (C : CX D B Y p s m args meth c cc n RX9 ret) (hH : HS D B Y w s H locs) {o : Nat} (hk : KD o = 9) (hdg : decode cc pc = .ok (.getfield 64, 3)) (kk : W p l e R s m args below meth c H locs cells slots Q (F0 m (pc + 3) ls (.ref (B + (o + 51)) :: rest))) : W p l e R s m args below meth c H locs cells slots Q (F0 m pc ls (.ref (B + o) :: rest)) :=
  q_get C hH (ci := 9) (T := TX9) (N := 15) (j := 13) rfl inC_9 (by omega) rfl (by omega) wd_197 hk (by unfold fv RVw; rw [hk, if_pos (by decide +kernel), if_neg (fun h => ko_ne0 hk (by omega) h.1), if_neg (fun h => ko_ne0 hk (by omega) h.1), ro_9_13 hk]) hdg kk
set_option maxRecDepth 100000 in
theorem fg_X9_81 (C : CX D B Y p s m args meth c cc n RX9 ret) (hH : HS D B Y w s H locs) {o : Nat} (hk : KD o = 9) (hdg : decode cc pc = .ok (.getfield 81, 3)) (kk : W p l e R s m args below meth c H locs cells slots Q (F0 m (pc + 3) ls (.int (w.1 o 12) :: rest))) : W p l e R s m args below meth c H locs cells slots Q (F0 m pc ls (.ref (B + o) :: rest)) :=
  q_get C hH (ci := 9) (T := TX9) (N := 15) (j := 12) rfl inC_9 (by omega) rfl (by omega) wd_196 hk (by unfold fv; rw [hk, if_neg (by decide +kernel)]) hdg kk
set_option maxRecDepth 100000 in
theorem fg_X9_88 (C : CX D B Y p s m args meth c cc n RX9 ret) (hH : HS D B Y w s H locs) {o : Nat} (hk : KD o = 9) (hdg : decode cc pc = .ok (.getfield 88, 3)) (kk : W p l e R s m args below meth c H locs cells slots Q (F0 m (pc + 3) ls (.int (w.1 o 14) :: rest))) : W p l e R s m args below meth c H locs cells slots Q (F0 m pc ls (.ref (B + o) :: rest)) :=
  q_get C hH (ci := 9) (T := TX9) (N := 15) (j := 14) rfl inC_9 (by omega) rfl (by omega) wd_198 hk (by unfold fv; rw [hk, if_neg (by decide +kernel)]) hdg kk
set_option maxRecDepth 100000 in
theorem fg_X9_9 (C : CX D B Y p s m args meth c cc n RX9 ret) (hH : HS D B Y w s H locs) {o : Nat} (hk : KD o = 9) (hdg : decode cc pc = .ok (.getfield 9, 3)) (kk : W p l e R s m args below meth c H locs cells slots Q (F0 m (pc + 3) ls (.ref (B + (o + 1)) :: rest))) : W p l e R s m args below meth c H locs cells slots Q (F0 m pc ls (.ref (B + o) :: rest)) :=
  q_get C hH (ci := 9) (T := TX9) (N := 15) (j := 0) rfl inC_9 (by omega) rfl (by omega) wd_184 hk (by unfold fv RVw; rw [hk, if_pos (by decide +kernel), if_neg (fun h => ko_ne0 hk (by omega) h.1), if_neg (fun h => ko_ne0 hk (by omega) h.1), ro_9_0 hk]) hdg kk
set_option maxRecDepth 100000 in
theorem fp_X10_221 (C : CX D B Y p s m args meth c cc n RX10 ret) (hH : HS D B Y w s H locs) {x : Int32} (hdg : decode cc pc = .ok (.putfield 221, 3)) (kk : ∀ (H1 : Heap) (locs1 : List Loc), HS D B Y (setI w 0 2 x) s H1 locs1 → W p l e R s m args below meth c H1 locs1 cells slots Q (F0 m (pc + 3) ls rest)) : W p l e R s m args below meth c H locs cells slots Q (F0 m pc ls (.int x :: .ref (B + 0) :: rest)) :=
  q_put C hH (ci := 10) (T := TX10) (N := 20) (j := 2) (ty := .int) (tyF := tyX10) rfl inC_10 tyX10_ok nmX10 (by omega) rfl (by omega) wd_362 (by decide +kernel) (by decide +kernel) (by decide +kernel) kc_0 rfl rfl hdg kk
set_option maxRecDepth 100000 in
theorem fp_X10_319 (C : CX D B Y p s m args meth c cc n RX10 ret) (hH : HS D B Y w s H locs) {x : Int32} (hz : isZ x) (hdg : decode cc pc = .ok (.putfield 319, 3)) (kk : ∀ (H1 : Heap) (locs1 : List Loc), HS D B Y (setI w 0 11 x) s H1 locs1 → W p l e R s m args below meth c H1 locs1 cells slots Q (F0 m (pc + 3) ls rest)) : W p l e R s m args below meth c H locs cells slots Q (F0 m pc ls (.int x :: .ref (B + 0) :: rest)) :=
  q_put C hH (ci := 10) (T := TX10) (N := 20) (j := 11) (ty := .boolean) (tyF := tyX10) rfl inC_10 tyX10_ok nmX10 (by omega) rfl (by omega) wd_371 (by decide +kernel) (by decide +kernel) (by decide +kernel) kc_0 (isZ_nar hz) (isZ_fits hz) hdg kk
set_option maxRecDepth 100000 in
theorem fp_X2_52 (C : CX D B Y p s m args meth c cc n RX2 ret) (hH : HS D B Y w s H locs) {x : Int32} {o : Nat} (hk : KD o = 2) (hdg : decode cc pc = .ok (.putfield 52, 3)) (kk : ∀ (H1 : Heap) (locs1 : List Loc), HS D B Y (setI w o 6 x) s H1 locs1 → W p l e R s m args below meth c H1 locs1 cells slots Q (F0 m (pc + 3) ls rest)) : W p l e R s m args below meth c H locs cells slots Q (F0 m pc ls (.int x :: .ref (B + o) :: rest)) :=
  q_put C hH (ci := 2) (T := TX2) (N := 7) (j := 6) (ty := .int) (tyF := tyX2) rfl inC_2 tyX2_ok nmX2 (by omega) rfl (by omega) wd_140 (by decide +kernel) (by decide +kernel) (by decide +kernel) hk rfl rfl hdg kk
set_option maxRecDepth 100000 in
theorem fp_X5_36 (C : CX D B Y p s m args meth c cc n RX5 ret) (hH : HS D B Y w s H locs) {x : Int32} {o : Nat} (hk : KD o = 5) (hdg : decode cc pc = .ok (.putfield 36, 3)) (kk : ∀ (H1 : Heap) (locs1 : List Loc), HS D B Y (setI w o 4 x) s H1 locs1 → W p l e R s m args below meth c H1 locs1 cells slots Q (F0 m (pc + 3) ls rest)) : W p l e R s m args below meth c H locs cells slots Q (F0 m pc ls (.int x :: .ref (B + o) :: rest)) :=
  q_put C hH (ci := 5) (T := TX5) (N := 5) (j := 4) (ty := .int) (tyF := tyX5) rfl inC_5 tyX5_ok nmX5 (by omega) rfl (by omega) wd_327 (by decide +kernel) (by decide +kernel) (by decide +kernel) hk rfl rfl hdg kk
set_option maxRecDepth 100000 in
theorem fp_X6_13 (C : CX D B Y p s m args meth c cc n RX6 ret) (hH : HS D B Y w s H locs) {x : Int32} {o : Nat} (hk : KD o = 6) (hdg : decode cc pc = .ok (.putfield 13, 3)) (kk : ∀ (H1 : Heap) (locs1 : List Loc), HS D B Y (setI w o 0 x) s H1 locs1 → W p l e R s m args below meth c H1 locs1 cells slots Q (F0 m (pc + 3) ls rest)) : W p l e R s m args below meth c H locs cells slots Q (F0 m pc ls (.int x :: .ref (B + o) :: rest)) :=
  q_put C hH (ci := 6) (T := TX6) (N := 7) (j := 0) (ty := .int) (tyF := tyX6) rfl inC_6 tyX6_ok nmX6 (by omega) rfl (by omega) wd_112 (by decide +kernel) (by decide +kernel) (by decide +kernel) hk rfl rfl hdg kk
set_option maxRecDepth 100000 in
theorem fp_X6_16 (C : CX D B Y p s m args meth c cc n RX6 ret) (hH : HS D B Y w s H locs) {x : Int32} {o : Nat} (hk : KD o = 6) (hdg : decode cc pc = .ok (.putfield 16, 3)) (kk : ∀ (H1 : Heap) (locs1 : List Loc), HS D B Y (setI w o 2 x) s H1 locs1 → W p l e R s m args below meth c H1 locs1 cells slots Q (F0 m (pc + 3) ls rest)) : W p l e R s m args below meth c H locs cells slots Q (F0 m pc ls (.int x :: .ref (B + o) :: rest)) :=
  q_put C hH (ci := 6) (T := TX6) (N := 7) (j := 2) (ty := .int) (tyF := tyX6) rfl inC_6 tyX6_ok nmX6 (by omega) rfl (by omega) wd_114 (by decide +kernel) (by decide +kernel) (by decide +kernel) hk rfl rfl hdg kk
set_option maxRecDepth 100000 in
theorem fp_X6_19 (C : CX D B Y p s m args meth c cc n RX6 ret) (hH : HS D B Y w s H locs) {x : Int32} {o : Nat} (hk : KD o = 6) (hdg : decode cc pc = .ok (.putfield 19, 3)) (kk : ∀ (H1 : Heap) (locs1 : List Loc), HS D B Y (setI w o 3 x) s H1 locs1 → W p l e R s m args below meth c H1 locs1 cells slots Q (F0 m (pc + 3) ls rest)) : W p l e R s m args below meth c H locs cells slots Q (F0 m pc ls (.int x :: .ref (B + o) :: rest)) :=
  q_put C hH (ci := 6) (T := TX6) (N := 7) (j := 3) (ty := .int) (tyF := tyX6) rfl inC_6 tyX6_ok nmX6 (by omega) rfl (by omega) wd_115 (by decide +kernel) (by decide +kernel) (by decide +kernel) hk rfl rfl hdg kk
set_option maxRecDepth 100000 in
theorem fp_X6_22 (C : CX D B Y p s m args meth c cc n RX6 ret) (hH : HS D B Y w s H locs) {x : Int32} {o : Nat} (hk : KD o = 6) (hdg : decode cc pc = .ok (.putfield 22, 3)) (kk : ∀ (H1 : Heap) (locs1 : List Loc), HS D B Y (setI w o 4 x) s H1 locs1 → W p l e R s m args below meth c H1 locs1 cells slots Q (F0 m (pc + 3) ls rest)) : W p l e R s m args below meth c H locs cells slots Q (F0 m pc ls (.int x :: .ref (B + o) :: rest)) :=
  q_put C hH (ci := 6) (T := TX6) (N := 7) (j := 4) (ty := .int) (tyF := tyX6) rfl inC_6 tyX6_ok nmX6 (by omega) rfl (by omega) wd_116 (by decide +kernel) (by decide +kernel) (by decide +kernel) hk rfl rfl hdg kk
set_option maxRecDepth 100000 in
theorem fp_X6_25 (C : CX D B Y p s m args meth c cc n RX6 ret) (hH : HS D B Y w s H locs) {x : Int32} {o : Nat} (hk : KD o = 6) (hdg : decode cc pc = .ok (.putfield 25, 3)) (kk : ∀ (H1 : Heap) (locs1 : List Loc), HS D B Y (setI w o 5 x) s H1 locs1 → W p l e R s m args below meth c H1 locs1 cells slots Q (F0 m (pc + 3) ls rest)) : W p l e R s m args below meth c H locs cells slots Q (F0 m pc ls (.int x :: .ref (B + o) :: rest)) :=
  q_put C hH (ci := 6) (T := TX6) (N := 7) (j := 5) (ty := .int) (tyF := tyX6) rfl inC_6 tyX6_ok nmX6 (by omega) rfl (by omega) wd_117 (by decide +kernel) (by decide +kernel) (by decide +kernel) hk rfl rfl hdg kk
set_option maxRecDepth 100000 in
theorem fp_X6_28 (C : CX D B Y p s m args meth c cc n RX6 ret) (hH : HS D B Y w s H locs) {x : Int32} {o : Nat} (hk : KD o = 6) (hdg : decode cc pc = .ok (.putfield 28, 3)) (kk : ∀ (H1 : Heap) (locs1 : List Loc), HS D B Y (setI w o 6 x) s H1 locs1 → W p l e R s m args below meth c H1 locs1 cells slots Q (F0 m (pc + 3) ls rest)) : W p l e R s m args below meth c H locs cells slots Q (F0 m pc ls (.int x :: .ref (B + o) :: rest)) :=
  q_put C hH (ci := 6) (T := TX6) (N := 7) (j := 6) (ty := .int) (tyF := tyX6) rfl inC_6 tyX6_ok nmX6 (by omega) rfl (by omega) wd_118 (by decide +kernel) (by decide +kernel) (by decide +kernel) hk rfl rfl hdg kk
set_option maxRecDepth 100000 in
theorem fp_X6_7 (C : CX D B Y p s m args meth c cc n RX6 ret) (hH : HS D B Y w s H locs) {x : Int32} {o : Nat} (hk : KD o = 6) (hdg : decode cc pc = .ok (.putfield 7, 3)) (kk : ∀ (H1 : Heap) (locs1 : List Loc), HS D B Y (setI w o 1 x) s H1 locs1 → W p l e R s m args below meth c H1 locs1 cells slots Q (F0 m (pc + 3) ls rest)) : W p l e R s m args below meth c H locs cells slots Q (F0 m pc ls (.int x :: .ref (B + o) :: rest)) :=
  q_put C hH (ci := 6) (T := TX6) (N := 7) (j := 1) (ty := .int) (tyF := tyX6) rfl inC_6 tyX6_ok nmX6 (by omega) rfl (by omega) wd_113 (by decide +kernel) (by decide +kernel) (by decide +kernel) hk rfl rfl hdg kk
set_option maxRecDepth 100000 in
theorem fp_X7_15 (C : CX D B Y p s m args meth c cc n RX7 ret) (hH : HS D B Y w s H locs) {x : Int32} {o : Nat} (hk : KD o = 7) (hdg : decode cc pc = .ok (.putfield 15, 3)) (kk : ∀ (H1 : Heap) (locs1 : List Loc), HS D B Y (setI w o 1 x) s H1 locs1 → W p l e R s m args below meth c H1 locs1 cells slots Q (F0 m (pc + 3) ls rest)) : W p l e R s m args below meth c H locs cells slots Q (F0 m pc ls (.int x :: .ref (B + o) :: rest)) :=
  q_put C hH (ci := 7) (T := TX7) (N := 2) (j := 1) (ty := .int) (tyF := tyX7) rfl inC_7 tyX7_ok nmX7 (by omega) rfl (by omega) wd_98 (by decide +kernel) (by decide +kernel) (by decide +kernel) hk rfl rfl hdg kk
set_option maxRecDepth 100000 in
theorem fp_X8_29 (C : CX D B Y p s m args meth c cc n RX8 ret) (hH : HS D B Y w s H locs) {x : Int32} {o : Nat} (hk : KD o = 8) (hdg : decode cc pc = .ok (.putfield 29, 3)) (kk : ∀ (H1 : Heap) (locs1 : List Loc), HS D B Y (setI w o 0 x) s H1 locs1 → W p l e R s m args below meth c H1 locs1 cells slots Q (F0 m (pc + 3) ls rest)) : W p l e R s m args below meth c H locs cells slots Q (F0 m pc ls (.int x :: .ref (B + o) :: rest)) :=
  q_put C hH (ci := 8) (T := TX8) (N := 5) (j := 0) (ty := .int) (tyF := tyX8) rfl inC_8 tyX8_ok nmX8 (by omega) rfl (by omega) wd_168 (by decide +kernel) (by decide +kernel) (by decide +kernel) hk rfl rfl hdg kk
set_option maxRecDepth 100000 in
theorem fp_X9_81 (C : CX D B Y p s m args meth c cc n RX9 ret) (hH : HS D B Y w s H locs) {x : Int32} {o : Nat} (hk : KD o = 9) (hdg : decode cc pc = .ok (.putfield 81, 3)) (kk : ∀ (H1 : Heap) (locs1 : List Loc), HS D B Y (setI w o 12 x) s H1 locs1 → W p l e R s m args below meth c H1 locs1 cells slots Q (F0 m (pc + 3) ls rest)) : W p l e R s m args below meth c H locs cells slots Q (F0 m pc ls (.int x :: .ref (B + o) :: rest)) :=
  q_put C hH (ci := 9) (T := TX9) (N := 15) (j := 12) (ty := .int) (tyF := tyX9) rfl inC_9 tyX9_ok nmX9 (by omega) rfl (by omega) wd_196 (by decide +kernel) (by decide +kernel) (by decide +kernel) hk rfl rfl hdg kk
set_option maxRecDepth 100000 in
theorem fp_X9_88 (C : CX D B Y p s m args meth c cc n RX9 ret) (hH : HS D B Y w s H locs) {x : Int32} {o : Nat} (hk : KD o = 9) (hdg : decode cc pc = .ok (.putfield 88, 3)) (kk : ∀ (H1 : Heap) (locs1 : List Loc), HS D B Y (setI w o 14 x) s H1 locs1 → W p l e R s m args below meth c H1 locs1 cells slots Q (F0 m (pc + 3) ls rest)) : W p l e R s m args below meth c H locs cells slots Q (F0 m pc ls (.int x :: .ref (B + o) :: rest)) :=
  q_put C hH (ci := 9) (T := TX9) (N := 15) (j := 14) (ty := .int) (tyF := tyX9) rfl inC_9 tyX9_ok nmX9 (by omega) rfl (by omega) wd_198 (by decide +kernel) (by decide +kernel) (by decide +kernel) hk rfl rfl hdg kk
end FROWS
theorem yd_X0_clusterBreaks : yX0_clusterBreaks.cls = RX0 ∧ yX0_clusterBreaks.cls ≠ "java/lang/invoke/MethodHandle" ∧ yX0_clusterBreaks.cls ≠ "java/lang/invoke/VarHandle" ∧ (parseMethodDescriptor yX0_clusterBreaks.desc).map (fun d => d.parameters.length) = some 1 := ⟨rfl, by decide +kernel, by decide +kernel, by decide +kernel⟩
theorem yd_X0_clusterEnd : yX0_clusterEnd.cls = RX0 ∧ yX0_clusterEnd.cls ≠ "java/lang/invoke/MethodHandle" ∧ yX0_clusterEnd.cls ≠ "java/lang/invoke/VarHandle" ∧ (parseMethodDescriptor yX0_clusterEnd.desc).map (fun d => d.parameters.length) = some 3 := ⟨rfl, by decide +kernel, by decide +kernel, by decide +kernel⟩
theorem yd_X0_isBeginning : yX0_isBeginning.cls ≠ "java/lang/invoke/MethodHandle" ∧ yX0_isBeginning.cls ≠ "java/lang/invoke/VarHandle" ∧ (parseMethodDescriptor yX0_isBeginning.desc).map (fun d => d.parameters.length) = some 2 := ⟨by decide +kernel, by decide +kernel, by decide +kernel⟩
theorem yd_X0_isLineBreak : yX0_isLineBreak.cls ≠ "java/lang/invoke/MethodHandle" ∧ yX0_isLineBreak.cls ≠ "java/lang/invoke/VarHandle" ∧ (parseMethodDescriptor yX0_isLineBreak.desc).map (fun d => d.parameters.length) = some 2 := ⟨by decide +kernel, by decide +kernel, by decide +kernel⟩
theorem yd_X0_isMarked : yX0_isMarked.cls ≠ "java/lang/invoke/MethodHandle" ∧ yX0_isMarked.cls ≠ "java/lang/invoke/VarHandle" ∧ (parseMethodDescriptor yX0_isMarked.desc).map (fun d => d.parameters.length) = some 2 := ⟨by decide +kernel, by decide +kernel, by decide +kernel⟩
theorem yd_X0_isWordBreak : yX0_isWordBreak.cls ≠ "java/lang/invoke/MethodHandle" ∧ yX0_isWordBreak.cls ≠ "java/lang/invoke/VarHandle" ∧ (parseMethodDescriptor yX0_isWordBreak.desc).map (fun d => d.parameters.length) = some 3 := ⟨by decide +kernel, by decide +kernel, by decide +kernel⟩
theorem yd_X0_kindAt : yX0_kindAt.cls = RX0 ∧ yX0_kindAt.cls ≠ "java/lang/invoke/MethodHandle" ∧ yX0_kindAt.cls ≠ "java/lang/invoke/VarHandle" ∧ (parseMethodDescriptor yX0_kindAt.desc).map (fun d => d.parameters.length) = some 2 := ⟨rfl, by decide +kernel, by decide +kernel, by decide +kernel⟩
theorem yd_X0_seamlessEnds : yX0_seamlessEnds.cls = RX0 ∧ yX0_seamlessEnds.cls ≠ "java/lang/invoke/MethodHandle" ∧ yX0_seamlessEnds.cls ≠ "java/lang/invoke/VarHandle" ∧ (parseMethodDescriptor yX0_seamlessEnds.desc).map (fun d => d.parameters.length) = some 2 := ⟨rfl, by decide +kernel, by decide +kernel, by decide +kernel⟩
theorem yd_X0_seamlessLimit : yX0_seamlessLimit.cls = RX0 ∧ yX0_seamlessLimit.cls ≠ "java/lang/invoke/MethodHandle" ∧ yX0_seamlessLimit.cls ≠ "java/lang/invoke/VarHandle" ∧ (parseMethodDescriptor yX0_seamlessLimit.desc).map (fun d => d.parameters.length) = some 3 := ⟨rfl, by decide +kernel, by decide +kernel, by decide +kernel⟩
theorem yd_X0_wordBreaks : yX0_wordBreaks.cls = RX0 ∧ yX0_wordBreaks.cls ≠ "java/lang/invoke/MethodHandle" ∧ yX0_wordBreaks.cls ≠ "java/lang/invoke/VarHandle" ∧ (parseMethodDescriptor yX0_wordBreaks.desc).map (fun d => d.parameters.length) = some 2 := ⟨rfl, by decide +kernel, by decide +kernel, by decide +kernel⟩
theorem yd_X0_wordEnd : yX0_wordEnd.cls = RX0 ∧ yX0_wordEnd.cls ≠ "java/lang/invoke/MethodHandle" ∧ yX0_wordEnd.cls ≠ "java/lang/invoke/VarHandle" ∧ (parseMethodDescriptor yX0_wordEnd.desc).map (fun d => d.parameters.length) = some 4 := ⟨rfl, by decide +kernel, by decide +kernel, by decide +kernel⟩
theorem yd_X10_cellOf : yX10_cellOf.cls ≠ "java/lang/invoke/MethodHandle" ∧ yX10_cellOf.cls ≠ "java/lang/invoke/VarHandle" ∧ (parseMethodDescriptor yX10_cellOf.desc).map (fun d => d.parameters.length) = some 3 := ⟨by decide +kernel, by decide +kernel, by decide +kernel⟩
theorem yd_X10_checkArgument : yX10_checkArgument.cls ≠ "java/lang/invoke/MethodHandle" ∧ yX10_checkArgument.cls ≠ "java/lang/invoke/VarHandle" ∧ (parseMethodDescriptor yX10_checkArgument.desc).map (fun d => d.parameters.length) = some 1 := ⟨by decide +kernel, by decide +kernel, by decide +kernel⟩
theorem yd_X10_checkForm : yX10_checkForm.cls ≠ "java/lang/invoke/MethodHandle" ∧ yX10_checkForm.cls ≠ "java/lang/invoke/VarHandle" ∧ (parseMethodDescriptor yX10_checkForm.desc).map (fun d => d.parameters.length) = some 1 := ⟨by decide +kernel, by decide +kernel, by decide +kernel⟩
theorem yd_X10_checkLetter : yX10_checkLetter.cls ≠ "java/lang/invoke/MethodHandle" ∧ yX10_checkLetter.cls ≠ "java/lang/invoke/VarHandle" ∧ (parseMethodDescriptor yX10_checkLetter.desc).map (fun d => d.parameters.length) = some 1 := ⟨by decide +kernel, by decide +kernel, by decide +kernel⟩
theorem yd_X10_checkPlace : yX10_checkPlace.cls ≠ "java/lang/invoke/MethodHandle" ∧ yX10_checkPlace.cls ≠ "java/lang/invoke/VarHandle" ∧ (parseMethodDescriptor yX10_checkPlace.desc).map (fun d => d.parameters.length) = some 2 := ⟨by decide +kernel, by decide +kernel, by decide +kernel⟩
theorem yd_X10_checkWeights : yX10_checkWeights.cls ≠ "java/lang/invoke/MethodHandle" ∧ yX10_checkWeights.cls ≠ "java/lang/invoke/VarHandle" ∧ (parseMethodDescriptor yX10_checkWeights.desc).map (fun d => d.parameters.length) = some 3 := ⟨by decide +kernel, by decide +kernel, by decide +kernel⟩
theorem yd_X10_copyCells : yX10_copyCells.cls ≠ "java/lang/invoke/MethodHandle" ∧ yX10_copyCells.cls ≠ "java/lang/invoke/VarHandle" ∧ (parseMethodDescriptor yX10_copyCells.desc).map (fun d => d.parameters.length) = some 2 := ⟨by decide +kernel, by decide +kernel, by decide +kernel⟩
theorem yd_X10_decodeInto : yX10_decodeInto.cls = RX10 ∧ yX10_decodeInto.cls ≠ "java/lang/invoke/MethodHandle" ∧ yX10_decodeInto.cls ≠ "java/lang/invoke/VarHandle" ∧ (parseMethodDescriptor yX10_decodeInto.desc).map (fun d => d.parameters.length) = some 1 := ⟨rfl, by decide +kernel, by decide +kernel, by decide +kernel⟩
theorem yd_X10_endOfFound : yX10_endOfFound.cls = RX10 ∧ yX10_endOfFound.cls ≠ "java/lang/invoke/MethodHandle" ∧ yX10_endOfFound.cls ≠ "java/lang/invoke/VarHandle" ∧ (parseMethodDescriptor yX10_endOfFound.desc).map (fun d => d.parameters.length) = some 3 := ⟨rfl, by decide +kernel, by decide +kernel, by decide +kernel⟩
theorem yd_X10_isLetter : yX10_isLetter.cls ≠ "java/lang/invoke/MethodHandle" ∧ yX10_isLetter.cls ≠ "java/lang/invoke/VarHandle" ∧ (parseMethodDescriptor yX10_isLetter.desc).map (fun d => d.parameters.length) = some 1 := ⟨by decide +kernel, by decide +kernel, by decide +kernel⟩
theorem yd_X10_isNumber : yX10_isNumber.cls ≠ "java/lang/invoke/MethodHandle" ∧ yX10_isNumber.cls ≠ "java/lang/invoke/VarHandle" ∧ (parseMethodDescriptor yX10_isNumber.desc).map (fun d => d.parameters.length) = some 1 := ⟨by decide +kernel, by decide +kernel, by decide +kernel⟩
theorem yd_X10_isRange : yX10_isRange.cls ≠ "java/lang/invoke/MethodHandle" ∧ yX10_isRange.cls ≠ "java/lang/invoke/VarHandle" ∧ (parseMethodDescriptor yX10_isRange.desc).map (fun d => d.parameters.length) = some 2 := ⟨by decide +kernel, by decide +kernel, by decide +kernel⟩
theorem yd_X10_isWithin : yX10_isWithin.cls ≠ "java/lang/invoke/MethodHandle" ∧ yX10_isWithin.cls ≠ "java/lang/invoke/VarHandle" ∧ (parseMethodDescriptor yX10_isWithin.desc).map (fun d => d.parameters.length) = some 3 := ⟨by decide +kernel, by decide +kernel, by decide +kernel⟩
theorem yd_X10_languageOf : yX10_languageOf.cls = RX10 ∧ yX10_languageOf.cls ≠ "java/lang/invoke/MethodHandle" ∧ yX10_languageOf.cls ≠ "java/lang/invoke/VarHandle" ∧ (parseMethodDescriptor yX10_languageOf.desc).map (fun d => d.parameters.length) = some 1 := ⟨rfl, by decide +kernel, by decide +kernel, by decide +kernel⟩
theorem yd_X10_setCell : yX10_setCell.cls ≠ "java/lang/invoke/MethodHandle" ∧ yX10_setCell.cls ≠ "java/lang/invoke/VarHandle" ∧ (parseMethodDescriptor yX10_setCell.desc).map (fun d => d.parameters.length) = some 3 := ⟨by decide +kernel, by decide +kernel, by decide +kernel⟩
theorem yd_X10_textOf : yX10_textOf.cls = RX10 ∧ yX10_textOf.cls ≠ "java/lang/invoke/MethodHandle" ∧ yX10_textOf.cls ≠ "java/lang/invoke/VarHandle" ∧ (parseMethodDescriptor yX10_textOf.desc).map (fun d => d.parameters.length) = some 1 := ⟨rfl, by decide +kernel, by decide +kernel, by decide +kernel⟩
theorem yd_X1_addUnmarked : yX1_addUnmarked.cls = RX1 ∧ yX1_addUnmarked.cls ≠ "java/lang/invoke/MethodHandle" ∧ yX1_addUnmarked.cls ≠ "java/lang/invoke/VarHandle" ∧ (parseMethodDescriptor yX1_addUnmarked.desc).map (fun d => d.parameters.length) = some 2 := ⟨rfl, by decide +kernel, by decide +kernel, by decide +kernel⟩
theorem yd_X1_capitalInto : yX1_capitalInto.cls = RX1 ∧ yX1_capitalInto.cls ≠ "java/lang/invoke/MethodHandle" ∧ yX1_capitalInto.cls ≠ "java/lang/invoke/VarHandle" ∧ (parseMethodDescriptor yX1_capitalInto.desc).map (fun d => d.parameters.length) = some 2 := ⟨rfl, by decide +kernel, by decide +kernel, by decide +kernel⟩
theorem yd_X1_foldInto : yX1_foldInto.cls = RX1 ∧ yX1_foldInto.cls ≠ "java/lang/invoke/MethodHandle" ∧ yX1_foldInto.cls ≠ "java/lang/invoke/VarHandle" ∧ (parseMethodDescriptor yX1_foldInto.desc).map (fun d => d.parameters.length) = some 2 := ⟨rfl, by decide +kernel, by decide +kernel, by decide +kernel⟩
theorem yd_X1_foldedEnd : yX1_foldedEnd.cls = RX1 ∧ yX1_foldedEnd.cls ≠ "java/lang/invoke/MethodHandle" ∧ yX1_foldedEnd.cls ≠ "java/lang/invoke/VarHandle" ∧ (parseMethodDescriptor yX1_foldedEnd.desc).map (fun d => d.parameters.length) = some 1 := ⟨rfl, by decide +kernel, by decide +kernel, by decide +kernel⟩
theorem yd_X1_formInto : yX1_formInto.cls = RX1 ∧ yX1_formInto.cls ≠ "java/lang/invoke/MethodHandle" ∧ yX1_formInto.cls ≠ "java/lang/invoke/VarHandle" ∧ (parseMethodDescriptor yX1_formInto.desc).map (fun d => d.parameters.length) = some 3 := ⟨rfl, by decide +kernel, by decide +kernel, by decide +kernel⟩
theorem yd_X1_joinInto : yX1_joinInto.cls = RX1 ∧ yX1_joinInto.cls ≠ "java/lang/invoke/MethodHandle" ∧ yX1_joinInto.cls ≠ "java/lang/invoke/VarHandle" ∧ (parseMethodDescriptor yX1_joinInto.desc).map (fun d => d.parameters.length) = some 2 := ⟨rfl, by decide +kernel, by decide +kernel, by decide +kernel⟩
theorem yd_X1_skeletonInto : yX1_skeletonInto.cls = RX1 ∧ yX1_skeletonInto.cls ≠ "java/lang/invoke/MethodHandle" ∧ yX1_skeletonInto.cls ≠ "java/lang/invoke/VarHandle" ∧ (parseMethodDescriptor yX1_skeletonInto.desc).map (fun d => d.parameters.length) = some 2 := ⟨rfl, by decide +kernel, by decide +kernel, by decide +kernel⟩
theorem yd_X1_sortMarks : yX1_sortMarks.cls = RX1 ∧ yX1_sortMarks.cls ≠ "java/lang/invoke/MethodHandle" ∧ yX1_sortMarks.cls ≠ "java/lang/invoke/VarHandle" ∧ (parseMethodDescriptor yX1_sortMarks.desc).map (fun d => d.parameters.length) = some 1 := ⟨rfl, by decide +kernel, by decide +kernel, by decide +kernel⟩
theorem yd_X1_splitInto : yX1_splitInto.cls = RX1 ∧ yX1_splitInto.cls ≠ "java/lang/invoke/MethodHandle" ∧ yX1_splitInto.cls ≠ "java/lang/invoke/VarHandle" ∧ (parseMethodDescriptor yX1_splitInto.desc).map (fun d => d.parameters.length) = some 2 := ⟨rfl, by decide +kernel, by decide +kernel, by decide +kernel⟩
theorem yd_X1_splitLetter : yX1_splitLetter.cls = RX1 ∧ yX1_splitLetter.cls ≠ "java/lang/invoke/MethodHandle" ∧ yX1_splitLetter.cls ≠ "java/lang/invoke/VarHandle" ∧ (parseMethodDescriptor yX1_splitLetter.desc).map (fun d => d.parameters.length) = some 3 := ⟨rfl, by decide +kernel, by decide +kernel, by decide +kernel⟩
theorem yd_X1_startFor : yX1_startFor.cls = RX1 ∧ yX1_startFor.cls ≠ "java/lang/invoke/MethodHandle" ∧ yX1_startFor.cls ≠ "java/lang/invoke/VarHandle" ∧ (parseMethodDescriptor yX1_startFor.desc).map (fun d => d.parameters.length) = some 3 := ⟨rfl, by decide +kernel, by decide +kernel, by decide +kernel⟩
theorem yd_X2_addContraction : yX2_addContraction.cls = RX2 ∧ yX2_addContraction.cls ≠ "java/lang/invoke/MethodHandle" ∧ yX2_addContraction.cls ≠ "java/lang/invoke/VarHandle" ∧ (parseMethodDescriptor yX2_addContraction.desc).map (fun d => d.parameters.length) = some 2 := ⟨rfl, by decide +kernel, by decide +kernel, by decide +kernel⟩
theorem yd_X2_classFor : yX2_classFor.cls = RX2 ∧ yX2_classFor.cls ≠ "java/lang/invoke/MethodHandle" ∧ yX2_classFor.cls ≠ "java/lang/invoke/VarHandle" ∧ (parseMethodDescriptor yX2_classFor.desc).map (fun d => d.parameters.length) = some 1 := ⟨rfl, by decide +kernel, by decide +kernel, by decide +kernel⟩
theorem yd_X2_contractionCount : yX2_contractionCount.cls = RX2 ∧ yX2_contractionCount.cls ≠ "java/lang/invoke/MethodHandle" ∧ yX2_contractionCount.cls ≠ "java/lang/invoke/VarHandle" ∧ (parseMethodDescriptor yX2_contractionCount.desc).map (fun d => d.parameters.length) = some 0 := ⟨rfl, by decide +kernel, by decide +kernel, by decide +kernel⟩
theorem yd_X2_contractionOf : yX2_contractionOf.cls = RX2 ∧ yX2_contractionOf.cls ≠ "java/lang/invoke/MethodHandle" ∧ yX2_contractionOf.cls ≠ "java/lang/invoke/VarHandle" ∧ (parseMethodDescriptor yX2_contractionOf.desc).map (fun d => d.parameters.length) = some 2 := ⟨rfl, by decide +kernel, by decide +kernel, by decide +kernel⟩
theorem yd_X2_copyFrom : yX2_copyFrom.cls = RX2 ∧ yX2_copyFrom.cls ≠ "java/lang/invoke/MethodHandle" ∧ yX2_copyFrom.cls ≠ "java/lang/invoke/VarHandle" ∧ (parseMethodDescriptor yX2_copyFrom.desc).map (fun d => d.parameters.length) = some 1 := ⟨rfl, by decide +kernel, by decide +kernel, by decide +kernel⟩
theorem yd_X2_countPlural : yX2_countPlural.cls = RX2 ∧ yX2_countPlural.cls ≠ "java/lang/invoke/MethodHandle" ∧ yX2_countPlural.cls ≠ "java/lang/invoke/VarHandle" ∧ (parseMethodDescriptor yX2_countPlural.desc).map (fun d => d.parameters.length) = some 0 := ⟨rfl, by decide +kernel, by decide +kernel, by decide +kernel⟩
theorem yd_X2_keyInto : yX2_keyInto.cls = RX2 ∧ yX2_keyInto.cls ≠ "java/lang/invoke/MethodHandle" ∧ yX2_keyInto.cls ≠ "java/lang/invoke/VarHandle" ∧ (parseMethodDescriptor yX2_keyInto.desc).map (fun d => d.parameters.length) = some 2 := ⟨rfl, by decide +kernel, by decide +kernel, by decide +kernel⟩
theorem yd_X2_nextPlural : yX2_nextPlural.cls = RX2 ∧ yX2_nextPlural.cls ≠ "java/lang/invoke/MethodHandle" ∧ yX2_nextPlural.cls ≠ "java/lang/invoke/VarHandle" ∧ (parseMethodDescriptor yX2_nextPlural.desc).map (fun d => d.parameters.length) = some 0 := ⟨rfl, by decide +kernel, by decide +kernel, by decide +kernel⟩
theorem yd_X2_nextWeighing : yX2_nextWeighing.cls = RX2 ∧ yX2_nextWeighing.cls ≠ "java/lang/invoke/MethodHandle" ∧ yX2_nextWeighing.cls ≠ "java/lang/invoke/VarHandle" ∧ (parseMethodDescriptor yX2_nextWeighing.desc).map (fun d => d.parameters.length) = some 3 := ⟨rfl, by decide +kernel, by decide +kernel, by decide +kernel⟩
theorem yd_X2_orderOf : yX2_orderOf.cls = RX2 ∧ yX2_orderOf.cls ≠ "java/lang/invoke/MethodHandle" ∧ yX2_orderOf.cls ≠ "java/lang/invoke/VarHandle" ∧ (parseMethodDescriptor yX2_orderOf.desc).map (fun d => d.parameters.length) = some 3 := ⟨rfl, by decide +kernel, by decide +kernel, by decide +kernel⟩
theorem yd_X2_unitsInto : yX2_unitsInto.cls = RX2 ∧ yX2_unitsInto.cls ≠ "java/lang/invoke/MethodHandle" ∧ yX2_unitsInto.cls ≠ "java/lang/invoke/VarHandle" ∧ (parseMethodDescriptor yX2_unitsInto.desc).map (fun d => d.parameters.length) = some 2 := ⟨rfl, by decide +kernel, by decide +kernel, by decide +kernel⟩
theorem yd_X2_weighUnit : yX2_weighUnit.cls = RX2 ∧ yX2_weighUnit.cls ≠ "java/lang/invoke/MethodHandle" ∧ yX2_weighUnit.cls ≠ "java/lang/invoke/VarHandle" ∧ (parseMethodDescriptor yX2_weighUnit.desc).map (fun d => d.parameters.length) = some 4 := ⟨rfl, by decide +kernel, by decide +kernel, by decide +kernel⟩
theorem yd_X2_weightOf : yX2_weightOf.cls = RX2 ∧ yX2_weightOf.cls ≠ "java/lang/invoke/MethodHandle" ∧ yX2_weightOf.cls ≠ "java/lang/invoke/VarHandle" ∧ (parseMethodDescriptor yX2_weightOf.desc).map (fun d => d.parameters.length) = some 2 := ⟨rfl, by decide +kernel, by decide +kernel, by decide +kernel⟩
theorem yd_X3_addFrame : yX3_addFrame.cls = RX3 ∧ yX3_addFrame.cls ≠ "java/lang/invoke/MethodHandle" ∧ yX3_addFrame.cls ≠ "java/lang/invoke/VarHandle" ∧ (parseMethodDescriptor yX3_addFrame.desc).map (fun d => d.parameters.length) = some 3 := ⟨rfl, by decide +kernel, by decide +kernel, by decide +kernel⟩
theorem yd_X3_aroundIsolate : yX3_aroundIsolate.cls = RX3 ∧ yX3_aroundIsolate.cls ≠ "java/lang/invoke/MethodHandle" ∧ yX3_aroundIsolate.cls ≠ "java/lang/invoke/VarHandle" ∧ (parseMethodDescriptor yX3_aroundIsolate.desc).map (fun d => d.parameters.length) = some 1 := ⟨rfl, by decide +kernel, by decide +kernel, by decide +kernel⟩
theorem yd_X3_baseFrom : yX3_baseFrom.cls = RX3 ∧ yX3_baseFrom.cls ≠ "java/lang/invoke/MethodHandle" ∧ yX3_baseFrom.cls ≠ "java/lang/invoke/VarHandle" ∧ (parseMethodDescriptor yX3_baseFrom.desc).map (fun d => d.parameters.length) = some 3 := ⟨rfl, by decide +kernel, by decide +kernel, by decide +kernel⟩
theorem yd_X3_closeLast : yX3_closeLast.cls = RX3 ∧ yX3_closeLast.cls ≠ "java/lang/invoke/MethodHandle" ∧ yX3_closeLast.cls ≠ "java/lang/invoke/VarHandle" ∧ (parseMethodDescriptor yX3_closeLast.desc).map (fun d => d.parameters.length) = some 2 := ⟨rfl, by decide +kernel, by decide +kernel, by decide +kernel⟩
theorem yd_X3_gather : yX3_gather.cls = RX3 ∧ yX3_gather.cls ≠ "java/lang/invoke/MethodHandle" ∧ yX3_gather.cls ≠ "java/lang/invoke/VarHandle" ∧ (parseMethodDescriptor yX3_gather.desc).map (fun d => d.parameters.length) = some 2 := ⟨rfl, by decide +kernel, by decide +kernel, by decide +kernel⟩
theorem yd_X3_isEmbed : yX3_isEmbed.cls ≠ "java/lang/invoke/MethodHandle" ∧ yX3_isEmbed.cls ≠ "java/lang/invoke/VarHandle" ∧ (parseMethodDescriptor yX3_isEmbed.desc).map (fun d => d.parameters.length) = some 1 := ⟨by decide +kernel, by decide +kernel, by decide +kernel⟩
theorem yd_X3_isIsolate : yX3_isIsolate.cls ≠ "java/lang/invoke/MethodHandle" ∧ yX3_isIsolate.cls ≠ "java/lang/invoke/VarHandle" ∧ (parseMethodDescriptor yX3_isIsolate.desc).map (fun d => d.parameters.length) = some 1 := ⟨by decide +kernel, by decide +kernel, by decide +kernel⟩
theorem yd_X3_layFrames : yX3_layFrames.cls = RX3 ∧ yX3_layFrames.cls ≠ "java/lang/invoke/MethodHandle" ∧ yX3_layFrames.cls ≠ "java/lang/invoke/VarHandle" ∧ (parseMethodDescriptor yX3_layFrames.desc).map (fun d => d.parameters.length) = some 2 := ⟨rfl, by decide +kernel, by decide +kernel, by decide +kernel⟩
theorem yd_X3_levelAt : yX3_levelAt.cls = RX3 ∧ yX3_levelAt.cls ≠ "java/lang/invoke/MethodHandle" ∧ yX3_levelAt.cls ≠ "java/lang/invoke/VarHandle" ∧ (parseMethodDescriptor yX3_levelAt.desc).map (fun d => d.parameters.length) = some 1 := ⟨rfl, by decide +kernel, by decide +kernel, by decide +kernel⟩
theorem yd_X3_levelWithin : yX3_levelWithin.cls = RX3 ∧ yX3_levelWithin.cls ≠ "java/lang/invoke/MethodHandle" ∧ yX3_levelWithin.cls ≠ "java/lang/invoke/VarHandle" ∧ (parseMethodDescriptor yX3_levelWithin.desc).map (fun d => d.parameters.length) = some 4 := ⟨rfl, by decide +kernel, by decide +kernel, by decide +kernel⟩
theorem yd_X3_lookAt : yX3_lookAt.cls = RX3 ∧ yX3_lookAt.cls ≠ "java/lang/invoke/MethodHandle" ∧ yX3_lookAt.cls ≠ "java/lang/invoke/VarHandle" ∧ (parseMethodDescriptor yX3_lookAt.desc).map (fun d => d.parameters.length) = some 2 := ⟨rfl, by decide +kernel, by decide +kernel, by decide +kernel⟩
theorem yd_X3_matchPartners : yX3_matchPartners.cls = RX3 ∧ yX3_matchPartners.cls ≠ "java/lang/invoke/MethodHandle" ∧ yX3_matchPartners.cls ≠ "java/lang/invoke/VarHandle" ∧ (parseMethodDescriptor yX3_matchPartners.desc).map (fun d => d.parameters.length) = some 0 := ⟨rfl, by decide +kernel, by decide +kernel, by decide +kernel⟩
theorem yd_X3_pairWay : yX3_pairWay.cls = RX3 ∧ yX3_pairWay.cls ≠ "java/lang/invoke/MethodHandle" ∧ yX3_pairWay.cls ≠ "java/lang/invoke/VarHandle" ∧ (parseMethodDescriptor yX3_pairWay.desc).map (fun d => d.parameters.length) = some 3 := ⟨rfl, by decide +kernel, by decide +kernel, by decide +kernel⟩
theorem yd_X3_plainWay : yX3_plainWay.cls = RX3 ∧ yX3_plainWay.cls ≠ "java/lang/invoke/MethodHandle" ∧ yX3_plainWay.cls ≠ "java/lang/invoke/VarHandle" ∧ (parseMethodDescriptor yX3_plainWay.desc).map (fun d => d.parameters.length) = some 1 := ⟨rfl, by decide +kernel, by decide +kernel, by decide +kernel⟩
theorem yd_X3_screen : yX3_screen.cls = RX3 ∧ yX3_screen.cls ≠ "java/lang/invoke/MethodHandle" ∧ yX3_screen.cls ≠ "java/lang/invoke/VarHandle" ∧ (parseMethodDescriptor yX3_screen.desc).map (fun d => d.parameters.length) = some 0 := ⟨rfl, by decide +kernel, by decide +kernel, by decide +kernel⟩
theorem yd_X3_settleNumbers : yX3_settleNumbers.cls = RX3 ∧ yX3_settleNumbers.cls ≠ "java/lang/invoke/MethodHandle" ∧ yX3_settleNumbers.cls ≠ "java/lang/invoke/VarHandle" ∧ (parseMethodDescriptor yX3_settleNumbers.desc).map (fun d => d.parameters.length) = some 1 := ⟨rfl, by decide +kernel, by decide +kernel, by decide +kernel⟩
theorem yd_X3_settlePartners : yX3_settlePartners.cls = RX3 ∧ yX3_settlePartners.cls ≠ "java/lang/invoke/MethodHandle" ∧ yX3_settlePartners.cls ≠ "java/lang/invoke/VarHandle" ∧ (parseMethodDescriptor yX3_settlePartners.desc).map (fun d => d.parameters.length) = some 1 := ⟨rfl, by decide +kernel, by decide +kernel, by decide +kernel⟩
theorem yd_X3_settleRest : yX3_settleRest.cls = RX3 ∧ yX3_settleRest.cls ≠ "java/lang/invoke/MethodHandle" ∧ yX3_settleRest.cls ≠ "java/lang/invoke/VarHandle" ∧ (parseMethodDescriptor yX3_settleRest.desc).map (fun d => d.parameters.length) = some 1 := ⟨rfl, by decide +kernel, by decide +kernel, by decide +kernel⟩
theorem yd_X3_tellLevels : yX3_tellLevels.cls = RX3 ∧ yX3_tellLevels.cls ≠ "java/lang/invoke/MethodHandle" ∧ yX3_tellLevels.cls ≠ "java/lang/invoke/VarHandle" ∧ (parseMethodDescriptor yX3_tellLevels.desc).map (fun d => d.parameters.length) = some 1 := ⟨rfl, by decide +kernel, by decide +kernel, by decide +kernel⟩
theorem yd_X3_turnRows : yX3_turnRows.cls = RX3 ∧ yX3_turnRows.cls ≠ "java/lang/invoke/MethodHandle" ∧ yX3_turnRows.cls ≠ "java/lang/invoke/VarHandle" ∧ (parseMethodDescriptor yX3_turnRows.desc).map (fun d => d.parameters.length) = some 1 := ⟨rfl, by decide +kernel, by decide +kernel, by decide +kernel⟩
theorem yd_X3_wayAhead : yX3_wayAhead.cls = RX3 ∧ yX3_wayAhead.cls ≠ "java/lang/invoke/MethodHandle" ∧ yX3_wayAhead.cls ≠ "java/lang/invoke/VarHandle" ∧ (parseMethodDescriptor yX3_wayAhead.desc).map (fun d => d.parameters.length) = some 2 := ⟨rfl, by decide +kernel, by decide +kernel, by decide +kernel⟩
theorem yd_X3_wayBehind : yX3_wayBehind.cls = RX3 ∧ yX3_wayBehind.cls ≠ "java/lang/invoke/MethodHandle" ∧ yX3_wayBehind.cls ≠ "java/lang/invoke/VarHandle" ∧ (parseMethodDescriptor yX3_wayBehind.desc).map (fun d => d.parameters.length) = some 2 := ⟨rfl, by decide +kernel, by decide +kernel, by decide +kernel⟩
theorem yd_X3_wayOf : yX3_wayOf.cls ≠ "java/lang/invoke/MethodHandle" ∧ yX3_wayOf.cls ≠ "java/lang/invoke/VarHandle" ∧ (parseMethodDescriptor yX3_wayOf.desc).map (fun d => d.parameters.length) = some 1 := ⟨by decide +kernel, by decide +kernel, by decide +kernel⟩
theorem yd_X4_begin : yX4_begin.cls = RX4 ∧ yX4_begin.cls ≠ "java/lang/invoke/MethodHandle" ∧ yX4_begin.cls ≠ "java/lang/invoke/VarHandle" ∧ (parseMethodDescriptor yX4_begin.desc).map (fun d => d.parameters.length) = some 0 := ⟨rfl, by decide +kernel, by decide +kernel, by decide +kernel⟩
theorem yd_X4_digitAt : yX4_digitAt.cls = RX4 ∧ yX4_digitAt.cls ≠ "java/lang/invoke/MethodHandle" ∧ yX4_digitAt.cls ≠ "java/lang/invoke/VarHandle" ∧ (parseMethodDescriptor yX4_digitAt.desc).map (fun d => d.parameters.length) = some 1 := ⟨rfl, by decide +kernel, by decide +kernel, by decide +kernel⟩
theorem yd_X4_isFitting : yX4_isFitting.cls = RX4 ∧ yX4_isFitting.cls ≠ "java/lang/invoke/MethodHandle" ∧ yX4_isFitting.cls ≠ "java/lang/invoke/VarHandle" ∧ (parseMethodDescriptor yX4_isFitting.desc).map (fun d => d.parameters.length) = some 2 := ⟨rfl, by decide +kernel, by decide +kernel, by decide +kernel⟩
theorem yd_X4_keyEnd : yX4_keyEnd.cls = RX4 ∧ yX4_keyEnd.cls ≠ "java/lang/invoke/MethodHandle" ∧ yX4_keyEnd.cls ≠ "java/lang/invoke/VarHandle" ∧ (parseMethodDescriptor yX4_keyEnd.desc).map (fun d => d.parameters.length) = some 1 := ⟨rfl, by decide +kernel, by decide +kernel, by decide +kernel⟩
theorem yd_X4_putByte : yX4_putByte.cls = RX4 ∧ yX4_putByte.cls ≠ "java/lang/invoke/MethodHandle" ∧ yX4_putByte.cls ≠ "java/lang/invoke/VarHandle" ∧ (parseMethodDescriptor yX4_putByte.desc).map (fun d => d.parameters.length) = some 2 := ⟨rfl, by decide +kernel, by decide +kernel, by decide +kernel⟩
theorem yd_X4_putNumber : yX4_putNumber.cls = RX4 ∧ yX4_putNumber.cls ≠ "java/lang/invoke/MethodHandle" ∧ yX4_putNumber.cls ≠ "java/lang/invoke/VarHandle" ∧ (parseMethodDescriptor yX4_putNumber.desc).map (fun d => d.parameters.length) = some 2 := ⟨rfl, by decide +kernel, by decide +kernel, by decide +kernel⟩
theorem yd_X4_readAll : yX4_readAll.cls = RX4 ∧ yX4_readAll.cls ≠ "java/lang/invoke/MethodHandle" ∧ yX4_readAll.cls ≠ "java/lang/invoke/VarHandle" ∧ (parseMethodDescriptor yX4_readAll.desc).map (fun d => d.parameters.length) = some 0 := ⟨rfl, by decide +kernel, by decide +kernel, by decide +kernel⟩
theorem yd_X4_readBraces : yX4_readBraces.cls = RX4 ∧ yX4_readBraces.cls ≠ "java/lang/invoke/MethodHandle" ∧ yX4_readBraces.cls ≠ "java/lang/invoke/VarHandle" ∧ (parseMethodDescriptor yX4_readBraces.desc).map (fun d => d.parameters.length) = some 3 := ⟨rfl, by decide +kernel, by decide +kernel, by decide +kernel⟩
theorem yd_X4_readCases : yX4_readCases.cls = RX4 ∧ yX4_readCases.cls ≠ "java/lang/invoke/MethodHandle" ∧ yX4_readCases.cls ≠ "java/lang/invoke/VarHandle" ∧ (parseMethodDescriptor yX4_readCases.desc).map (fun d => d.parameters.length) = some 4 := ⟨rfl, by decide +kernel, by decide +kernel, by decide +kernel⟩
theorem yd_X4_readPieces : yX4_readPieces.cls = RX4 ∧ yX4_readPieces.cls ≠ "java/lang/invoke/MethodHandle" ∧ yX4_readPieces.cls ≠ "java/lang/invoke/VarHandle" ∧ (parseMethodDescriptor yX4_readPieces.desc).map (fun d => d.parameters.length) = some 3 := ⟨rfl, by decide +kernel, by decide +kernel, by decide +kernel⟩
theorem yd_X4_result : yX4_result.cls = RX4 ∧ yX4_result.cls ≠ "java/lang/invoke/MethodHandle" ∧ yX4_result.cls ≠ "java/lang/invoke/VarHandle" ∧ (parseMethodDescriptor yX4_result.desc).map (fun d => d.parameters.length) = some 0 := ⟨rfl, by decide +kernel, by decide +kernel, by decide +kernel⟩
theorem yd_X4_tellNumber : yX4_tellNumber.cls = RX4 ∧ yX4_tellNumber.cls ≠ "java/lang/invoke/MethodHandle" ∧ yX4_tellNumber.cls ≠ "java/lang/invoke/VarHandle" ∧ (parseMethodDescriptor yX4_tellNumber.desc).map (fun d => d.parameters.length) = some 2 := ⟨rfl, by decide +kernel, by decide +kernel, by decide +kernel⟩
theorem yd_X5_endFrom : yX5_endFrom.cls = RX5 ∧ yX5_endFrom.cls ≠ "java/lang/invoke/MethodHandle" ∧ yX5_endFrom.cls ≠ "java/lang/invoke/VarHandle" ∧ (parseMethodDescriptor yX5_endFrom.desc).map (fun d => d.parameters.length) = some 3 := ⟨rfl, by decide +kernel, by decide +kernel, by decide +kernel⟩
theorem yd_X5_isInSet : yX5_isInSet.cls = RX5 ∧ yX5_isInSet.cls ≠ "java/lang/invoke/MethodHandle" ∧ yX5_isInSet.cls ≠ "java/lang/invoke/VarHandle" ∧ (parseMethodDescriptor yX5_isInSet.desc).map (fun d => d.parameters.length) = some 3 := ⟨rfl, by decide +kernel, by decide +kernel, by decide +kernel⟩
theorem yd_X5_isTaken : yX5_isTaken.cls = RX5 ∧ yX5_isTaken.cls ≠ "java/lang/invoke/MethodHandle" ∧ yX5_isTaken.cls ≠ "java/lang/invoke/VarHandle" ∧ (parseMethodDescriptor yX5_isTaken.desc).map (fun d => d.parameters.length) = some 4 := ⟨rfl, by decide +kernel, by decide +kernel, by decide +kernel⟩
theorem yd_X5_read : yX5_read.cls = RX5 ∧ yX5_read.cls ≠ "java/lang/invoke/MethodHandle" ∧ yX5_read.cls ≠ "java/lang/invoke/VarHandle" ∧ (parseMethodDescriptor yX5_read.desc).map (fun d => d.parameters.length) = some 1 := ⟨rfl, by decide +kernel, by decide +kernel, by decide +kernel⟩
theorem yd_X5_readLetter : yX5_readLetter.cls = RX5 ∧ yX5_readLetter.cls ≠ "java/lang/invoke/MethodHandle" ∧ yX5_readLetter.cls ≠ "java/lang/invoke/VarHandle" ∧ (parseMethodDescriptor yX5_readLetter.desc).map (fun d => d.parameters.length) = some 1 := ⟨rfl, by decide +kernel, by decide +kernel, by decide +kernel⟩
theorem yd_X5_readPiece : yX5_readPiece.cls = RX5 ∧ yX5_readPiece.cls ≠ "java/lang/invoke/MethodHandle" ∧ yX5_readPiece.cls ≠ "java/lang/invoke/VarHandle" ∧ (parseMethodDescriptor yX5_readPiece.desc).map (fun d => d.parameters.length) = some 1 := ⟨rfl, by decide +kernel, by decide +kernel, by decide +kernel⟩
theorem yd_X5_readSet : yX5_readSet.cls = RX5 ∧ yX5_readSet.cls ≠ "java/lang/invoke/MethodHandle" ∧ yX5_readSet.cls ≠ "java/lang/invoke/VarHandle" ∧ (parseMethodDescriptor yX5_readSet.desc).map (fun d => d.parameters.length) = some 1 := ⟨rfl, by decide +kernel, by decide +kernel, by decide +kernel⟩
theorem yd_X5_setOf : yX5_setOf.cls ≠ "java/lang/invoke/MethodHandle" ∧ yX5_setOf.cls ≠ "java/lang/invoke/VarHandle" ∧ (parseMethodDescriptor yX5_setOf.desc).map (fun d => d.parameters.length) = some 1 := ⟨by decide +kernel, by decide +kernel, by decide +kernel⟩
theorem yd_X5_size : yX5_size.cls = RX5 ∧ yX5_size.cls ≠ "java/lang/invoke/MethodHandle" ∧ yX5_size.cls ≠ "java/lang/invoke/VarHandle" ∧ (parseMethodDescriptor yX5_size.desc).map (fun d => d.parameters.length) = some 0 := ⟨rfl, by decide +kernel, by decide +kernel, by decide +kernel⟩
theorem yd_X5_statesBehind : yX5_statesBehind.cls = RX5 ∧ yX5_statesBehind.cls ≠ "java/lang/invoke/MethodHandle" ∧ yX5_statesBehind.cls ≠ "java/lang/invoke/VarHandle" ∧ (parseMethodDescriptor yX5_statesBehind.desc).map (fun d => d.parameters.length) = some 4 := ⟨rfl, by decide +kernel, by decide +kernel, by decide +kernel⟩
theorem yd_X5_withSkips : yX5_withSkips.cls = RX5 ∧ yX5_withSkips.cls ≠ "java/lang/invoke/MethodHandle" ∧ yX5_withSkips.cls ≠ "java/lang/invoke/VarHandle" ∧ (parseMethodDescriptor yX5_withSkips.desc).map (fun d => d.parameters.length) = some 1 := ⟨rfl, by decide +kernel, by decide +kernel, by decide +kernel⟩
theorem yd_X6_classTold : yX6_classTold.cls = RX6 ∧ yX6_classTold.cls ≠ "java/lang/invoke/MethodHandle" ∧ yX6_classTold.cls ≠ "java/lang/invoke/VarHandle" ∧ (parseMethodDescriptor yX6_classTold.desc).map (fun d => d.parameters.length) = some 0 := ⟨rfl, by decide +kernel, by decide +kernel, by decide +kernel⟩
theorem yd_X6_copyFrom : yX6_copyFrom.cls = RX6 ∧ yX6_copyFrom.cls ≠ "java/lang/invoke/MethodHandle" ∧ yX6_copyFrom.cls ≠ "java/lang/invoke/VarHandle" ∧ (parseMethodDescriptor yX6_copyFrom.desc).map (fun d => d.parameters.length) = some 1 := ⟨rfl, by decide +kernel, by decide +kernel, by decide +kernel⟩
theorem yd_X6_fits : yX6_fits.cls = RX6 ∧ yX6_fits.cls ≠ "java/lang/invoke/MethodHandle" ∧ yX6_fits.cls ≠ "java/lang/invoke/VarHandle" ∧ (parseMethodDescriptor yX6_fits.desc).map (fun d => d.parameters.length) = some 1 := ⟨rfl, by decide +kernel, by decide +kernel, by decide +kernel⟩
theorem yd_X6_remainder : yX6_remainder.cls ≠ "java/lang/invoke/MethodHandle" ∧ yX6_remainder.cls ≠ "java/lang/invoke/VarHandle" ∧ (parseMethodDescriptor yX6_remainder.desc).map (fun d => d.parameters.length) = some 2 := ⟨by decide +kernel, by decide +kernel, by decide +kernel⟩
theorem yd_X6_tell : yX6_tell.cls = RX6 ∧ yX6_tell.cls ≠ "java/lang/invoke/MethodHandle" ∧ yX6_tell.cls ≠ "java/lang/invoke/VarHandle" ∧ (parseMethodDescriptor yX6_tell.desc).map (fun d => d.parameters.length) = some 7 := ⟨rfl, by decide +kernel, by decide +kernel, by decide +kernel⟩
theorem yd_X7_add : yX7_add.cls = RX7 ∧ yX7_add.cls ≠ "java/lang/invoke/MethodHandle" ∧ yX7_add.cls ≠ "java/lang/invoke/VarHandle" ∧ (parseMethodDescriptor yX7_add.desc).map (fun d => d.parameters.length) = some 1 := ⟨rfl, by decide +kernel, by decide +kernel, by decide +kernel⟩
theorem yd_X7_cutTo : yX7_cutTo.cls = RX7 ∧ yX7_cutTo.cls ≠ "java/lang/invoke/MethodHandle" ∧ yX7_cutTo.cls ≠ "java/lang/invoke/VarHandle" ∧ (parseMethodDescriptor yX7_cutTo.desc).map (fun d => d.parameters.length) = some 1 := ⟨rfl, by decide +kernel, by decide +kernel, by decide +kernel⟩
theorem yd_X7_get : yX7_get.cls = RX7 ∧ yX7_get.cls ≠ "java/lang/invoke/MethodHandle" ∧ yX7_get.cls ≠ "java/lang/invoke/VarHandle" ∧ (parseMethodDescriptor yX7_get.desc).map (fun d => d.parameters.length) = some 1 := ⟨rfl, by decide +kernel, by decide +kernel, by decide +kernel⟩
theorem yd_X7_holds : yX7_holds.cls = RX7 ∧ yX7_holds.cls ≠ "java/lang/invoke/MethodHandle" ∧ yX7_holds.cls ≠ "java/lang/invoke/VarHandle" ∧ (parseMethodDescriptor yX7_holds.desc).map (fun d => d.parameters.length) = some 2 := ⟨rfl, by decide +kernel, by decide +kernel, by decide +kernel⟩
theorem yd_X7_isLike : yX7_isLike.cls = RX7 ∧ yX7_isLike.cls ≠ "java/lang/invoke/MethodHandle" ∧ yX7_isLike.cls ≠ "java/lang/invoke/VarHandle" ∧ (parseMethodDescriptor yX7_isLike.desc).map (fun d => d.parameters.length) = some 1 := ⟨rfl, by decide +kernel, by decide +kernel, by decide +kernel⟩
theorem yd_X7_placeOf : yX7_placeOf.cls = RX7 ∧ yX7_placeOf.cls ≠ "java/lang/invoke/MethodHandle" ∧ yX7_placeOf.cls ≠ "java/lang/invoke/VarHandle" ∧ (parseMethodDescriptor yX7_placeOf.desc).map (fun d => d.parameters.length) = some 1 := ⟨rfl, by decide +kernel, by decide +kernel, by decide +kernel⟩
theorem yd_X7_refill : yX7_refill.cls = RX7 ∧ yX7_refill.cls ≠ "java/lang/invoke/MethodHandle" ∧ yX7_refill.cls ≠ "java/lang/invoke/VarHandle" ∧ (parseMethodDescriptor yX7_refill.desc).map (fun d => d.parameters.length) = some 2 := ⟨rfl, by decide +kernel, by decide +kernel, by decide +kernel⟩
theorem yd_X7_removeLast : yX7_removeLast.cls = RX7 ∧ yX7_removeLast.cls ≠ "java/lang/invoke/MethodHandle" ∧ yX7_removeLast.cls ≠ "java/lang/invoke/VarHandle" ∧ (parseMethodDescriptor yX7_removeLast.desc).map (fun d => d.parameters.length) = some 0 := ⟨rfl, by decide +kernel, by decide +kernel, by decide +kernel⟩
theorem yd_X7_set : yX7_set.cls = RX7 ∧ yX7_set.cls ≠ "java/lang/invoke/MethodHandle" ∧ yX7_set.cls ≠ "java/lang/invoke/VarHandle" ∧ (parseMethodDescriptor yX7_set.desc).map (fun d => d.parameters.length) = some 2 := ⟨rfl, by decide +kernel, by decide +kernel, by decide +kernel⟩
theorem yd_X7_size : yX7_size.cls = RX7 ∧ yX7_size.cls ≠ "java/lang/invoke/MethodHandle" ∧ yX7_size.cls ≠ "java/lang/invoke/VarHandle" ∧ (parseMethodDescriptor yX7_size.desc).map (fun d => d.parameters.length) = some 0 := ⟨rfl, by decide +kernel, by decide +kernel, by decide +kernel⟩
theorem yd_X7_takeOver : yX7_takeOver.cls = RX7 ∧ yX7_takeOver.cls ≠ "java/lang/invoke/MethodHandle" ∧ yX7_takeOver.cls ≠ "java/lang/invoke/VarHandle" ∧ (parseMethodDescriptor yX7_takeOver.desc).map (fun d => d.parameters.length) = some 1 := ⟨rfl, by decide +kernel, by decide +kernel, by decide +kernel⟩
theorem yd_X7_turn : yX7_turn.cls = RX7 ∧ yX7_turn.cls ≠ "java/lang/invoke/MethodHandle" ∧ yX7_turn.cls ≠ "java/lang/invoke/VarHandle" ∧ (parseMethodDescriptor yX7_turn.desc).map (fun d => d.parameters.length) = some 2 := ⟨rfl, by decide +kernel, by decide +kernel, by decide +kernel⟩
theorem yd_X8_copyFrom : yX8_copyFrom.cls = RX8 ∧ yX8_copyFrom.cls ≠ "java/lang/invoke/MethodHandle" ∧ yX8_copyFrom.cls ≠ "java/lang/invoke/VarHandle" ∧ (parseMethodDescriptor yX8_copyFrom.desc).map (fun d => d.parameters.length) = some 1 := ⟨rfl, by decide +kernel, by decide +kernel, by decide +kernel⟩
theorem yd_X8_fits : yX8_fits.cls = RX8 ∧ yX8_fits.cls ≠ "java/lang/invoke/MethodHandle" ∧ yX8_fits.cls ≠ "java/lang/invoke/VarHandle" ∧ (parseMethodDescriptor yX8_fits.desc).map (fun d => d.parameters.length) = some 5 := ⟨rfl, by decide +kernel, by decide +kernel, by decide +kernel⟩
theorem yd_X8_putTarget : yX8_putTarget.cls = RX8 ∧ yX8_putTarget.cls ≠ "java/lang/invoke/MethodHandle" ∧ yX8_putTarget.cls ≠ "java/lang/invoke/VarHandle" ∧ (parseMethodDescriptor yX8_putTarget.desc).map (fun d => d.parameters.length) = some 2 := ⟨rfl, by decide +kernel, by decide +kernel, by decide +kernel⟩
theorem yd_X8_sourceOf : yX8_sourceOf.cls = RX8 ∧ yX8_sourceOf.cls ≠ "java/lang/invoke/MethodHandle" ∧ yX8_sourceOf.cls ≠ "java/lang/invoke/VarHandle" ∧ (parseMethodDescriptor yX8_sourceOf.desc).map (fun d => d.parameters.length) = some 1 := ⟨rfl, by decide +kernel, by decide +kernel, by decide +kernel⟩
theorem yd_X8_tell : yX8_tell.cls = RX8 ∧ yX8_tell.cls ≠ "java/lang/invoke/MethodHandle" ∧ yX8_tell.cls ≠ "java/lang/invoke/VarHandle" ∧ (parseMethodDescriptor yX8_tell.desc).map (fun d => d.parameters.length) = some 5 := ⟨rfl, by decide +kernel, by decide +kernel, by decide +kernel⟩
theorem yd_X9_capitalOneOf : yX9_capitalOneOf.cls = RX9 ∧ yX9_capitalOneOf.cls ≠ "java/lang/invoke/MethodHandle" ∧ yX9_capitalOneOf.cls ≠ "java/lang/invoke/VarHandle" ∧ (parseMethodDescriptor yX9_capitalOneOf.desc).map (fun d => d.parameters.length) = some 1 := ⟨rfl, by decide +kernel, by decide +kernel, by decide +kernel⟩
theorem yd_X9_capitalOtherOf : yX9_capitalOtherOf.cls = RX9 ∧ yX9_capitalOtherOf.cls ≠ "java/lang/invoke/MethodHandle" ∧ yX9_capitalOtherOf.cls ≠ "java/lang/invoke/VarHandle" ∧ (parseMethodDescriptor yX9_capitalOtherOf.desc).map (fun d => d.parameters.length) = some 1 := ⟨rfl, by decide +kernel, by decide +kernel, by decide +kernel⟩
theorem yd_X9_capitalsInto : yX9_capitalsInto.cls = RX9 ∧ yX9_capitalsInto.cls ≠ "java/lang/invoke/MethodHandle" ∧ yX9_capitalsInto.cls ≠ "java/lang/invoke/VarHandle" ∧ (parseMethodDescriptor yX9_capitalsInto.desc).map (fun d => d.parameters.length) = some 1 := ⟨rfl, by decide +kernel, by decide +kernel, by decide +kernel⟩
theorem yd_X9_copyFrom : yX9_copyFrom.cls = RX9 ∧ yX9_copyFrom.cls ≠ "java/lang/invoke/MethodHandle" ∧ yX9_copyFrom.cls ≠ "java/lang/invoke/VarHandle" ∧ (parseMethodDescriptor yX9_copyFrom.desc).map (fun d => d.parameters.length) = some 1 := ⟨rfl, by decide +kernel, by decide +kernel, by decide +kernel⟩
theorem yd_X9_countRule : yX9_countRule.cls = RX9 ∧ yX9_countRule.cls ≠ "java/lang/invoke/MethodHandle" ∧ yX9_countRule.cls ≠ "java/lang/invoke/VarHandle" ∧ (parseMethodDescriptor yX9_countRule.desc).map (fun d => d.parameters.length) = some 0 := ⟨rfl, by decide +kernel, by decide +kernel, by decide +kernel⟩
theorem yd_X9_directionOf : yX9_directionOf.cls = RX9 ∧ yX9_directionOf.cls ≠ "java/lang/invoke/MethodHandle" ∧ yX9_directionOf.cls ≠ "java/lang/invoke/VarHandle" ∧ (parseMethodDescriptor yX9_directionOf.desc).map (fun d => d.parameters.length) = some 1 := ⟨rfl, by decide +kernel, by decide +kernel, by decide +kernel⟩
theorem yd_X9_fittingRule : yX9_fittingRule.cls = RX9 ∧ yX9_fittingRule.cls ≠ "java/lang/invoke/MethodHandle" ∧ yX9_fittingRule.cls ≠ "java/lang/invoke/VarHandle" ∧ (parseMethodDescriptor yX9_fittingRule.desc).map (fun d => d.parameters.length) = some 5 := ⟨rfl, by decide +kernel, by decide +kernel, by decide +kernel⟩
theorem yd_X9_isClosing : yX9_isClosing.cls = RX9 ∧ yX9_isClosing.cls ≠ "java/lang/invoke/MethodHandle" ∧ yX9_isClosing.cls ≠ "java/lang/invoke/VarHandle" ∧ (parseMethodDescriptor yX9_isClosing.desc).map (fun d => d.parameters.length) = some 1 := ⟨rfl, by decide +kernel, by decide +kernel, by decide +kernel⟩
theorem yd_X9_isOpening : yX9_isOpening.cls = RX9 ∧ yX9_isOpening.cls ≠ "java/lang/invoke/MethodHandle" ∧ yX9_isOpening.cls ≠ "java/lang/invoke/VarHandle" ∧ (parseMethodDescriptor yX9_isOpening.desc).map (fun d => d.parameters.length) = some 1 := ⟨rfl, by decide +kernel, by decide +kernel, by decide +kernel⟩
theorem yd_X9_joinedOf : yX9_joinedOf.cls = RX9 ∧ yX9_joinedOf.cls ≠ "java/lang/invoke/MethodHandle" ∧ yX9_joinedOf.cls ≠ "java/lang/invoke/VarHandle" ∧ (parseMethodDescriptor yX9_joinedOf.desc).map (fun d => d.parameters.length) = some 2 := ⟨rfl, by decide +kernel, by decide +kernel, by decide +kernel⟩
theorem yd_X9_joinsOf : yX9_joinsOf.cls = RX9 ∧ yX9_joinsOf.cls ≠ "java/lang/invoke/MethodHandle" ∧ yX9_joinsOf.cls ≠ "java/lang/invoke/VarHandle" ∧ (parseMethodDescriptor yX9_joinsOf.desc).map (fun d => d.parameters.length) = some 1 := ⟨rfl, by decide +kernel, by decide +kernel, by decide +kernel⟩
theorem yd_X9_kindOf : yX9_kindOf.cls = RX9 ∧ yX9_kindOf.cls ≠ "java/lang/invoke/MethodHandle" ∧ yX9_kindOf.cls ≠ "java/lang/invoke/VarHandle" ∧ (parseMethodDescriptor yX9_kindOf.desc).map (fun d => d.parameters.length) = some 1 := ⟨rfl, by decide +kernel, by decide +kernel, by decide +kernel⟩
theorem yd_X9_languageAt : yX9_languageAt.cls = RX9 ∧ yX9_languageAt.cls ≠ "java/lang/invoke/MethodHandle" ∧ yX9_languageAt.cls ≠ "java/lang/invoke/VarHandle" ∧ (parseMethodDescriptor yX9_languageAt.desc).map (fun d => d.parameters.length) = some 1 := ⟨rfl, by decide +kernel, by decide +kernel, by decide +kernel⟩
theorem yd_X9_likeOf : yX9_likeOf.cls = RX9 ∧ yX9_likeOf.cls ≠ "java/lang/invoke/MethodHandle" ∧ yX9_likeOf.cls ≠ "java/lang/invoke/VarHandle" ∧ (parseMethodDescriptor yX9_likeOf.desc).map (fun d => d.parameters.length) = some 1 := ⟨rfl, by decide +kernel, by decide +kernel, by decide +kernel⟩
theorem yd_X9_nextRule : yX9_nextRule.cls = RX9 ∧ yX9_nextRule.cls ≠ "java/lang/invoke/MethodHandle" ∧ yX9_nextRule.cls ≠ "java/lang/invoke/VarHandle" ∧ (parseMethodDescriptor yX9_nextRule.desc).map (fun d => d.parameters.length) = some 0 := ⟨rfl, by decide +kernel, by decide +kernel, by decide +kernel⟩
theorem yd_X9_partnerOf : yX9_partnerOf.cls = RX9 ∧ yX9_partnerOf.cls ≠ "java/lang/invoke/MethodHandle" ∧ yX9_partnerOf.cls ≠ "java/lang/invoke/VarHandle" ∧ (parseMethodDescriptor yX9_partnerOf.desc).map (fun d => d.parameters.length) = some 1 := ⟨rfl, by decide +kernel, by decide +kernel, by decide +kernel⟩
theorem yd_X9_passInto : yX9_passInto.cls = RX9 ∧ yX9_passInto.cls ≠ "java/lang/invoke/MethodHandle" ∧ yX9_passInto.cls ≠ "java/lang/invoke/VarHandle" ∧ (parseMethodDescriptor yX9_passInto.desc).map (fun d => d.parameters.length) = some 4 := ⟨rfl, by decide +kernel, by decide +kernel, by decide +kernel⟩
theorem yd_X9_splitOneOf : yX9_splitOneOf.cls = RX9 ∧ yX9_splitOneOf.cls ≠ "java/lang/invoke/MethodHandle" ∧ yX9_splitOneOf.cls ≠ "java/lang/invoke/VarHandle" ∧ (parseMethodDescriptor yX9_splitOneOf.desc).map (fun d => d.parameters.length) = some 1 := ⟨rfl, by decide +kernel, by decide +kernel, by decide +kernel⟩
theorem yd_X9_splitOtherOf : yX9_splitOtherOf.cls = RX9 ∧ yX9_splitOtherOf.cls ≠ "java/lang/invoke/MethodHandle" ∧ yX9_splitOtherOf.cls ≠ "java/lang/invoke/VarHandle" ∧ (parseMethodDescriptor yX9_splitOtherOf.desc).map (fun d => d.parameters.length) = some 1 := ⟨rfl, by decide +kernel, by decide +kernel, by decide +kernel⟩
theorem yd_X9_takeWord : yX9_takeWord.cls = RX9 ∧ yX9_takeWord.cls ≠ "java/lang/invoke/MethodHandle" ∧ yX9_takeWord.cls ≠ "java/lang/invoke/VarHandle" ∧ (parseMethodDescriptor yX9_takeWord.desc).map (fun d => d.parameters.length) = some 1 := ⟨rfl, by decide +kernel, by decide +kernel, by decide +kernel⟩
theorem yd_X9_tell : yX9_tell.cls = RX9 ∧ yX9_tell.cls ≠ "java/lang/invoke/MethodHandle" ∧ yX9_tell.cls ≠ "java/lang/invoke/VarHandle" ∧ (parseMethodDescriptor yX9_tell.desc).map (fun d => d.parameters.length) = some 5 := ⟨rfl, by decide +kernel, by decide +kernel, by decide +kernel⟩
theorem yd_X9_tellCapital : yX9_tellCapital.cls = RX9 ∧ yX9_tellCapital.cls ≠ "java/lang/invoke/MethodHandle" ∧ yX9_tellCapital.cls ≠ "java/lang/invoke/VarHandle" ∧ (parseMethodDescriptor yX9_tellCapital.desc).map (fun d => d.parameters.length) = some 3 := ⟨rfl, by decide +kernel, by decide +kernel, by decide +kernel⟩
theorem yd_X9_tellPartners : yX9_tellPartners.cls = RX9 ∧ yX9_tellPartners.cls ≠ "java/lang/invoke/MethodHandle" ∧ yX9_tellPartners.cls ≠ "java/lang/invoke/VarHandle" ∧ (parseMethodDescriptor yX9_tellPartners.desc).map (fun d => d.parameters.length) = some 2 := ⟨rfl, by decide +kernel, by decide +kernel, by decide +kernel⟩
theorem yd_X9_tellSplit : yX9_tellSplit.cls = RX9 ∧ yX9_tellSplit.cls ≠ "java/lang/invoke/MethodHandle" ∧ yX9_tellSplit.cls ≠ "java/lang/invoke/VarHandle" ∧ (parseMethodDescriptor yX9_tellSplit.desc).map (fun d => d.parameters.length) = some 3 := ⟨rfl, by decide +kernel, by decide +kernel, by decide +kernel⟩
theorem yd_X9_wordAt : yX9_wordAt.cls = RX9 ∧ yX9_wordAt.cls ≠ "java/lang/invoke/MethodHandle" ∧ yX9_wordAt.cls ≠ "java/lang/invoke/VarHandle" ∧ (parseMethodDescriptor yX9_wordAt.desc).map (fun d => d.parameters.length) = some 1 := ⟨rfl, by decide +kernel, by decide +kernel, by decide +kernel⟩
theorem yd_X9_wordCount : yX9_wordCount.cls = RX9 ∧ yX9_wordCount.cls ≠ "java/lang/invoke/MethodHandle" ∧ yX9_wordCount.cls ≠ "java/lang/invoke/VarHandle" ∧ (parseMethodDescriptor yX9_wordCount.desc).map (fun d => d.parameters.length) = some 0 := ⟨rfl, by decide +kernel, by decide +kernel, by decide +kernel⟩
theorem gk_X0_15 : GoodIn ws0 (va_wsS RX0 15 yX0_isMarked (WSM yX0_isMarked cX0_isMarked 3 (some .boolean))) := goodS wd_989 wd_990 wd_58 wd_991
theorem gk_X0_19 : GoodIn ws0 (wsV RX0 19 RX7 yX7_get (WSM yX7_get cX7_get 2 (some .int))) := goodV wd_977 wd_640 wd_641 wd_53 wd_642
theorem gk_X0_25 : GoodIn ws0 (wsV RX0 25 RX9 yX9_kindOf (WSM yX9_kindOf cX9_kindOf 2 (some .int))) := goodV wd_978 wd_979 wd_980 wd_51 wd_981
theorem gk_X0_30 : GoodIn ws0 (wsV RX0 30 RX7 yX7_size (WSM yX7_size cX7_size 1 (some .int))) := goodV wd_972 wd_675 wd_676 wd_53 wd_677
theorem gk_X0_34 : GoodIn ws0 (wsV RX0 34 RX0 yX0_kindAt (WSM yX0_kindAt cX0_kindAt 3 (some .int))) := goodV wd_973 wd_975 wd_24 wd_58 wd_976
theorem gk_X0_38 : GoodIn ws0 (wsV RX0 38 RX0 yX0_clusterBreaks (WSM yX0_clusterBreaks cX0_clusterBreaks 5 (some .long))) := goodV wd_1319 wd_969 wd_970 wd_58 wd_971
theorem gk_X0_42 : GoodIn ws0 (wsV RX0 42 RX0 yX0_seamlessEnds (WSM yX0_seamlessEnds cX0_seamlessEnds 9 (some .long))) := goodV wd_1320 wd_1322 wd_45 wd_58 wd_1323
theorem gk_X0_46 : GoodIn ws0 (va_wsS RX0 46 yX0_isWordBreak (WSM yX0_isWordBreak cX0_isWordBreak 4 (some .boolean))) := goodS wd_1342 wd_1343 wd_58 wd_1344
theorem gk_X0_50 : GoodIn ws0 (va_wsS RX0 50 yX0_isLineBreak (WSM yX0_isLineBreak cX0_isLineBreak 2 (some .boolean))) := goodS wd_1345 wd_1346 wd_58 wd_1347
theorem gk_X0_54 : GoodIn ws0 (wsV RX0 54 RX0 yX0_clusterEnd (WSM yX0_clusterEnd cX0_clusterEnd 6 (some .int))) := goodV wd_1324 wd_1326 wd_46 wd_58 wd_1327
theorem gk_X0_58 : GoodIn ws0 (wsV RX0 58 RX0 yX0_wordEnd (WSM yX0_wordEnd cX0_wordEnd 11 (some .int))) := goodV wd_1328 wd_1330 wd_47 wd_58 wd_1331
theorem gk_X0_62 : GoodIn ws0 (wsV RX0 62 RX0 yX0_seamlessLimit (WSM yX0_seamlessLimit cX0_seamlessLimit 6 (some .int))) := goodV wd_1332 wd_1334 wd_48 wd_58 wd_1335
theorem gk_X0_65 : GoodIn ws0 (wsV RX0 65 RX9 yX9_wordCount (WSM yX9_wordCount cX9_wordCount 1 (some .int))) := goodV wd_1336 wd_684 wd_685 wd_51 wd_686
theorem gk_X0_68 : GoodIn ws0 (wsV RX0 68 RX9 yX9_wordAt (WSM yX9_wordAt cX9_wordAt 2 (some (.object "LetterTables$Row")))) := goodV wd_1337 wd_1338 wd_1339 wd_51 wd_1340
theorem gk_X0_72 : GoodIn ws0 (wsV RX0 72 RX7 yX7_holds (WSM yX7_holds cX7_holds 4 (some .boolean))) := goodV wd_1341 wd_831 wd_832 wd_53 wd_833
theorem gk_X10_103 : GoodIn ws0 (va_wsS RX10 103 yX10_checkArgument (WSM yX10_checkArgument cX10_checkArgument 1 none)) := goodS wd_521 wd_522 wd_50 wd_523
theorem gk_X10_107 : GoodIn ws0 (wsV RX10 107 RX7 yX7_size (WSM yX7_size cX7_size 1 (some .int))) := goodV wd_674 wd_675 wd_676 wd_53 wd_677
theorem gk_X10_120 : GoodIn ws0 (wsV RX10 120 RX7 yX7_add (WSM yX7_add cX7_add 2 (some .boolean))) := goodV wd_710 wd_644 wd_645 wd_53 wd_646
theorem gk_X10_124 : GoodIn ws0 (va_wsS RX10 124 yX10_checkLetter (WSM yX10_checkLetter cX10_checkLetter 1 none)) := goodS wd_444 wd_445 wd_50 wd_446
theorem gk_X10_127 : GoodIn ws0 (va_wsS RX10 127 yX10_isLetter (WSM yX10_isLetter cX10_isLetter 1 (some .boolean))) := goodS wd_447 wd_448 wd_50 wd_449
theorem gk_X10_130 : GoodIn ws0 (wsV RX10 130 RX9 yX9_tell (WSM yX9_tell cX9_tell 6 none)) := goodV wd_540 wd_541 wd_542 wd_51 wd_543
theorem gk_X10_134 : GoodIn ws0 (wsV RX10 134 RX9 yX9_tellSplit (WSM yX9_tellSplit cX9_tellSplit 4 none)) := goodV wd_551 wd_552 wd_553 wd_51 wd_554
theorem gk_X10_138 : GoodIn ws0 (wsV RX10 138 RX9 yX9_tellCapital (WSM yX9_tellCapital cX9_tellCapital 4 none)) := goodV wd_559 wd_560 wd_561 wd_51 wd_562
theorem gk_X10_141 : GoodIn ws0 (wsV RX10 141 RX9 yX9_partnerOf (WSM yX9_partnerOf cX9_partnerOf 2 (some .int))) := goodV wd_567 wd_568 wd_569 wd_51 wd_570
theorem gk_X10_147 : GoodIn ws0 (wsV RX10 147 RX9 yX9_tellPartners (WSM yX9_tellPartners cX9_tellPartners 3 none)) := goodV wd_590 wd_591 wd_592 wd_51 wd_593
theorem gk_X10_151 : GoodIn ws0 (wsV RX10 151 RX10 yX10_languageOf (WSM yX10_languageOf cX10_languageOf 3 (some (.object "LetterTables$Language")))) := goodV wd_598 wd_600 wd_1 wd_50 wd_601
theorem gk_X10_155 : GoodIn ws0 (va_wsS RX10 155 yX10_checkWeights (WSM yX10_checkWeights cX10_checkWeights 3 none)) := goodS wd_607 wd_608 wd_50 wd_609
theorem gk_X10_158 : GoodIn ws0 (wsV RX10 158 RX2 yX2_weighUnit (WSM yX2_weighUnit cX2_weighUnit 5 none)) := goodV wd_610 wd_611 wd_612 wd_52 wd_613
theorem gk_X10_164 : GoodIn ws0 (wsV RX10 164 RX2 yX2_contractionOf (WSM yX2_contractionOf cX2_contractionOf 4 (some .int))) := goodV wd_1255 wd_1009 wd_1010 wd_52 wd_1011
theorem gk_X10_168 : GoodIn ws0 (wsV RX10 168 RX2 yX2_addContraction (WSM yX2_addContraction cX2_addContraction 3 (some .int))) := goodV wd_1256 wd_1257 wd_1258 wd_52 wd_1259
theorem gk_X10_173 : GoodIn ws0 (wsV RX10 173 RX2 yX2_contractionCount (WSM yX2_contractionCount cX2_contractionCount 1 (some .int))) := goodV wd_1261 wd_1262 wd_1263 wd_52 wd_1264
theorem gk_X10_176 : GoodIn ws0 (va_wsS RX10 176 yX10_isRange (WSM yX10_isRange cX10_isRange 2 (some .boolean))) := goodS wd_1269 wd_1270 wd_50 wd_1271
theorem gk_X10_180 : GoodIn ws0 (wsV RX10 180 RX2 yX2_nextPlural (WSM yX2_nextPlural cX2_nextPlural 1 (some (.object "LetterTables$PluralRule")))) := goodV wd_1272 wd_1273 wd_1274 wd_52 wd_1275
theorem gk_X10_186 : GoodIn ws0 (wsV RX10 186 RX6 yX6_tell (WSM yX6_tell cX6_tell 8 none)) := goodV wd_1277 wd_652 wd_653 wd_54 wd_654
theorem gk_X10_191 : GoodIn ws0 (wsV RX10 191 RX2 yX2_countPlural (WSM yX2_countPlural cX2_countPlural 1 (some .int))) := goodV wd_1278 wd_1279 wd_1280 wd_52 wd_1281
theorem gk_X10_194 : GoodIn ws0 (wsV RX10 194 RX10 yX10_textOf (WSM yX10_textOf cX10_textOf 2 (some (.object "LetterTables$Row")))) := goodV wd_669 wd_671 wd_2 wd_50 wd_672
theorem gk_X10_198 : GoodIn ws0 (wsV RX10 198 RX9 yX9_takeWord (WSM yX9_takeWord cX9_takeWord 2 (some .boolean))) := goodV wd_678 wd_679 wd_680 wd_51 wd_681
theorem gk_X10_204 : GoodIn ws0 (wsV RX10 204 RX9 yX9_wordCount (WSM yX9_wordCount cX9_wordCount 1 (some .int))) := goodV wd_683 wd_684 wd_685 wd_51 wd_686
theorem gk_X10_207 : GoodIn ws0 (wsV RX10 207 RX9 yX9_nextRule (WSM yX9_nextRule cX9_nextRule 1 (some (.object "LetterTables$Rule")))) := goodV wd_691 wd_692 wd_693 wd_51 wd_694
theorem gk_X10_213 : GoodIn ws0 (wsV RX10 213 RX8 yX8_tell (WSM yX8_tell cX8_tell 6 none)) := goodV wd_696 wd_661 wd_662 wd_55 wd_663
theorem gk_X10_218 : GoodIn ws0 (wsV RX10 218 RX9 yX9_countRule (WSM yX9_countRule cX9_countRule 1 (some .int))) := goodV wd_697 wd_698 wd_699 wd_51 wd_700
theorem gk_X10_227 : GoodIn ws0 (wsV RX10 227 RX9 yX9_copyFrom (WSM yX9_copyFrom cX9_copyFrom 3 none)) := goodV wd_623 wd_624 wd_625 wd_51 wd_626
theorem gk_X10_237 : GoodIn ws0 (wsV RX10 237 RX7 yX7_cutTo (WSM yX7_cutTo cX7_cutTo 2 none)) := goodV wd_716 wd_717 wd_718 wd_53 wd_719
theorem gk_X10_240 : GoodIn ws0 (va_wsS RX10 240 yX10_checkPlace (WSM yX10_checkPlace cX10_checkPlace 2 none)) := goodS wd_724 wd_725 wd_50 wd_726
theorem gk_X10_243 : GoodIn ws0 (wsV RX10 243 RX7 yX7_get (WSM yX7_get cX7_get 2 (some .int))) := goodV wd_728 wd_640 wd_641 wd_53 wd_642
theorem gk_X10_246 : GoodIn ws0 (wsV RX10 246 RX1 yX1_formInto (WSM yX1_formInto cX1_formInto 4 (some .boolean))) := goodV wd_733 wd_734 wd_735 wd_56 wd_736
theorem gk_X10_250 : GoodIn ws0 (va_wsS RX10 250 yX10_checkForm (WSM yX10_checkForm cX10_checkForm 1 none)) := goodS wd_816 wd_817 wd_50 wd_818
theorem gk_X10_253 : GoodIn ws0 (wsV RX10 253 RX7 yX7_takeOver (WSM yX7_takeOver cX7_takeOver 3 none)) := goodV wd_820 wd_636 wd_637 wd_53 wd_638
theorem gk_X10_256 : GoodIn ws0 (wsV RX10 256 RX1 yX1_skeletonInto (WSM yX1_skeletonInto cX1_skeletonInto 4 (some .boolean))) := goodV wd_825 wd_809 wd_810 wd_56 wd_811
theorem gk_X10_260 : GoodIn ws0 (wsV RX10 260 RX7 yX7_isLike (WSM yX7_isLike cX7_isLike 2 (some .boolean))) := goodV wd_826 wd_827 wd_828 wd_53 wd_829
theorem gk_X10_263 : GoodIn ws0 (wsV RX10 263 RX3 yX3_baseFrom (WSM yX3_baseFrom cX3_baseFrom 7 (some .int))) := goodV wd_838 wd_839 wd_840 wd_57 wd_841
theorem gk_X10_267 : GoodIn ws0 (wsV RX10 267 RX3 yX3_lookAt (WSM yX3_lookAt cX3_lookAt 5 none)) := goodV wd_855 wd_856 wd_857 wd_57 wd_858
theorem gk_X10_271 : GoodIn ws0 (wsV RX10 271 RX3 yX3_levelAt (WSM yX3_levelAt cX3_levelAt 2 (some .int))) := goodV wd_943 wd_944 wd_945 wd_57 wd_946
theorem gk_X10_274 : GoodIn ws0 (wsV RX10 274 RX3 yX3_screen (WSM yX3_screen cX3_screen 3 (some (.object "LetterTables$Row")))) := goodV wd_951 wd_952 wd_953 wd_57 wd_954
theorem gk_X10_278 : GoodIn ws0 (wsV RX10 278 RX0 yX0_clusterBreaks (WSM yX0_clusterBreaks cX0_clusterBreaks 5 (some .long))) := goodV wd_968 wd_969 wd_970 wd_58 wd_971
theorem gk_X10_282 : GoodIn ws0 (wsV RX10 282 RX7 yX7_placeOf (WSM yX7_placeOf cX7_placeOf 3 (some .int))) := goodV wd_982 wd_983 wd_984 wd_53 wd_985
theorem gk_X10_285 : GoodIn ws0 (va_wsS RX10 285 yX0_isBeginning (WSM yX0_isBeginning cX0_isBeginning 3 (some .boolean))) := goodS wd_986 wd_987 wd_58 wd_988
theorem gk_X10_289 : GoodIn ws0 (wsV RX10 289 RX0 yX0_wordBreaks (WSM yX0_wordBreaks cX0_wordBreaks 14 (some .long))) := goodV wd_1315 wd_1316 wd_1317 wd_58 wd_1318
theorem gk_X10_293 : GoodIn ws0 (wsV RX10 293 RX1 yX1_splitInto (WSM yX1_splitInto cX1_splitInto 5 (some .boolean))) := goodV wd_1000 wd_738 wd_739 wd_56 wd_740
theorem gk_X10_296 : GoodIn ws0 (wsV RX10 296 RX2 yX2_unitsInto (WSM yX2_unitsInto cX2_unitsInto 5 none)) := goodV wd_1001 wd_1002 wd_1003 wd_52 wd_1004
theorem gk_X10_300 : GoodIn ws0 (wsV RX10 300 RX2 yX2_orderOf (WSM yX2_orderOf cX2_orderOf 9 (some .int))) := goodV wd_1013 wd_1014 wd_1015 wd_52 wd_1016
theorem gk_X10_304 : GoodIn ws0 (wsV RX10 304 RX2 yX2_keyInto (WSM yX2_keyInto cX2_keyInto 6 none)) := goodV wd_1030 wd_1031 wd_1032 wd_52 wd_1033
theorem gk_X10_307 : GoodIn ws0 (wsV RX10 307 RX1 yX1_foldInto (WSM yX1_foldInto cX1_foldInto 5 (some .boolean))) := goodV wd_1038 wd_789 wd_790 wd_56 wd_791
theorem gk_X10_310 : GoodIn ws0 (wsV RX10 310 RX10 yX10_endOfFound (WSM yX10_endOfFound cX10_endOfFound 9 (some .int))) := goodV wd_1039 wd_1041 wd_27 wd_50 wd_1042
theorem gk_X10_314 : GoodIn ws0 (wsV RX10 314 RX5 yX5_read (WSM yX5_read cX5_read 3 (some .boolean))) := goodV wd_1052 wd_1053 wd_1054 wd_59 wd_1055
theorem gk_X10_323 : GoodIn ws0 (wsV RX10 323 RX5 yX5_size (WSM yX5_size cX5_size 1 (some .int))) := goodV wd_1078 wd_1079 wd_1080 wd_59 wd_1081
theorem gk_X10_326 : GoodIn ws0 (wsV RX10 326 RX5 yX5_endFrom (WSM yX5_endFrom cX5_endFrom 7 (some .int))) := goodV wd_1087 wd_1088 wd_1089 wd_59 wd_1090
theorem gk_X10_330 : GoodIn ws0 (wsV RX10 330 RX9 yX9_passInto (WSM yX9_passInto cX9_passInto 9 (some .boolean))) := goodV wd_1120 wd_1121 wd_1122 wd_51 wd_1123
theorem gk_X10_336 : GoodIn ws0 (va_wsS RX10 336 yX10_isNumber (WSM yX10_isNumber cX10_isNumber 1 (some .boolean))) := goodS wd_1154 wd_1155 wd_50 wd_1156
theorem gk_X10_339 : GoodIn ws0 (wsV RX10 339 RX2 yX2_classFor (WSM yX2_classFor cX2_classFor 3 (some .int))) := goodV wd_1158 wd_1159 wd_1160 wd_52 wd_1161
theorem gk_X10_342 : GoodIn ws0 (wsV RX10 342 RX4 yX4_begin (WSM yX4_begin cX4_begin 1 none)) := goodV wd_1179 wd_1180 wd_1181 wd_60 wd_1182
theorem gk_X10_345 : GoodIn ws0 (wsV RX10 345 RX4 yX4_tellNumber (WSM yX4_tellNumber cX4_tellNumber 3 none)) := goodV wd_1184 wd_1185 wd_1186 wd_60 wd_1187
theorem gk_X10_348 : GoodIn ws0 (wsV RX10 348 RX4 yX4_readAll (WSM yX4_readAll cX4_readAll 1 (some .boolean))) := goodV wd_1189 wd_1190 wd_1191 wd_60 wd_1192
theorem gk_X10_354 : GoodIn ws0 (wsV RX10 354 RX4 yX4_result (WSM yX4_result cX4_result 1 (some (.object "LetterTables$Row")))) := goodV wd_1230 wd_1231 wd_1232 wd_60 wd_1233
theorem gk_X10_359 : GoodIn ws0 (wsV RX10 359 RX10 yX10_decodeInto (WSM yX10_decodeInto cX10_decodeInto 8 (some .int))) := goodV wd_1242 wd_1244 wd_44 wd_50 wd_1245
theorem gk_X10_379 : GoodIn ws0 (wsV RX10 379 RX9 yX9_languageAt (WSM yX9_languageAt cX9_languageAt 2 (some (.object "LetterTables$Language")))) := goodV wd_602 wd_603 wd_604 wd_51 wd_605
theorem gk_X10_384 : GoodIn ws0 (wsV RX10 384 RX1 yX1_foldedEnd (WSM yX1_foldedEnd cX1_foldedEnd 2 (some .int))) := goodV wd_1043 wd_1044 wd_1045 wd_56 wd_1046
theorem gk_X10_387 : GoodIn ws0 (wsV RX10 387 RX7 yX7_holds (WSM yX7_holds cX7_holds 4 (some .boolean))) := goodV wd_1047 wd_831 wd_832 wd_53 wd_833
theorem gk_X10_99 : GoodIn ws0 (va_wsS RX10 99 yX10_isWithin (WSM yX10_isWithin cX10_isWithin 3 (some .boolean))) := goodS wd_450 wd_451 wd_50 wd_452
theorem gk_X1_102 : GoodIn ws0 (wsV RX1 102 RX1 yX1_addUnmarked (WSM yX1_addUnmarked cX1_addUnmarked 4 none)) := goodV wd_804 wd_806 wd_7 wd_56 wd_807
theorem gk_X1_106 : GoodIn ws0 (wsV RX1 106 RX9 yX9_capitalOneOf (WSM yX9_capitalOneOf cX9_capitalOneOf 2 (some .int))) := goodV wd_796 wd_797 wd_798 wd_51 wd_799
theorem gk_X1_109 : GoodIn ws0 (wsV RX1 109 RX9 yX9_capitalOtherOf (WSM yX9_capitalOtherOf cX9_capitalOtherOf 2 (some .int))) := goodV wd_800 wd_801 wd_802 wd_51 wd_803
theorem gk_X1_112 : GoodIn ws0 (wsV RX1 112 RX9 yX9_likeOf (WSM yX9_likeOf cX9_likeOf 2 (some .int))) := goodV wd_812 wd_813 wd_814 wd_51 wd_815
theorem gk_X1_36 : GoodIn ws0 (wsV RX1 36 RX1 yX1_splitInto (WSM yX1_splitInto cX1_splitInto 5 (some .boolean))) := goodV wd_737 wd_738 wd_739 wd_56 wd_740
theorem gk_X1_40 : GoodIn ws0 (wsV RX1 40 RX1 yX1_joinInto (WSM yX1_joinInto cX1_joinInto 8 (some .boolean))) := goodV wd_774 wd_775 wd_776 wd_56 wd_777
theorem gk_X1_43 : GoodIn ws0 (wsV RX1 43 RX1 yX1_foldInto (WSM yX1_foldInto cX1_foldInto 5 (some .boolean))) := goodV wd_788 wd_789 wd_790 wd_56 wd_791
theorem gk_X1_46 : GoodIn ws0 (wsV RX1 46 RX1 yX1_skeletonInto (WSM yX1_skeletonInto cX1_skeletonInto 4 (some .boolean))) := goodV wd_808 wd_809 wd_810 wd_56 wd_811
theorem gk_X1_49 : GoodIn ws0 (wsV RX1 49 RX7 yX7_cutTo (WSM yX7_cutTo cX7_cutTo 2 none)) := goodV wd_741 wd_717 wd_718 wd_53 wd_719
theorem gk_X1_52 : GoodIn ws0 (wsV RX1 52 RX7 yX7_size (WSM yX7_size cX7_size 1 (some .int))) := goodV wd_742 wd_675 wd_676 wd_53 wd_677
theorem gk_X1_56 : GoodIn ws0 (wsV RX1 56 RX7 yX7_get (WSM yX7_get cX7_get 2 (some .int))) := goodV wd_743 wd_640 wd_641 wd_53 wd_642
theorem gk_X1_60 : GoodIn ws0 (wsV RX1 60 RX1 yX1_splitLetter (WSM yX1_splitLetter cX1_splitLetter 8 (some .int))) := goodV wd_744 wd_746 wd_3 wd_56 wd_747
theorem gk_X1_64 : GoodIn ws0 (wsV RX1 64 RX1 yX1_sortMarks (WSM yX1_sortMarks cX1_sortMarks 6 none)) := goodV wd_762 wd_764 wd_4 wd_56 wd_765
theorem gk_X1_68 : GoodIn ws0 (wsV RX1 68 RX7 yX7_add (WSM yX7_add cX7_add 2 (some .boolean))) := goodV wd_748 wd_644 wd_645 wd_53 wd_646
theorem gk_X1_72 : GoodIn ws0 (wsV RX1 72 RX7 yX7_removeLast (WSM yX7_removeLast cX7_removeLast 2 (some .int))) := goodV wd_749 wd_750 wd_751 wd_53 wd_752
theorem gk_X1_75 : GoodIn ws0 (wsV RX1 75 RX9 yX9_splitOneOf (WSM yX9_splitOneOf cX9_splitOneOf 2 (some .int))) := goodV wd_754 wd_755 wd_756 wd_51 wd_757
theorem gk_X1_80 : GoodIn ws0 (wsV RX1 80 RX9 yX9_splitOtherOf (WSM yX9_splitOtherOf cX9_splitOtherOf 2 (some .int))) := goodV wd_758 wd_759 wd_760 wd_51 wd_761
theorem gk_X1_83 : GoodIn ws0 (wsV RX1 83 RX9 yX9_joinsOf (WSM yX9_joinsOf cX9_joinsOf 2 (some .int))) := goodV wd_766 wd_767 wd_768 wd_51 wd_769
theorem gk_X1_86 : GoodIn ws0 (wsV RX1 86 RX7 yX7_set (WSM yX7_set cX7_set 3 none)) := goodV wd_770 wd_771 wd_772 wd_53 wd_773
theorem gk_X1_90 : GoodIn ws0 (wsV RX1 90 RX1 yX1_startFor (WSM yX1_startFor cX1_startFor 6 (some .int))) := goodV wd_778 wd_780 wd_5 wd_56 wd_781
theorem gk_X1_94 : GoodIn ws0 (wsV RX1 94 RX9 yX9_joinedOf (WSM yX9_joinedOf cX9_joinedOf 4 (some .int))) := goodV wd_782 wd_783 wd_784 wd_51 wd_785
theorem gk_X1_98 : GoodIn ws0 (wsV RX1 98 RX1 yX1_capitalInto (WSM yX1_capitalInto cX1_capitalInto 5 none)) := goodV wd_792 wd_794 wd_6 wd_56 wd_795
theorem gk_X2_44 : GoodIn ws0 (wsV RX2 44 RX7 yX7_takeOver (WSM yX7_takeOver cX7_takeOver 3 none)) := goodV wd_635 wd_636 wd_637 wd_53 wd_638
theorem gk_X2_48 : GoodIn ws0 (wsV RX2 48 RX6 yX6_copyFrom (WSM yX6_copyFrom cX6_copyFrom 2 none)) := goodV wd_647 wd_648 wd_649 wd_54 wd_650
theorem gk_X2_60 : GoodIn ws0 (wsV RX2 60 RX7 yX7_size (WSM yX7_size cX7_size 1 (some .int))) := goodV wd_1006 wd_675 wd_676 wd_53 wd_677
theorem gk_X2_64 : GoodIn ws0 (wsV RX2 64 RX7 yX7_get (WSM yX7_get cX7_get 2 (some .int))) := goodV wd_1007 wd_640 wd_641 wd_53 wd_642
theorem gk_X2_68 : GoodIn ws0 (wsV RX2 68 RX7 yX7_add (WSM yX7_add cX7_add 2 (some .boolean))) := goodV wd_1012 wd_644 wd_645 wd_53 wd_646
theorem gk_X2_72 : GoodIn ws0 (wsV RX2 72 RX7 yX7_cutTo (WSM yX7_cutTo cX7_cutTo 2 none)) := goodV wd_1005 wd_717 wd_718 wd_53 wd_719
theorem gk_X2_75 : GoodIn ws0 (wsV RX2 75 RX2 yX2_contractionOf (WSM yX2_contractionOf cX2_contractionOf 4 (some .int))) := goodV wd_1008 wd_1009 wd_1010 wd_52 wd_1011
theorem gk_X2_79 : GoodIn ws0 (wsV RX2 79 RX2 yX2_weightOf (WSM yX2_weightOf cX2_weightOf 3 (some .int))) := goodV wd_1021 wd_1023 wd_26 wd_52 wd_1024
theorem gk_X2_82 : GoodIn ws0 (wsV RX2 82 RX2 yX2_nextWeighing (WSM yX2_nextWeighing cX2_nextWeighing 5 (some .int))) := goodV wd_1017 wd_1019 wd_25 wd_52 wd_1020
theorem gk_X2_90 : GoodIn ws0 (wsV RX2 90 RX6 yX6_fits (WSM yX6_fits cX6_fits 3 (some .boolean))) := goodV wd_1162 wd_1163 wd_1164 wd_54 wd_1165
theorem gk_X2_93 : GoodIn ws0 (wsV RX2 93 RX6 yX6_classTold (WSM yX6_classTold cX6_classTold 1 (some .int))) := goodV wd_1170 wd_1171 wd_1172 wd_54 wd_1173
theorem gk_X3_101 : GoodIn ws0 (wsV RX3 101 RX7 yX7_cutTo (WSM yX7_cutTo cX7_cutTo 2 none)) := goodV wd_864 wd_717 wd_718 wd_53 wd_719
theorem gk_X3_104 : GoodIn ws0 (wsV RX3 104 RX3 yX3_addFrame (WSM yX3_addFrame cX3_addFrame 4 (some .int))) := goodV wd_865 wd_867 wd_9 wd_57 wd_868
theorem gk_X3_108 : GoodIn ws0 (wsV RX3 108 RX3 yX3_aroundIsolate (WSM yX3_aroundIsolate cX3_aroundIsolate 4 (some .int))) := goodV wd_870 wd_872 wd_10 wd_57 wd_873
theorem gk_X3_111 : GoodIn ws0 (wsV RX3 111 RX7 yX7_add (WSM yX7_add cX7_add 2 (some .boolean))) := goodV wd_869 wd_644 wd_645 wd_53 wd_646
theorem gk_X3_114 : GoodIn ws0 (va_wsS RX3 114 yX3_isEmbed (WSM yX3_isEmbed cX3_isEmbed 1 (some .boolean))) := goodS wd_874 wd_875 wd_57 wd_876
theorem gk_X3_117 : GoodIn ws0 (wsV RX3 117 RX3 yX3_levelWithin (WSM yX3_levelWithin cX3_levelWithin 8 (some .int))) := goodV wd_877 wd_879 wd_11 wd_57 wd_880
theorem gk_X3_121 : GoodIn ws0 (wsV RX3 121 RX7 yX7_set (WSM yX7_set cX7_set 3 none)) := goodV wd_896 wd_771 wd_772 wd_53 wd_773
theorem gk_X3_124 : GoodIn ws0 (wsV RX3 124 RX3 yX3_matchPartners (WSM yX3_matchPartners cX3_matchPartners 3 none)) := goodV wd_901 wd_903 wd_15 wd_57 wd_904
theorem gk_X3_127 : GoodIn ws0 (wsV RX3 127 RX3 yX3_pairWay (WSM yX3_pairWay cX3_pairWay 8 (some .int))) := goodV wd_919 wd_921 wd_17 wd_57 wd_922
theorem gk_X3_130 : GoodIn ws0 (wsV RX3 130 RX9 yX9_isOpening (WSM yX9_isOpening cX9_isOpening 2 (some .boolean))) := goodV wd_905 wd_906 wd_907 wd_51 wd_908
theorem gk_X3_133 : GoodIn ws0 (wsV RX3 133 RX9 yX9_isClosing (WSM yX9_isClosing cX9_isClosing 2 (some .boolean))) := goodV wd_910 wd_911 wd_912 wd_51 wd_913
theorem gk_X3_136 : GoodIn ws0 (wsV RX3 136 RX9 yX9_partnerOf (WSM yX9_partnerOf cX9_partnerOf 2 (some .int))) := goodV wd_914 wd_568 wd_569 wd_51 wd_570
theorem gk_X3_139 : GoodIn ws0 (wsV RX3 139 RX3 yX3_closeLast (WSM yX3_closeLast cX3_closeLast 4 none)) := goodV wd_915 wd_917 wd_16 wd_57 wd_918
theorem gk_X3_142 : GoodIn ws0 (wsV RX3 142 RX3 yX3_plainWay (WSM yX3_plainWay cX3_plainWay 3 (some .int))) := goodV wd_923 wd_925 wd_18 wd_57 wd_926
theorem gk_X3_145 : GoodIn ws0 (wsV RX3 145 RX3 yX3_wayAhead (WSM yX3_wayAhead cX3_wayAhead 4 (some .int))) := goodV wd_927 wd_929 wd_19 wd_57 wd_930
theorem gk_X3_149 : GoodIn ws0 (wsV RX3 149 RX3 yX3_wayBehind (WSM yX3_wayBehind cX3_wayBehind 4 (some .int))) := goodV wd_935 wd_937 wd_21 wd_57 wd_938
theorem gk_X3_152 : GoodIn ws0 (wsV RX3 152 RX3 yX3_turnRows (WSM yX3_turnRows cX3_turnRows 5 none)) := goodV wd_955 wd_957 wd_23 wd_57 wd_958
theorem gk_X3_155 : GoodIn ws0 (wsV RX3 155 RX7 yX7_turn (WSM yX7_turn cX7_turn 6 none)) := goodV wd_959 wd_960 wd_961 wd_53 wd_962
theorem gk_X3_54 : GoodIn ws0 (wsV RX3 54 RX7 yX7_size (WSM yX7_size cX7_size 1 (some .int))) := goodV wd_842 wd_675 wd_676 wd_53 wd_677
theorem gk_X3_58 : GoodIn ws0 (wsV RX3 58 RX7 yX7_get (WSM yX7_get cX7_get 2 (some .int))) := goodV wd_843 wd_640 wd_641 wd_53 wd_642
theorem gk_X3_62 : GoodIn ws0 (wsV RX3 62 RX9 yX9_directionOf (WSM yX9_directionOf cX9_directionOf 2 (some .int))) := goodV wd_844 wd_845 wd_846 wd_51 wd_847
theorem gk_X3_67 : GoodIn ws0 (va_wsS RX3 67 yX3_isIsolate (WSM yX3_isIsolate cX3_isIsolate 1 (some .boolean))) := goodS wd_848 wd_849 wd_57 wd_850
theorem gk_X3_71 : GoodIn ws0 (wsV RX3 71 RX3 yX3_baseFrom (WSM yX3_baseFrom cX3_baseFrom 7 (some .int))) := goodV wd_859 wd_839 wd_840 wd_57 wd_841
theorem gk_X3_75 : GoodIn ws0 (wsV RX3 75 RX3 yX3_layFrames (WSM yX3_layFrames cX3_layFrames 6 none)) := goodV wd_860 wd_862 wd_8 wd_57 wd_863
theorem gk_X3_79 : GoodIn ws0 (wsV RX3 79 RX7 yX7_refill (WSM yX7_refill cX7_refill 4 none)) := goodV wd_884 wd_885 wd_886 wd_53 wd_887
theorem gk_X3_83 : GoodIn ws0 (wsV RX3 83 RX3 yX3_gather (WSM yX3_gather cX3_gather 5 none)) := goodV wd_888 wd_890 wd_12 wd_57 wd_891
theorem gk_X3_86 : GoodIn ws0 (va_wsS RX3 86 yX3_wayOf (WSM yX3_wayOf cX3_wayOf 1 (some .int))) := goodS wd_881 wd_882 wd_57 wd_883
theorem gk_X3_89 : GoodIn ws0 (wsV RX3 89 RX3 yX3_settleNumbers (WSM yX3_settleNumbers cX3_settleNumbers 5 none)) := goodV wd_892 wd_894 wd_13 wd_57 wd_895
theorem gk_X3_92 : GoodIn ws0 (wsV RX3 92 RX3 yX3_settlePartners (WSM yX3_settlePartners cX3_settlePartners 5 none)) := goodV wd_897 wd_899 wd_14 wd_57 wd_900
theorem gk_X3_95 : GoodIn ws0 (wsV RX3 95 RX3 yX3_settleRest (WSM yX3_settleRest cX3_settleRest 4 none)) := goodV wd_931 wd_933 wd_20 wd_57 wd_934
theorem gk_X3_98 : GoodIn ws0 (wsV RX3 98 RX3 yX3_tellLevels (WSM yX3_tellLevels cX3_tellLevels 6 none)) := goodV wd_939 wd_941 wd_22 wd_57 wd_942
theorem gk_X4_29 : GoodIn ws0 (wsV RX4 29 RX7 yX7_cutTo (WSM yX7_cutTo cX7_cutTo 2 none)) := goodV wd_1183 wd_717 wd_718 wd_53 wd_719
theorem gk_X4_32 : GoodIn ws0 (wsV RX4 32 RX7 yX7_add (WSM yX7_add cX7_add 2 (some .boolean))) := goodV wd_1188 wd_644 wd_645 wd_53 wd_646
theorem gk_X4_36 : GoodIn ws0 (wsV RX4 36 RX4 yX4_readPieces (WSM yX4_readPieces cX4_readPieces 7 (some .int))) := goodV wd_1193 wd_1195 wd_36 wd_60 wd_1196
theorem gk_X4_40 : GoodIn ws0 (wsV RX4 40 RX7 yX7_size (WSM yX7_size cX7_size 1 (some .int))) := goodV wd_1228 wd_675 wd_676 wd_53 wd_677
theorem gk_X4_44 : GoodIn ws0 (wsV RX4 44 RX7 yX7_get (WSM yX7_get cX7_get 2 (some .int))) := goodV wd_1197 wd_640 wd_641 wd_53 wd_642
theorem gk_X4_48 : GoodIn ws0 (wsV RX4 48 RX4 yX4_readBraces (WSM yX4_readBraces cX4_readBraces 6 (some .int))) := goodV wd_1198 wd_1200 wd_37 wd_60 wd_1201
theorem gk_X4_55 : GoodIn ws0 (wsV RX4 55 RX4 yX4_putByte (WSM yX4_putByte cX4_putByte 3 none)) := goodV wd_1212 wd_1214 wd_40 wd_60 wd_1215
theorem gk_X4_59 : GoodIn ws0 (wsV RX4 59 RX4 yX4_digitAt (WSM yX4_digitAt cX4_digitAt 3 (some .int))) := goodV wd_1202 wd_1204 wd_38 wd_60 wd_1205
theorem gk_X4_62 : GoodIn ws0 (wsV RX4 62 RX4 yX4_putNumber (WSM yX4_putNumber cX4_putNumber 6 none)) := goodV wd_1207 wd_1209 wd_39 wd_60 wd_1210
theorem gk_X4_65 : GoodIn ws0 (wsV RX4 65 RX4 yX4_readCases (WSM yX4_readCases cX4_readCases 11 (some .int))) := goodV wd_1216 wd_1218 wd_41 wd_60 wd_1219
theorem gk_X4_69 : GoodIn ws0 (wsV RX4 69 RX4 yX4_keyEnd (WSM yX4_keyEnd cX4_keyEnd 2 (some .int))) := goodV wd_1220 wd_1222 wd_42 wd_60 wd_1223
theorem gk_X4_72 : GoodIn ws0 (wsV RX4 72 RX4 yX4_isFitting (WSM yX4_isFitting cX4_isFitting 3 (some .boolean))) := goodV wd_1224 wd_1226 wd_43 wd_60 wd_1227
theorem gk_X5_29 : GoodIn ws0 (wsV RX5 29 RX7 yX7_size (WSM yX7_size cX7_size 1 (some .int))) := goodV wd_1057 wd_675 wd_676 wd_53 wd_677
theorem gk_X5_33 : GoodIn ws0 (wsV RX5 33 RX7 yX7_cutTo (WSM yX7_cutTo cX7_cutTo 2 none)) := goodV wd_1056 wd_717 wd_718 wd_53 wd_719
theorem gk_X5_40 : GoodIn ws0 (wsV RX5 40 RX5 yX5_readPiece (WSM yX5_readPiece cX5_readPiece 6 (some .boolean))) := goodV wd_1058 wd_1060 wd_28 wd_59 wd_1061
theorem gk_X5_44 : GoodIn ws0 (wsV RX5 44 RX7 yX7_get (WSM yX7_get cX7_get 2 (some .int))) := goodV wd_1062 wd_640 wd_641 wd_53 wd_642
theorem gk_X5_48 : GoodIn ws0 (wsV RX5 48 RX5 yX5_readSet (WSM yX5_readSet cX5_readSet 5 (some .int))) := goodV wd_1063 wd_1065 wd_29 wd_59 wd_1066
theorem gk_X5_52 : GoodIn ws0 (wsV RX5 52 RX7 yX7_add (WSM yX7_add cX7_add 2 (some .boolean))) := goodV wd_1076 wd_644 wd_645 wd_53 wd_646
theorem gk_X5_56 : GoodIn ws0 (wsV RX5 56 RX5 yX5_readLetter (WSM yX5_readLetter cX5_readLetter 5 (some .int))) := goodV wd_1067 wd_1069 wd_30 wd_59 wd_1070
theorem gk_X5_59 : GoodIn ws0 (va_wsS RX5 59 yX5_setOf (WSM yX5_setOf cX5_setOf 1 (some .int))) := goodS wd_1073 wd_1074 wd_59 wd_1075
theorem gk_X5_69 : GoodIn ws0 (wsV RX5 69 RX9 yX9_capitalsInto (WSM yX9_capitalsInto cX9_capitalsInto 5 none)) := goodV wd_1091 wd_1092 wd_1093 wd_51 wd_1094
theorem gk_X5_75 : GoodIn ws0 (wsV RX5 75 RX5 yX5_withSkips (WSM yX5_withSkips cX5_withSkips 4 (some .int))) := goodV wd_1099 wd_1101 wd_31 wd_59 wd_1102
theorem gk_X5_78 : GoodIn ws0 (wsV RX5 78 RX5 yX5_statesBehind (WSM yX5_statesBehind cX5_statesBehind 7 (some .int))) := goodV wd_1103 wd_1105 wd_32 wd_59 wd_1106
theorem gk_X5_82 : GoodIn ws0 (wsV RX5 82 RX5 yX5_isTaken (WSM yX5_isTaken cX5_isTaken 6 (some .boolean))) := goodV wd_1107 wd_1109 wd_33 wd_59 wd_1110
theorem gk_X5_86 : GoodIn ws0 (wsV RX5 86 RX5 yX5_isInSet (WSM yX5_isInSet cX5_isInSet 7 (some .boolean))) := goodV wd_1111 wd_1113 wd_34 wd_59 wd_1114
theorem gk_X5_90 : GoodIn ws0 (wsV RX5 90 RX9 yX9_kindOf (WSM yX9_kindOf cX9_kindOf 2 (some .int))) := goodV wd_1115 wd_979 wd_980 wd_51 wd_981
theorem gk_X6_31 : GoodIn ws0 (wsV RX6 31 RX6 yX6_tell (WSM yX6_tell cX6_tell 8 none)) := goodV wd_651 wd_652 wd_653 wd_54 wd_654
theorem gk_X6_35 : GoodIn ws0 (va_wsS RX6 35 yX6_remainder (WSM yX6_remainder cX6_remainder 2 (some .int))) := goodS wd_1166 wd_1167 wd_54 wd_1168
theorem gk_X7_19 : GoodIn ws0 (wsV RX7 19 RX7 yX7_get (WSM yX7_get cX7_get 2 (some .int))) := goodV wd_639 wd_640 wd_641 wd_53 wd_642
theorem gk_X7_23 : GoodIn ws0 (wsV RX7 23 RX7 yX7_cutTo (WSM yX7_cutTo cX7_cutTo 2 none)) := goodV wd_753 wd_717 wd_718 wd_53 wd_719
theorem gk_X7_27 : GoodIn ws0 (wsV RX7 27 RX7 yX7_add (WSM yX7_add cX7_add 2 (some .boolean))) := goodV wd_643 wd_644 wd_645 wd_53 wd_646
theorem gk_X7_31 : GoodIn ws0 (wsV RX7 31 RX7 yX7_holds (WSM yX7_holds cX7_holds 4 (some .boolean))) := goodV wd_830 wd_831 wd_832 wd_53 wd_833
theorem gk_X7_35 : GoodIn ws0 (wsV RX7 35 RX7 yX7_set (WSM yX7_set cX7_set 3 none)) := goodV wd_963 wd_771 wd_772 wd_53 wd_773
theorem gk_X8_33 : GoodIn ws0 (wsV RX8 33 RX7 yX7_takeOver (WSM yX7_takeOver cX7_takeOver 3 none)) := goodV wd_664 wd_636 wd_637 wd_53 wd_638
theorem gk_X8_37 : GoodIn ws0 (wsV RX8 37 RX8 yX8_tell (WSM yX8_tell cX8_tell 6 none)) := goodV wd_660 wd_661 wd_662 wd_55 wd_663
theorem gk_X8_41 : GoodIn ws0 (wsV RX8 41 RX8 yX8_sourceOf (WSM yX8_sourceOf cX8_sourceOf 2 (some (.object "LetterTables$Row")))) := goodV wd_1134 wd_1135 wd_1136 wd_55 wd_1137
theorem gk_X8_45 : GoodIn ws0 (wsV RX8 45 RX7 yX7_size (WSM yX7_size cX7_size 1 (some .int))) := goodV wd_1138 wd_675 wd_676 wd_53 wd_677
theorem gk_X8_49 : GoodIn ws0 (wsV RX8 49 RX7 yX7_holds (WSM yX7_holds cX7_holds 4 (some .boolean))) := goodV wd_1139 wd_831 wd_832 wd_53 wd_833
theorem gk_X8_53 : GoodIn ws0 (wsV RX8 53 RX7 yX7_get (WSM yX7_get cX7_get 2 (some .int))) := goodV wd_1146 wd_640 wd_641 wd_53 wd_642
theorem gk_X8_57 : GoodIn ws0 (wsV RX8 57 RX7 yX7_add (WSM yX7_add cX7_add 2 (some .boolean))) := goodV wd_1147 wd_644 wd_645 wd_53 wd_646
theorem gk_X9_103 : GoodIn ws0 (wsV RX9 103 RX9 yX9_splitOneOf (WSM yX9_splitOneOf cX9_splitOneOf 2 (some .int))) := goodV wd_786 wd_755 wd_756 wd_51 wd_757
theorem gk_X9_106 : GoodIn ws0 (wsV RX9 106 RX9 yX9_splitOtherOf (WSM yX9_splitOtherOf cX9_splitOtherOf 2 (some .int))) := goodV wd_787 wd_759 wd_760 wd_51 wd_761
theorem gk_X9_109 : GoodIn ws0 (wsV RX9 109 RX7 yX7_refill (WSM yX7_refill cX7_refill 4 none)) := goodV wd_1095 wd_885 wd_886 wd_53 wd_887
theorem gk_X9_113 : GoodIn ws0 (wsV RX9 113 RX9 yX9_capitalOneOf (WSM yX9_capitalOneOf cX9_capitalOneOf 2 (some .int))) := goodV wd_1096 wd_797 wd_798 wd_51 wd_799
theorem gk_X9_116 : GoodIn ws0 (wsV RX9 116 RX9 yX9_capitalOtherOf (WSM yX9_capitalOtherOf cX9_capitalOtherOf 2 (some .int))) := goodV wd_1097 wd_801 wd_802 wd_51 wd_803
theorem gk_X9_119 : GoodIn ws0 (wsV RX9 119 RX7 yX7_set (WSM yX7_set cX7_set 3 none)) := goodV wd_1098 wd_771 wd_772 wd_53 wd_773
theorem gk_X9_122 : GoodIn ws0 (wsV RX9 122 RX7 yX7_cutTo (WSM yX7_cutTo cX7_cutTo 2 none)) := goodV wd_1124 wd_717 wd_718 wd_53 wd_719
theorem gk_X9_125 : GoodIn ws0 (wsV RX9 125 RX7 yX7_size (WSM yX7_size cX7_size 1 (some .int))) := goodV wd_1125 wd_675 wd_676 wd_53 wd_677
theorem gk_X9_129 : GoodIn ws0 (wsV RX9 129 RX9 yX9_fittingRule (WSM yX9_fittingRule cX9_fittingRule 7 (some (.object "LetterTables$Rule")))) := goodV wd_1126 wd_1128 wd_35 wd_51 wd_1129
theorem gk_X9_133 : GoodIn ws0 (wsV RX9 133 RX7 yX7_get (WSM yX7_get cX7_get 2 (some .int))) := goodV wd_1140 wd_640 wd_641 wd_53 wd_642
theorem gk_X9_136 : GoodIn ws0 (wsV RX9 136 RX7 yX7_add (WSM yX7_add cX7_add 2 (some .boolean))) := goodV wd_1141 wd_644 wd_645 wd_53 wd_646
theorem gk_X9_140 : GoodIn ws0 (wsV RX9 140 RX8 yX8_putTarget (WSM yX8_putTarget cX8_putTarget 5 (some .boolean))) := goodV wd_1142 wd_1143 wd_1144 wd_55 wd_1145
theorem gk_X9_144 : GoodIn ws0 (wsV RX9 144 RX8 yX8_sourceOf (WSM yX8_sourceOf cX8_sourceOf 2 (some (.object "LetterTables$Row")))) := goodV wd_1148 wd_1135 wd_1136 wd_55 wd_1137
theorem gk_X9_148 : GoodIn ws0 (wsV RX9 148 RX8 yX8_fits (WSM yX8_fits cX8_fits 7 (some .boolean))) := goodV wd_1130 wd_1131 wd_1132 wd_55 wd_1133
theorem gk_X9_73 : GoodIn ws0 (wsV RX9 73 RX2 yX2_copyFrom (WSM yX2_copyFrom cX2_copyFrom 3 none)) := goodV wd_630 wd_631 wd_632 wd_52 wd_633
theorem gk_X9_77 : GoodIn ws0 (wsV RX9 77 RX7 yX7_takeOver (WSM yX7_takeOver cX7_takeOver 3 none)) := goodV wd_655 wd_636 wd_637 wd_53 wd_638
theorem gk_X9_85 : GoodIn ws0 (wsV RX9 85 RX8 yX8_copyFrom (WSM yX8_copyFrom cX8_copyFrom 2 none)) := goodV wd_656 wd_657 wd_658 wd_55 wd_659
theorem gk_X9_99 : GoodIn ws0 (wsV RX9 99 RX9 yX9_partnerOf (WSM yX9_partnerOf cX9_partnerOf 2 (some .int))) := goodV wd_909 wd_568 wd_569 wd_51 wd_570
