theorem inC_0 : ∀ x ∈ u_ws RX0 TX0 1, x ∈ ws0 := by
  have h : (u_ws RX0 TX0 1).all (fun w => decide (w ∈ lw_tbl) && goodWord w) = true := by decide +kernel
  intro x hx
  have h1 := List.all_eq_true.mp h x hx
  simp only [Bool.and_eq_true, decide_eq_true_eq] at h1
  exact List.mem_filter.mpr h1
theorem inC_1 : ∀ x ∈ u_ws RX1 TX1 6, x ∈ ws0 := by
  have h : (u_ws RX1 TX1 6).all (fun w => decide (w ∈ lw_tbl) && goodWord w) = true := by decide +kernel
  intro x hx
  have h1 := List.all_eq_true.mp h x hx
  simp only [Bool.and_eq_true, decide_eq_true_eq] at h1
  exact List.mem_filter.mpr h1
theorem inC_2 : ∀ x ∈ u_ws RX2 TX2 7, x ∈ ws0 := by
  have h : (u_ws RX2 TX2 7).all (fun w => decide (w ∈ lw_tbl) && goodWord w) = true := by decide +kernel
  intro x hx
  have h1 := List.all_eq_true.mp h x hx
  simp only [Bool.and_eq_true, decide_eq_true_eq] at h1
  exact List.mem_filter.mpr h1
theorem inC_3 : ∀ x ∈ u_ws RX3 TX3 12, x ∈ ws0 := by
  have h : (u_ws RX3 TX3 12).all (fun w => decide (w ∈ lw_tbl) && goodWord w) = true := by decide +kernel
  intro x hx
  have h1 := List.all_eq_true.mp h x hx
  simp only [Bool.and_eq_true, decide_eq_true_eq] at h1
  exact List.mem_filter.mpr h1
theorem inC_4 : ∀ x ∈ u_ws RX4 TX4 4, x ∈ ws0 := by
  have h : (u_ws RX4 TX4 4).all (fun w => decide (w ∈ lw_tbl) && goodWord w) = true := by decide +kernel
  intro x hx
  have h1 := List.all_eq_true.mp h x hx
  simp only [Bool.and_eq_true, decide_eq_true_eq] at h1
  exact List.mem_filter.mpr h1
theorem inC_5 : ∀ x ∈ u_ws RX5 TX5 5, x ∈ ws0 := by
  have h : (u_ws RX5 TX5 5).all (fun w => decide (w ∈ lw_tbl) && goodWord w) = true := by decide +kernel
  intro x hx
  have h1 := List.all_eq_true.mp h x hx
  simp only [Bool.and_eq_true, decide_eq_true_eq] at h1
  exact List.mem_filter.mpr h1
theorem inC_6 : ∀ x ∈ u_ws RX6 TX6 7, x ∈ ws0 := by
  have h : (u_ws RX6 TX6 7).all (fun w => decide (w ∈ lw_tbl) && goodWord w) = true := by decide +kernel
  intro x hx
  have h1 := List.all_eq_true.mp h x hx
  simp only [Bool.and_eq_true, decide_eq_true_eq] at h1
  exact List.mem_filter.mpr h1
theorem inC_7 : ∀ x ∈ u_ws RX7 TX7 2, x ∈ ws0 := by
  have h : (u_ws RX7 TX7 2).all (fun w => decide (w ∈ lw_tbl) && goodWord w) = true := by decide +kernel
  intro x hx
  have h1 := List.all_eq_true.mp h x hx
  simp only [Bool.and_eq_true, decide_eq_true_eq] at h1
  exact List.mem_filter.mpr h1
theorem inC_8 : ∀ x ∈ u_ws RX8 TX8 5, x ∈ ws0 := by
  have h : (u_ws RX8 TX8 5).all (fun w => decide (w ∈ lw_tbl) && goodWord w) = true := by decide +kernel
  intro x hx
  have h1 := List.all_eq_true.mp h x hx
  simp only [Bool.and_eq_true, decide_eq_true_eq] at h1
  exact List.mem_filter.mpr h1
theorem inC_9 : ∀ x ∈ u_ws RX9 TX9 15, x ∈ ws0 := by
  have h : (u_ws RX9 TX9 15).all (fun w => decide (w ∈ lw_tbl) && goodWord w) = true := by decide +kernel
  intro x hx
  have h1 := List.all_eq_true.mp h x hx
  simp only [Bool.and_eq_true, decide_eq_true_eq] at h1
  exact List.mem_filter.mpr h1
theorem inC_10 : ∀ x ∈ u_ws RX10 TX10 20, x ∈ ws0 := by
  have h : (u_ws RX10 TX10 20).all (fun w => decide (w ∈ lw_tbl) && goodWord w) = true := by decide +kernel
  intro x hx
  have h1 := List.all_eq_true.mp h x hx
  simp only [Bool.and_eq_true, decide_eq_true_eq] at h1
  exact List.mem_filter.mpr h1
theorem inC_11 : ∀ x ∈ u_ws RX11 TX11 45, x ∈ ws0 := by
  have h : (u_ws RX11 TX11 45).all (fun w => decide (w ∈ lw_tbl) && goodWord w) = true := by decide +kernel
  intro x hx
  have h1 := List.all_eq_true.mp h x hx
  simp only [Bool.and_eq_true, decide_eq_true_eq] at h1
  exact List.mem_filter.mpr h1
theorem wd_109 : Cond.initialized RX10 ∈ ws0 := ws0_of 109 (by decide +kernel) (by decide +kernel)
theorem wd_112 : Cond.initialized RX7 ∈ ws0 := ws0_of 112 (by decide +kernel) (by decide +kernel)
theorem wd_124 : Cond.initialized (exN 2) ∈ ws0 := ws0_of 124 (by decide +kernel) (by decide +kernel)
theorem wd_126 : Cond.initialized (exN 1) ∈ ws0 := ws0_of 126 (by decide +kernel) (by decide +kernel)
theorem wd_157 : Cond.fieldLink RX7 9 (TX7 0).1 (TX7 0).2.1 (TX7 0).2.2.1 ∈ ws0 := ws0_of 157 (by decide +kernel) (by decide +kernel)
theorem wd_158 : Cond.fieldLink RX7 15 (TX7 1).1 (TX7 1).2.1 (TX7 1).2.2.1 ∈ ws0 := ws0_of 158 (by decide +kernel) (by decide +kernel)
theorem wd_423 : Cond.fieldLink RX10 22 (TX10 3).1 (TX10 3).2.1 (TX10 3).2.2.1 ∈ ws0 := ws0_of 423 (by decide +kernel) (by decide +kernel)
theorem wd_491 : Cond.instanceMethod yX7_get ∈ ws0 := ws0_of 491 (by decide +kernel) (by decide +kernel)
theorem wd_492 : Cond.selects RX7 yX7_get yX7_get ∈ ws0 := ws0_of 492 (by decide +kernel) (by decide +kernel)
theorem wd_493 : Cond.code yX7_get cX7_get 2 (some .int) ∈ ws0 := ws0_of 493 (by decide +kernel) (by decide +kernel)
theorem wd_503 : Cond.methodLink RX10 99 yX10_isWithin ∈ ws0 := ws0_of 503 (by decide +kernel) (by decide +kernel)
theorem wd_504 : Cond.static yX10_isWithin ∈ ws0 := ws0_of 504 (by decide +kernel) (by decide +kernel)
theorem wd_505 : Cond.code yX10_isWithin cX10_isWithin 3 (some .boolean) ∈ ws0 := ws0_of 505 (by decide +kernel) (by decide +kernel)
theorem wd_509 : Cond.classLink RX10 370 (exN 2) ∈ ws0 := ws0_of 509 (by decide +kernel) (by decide +kernel)
theorem wd_551 : Cond.methodLink RX10 374 (Bundle.initS (exN 2)) ∈ ws0 := ws0_of 551 (by decide +kernel) (by decide +kernel)
theorem wd_595 : Cond.instanceMethod yX7_add ∈ ws0 := ws0_of 595 (by decide +kernel) (by decide +kernel)
theorem wd_596 : Cond.selects RX7 yX7_add yX7_add ∈ ws0 := ws0_of 596 (by decide +kernel) (by decide +kernel)
theorem wd_597 : Cond.code yX7_add cX7_add 2 (some .boolean) ∈ ws0 := ws0_of 597 (by decide +kernel) (by decide +kernel)
theorem wd_612 : Cond.classLink RX10 230 (exN 1) ∈ ws0 := ws0_of 612 (by decide +kernel) (by decide +kernel)
theorem wd_622 : Cond.methodLink RX10 234 (Bundle.initS (exN 1)) ∈ ws0 := ws0_of 622 (by decide +kernel) (by decide +kernel)
theorem wd_766 : Cond.methodLink RX7 19 yX7_get ∈ ws0 := ws0_of 766 (by decide +kernel) (by decide +kernel)
theorem wd_767 : Cond.methodLink RX7 27 yX7_add ∈ ws0 := ws0_of 767 (by decide +kernel) (by decide +kernel)
theorem wd_849 : Cond.instanceMethod yX7_cutTo ∈ ws0 := ws0_of 849 (by decide +kernel) (by decide +kernel)
theorem wd_850 : Cond.selects RX7 yX7_cutTo yX7_cutTo ∈ ws0 := ws0_of 850 (by decide +kernel) (by decide +kernel)
theorem wd_851 : Cond.code yX7_cutTo cX7_cutTo 2 none ∈ ws0 := ws0_of 851 (by decide +kernel) (by decide +kernel)
theorem wd_890 : Cond.methodLink RX7 23 yX7_cutTo ∈ ws0 := ws0_of 890 (by decide +kernel) (by decide +kernel)
theorem wd_908 : Cond.instanceMethod yX7_set ∈ ws0 := ws0_of 908 (by decide +kernel) (by decide +kernel)
theorem wd_909 : Cond.selects RX7 yX7_set yX7_set ∈ ws0 := ws0_of 909 (by decide +kernel) (by decide +kernel)
theorem wd_910 : Cond.code yX7_set cX7_set 3 none ∈ ws0 := ws0_of 910 (by decide +kernel) (by decide +kernel)
theorem wd_970 : Cond.methodLink RX7 31 yX7_holds ∈ ws0 := ws0_of 970 (by decide +kernel) (by decide +kernel)
theorem wd_971 : Cond.instanceMethod yX7_holds ∈ ws0 := ws0_of 971 (by decide +kernel) (by decide +kernel)
theorem wd_972 : Cond.selects RX7 yX7_holds yX7_holds ∈ ws0 := ws0_of 972 (by decide +kernel) (by decide +kernel)
theorem wd_973 : Cond.code yX7_holds cX7_holds 4 (some .boolean) ∈ ws0 := ws0_of 973 (by decide +kernel) (by decide +kernel)
theorem wd_1112 : Cond.methodLink RX7 35 yX7_set ∈ ws0 := ws0_of 1112 (by decide +kernel) (by decide +kernel)
theorem kc_0 : KD 0 = 10 := by decide +kernel
theorem kc_622 : KD 622 = 23 := by decide +kernel
theorem ko_ne0 {o ci : Nat} (h : KD o = ci) (hc : ci < 10) : ¬ o = 0 := by
  rintro rfl
  rw [show KD 0 = 10 by decide +kernel] at h
  omega
theorem roa_7_0 : ∀ o, o < 747 → KD o = 7 → RV o 0 = o + 1 ∧ KD (o + 1) = 20 := by
  have h : (List.range 747).all (fun o => decide (KD o = 7 → RV o 0 = o + 1 ∧ KD (o + 1) = 20)) = true := by decide +kernel
  intro o ho
  exact of_decide_eq_true (List.all_eq_true.mp h o (List.mem_range.mpr ho))
theorem ro_7_0 {o : Nat} (h : KD o = 7) : RV o 0 = o + 1 := (roa_7_0 o (KD_lt h (by omega)) h).1
theorem ko_7_0 {o : Nat} (h : KD o = 7) : KD (o + 1) = 20 := (roa_7_0 o (KD_lt h (by omega)) h).2
section FROWS
variable {D : va_G} {B : Nat} {Y : Nat → ClassId} {p : Program} {l : Launch} {e : Env} {R : Room} {s : State} {m : MethodId} {args : Array Value} {below : List Frame} {meth : Method} {c : Code} {H : Heap} {locs : List Loc} {cells slots : Nat} {Q : State → Prop} {cc : ByteArray} {n : Nat} {ret : Option FieldType} {w : Wd} {pc : Nat} {ls : Array Slot} {rest : List Value}
theorem fg_X10_22 (C : CX D B Y p s m args meth c cc n RX10 ret) (hH : HS D B Y w s H locs) (hdg : decode cc pc = .ok (.getfield 22, 3)) (kk : W p l e R s m args below meth c H locs cells slots Q (F0 m (pc + 3) ls (.ref (B + 622) :: rest))) : W p l e R s m args below meth c H locs cells slots Q (F0 m pc ls (.ref (B + 0) :: rest)) :=
  q_get C hH (ci := 10) (T := TX10) (N := 20) (j := 3) rfl inC_10 (by omega) rfl (by omega) wd_423  kc_0 (by unfold fv; rw [kc_0, if_pos (by decide +kernel)]; rfl) hdg kk
theorem fg_X7_15 (C : CX D B Y p s m args meth c cc n RX7 ret) (hH : HS D B Y w s H locs) {o : Nat} (hk : KD o = 7) (hdg : decode cc pc = .ok (.getfield 15, 3)) (kk : W p l e R s m args below meth c H locs cells slots Q (F0 m (pc + 3) ls (.int (w.1 o 1) :: rest))) : W p l e R s m args below meth c H locs cells slots Q (F0 m pc ls (.ref (B + o) :: rest)) :=
  q_get C hH (ci := 7) (T := TX7) (N := 2) (j := 1) rfl inC_7 (by omega) rfl (by omega) wd_158 hk (by unfold fv; rw [hk, if_neg (by decide +kernel)]) hdg kk
theorem fg_X7_9 (C : CX D B Y p s m args meth c cc n RX7 ret) (hH : HS D B Y w s H locs) {o : Nat} (hk : KD o = 7) (hdg : decode cc pc = .ok (.getfield 9, 3)) (kk : W p l e R s m args below meth c H locs cells slots Q (F0 m (pc + 3) ls (.ref (B + (o + 1)) :: rest))) : W p l e R s m args below meth c H locs cells slots Q (F0 m pc ls (.ref (B + o) :: rest)) :=
  q_get C hH (ci := 7) (T := TX7) (N := 2) (j := 0) rfl inC_7 (by omega) rfl (by omega) wd_157 hk (by unfold fv RVw; rw [hk, if_pos (by decide +kernel), if_neg (fun h => ko_ne0 hk (by omega) h.1), if_neg (fun h => ko_ne0 hk (by omega) h.1), ro_7_0 hk]) hdg kk
theorem fp_X7_15 (C : CX D B Y p s m args meth c cc n RX7 ret) (hH : HS D B Y w s H locs) {x : Int32} {o : Nat} (hk : KD o = 7) (hdg : decode cc pc = .ok (.putfield 15, 3)) (kk : ∀ (H1 : Heap) (locs1 : List Loc), HS D B Y (setI w o 1 x) s H1 locs1 → W p l e R s m args below meth c H1 locs1 cells slots Q (F0 m (pc + 3) ls rest)) : W p l e R s m args below meth c H locs cells slots Q (F0 m pc ls (.int x :: .ref (B + o) :: rest)) :=
  q_put C hH (ci := 7) (T := TX7) (N := 2) (j := 1) (ty := .int) (tyF := tyX7) rfl inC_7 tyX7_ok nmX7 (by omega) rfl (by omega) wd_158 (by decide +kernel) (by decide +kernel) (by decide +kernel) hk rfl rfl hdg kk
end FROWS
theorem yd_X10_isWithin : yX10_isWithin.cls ≠ "java/lang/invoke/MethodHandle" ∧ yX10_isWithin.cls ≠ "java/lang/invoke/VarHandle" ∧ (parseMethodDescriptor yX10_isWithin.desc).map (fun d => d.parameters.length) = some 3 := ⟨by decide +kernel, by decide +kernel, by decide +kernel⟩
theorem yd_X7_add : yX7_add.cls = RX7 ∧ yX7_add.cls ≠ "java/lang/invoke/MethodHandle" ∧ yX7_add.cls ≠ "java/lang/invoke/VarHandle" ∧ (parseMethodDescriptor yX7_add.desc).map (fun d => d.parameters.length) = some 1 := ⟨rfl, by decide +kernel, by decide +kernel, by decide +kernel⟩
theorem yd_X7_cutTo : yX7_cutTo.cls = RX7 ∧ yX7_cutTo.cls ≠ "java/lang/invoke/MethodHandle" ∧ yX7_cutTo.cls ≠ "java/lang/invoke/VarHandle" ∧ (parseMethodDescriptor yX7_cutTo.desc).map (fun d => d.parameters.length) = some 1 := ⟨rfl, by decide +kernel, by decide +kernel, by decide +kernel⟩
theorem yd_X7_get : yX7_get.cls = RX7 ∧ yX7_get.cls ≠ "java/lang/invoke/MethodHandle" ∧ yX7_get.cls ≠ "java/lang/invoke/VarHandle" ∧ (parseMethodDescriptor yX7_get.desc).map (fun d => d.parameters.length) = some 1 := ⟨rfl, by decide +kernel, by decide +kernel, by decide +kernel⟩
theorem yd_X7_holds : yX7_holds.cls = RX7 ∧ yX7_holds.cls ≠ "java/lang/invoke/MethodHandle" ∧ yX7_holds.cls ≠ "java/lang/invoke/VarHandle" ∧ (parseMethodDescriptor yX7_holds.desc).map (fun d => d.parameters.length) = some 2 := ⟨rfl, by decide +kernel, by decide +kernel, by decide +kernel⟩
theorem yd_X7_set : yX7_set.cls = RX7 ∧ yX7_set.cls ≠ "java/lang/invoke/MethodHandle" ∧ yX7_set.cls ≠ "java/lang/invoke/VarHandle" ∧ (parseMethodDescriptor yX7_set.desc).map (fun d => d.parameters.length) = some 2 := ⟨rfl, by decide +kernel, by decide +kernel, by decide +kernel⟩
theorem gk_X10_99 : GoodIn ws0 (va_wsS RX10 99 yX10_isWithin (WSM yX10_isWithin cX10_isWithin 3 (some .boolean))) := goodS wd_503 wd_504 wd_109 wd_505
theorem gk_X7_19 : GoodIn ws0 (wsV RX7 19 RX7 yX7_get (WSM yX7_get cX7_get 2 (some .int))) := goodV wd_766 wd_491 wd_492 wd_112 wd_493
theorem gk_X7_23 : GoodIn ws0 (wsV RX7 23 RX7 yX7_cutTo (WSM yX7_cutTo cX7_cutTo 2 none)) := goodV wd_890 wd_849 wd_850 wd_112 wd_851
theorem gk_X7_27 : GoodIn ws0 (wsV RX7 27 RX7 yX7_add (WSM yX7_add cX7_add 2 (some .boolean))) := goodV wd_767 wd_595 wd_596 wd_112 wd_597
theorem gk_X7_31 : GoodIn ws0 (wsV RX7 31 RX7 yX7_holds (WSM yX7_holds cX7_holds 4 (some .boolean))) := goodV wd_970 wd_971 wd_972 wd_112 wd_973
theorem gk_X7_35 : GoodIn ws0 (wsV RX7 35 RX7 yX7_set (WSM yX7_set cX7_set 3 none)) := goodV wd_1112 wd_908 wd_909 wd_112 wd_910
