/-! ===== rows in the form in which the program lays them ===== -/
def zoI (x : Nat ⊕ Int32) : Nat ⊕ Option Value := match x with
  | .inl k => .inl k
  | .inr r => .inr (some (.int r))
def zoL (x : Nat ⊕ Int64) : Nat ⊕ Option Value := match x with
  | .inl k => .inl k
  | .inr r => .inr (some (.long r))
def zoV (x : Nat ⊕ Unit) : Nat ⊕ Option Value := match x with
  | .inl k => .inl k
  | .inr _ => .inr none
def zoR (B : Nat) (x : Nat ⊕ Nat) : Nat ⊕ Option Value := match x with
  | .inl k => .inl k
  | .inr r => .inr (some (.ref (B + r)))
def pK (K : Nat) (x : Nat ⊕ Nat) : Prop := match x with
  | .inl _ => True
  | .inr r => KD r = K
def pZ (x : Nat ⊕ Int32) : Prop := match x with
  | .inl _ => True
  | .inr r => isZ r
def pQ (K : Nat) (x : Option Nat) : Prop := match x with
  | none => True
  | some r => KD r = K
def vq (B : Nat) (x : Option Nat) : Value := match x with
  | none => .null
  | some r => .ref (B + r)
theorem goodV {own C : String} {idx : Nat} {y : MethodName} {cc : ByteArray} {n : Nat} {ret : Option FieldType} (h1 : Cond.methodLink own idx y ∈ ws0) (h2 : Cond.instanceMethod y ∈ ws0) (h3 : Cond.selects C y y ∈ ws0) (h4 : Cond.initialized C ∈ ws0) (h5 : Cond.code y cc n ret ∈ ws0) : GoodIn ws0 (wsV own idx C y (WSM y cc n ret)) := by
  intro w hw
  rcases List.mem_append.mp hw with hw | hw
  · simp only [List.mem_cons, List.not_mem_nil, or_false] at hw
    rcases hw with rfl | rfl | rfl | rfl
    · exact ws0_self _ h1
    · exact ws0_self _ h2
    · exact ws0_self _ h3
    · exact ws0_self _ h4
  · exact WSM_good h5 w hw
theorem goodS {own : String} {idx : Nat} {y : MethodName} {cc : ByteArray} {n : Nat} {ret : Option FieldType} (h1 : Cond.methodLink own idx y ∈ ws0) (h2 : Cond.static y ∈ ws0) (h4 : Cond.initialized y.cls ∈ ws0) (h5 : Cond.code y cc n ret ∈ ws0) : GoodIn ws0 (va_wsS own idx y (WSM y cc n ret)) := by
  intro w hw
  rcases List.mem_append.mp hw with hw | hw
  · simp only [List.mem_cons, List.not_mem_nil, or_false] at hw
    rcases hw with rfl | rfl | rfl
    · exact ws0_self _ h1
    · exact ws0_self _ h2
    · exact ws0_self _ h4
  · exact WSM_good h5 w hw
theorem inb_lt {i : Int32} {n : Nat} (h : inb i n = true) : i.toNatClampNeg < n := by
  have := inb_in h
  unfold vp_in at this
  omega
section GROWS
variable {D : va_G} {B : Nat} {Y : Nat → ClassId} {p : Program} {l : Launch} {e : Env} {R : Room} {s : State} {m : MethodId} {args : Array Value} {below : List Frame} {meth : Method} {c : Code} {H : Heap} {locs : List Loc} {cells slots : Nat} {Q : State → Prop} {cc : ByteArray} {n : Nat} {own : String} {ret : Option FieldType} {w : Wd} {pc : Nat} {ls : Array Slot} {rest : List Value} {Z : Type} {z : Z}
theorem b_let {A : Type} {x : A} {k : A → Option Z} {G : Prop} (hf : lt x k = some z) (kk : ∀ y : A, x = y → k y = some z → G) : G := kk x rfl hf
theorem b_leti {x : Int32} {k : Int32 → Option Z} (hf : lt x k = some z) (kk : ∀ y : Int32, k y = some z → W p l e R s m args below meth c H locs cells slots Q (F0 m pc ls (.int y :: rest))) : W p l e R s m args below meth c H locs cells slots Q (F0 m pc ls (.int x :: rest)) := kk x hf
theorem b_letl {x : Int64} {k : Int64 → Option Z} (hf : lt x k = some z) (kk : ∀ y : Int64, k y = some z → W p l e R s m args below meth c H locs cells slots Q (F0 m pc ls (.long y :: rest))) : W p l e R s m args below meth c H locs cells slots Q (F0 m pc ls (.long x :: rest)) := kk x hf
theorem b_w {w' : Wd} {k : Wd → Option Z} {G : Prop} (hf : wr w' k = some z) (hH : HS D B Y w' s H locs) (kk : ∀ w1 : Wd, k w1 = some z → HS D B Y w1 s H locs → G) : G := kk w' hf hH
theorem if_some {b : Bool} {k : Option Z} (h : (if b = true then k else none) = some z) : b = true ∧ k = some z := by
  by_cases hb : b = true
  · rw [if_pos hb] at h; exact ⟨hb, h⟩
  · rw [if_neg hb] at h; cases h
theorem g_iald (C : CX D B Y p s m args meth c cc n own ret) (hH : HS D B Y w s H locs) {q : Nat} {i : Int32} {k : Int32 → Option Z} (hk : KD q = 20) (hf : ald w q i k = some z) (hdg : decode cc pc = .ok (.iaload, 1))
    (kk : ∀ x : Int32, k x = some z → W p l e R s m args below meth c H locs cells slots Q (F0 m (pc + 1) ls (.int x :: rest))) : W p l e R s m args below meth c H locs cells slots Q (F0 m pc ls (.int i :: .ref (B + q) :: rest)) :=
  q_iald C hH hk (if_some hf).1 hdg (kk _ (if_some hf).2)
theorem g_iast (C : CX D B Y p s m args meth c cc n own ret) (hH : HS D B Y w s H locs) {q : Nat} {i x : Int32} {k : Wd → Option Z} (hk : KD q = 20) (hf : ast w q i x k = some z) (hdg : decode cc pc = .ok (.iastore, 1))
    (kk : ∀ (w1 : Wd) (H1 : Heap) (locs1 : List Loc), k w1 = some z → HS D B Y w1 s H1 locs1 → W p l e R s m args below meth c H1 locs1 cells slots Q (F0 m (pc + 1) ls rest)) : W p l e R s m args below meth c H locs cells slots Q (F0 m pc ls (.int x :: .int i :: .ref (B + q) :: rest)) :=
  q_iast C hH hk (if_some hf).1 hdg (fun H1 locs1 h => kk _ H1 locs1 (if_some hf).2 h)
theorem ka_all : ∀ q, q < 713 → ∀ j, j < LEN q → (KD q = 23 → KD (RV q j) = 7) ∧ (KD q = 24 → KD (RV q j) = 2) ∧ (KD q = 25 → KD (RV q j) = 9) ∧ (KD q = 26 → KD (RV q j) = 8) ∧ (KD q = 27 → KD (RV q j) = 6) := by
  have h : (List.range 713).all (fun q => decide (KD q < 23) || (List.range (LEN q)).all (fun j => decide ((KD q = 23 → KD (RV q j) = 7) ∧ (KD q = 24 → KD (RV q j) = 2) ∧ (KD q = 25 → KD (RV q j) = 9) ∧ (KD q = 26 → KD (RV q j) = 8) ∧ (KD q = 27 → KD (RV q j) = 6)))) = true := by decide +kernel
  intro q hq j hj
  have h1 := List.all_eq_true.mp h q (List.mem_range.mpr hq)
  rcases Bool.or_eq_true _ _ |>.mp h1 with h1 | h1
  · have := of_decide_eq_true h1
    refine ⟨fun e => by omega, fun e => by omega, fun e => by omega, fun e => by omega, fun e => by omega⟩
  · exact of_decide_eq_true (List.all_eq_true.mp h1 j (List.mem_range.mpr hj))
theorem ka_23 {q : Nat} (hk : KD q = 23) {j : Nat} (hj : j < LEN q) : KD (RV q j) = 7 := (ka_all q (KD_lt hk (by omega)) j hj).1 hk
theorem ka_24 {q : Nat} (hk : KD q = 24) {j : Nat} (hj : j < LEN q) : KD (RV q j) = 2 := (ka_all q (KD_lt hk (by omega)) j hj).2.1 hk
theorem ka_25 {q : Nat} (hk : KD q = 25) {j : Nat} (hj : j < LEN q) : KD (RV q j) = 9 := (ka_all q (KD_lt hk (by omega)) j hj).2.2.1 hk
theorem ka_26 {q : Nat} (hk : KD q = 26) {j : Nat} (hj : j < LEN q) : KD (RV q j) = 8 := (ka_all q (KD_lt hk (by omega)) j hj).2.2.2.1 hk
theorem ka_27 {q : Nat} (hk : KD q = 27) {j : Nat} (hj : j < LEN q) : KD (RV q j) = 6 := (ka_all q (KD_lt hk (by omega)) j hj).2.2.2.2 hk
theorem g_aald (C : CX D B Y p s m args meth c cc n own ret) (hH : HS D B Y w s H locs) {q t0 ci K : Nat} {En : String} {i : Int32} {k : Nat → Option Z} (ht : (tys Y)[t0]? = some (Y ci, .object En)) (hci : 22 < ci ∧ ci < 99) (hK : ∀ j, j < LEN q → KD (RV q j) = K) (hk : KD q = ci) (hf : ard q i k = some z) (hdg : decode cc pc = .ok (.aaload, 1))
    (kk : ∀ r : Nat, KD r = K → k r = some z → W p l e R s m args below meth c H locs cells slots Q (F0 m (pc + 1) ls (.ref (B + r) :: rest))) : W p l e R s m args below meth c H locs cells slots Q (F0 m pc ls (.int i :: .ref (B + q) :: rest)) :=
  q_aald C hH ht hci hk (if_some hf).1 hdg (kk _ (hK _ (inb_lt (if_some hf).1)) (if_some hf).2)
theorem g_idiv (hx : p.tables.exec = Jvm.exec) (hb : c.code = cc) {x y : Int32} {k : Option Z} (hf : dv y k = some z) (hdg : decode cc pc = .ok (.idiv, 1))
    (kk : k = some z → W p l e R s m args below meth c H locs cells slots Q (F0 m (pc + 1) ls (.int (x / y) :: rest))) : W p l e R s m args below meth c H locs cells slots Q (F0 m pc ls (.int y :: .int x :: rest)) := by
  unfold dv at hf
  by_cases h : y = 0
  · rw [if_pos h] at hf; cases hf
  · rw [if_neg h] at hf; exact lv_idiv hx hb hdg h (kk hf)
theorem g_irem (hx : p.tables.exec = Jvm.exec) (hb : c.code = cc) {x y : Int32} {k : Option Z} (hf : dv y k = some z) (hdg : decode cc pc = .ok (.irem, 1))
    (kk : k = some z → W p l e R s m args below meth c H locs cells slots Q (F0 m (pc + 1) ls (.int (x - x / y * y) :: rest))) : W p l e R s m args below meth c H locs cells slots Q (F0 m pc ls (.int y :: .int x :: rest)) := by
  unfold dv at hf
  by_cases h : y = 0
  · rw [if_pos h] at hf; cases hf
  · rw [if_neg h] at hf; exact lv_irem hx hb hdg h (kk hf)
variable {hm mcm msm : Nat}
theorem q_callV1 (C : CX D B Y p s m args meth c cc n own ret) (hH : HS D B Y w s H locs) {y : MethodName} {bytes : ByteArray} {maxL : Nat} {ret' : Option FieldType} {h o ci index : Nat} {As : List Value} {r : vw_C} {v : Value} {w' : Wd} {P : Prop} {st0 : List Value} (hc : vwCl[ci]? = some r) (hci : ci < 12) (hg : GoodIn ws0 (wsV own index r.1 y (WSM y bytes maxL ret')))
    (hd : y.cls = r.1 ∧ y.cls ≠ "java/lang/invoke/MethodHandle" ∧ y.cls ≠ "java/lang/invoke/VarHandle" ∧ (parseMethodDescriptor y.desc).map (fun d => d.parameters.length) = some As.length) (hmax : maxL ≤ 21) (hh : h + 1 ≤ hm)
    (hk : KD o = ci) (hM : CM l D B Y y bytes maxL ret' h (.ref (B + o) :: As) w (some v) w' P) (hsize : ls.size = n) (hst : st0 = As.reverse ++ .ref (B + o) :: rest) (hW : (rest.map fun v => v.category).sum ≤ 8) (hdg : decode cc pc = .ok (.invokevirtual index, 3)) (hf : cells ≤ mcm ∧ slots ≤ msm)
    (kk : ∀ (H1 : Heap) (locs1 : List Loc), HS D B Y w' s H1 locs1 → P → W p l e (RM hm mcm msm) s m args below meth c H1 locs1 cells slots Q (F0 m (pc + 3) ls (v :: rest))) : W p l e (RM hm mcm msm) s m args below meth c H locs cells slots Q (F0 m pc ls st0) :=
  q_callV C hH hc hci hg hd hmax hh hk hM hsize hst hW hdg hf kk
theorem q_callS1 (C : CX D B Y p s m args meth c cc n own ret) (hH : HS D B Y w s H locs) {y : MethodName} {bytes : ByteArray} {maxL : Nat} {ret' : Option FieldType} {h index : Nat} {As : List Value} {v : Value} {w' : Wd} {P : Prop} {st0 : List Value} (hg : GoodIn ws0 (va_wsS own index y (WSM y bytes maxL ret')))
    (hd : y.cls ≠ "java/lang/invoke/MethodHandle" ∧ y.cls ≠ "java/lang/invoke/VarHandle" ∧ (parseMethodDescriptor y.desc).map (fun d => d.parameters.length) = some As.length) (hmax : maxL ≤ 21) (hh : h + 1 ≤ hm)
    (hM : CM l D B Y y bytes maxL ret' h As w (some v) w' P) (hsize : ls.size = n) (hst : st0 = As.reverse ++ rest) (hW : (rest.map fun v => v.category).sum ≤ 8) (hdg : decode cc pc = .ok (.invokestatic index, 3)) (hf : cells ≤ mcm ∧ slots ≤ msm)
    (kk : ∀ (H1 : Heap) (locs1 : List Loc), HS D B Y w' s H1 locs1 → P → W p l e (RM hm mcm msm) s m args below meth c H1 locs1 cells slots Q (F0 m (pc + 3) ls (v :: rest))) : W p l e (RM hm mcm msm) s m args below meth c H locs cells slots Q (F0 m pc ls st0) :=
  q_callS C hH hg hd hmax hh hM hsize hst hW hdg hf kk
theorem q_callN1 (C : CX D B Y p s m args meth c cc n own ret) (hH : HS D B Y w s H locs) {y : MethodName} {bytes : ByteArray} {maxL : Nat} {ret' : Option FieldType} {h index : Nat} {host : String} {As : List Value} {v : Value} {w' : Wd} {P : Prop} {st0 : List Value} (hn : (own, index, y, host) ∈ nestL) (hg : Cond.code y bytes maxL ret' ∈ ws0) (hi : Cond.initialized y.cls ∈ ws0) (hs : Cond.static y ∈ ws0)
    (hd : y.cls ≠ "java/lang/invoke/MethodHandle" ∧ y.cls ≠ "java/lang/invoke/VarHandle" ∧ (parseMethodDescriptor y.desc).map (fun d => d.parameters.length) = some As.length) (hmax : maxL ≤ 21) (hh : h + 1 ≤ hm)
    (hM : CM l D B Y y bytes maxL ret' h As w (some v) w' P) (hsize : ls.size = n) (hst : st0 = As.reverse ++ rest) (hW : (rest.map fun v => v.category).sum ≤ 8) (hdg : decode cc pc = .ok (.invokestatic index, 3)) (hf : cells ≤ mcm ∧ slots ≤ msm)
    (kk : ∀ (H1 : Heap) (locs1 : List Loc), HS D B Y w' s H1 locs1 → P → W p l e (RM hm mcm msm) s m args below meth c H1 locs1 cells slots Q (F0 m (pc + 3) ls (v :: rest))) : W p l e (RM hm mcm msm) s m args below meth c H locs cells slots Q (F0 m pc ls st0) :=
  q_callN C hH hn hg hi hs hd hmax hh hM hsize hst hW hdg hf kk
theorem q_callV0 (C : CX D B Y p s m args meth c cc n own ret) (hH : HS D B Y w s H locs) {y : MethodName} {bytes : ByteArray} {maxL : Nat} {ret' : Option FieldType} {h o ci index : Nat} {As : List Value} {r : vw_C} {w' : Wd} {P : Prop} {st0 : List Value} (hc : vwCl[ci]? = some r) (hci : ci < 12) (hg : GoodIn ws0 (wsV own index r.1 y (WSM y bytes maxL ret')))
    (hd : y.cls = r.1 ∧ y.cls ≠ "java/lang/invoke/MethodHandle" ∧ y.cls ≠ "java/lang/invoke/VarHandle" ∧ (parseMethodDescriptor y.desc).map (fun d => d.parameters.length) = some As.length) (hmax : maxL ≤ 21) (hh : h + 1 ≤ hm)
    (hk : KD o = ci) (hM : CM l D B Y y bytes maxL ret' h (.ref (B + o) :: As) w none w' P) (hsize : ls.size = n) (hst : st0 = As.reverse ++ .ref (B + o) :: rest) (hW : (rest.map fun v => v.category).sum ≤ 8) (hdg : decode cc pc = .ok (.invokevirtual index, 3)) (hf : cells ≤ mcm ∧ slots ≤ msm)
    (kk : ∀ (H1 : Heap) (locs1 : List Loc), HS D B Y w' s H1 locs1 → P → W p l e (RM hm mcm msm) s m args below meth c H1 locs1 cells slots Q (F0 m (pc + 3) ls (rest))) : W p l e (RM hm mcm msm) s m args below meth c H locs cells slots Q (F0 m pc ls st0) :=
  q_callV C hH hc hci hg hd hmax hh hk hM hsize hst hW hdg hf kk
theorem q_callS0 (C : CX D B Y p s m args meth c cc n own ret) (hH : HS D B Y w s H locs) {y : MethodName} {bytes : ByteArray} {maxL : Nat} {ret' : Option FieldType} {h index : Nat} {As : List Value} {w' : Wd} {P : Prop} {st0 : List Value} (hg : GoodIn ws0 (va_wsS own index y (WSM y bytes maxL ret')))
    (hd : y.cls ≠ "java/lang/invoke/MethodHandle" ∧ y.cls ≠ "java/lang/invoke/VarHandle" ∧ (parseMethodDescriptor y.desc).map (fun d => d.parameters.length) = some As.length) (hmax : maxL ≤ 21) (hh : h + 1 ≤ hm)
    (hM : CM l D B Y y bytes maxL ret' h As w none w' P) (hsize : ls.size = n) (hst : st0 = As.reverse ++ rest) (hW : (rest.map fun v => v.category).sum ≤ 8) (hdg : decode cc pc = .ok (.invokestatic index, 3)) (hf : cells ≤ mcm ∧ slots ≤ msm)
    (kk : ∀ (H1 : Heap) (locs1 : List Loc), HS D B Y w' s H1 locs1 → P → W p l e (RM hm mcm msm) s m args below meth c H1 locs1 cells slots Q (F0 m (pc + 3) ls (rest))) : W p l e (RM hm mcm msm) s m args below meth c H locs cells slots Q (F0 m pc ls st0) :=
  q_callS C hH hg hd hmax hh hM hsize hst hW hdg hf kk
theorem q_callN0 (C : CX D B Y p s m args meth c cc n own ret) (hH : HS D B Y w s H locs) {y : MethodName} {bytes : ByteArray} {maxL : Nat} {ret' : Option FieldType} {h index : Nat} {host : String} {As : List Value} {w' : Wd} {P : Prop} {st0 : List Value} (hn : (own, index, y, host) ∈ nestL) (hg : Cond.code y bytes maxL ret' ∈ ws0) (hi : Cond.initialized y.cls ∈ ws0) (hs : Cond.static y ∈ ws0)
    (hd : y.cls ≠ "java/lang/invoke/MethodHandle" ∧ y.cls ≠ "java/lang/invoke/VarHandle" ∧ (parseMethodDescriptor y.desc).map (fun d => d.parameters.length) = some As.length) (hmax : maxL ≤ 21) (hh : h + 1 ≤ hm)
    (hM : CM l D B Y y bytes maxL ret' h As w none w' P) (hsize : ls.size = n) (hst : st0 = As.reverse ++ rest) (hW : (rest.map fun v => v.category).sum ≤ 8) (hdg : decode cc pc = .ok (.invokestatic index, 3)) (hf : cells ≤ mcm ∧ slots ≤ msm)
    (kk : ∀ (H1 : Heap) (locs1 : List Loc), HS D B Y w' s H1 locs1 → P → W p l e (RM hm mcm msm) s m args below meth c H1 locs1 cells slots Q (F0 m (pc + 3) ls (rest))) : W p l e (RM hm mcm msm) s m args below meth c H locs cells slots Q (F0 m pc ls st0) :=
  q_callN C hH hn hg hi hs hd hmax hh hM hsize hst hW hdg hf kk
theorem sw_ne {x : Int32} {k : Int32} (h : ¬ x = k) : ¬ x.toInt = k.toInt := fun e => h (Int32.toInt_inj.mp e)
theorem sw_ne2 {x : Int32} {k : Int32} {n : Int} (h : ¬ x = k) (e : k.toInt = n) : ¬ x.toInt = n := fun q => h (Int32.toInt_inj.mp (q.trans e.symm))
end GROWS
