/-! ===== what is known of the machine's tables; the world of a state; contracts ===== -/
def nestL : List (String × Nat × MethodName × String) := [("LetterTables$Tables", 42, yX10_fillCells, "LetterTables"),
  ("LetterTables$Tables", 91, yX10_setCell, "LetterTables"),
  ("LetterTables$Tables", 95, yX10_cellOf, "LetterTables"),
  ("LetterTables$Language", 56, yX10_setCell, "LetterTables"),
  ("LetterTables$Tables", 69, yX10_copyCells, "LetterTables"),
  ("LetterTables$Language", 40, yX10_copyCells, "LetterTables"),
  ("LetterTables$Language", 86, yX10_cellOf, "LetterTables"),
  ("LetterTables$Pattern", 62, yX10_isWithin, "LetterTables"),
  ("LetterTables$Pattern", 66, yX10_isLetter, "LetterTables"),
  ("LetterTables$PluralRule", 39, yX10_isWithin, "LetterTables"),
  ("LetterTables$MessageReader", 51, yX10_isWithin, "LetterTables")]
def strL : List (String × Nat × String) := [("LetterTables", 366, "no such letter"),
  ("LetterTables", 372, "an argument is out of range"),
  ("LetterTables", 145, "these can't become partners"),
  ("LetterTables", 382, "no such language"),
  ("LetterTables", 232, "no such version"),
  ("LetterTables", 377, "no such slot"),
  ("LetterTables", 202, "no word, or there are 6"),
  ("LetterTables", 211, "no rule, or there are 8"),
  ("LetterTables", 225, "there are 4 versions"),
  ("LetterTables", 235, "the text has 40 letters"),
  ("LetterTables", 368, "no such place"),
  ("LetterTables", 375, "the form of the text is too long"),
  ("LetterTables", 317, "the tape is no pattern"),
  ("LetterTables", 324, "there is no pattern"),
  ("LetterTables", 334, "a pass puts out more than 40 letters"),
  ("LetterTables", 352, "the tape is no message"),
  ("LetterTables", 363, "there would be more than 40 letters"),
  ("LetterTables", 171, "there are 6 contractions"),
  ("LetterTables", 184, "there are 4 plural rules"),
  ("LetterTables", 113, "the tape is full")]
def castL : List (String × String) := [("java/lang/IndexOutOfBoundsException", "java/lang/IndexOutOfBoundsException"), ("java/lang/IllegalArgumentException", "java/lang/IllegalArgumentException"), ("java/lang/IllegalStateException", "java/lang/IllegalStateException")]
def declL : List MethodName := [⟨"java/lang/RuntimeException", "<init>", "()V"⟩, ⟨"java/lang/RuntimeException", "<init>", "(Ljava/lang/String;)V"⟩, ⟨"java/lang/Exception", "<init>", "()V"⟩, ⟨"java/lang/Exception", "<init>", "(Ljava/lang/String;)V"⟩, ⟨"java/lang/Throwable", "<init>", "()V"⟩, ⟨"java/lang/Throwable", "<init>", "(Ljava/lang/String;)V"⟩]
def ncL : List (String × String) := [("java/lang/IndexOutOfBoundsException", "java/lang/IllegalArgumentException"), ("java/lang/IndexOutOfBoundsException", "java/lang/IllegalStateException"), ("java/lang/IllegalArgumentException", "java/lang/IndexOutOfBoundsException"), ("java/lang/IllegalArgumentException", "java/lang/IllegalStateException"), ("java/lang/IllegalStateException", "java/lang/IndexOutOfBoundsException"), ("java/lang/IllegalStateException", "java/lang/IllegalArgumentException")]
def KN (D : va_G) (Y : Nat → ClassId) (U : State) : Prop := va_K D vwCl (tys Y) U ∧ (∀ q ∈ nestL, va_Nw (.methodLinkNest q.1 q.2.1 q.2.2.1 q.2.2.2) U) ∧ (∀ q ∈ strL, ∃ a, vk_R q.1 q.2.1 q.2.2 a U) ∧ (∀ q ∈ castL, va_Nw (.castable q.1 q.2) U) ∧ (∀ q ∈ declL, va_Nw (.declares q) U) ∧ (∀ q ∈ ncL, va_Nc q.1 q.2 U)
theorem KN_warm {D : va_G} {Y : Nat → ClassId} {s U : State} (hW : s.WarmedH U.vm) (h : KN D Y s) : KN D Y U :=
  ⟨h.1.moved hW.alike, fun q hq => va_Nw.warmM hW (h.2.1 q hq), fun q hq => by obtain ⟨a, h1⟩ := h.2.2.1 q hq; exact ⟨a, vk_R.warm hW h1⟩, fun q hq => va_Nw.warmC hW (h.2.2.2.1 q hq), fun q hq => va_Nw.warmD hW (h.2.2.2.2.1 q hq), fun q hq => (h.2.2.2.2.2 q hq).moved hW.alike⟩
def ZQ (B : Nat) (U : State) (H : Heap) : Prop := vx_Zq Bundle.tN "UNASSIGNED_STACK" Bundle.steD (AB B) U H ∧ vx_Zq Bundle.tN "SUPPRESSED_SENTINEL" Bundle.listD (AB B) U H
theorem ZQ_kept {B : Nat} {U : State} {H H1 : Heap} (h : ZQ B U H) (hq : ∀ a : Nat, a < H.size → ¬ AB B a → H1[a]? = H[a]?) : ZQ B U H1 := ⟨h.1.kept hq, h.2.kept hq⟩
theorem ZQ_moved {B : Nat} {u U : State} {H : Heap} (hA : u.vm.Alike U.vm) (h : ZQ B u H) : ZQ B U H := ⟨vx_Zq.moved hA h.1, vx_Zq.moved hA h.2⟩
def WDs (D : va_G) (B : Nat) (Y : Nat → ClassId) (w : Wd) (U : State) : Prop := va_P D vwCl (wl B Y w) U.heap ∧ OKw w ∧ KN D Y U ∧ ZQ B U U.heap
theorem WDs_blind {D : va_G} {B : Nat} {Y : Nat → ClassId} {w : Wd} {av : List Value} : FrameBlind (va_Pc av (WDs D B Y w)) := by
  intro a U g mk h
  obtain ⟨h0, h1, h2, h3, h4⟩ := h
  exact ⟨h0, h1, h2, KN_warm (s := U) (U := U.calling g mk a) (State.WarmedH.refl U) h3, ZQ_moved (u := U) (U := U.calling g mk a) (Vm.Alike.refl U.vm) h4⟩
def QG (D : va_G) (B : Nat) (Y : Nat → ClassId) (o : Option Value) (w : Wd) (P : Prop) : Array Value → State → Outcome → State → Prop := fun _ st oc t =>
  (oc = .returned o ∧ va_P D vwCl (wl B Y w) t.heap ∧ OKw w ∧ P) ∧ va_F (AB B) st t
def RM (h mc ms : Nat) : Room := { frames := h + 10, cells := mc, slots := ms, locals := 40 * h + 200 }
/-- a method that returns: from the world w with these arguments it answers o and leaves the world w' (and P holds) -/
def CM (l : Launch) (D : va_G) (B : Nat) (Y : Nat → ClassId) (y : MethodName) (cc : ByteArray) (n : Nat) (ret : Option FieldType) (h : Nat) (av : List Value) (w : Wd) (o : Option Value) (w' : Wd) (P : Prop) : Prop :=
  Met l y (WSM y cc n ret) (RM h 0 0) (va_Pc av (WDs D B Y w)) (QG D B Y o w' P) 0 0 (AB B)
def exN : Nat → String
  | 1 => "java/lang/IndexOutOfBoundsException"
  | 2 => "java/lang/IllegalArgumentException"
  | _ => "java/lang/IllegalStateException"
def QX (D : va_G) (B : Nat) (Y : Nat → ClassId) (z : Nat ⊕ Option Value) (w : Wd) (P : Prop) : Array Value → State → Outcome → State → Prop := fun _ st oc t =>
  (∃ o, z = .inr o ∧ oc = .returned o ∧ va_P D vwCl (wl B Y w) t.heap ∧ OKw w ∧ P) ∧ va_F (AB B) st t
def XX (D : va_G) (B : Nat) (Y : Nat → ClassId) (z : Nat ⊕ Option Value) (w : Wd) : String → State → State → Prop := fun E st t =>
  (∃ k, z = .inl k ∧ E = exN k ∧ va_P D vwCl (wl B Y w) t.heap ∧ OKw w) ∧ va_F (AB B) st t
/-- what a call costs: the exception, if it throws -/
def xv (z : Nat ⊕ Option Value) : Nat := match z with
  | .inl _ => 1
  | .inr _ => 0
theorem xv_le {z z' : Nat ⊕ Option Value} (h : xv z = xv z') : 0 + xv z ≤ xv z' ∧ 0 + 6 * xv z ≤ 6 * xv z' := by rw [h]; omega
theorem xv_1 {z : Nat ⊕ Option Value} (h : xv z = 1) : 0 + 1 ≤ xv z := by omega
theorem xv_6 {z : Nat ⊕ Option Value} (h : xv z = 1) : 0 + 6 ≤ 6 * xv z := by omega
theorem xv_0 {z : Nat ⊕ Option Value} {n m a b : Nat} (h : xv z = 0) (h1 : a ≤ n ∧ b ≤ m) : a + xv z ≤ n ∧ b + 6 * xv z ≤ m := by omega
theorem xv_00 {n m : Nat} : 0 ≤ n ∧ 0 ≤ m := ⟨Nat.zero_le _, Nat.zero_le _⟩
/-- a method that returns or throws -/
def XM (l : Launch) (D : va_G) (B : Nat) (Y : Nat → ClassId) (y : MethodName) (cc : ByteArray) (n : Nat) (ret : Option FieldType) (h : Nat) (av : List Value) (w : Wd) (z : Nat ⊕ Option Value) (w' : Wd) (P : Prop) : Prop :=
  vx_Met l y (WSM y cc n ret) (RM h (xv z) (6 * xv z)) (va_Pc av (WDs D B Y w)) (QX D B Y z w' P) (XX D B Y z w') (xv z) (6 * xv z) (AB B)
/-- inside a method -/
def CX (D : va_G) (B : Nat) (Y : Nat → ClassId) (p : Program) (s : State) (m : MethodId) (args : Array Value) (meth : Method) (c : Code) (cc : ByteArray) (n : Nat) (own : String) (ret : Option FieldType) : Prop :=
  p.tables.exec = Jvm.exec ∧ c.code = cc ∧ c.maxLocals = n ∧ s.vm.findClass own = some m.cls ∧ (∀ w ∈ ws0, w.before args s = true) ∧ meth.sig.returnType = ret ∧ meth.locks = false ∧ KN D Y s ∧ ZQ B s s.heap
def HS (D : va_G) (B : Nat) (Y : Nat → ClassId) (w : Wd) (s : State) (H : Heap) (locs : List Loc) : Prop := va_P D vwCl (wl B Y w) H ∧ va_S (AB B) s.heap H locs ∧ OKw w
theorem CM_of {l : Launch} {D : va_G} {B : Nat} {Y : Nat → ClassId} {y : MethodName} {cc : ByteArray} {n : Nat} {ret : Option FieldType} {h : Nat} {av : List Value} {w : Wd} {o : Option Value} {w' : Wd} {P : Prop} (hy : plainName y.cls = true) (hn : (lg_sl av).length ≤ n)
    (body : ∀ (p : Program) (e : Env) (s : State) (m : MethodId) (args : Array Value) (below : List Frame) (meth : Method) (c : Code) (ls : Array Slot), CX D B Y p s m args meth c cc n y.cls ret → HS D B Y w s s.heap [] → lv_has ls n (lv_args 0 av) →
      W p l e (RM h 0 0) s m args below meth c s.heap [] 0 0 (MQ below (QG D B Y o w' P) args s 0 0 (AB B)) (F0 m 0 ls [])) : CM l D B Y y cc n ret h av w o w' P := by
  refine Met.ofW (cc := cc) (maxL := n) (ret := ret) hy rfl ?_
  intro p e s m args below meth c s₁ Bd hml hv
  obtain ⟨rfl, hP, hO, hK, hZ⟩ := hv
  rw [lg_entry_eq]
  exact body p e s m _ below meth c _ ⟨Bd.exec, Bd.bytes, hml, findClass_of_methodNamed Bd.named, fun w hw => atoms_spec (ws := WSM y cc n ret) Bd.pre w (List.mem_cons_of_mem _ hw), Bd.returns, Bd.notSynchronized, hK, hZ⟩ ⟨hP, va_S.rf, hO⟩ (lv_entry av hn)
theorem XM_of {l : Launch} {D : va_G} {B : Nat} {Y : Nat → ClassId} {y : MethodName} {cc : ByteArray} {n : Nat} {ret : Option FieldType} {h : Nat} {av : List Value} {w : Wd} {z : Nat ⊕ Option Value} {w' : Wd} {P : Prop} (hy : plainName y.cls = true) (hn : (lg_sl av).length ≤ n)
    (body : ∀ (p : Program) (e : Env) (s : State) (m : MethodId) (args : Array Value) (below : List Frame) (meth : Method) (c : Code) (ls : Array Slot), CX D B Y p s m args meth c cc n y.cls ret → (∀ x ∈ c.exceptionTable.toList, False) → HS D B Y w s s.heap [] → lv_has ls n (lv_args 0 av) →
      W p l e (RM h (xv z) (6 * xv z)) s m args below meth c s.heap [] 0 0 (vx_MQ below (QX D B Y z w' P) (XX D B Y z w') args s (xv z) (6 * xv z) (AB B)) (F0 m 0 ls [])) : XM l D B Y y cc n ret h av w z w' P := by
  refine vx_ofW (cc := cc) (maxL := n) (ret := ret) hy rfl ?_
  intro p e s m args below meth c s₁ Bd hml hxt hv
  obtain ⟨rfl, hP, hO, hK, hZ⟩ := hv
  rw [lg_entry_eq]
  exact body p e s m _ below meth c _ ⟨Bd.exec, Bd.bytes, hml, findClass_of_methodNamed Bd.named, fun w hw => atoms_spec (ws := WSM y cc n ret) Bd.pre w (List.mem_cons_of_mem _ hw), Bd.returns, Bd.notSynchronized, hK, hZ⟩ hxt ⟨hP, va_S.rf, hO⟩ (lv_entry av hn)
section QROWS
variable {D : va_G} {B : Nat} {Y : Nat → ClassId} {p : Program} {l : Launch} {e : Env} {R : Room} {s : State} {m : MethodId} {args : Array Value} {below : List Frame} {meth : Method} {c : Code} {H : Heap} {locs : List Loc} {cells slots : Nat} {Q : State → Prop} {cc : ByteArray} {n : Nat} {own : String} {ret : Option FieldType} {w : Wd} {pc : Nat} {ls : Array Slot} {rest : List Value}
/-! fields -/
theorem q_get (C : CX D B Y p s m args meth c cc n own ret) (hH : HS D B Y w s H locs) {ci : Nat} {Cn : String} {T : u_T} {N j index o : Nat} {v : Value} (hc : vwCl[ci]? = some (Cn, T, N)) (hin : ∀ x ∈ u_ws Cn T N, x ∈ ws0) (hci : ci < 12) (hN : NF ci = N) (hj : j < N) (hlink : Cond.fieldLink own index (T j).1 (T j).2.1 (T j).2.2.1 ∈ ws0) (hk : KD o = ci) (hv : fv B w o j = v) (hdg : decode cc pc = .ok (.getfield index, 3))
    (kk : W p l e R s m args below meth c H locs cells slots Q (F0 m (pc + 3) ls (v :: rest))) : W p l e R s m args below meth c H locs cells slots Q (F0 m pc ls (.ref (B + o) :: rest)) := by
  refine va_get C.1 C.2.1 C.2.2.2.2.1 hin C.2.2.2.1 C.2.2.2.2.2.2.2.1.1 hH.1 o ((wl_get (KD_lt hk (by omega))).trans (by rw [ent_obj hk hci])) hc j hj (C.2.2.2.2.1 _ hlink) (fun _ h => h) ?_ hdg kk
  rw [List.getElem?_map, List.getElem?_range (by omega), Option.map_some, hv]
theorem q_put (C : CX D B Y p s m args meth c cc n own ret) (hH : HS D B Y w s H locs) {ci : Nat} {Cn : String} {T : u_T} {N j index o : Nat} {x : Int32} {ty : FieldType} {tyF : Nat → FieldType} (hc : vwCl[ci]? = some (Cn, T, N)) (hin : ∀ x ∈ u_ws Cn T N, x ∈ ws0) (hty : ∀ k, k < N → parseFieldDescriptor (T k).2.2.1 = some (tyF k)) (hnm : ∀ a, a < N → ∀ b, b < N → a ≠ b → (T a).2.1 ≠ (T b).2.1) (hci : ci < 12) (hN : NF ci = N) (hj : j < N) (hlink : Cond.fieldLink own index (T j).1 (T j).2.1 (T j).2.2.1 ∈ ws0) (hfin : (T j).2.2.2 = false) (hr : isR ci j = false) (hd : parseFieldDescriptor (T j).2.2.1 = some ty) (hk : KD o = ci) (hn : narrow ty (.int x) = .int x) (hf : fits ty (.int x) = true) (hdg : decode cc pc = .ok (.putfield index, 3))
    (kk : ∀ (H1 : Heap) (locs1 : List Loc), HS D B Y (setI w o j x) s H1 locs1 → W p l e R s m args below meth c H1 locs1 cells slots Q (F0 m (pc + 3) ls rest)) : W p l e R s m args below meth c H locs cells slots Q (F0 m pc ls (.int x :: .ref (B + o) :: rest)) := by
  refine va_put C.1 C.2.1 C.2.2.2.2.1 hin tyF hty hnm C.2.2.2.1 C.2.2.2.2.2.2.2.1.1 hH.1 (wl_D B Y w) hH.2.1 o ((wl_get (KD_lt hk (by omega))).trans (by rw [ent_obj hk hci])) hc j hj (C.2.2.2.2.1 _ hlink) (fun _ h => h) hfin hd hn hf (by simp; omega) hdg (fun H1 locs1 hP hD hS => ?_)
  rw [wl_setI_obj hk hci hr] at hP
  exact kk H1 locs1 ⟨hP, hS, hH.2.2⟩
theorem q_putT (C : CX D B Y p s m args meth c cc n own ret) (hH : HS D B Y w s H locs) {index r : Nat} (hin : ∀ x ∈ u_ws RX10 TX10 20, x ∈ ws0) (hlink : Cond.fieldLink own index (TX10 9).1 (TX10 9).2.1 (TX10 9).2.2.1 ∈ ws0) (hk : KD r = 5) (hdg : decode cc pc = .ok (.putfield index, 3))
    (kk : ∀ (H1 : Heap) (locs1 : List Loc), HS D B Y (setT w r) s H1 locs1 → W p l e R s m args below meth c H1 locs1 cells slots Q (F0 m (pc + 3) ls rest)) : W p l e R s m args below meth c H locs cells slots Q (F0 m pc ls (.ref (B + r) :: .ref (B + 0) :: rest)) := by
  have h0 : KD 0 = 10 := by decide +kernel
  refine va_put (ci := 10) (ty := .object "LetterTables$Pattern") C.1 C.2.1 C.2.2.2.2.1 hin tyX10 tyX10_ok nmX10 C.2.2.2.1 C.2.2.2.2.2.2.2.1.1 hH.1 (wl_D B Y w) hH.2.1 0 ((wl_get (by omega)).trans (by rw [ent_obj h0 (by omega)])) rfl 9 (by omega) (C.2.2.2.2.1 _ hlink) (fun _ h => h) (by decide +kernel) (by decide +kernel) rfl rfl (by simp; decide) hdg (fun H1 locs1 hP hD hS => ?_)
  rw [wl_setT] at hP
  exact kk H1 locs1 ⟨hP, hS, hk, hH.2.2.2⟩
theorem q_putD (C : CX D B Y p s m args meth c cc n own ret) (hH : HS D B Y w s H locs) {index r : Nat} (hin : ∀ x ∈ u_ws RX10 TX10 20, x ∈ ws0) (hlink : Cond.fieldLink own index (TX10 10).1 (TX10 10).2.1 (TX10 10).2.2.1 ∈ ws0) (hk : KD r = 5) (hdg : decode cc pc = .ok (.putfield index, 3))
    (kk : ∀ (H1 : Heap) (locs1 : List Loc), HS D B Y (setD w r) s H1 locs1 → W p l e R s m args below meth c H1 locs1 cells slots Q (F0 m (pc + 3) ls rest)) : W p l e R s m args below meth c H locs cells slots Q (F0 m pc ls (.ref (B + r) :: .ref (B + 0) :: rest)) := by
  have h0 : KD 0 = 10 := by decide +kernel
  refine va_put (ci := 10) (ty := .object "LetterTables$Pattern") C.1 C.2.1 C.2.2.2.2.1 hin tyX10 tyX10_ok nmX10 C.2.2.2.1 C.2.2.2.2.2.2.2.1.1 hH.1 (wl_D B Y w) hH.2.1 0 ((wl_get (by omega)).trans (by rw [ent_obj h0 (by omega)])) rfl 10 (by omega) (C.2.2.2.2.1 _ hlink) (fun _ h => h) (by decide +kernel) (by decide +kernel) rfl rfl (by simp; decide) hdg (fun H1 locs1 hP hD hS => ?_)
  rw [wl_setD] at hP
  exact kk H1 locs1 ⟨hP, hS, hH.2.2.1, hk⟩
/-! rows of numbers -/
theorem q_iald (C : CX D B Y p s m args meth c cc n own ret) (hH : HS D B Y w s H locs) {q : Nat} {i : Int32} (hk : KD q = 20) (hi : inb i (LEN q) = true) (hdg : decode cc pc = .ok (.iaload, 1))
    (kk : W p l e R s m args below meth c H locs cells slots Q (F0 m (pc + 1) ls (.int (w.1 q i.toNatClampNeg) :: rest))) : W p l e R s m args below meth c H locs cells slots Q (F0 m pc ls (.int i :: .ref (B + q) :: rest)) :=
  va_iald C.1 C.2.1 C.2.2.2.2.2.2.2.1.1 hH.1 q 0 ((wl_get (KD_lt hk (by omega))).trans (by rw [ent_ints hk (by omega)])) rfl (inb_in hi) hdg kk
theorem q_aald (C : CX D B Y p s m args meth c cc n own ret) (hH : HS D B Y w s H locs) {q t0 ci : Nat} {En : String} {i : Int32} (ht : (tys Y)[t0]? = some (Y ci, .object En)) (hci : 22 < ci ∧ ci < 99) (hk : KD q = ci) (hi : inb i (LEN q) = true) (hdg : decode cc pc = .ok (.aaload, 1))
    (kk : W p l e R s m args below meth c H locs cells slots Q (F0 m (pc + 1) ls (.ref (B + RV q i.toNatClampNeg) :: rest))) : W p l e R s m args below meth c H locs cells slots Q (F0 m pc ls (.int i :: .ref (B + q) :: rest)) :=
  va_aldq (f := fun i => some (B + RV q i)) C.1 C.2.1 C.2.2.2.2.2.2.2.1.1 hH.1 q t0 ((wl_get (KD_lt hk (by omega))).trans (by rw [ent_refs hk hci.1])) ht (inb_in hi) hdg kk
theorem q_iast (C : CX D B Y p s m args meth c cc n own ret) (hH : HS D B Y w s H locs) {q : Nat} {i x : Int32} (hk : KD q = 20) (hi : inb i (LEN q) = true) (hdg : decode cc pc = .ok (.iastore, 1))
    (kk : ∀ (H1 : Heap) (locs1 : List Loc), HS D B Y (setI w q i.toNatClampNeg x) s H1 locs1 → W p l e R s m args below meth c H1 locs1 cells slots Q (F0 m (pc + 1) ls rest)) : W p l e R s m args below meth c H locs cells slots Q (F0 m pc ls (.int x :: .int i :: .ref (B + q) :: rest)) := by
  refine va_iast C.1 C.2.1 C.2.2.2.2.2.2.2.1.1 hH.1 (wl_D B Y w) hH.2.1 q 0 ((wl_get (KD_lt hk (by omega))).trans (by rw [ent_ints hk (by omega)])) rfl (inb_in hi) hdg (fun H1 locs1 hP hD hS => ?_)
  rw [wl_setI_arr hk (by omega)] at hP
  exact kk H1 locs1 ⟨hP, hS, hH.2.2⟩
theorem q_alen (C : CX D B Y p s m args meth c cc n own ret) (hH : HS D B Y w s H locs) {q t0 ci : Nat} {ty : FieldType} (ht : (tys Y)[t0]? = some (Y ci, ty)) (hci : 19 < ci ∧ ci < 99) (hk : KD q = ci) (hdg : decode cc pc = .ok (.arraylength, 1))
    (kk : W p l e R s m args below meth c H locs cells slots Q (F0 m (pc + 1) ls (.int (Int32.ofNat (LEN q)) :: rest))) : W p l e R s m args below meth c H locs cells slots Q (F0 m pc ls (.ref (B + q) :: rest)) := by
  by_cases h1 : ci < 22
  · exact va_alen C.1 C.2.1 C.2.2.2.2.2.2.2.1.1 hH.1 q t0 ((wl_get (KD_lt hk (by omega))).trans (by rw [ent_ints hk (by omega)])) ht rfl hdg kk
  · by_cases h2 : ci = 22
    · subst h2
      exact va_alen C.1 C.2.1 C.2.2.2.2.2.2.2.1.1 hH.1 q t0 ((wl_get (KD_lt hk (by omega))).trans (by rw [ent_long hk])) ht rfl hdg kk
    · exact va_alen C.1 C.2.1 C.2.2.2.2.2.2.2.1.1 hH.1 q t0 ((wl_get (KD_lt hk (by omega))).trans (by rw [ent_refs hk (by omega)])) ht rfl hdg kk
/-! ends -/
theorem q_mk (C : CX D B Y p s m args meth c cc n own ret) (hH : HS D B Y w s H locs) {o : Option Value} {P : Prop} (hP : P) : ∀ t : State, t.heap = H → s.WarmedH t.vm → QG D B Y o w P args s (.returned o) t := by
  intro t ht hW
  exact ⟨⟨rfl, by rw [ht]; exact hH.1, hH.2.2, hP⟩, hH.2.1.F ht⟩
theorem q_reti (C : CX D B Y p s m args meth c cc n own (some .int)) (hH : HS D B Y w s H locs) {x : Int32} {P : Prop} (hP : P) (hdg : decode cc pc = .ok (.ireturn, 1)) : W p l e R s m args below meth c H locs cells slots (MQ below (QG D B Y (some (.int x)) w P) args s cells slots (AB B)) (F0 m pc ls [.int x]) :=
  W.iret C.1 C.2.1 C.2.2.2.2.2.1 (q_mk C hH hP) hH.2.1.2.2 hdg C.2.2.2.2.2.2.1
theorem q_retz (C : CX D B Y p s m args meth c cc n own (some .boolean)) (hH : HS D B Y w s H locs) {x : Int32} {P : Prop} (hx : isZ x) (hP : P) (hdg : decode cc pc = .ok (.ireturn, 1)) : W p l e R s m args below meth c H locs cells slots (MQ below (QG D B Y (some (.int x)) w P) args s cells slots (AB B)) (F0 m pc ls [.int x]) :=
  W.zret C.1 C.2.1 C.2.2.2.2.2.1 (isZ_nar hx) (q_mk C hH hP) hH.2.1.2.2 hdg C.2.2.2.2.2.2.1
theorem q_retl (C : CX D B Y p s m args meth c cc n own (some .long)) (hH : HS D B Y w s H locs) {x : Int64} {P : Prop} (hP : P) (hdg : decode cc pc = .ok (.lreturn, 1)) : W p l e R s m args below meth c H locs cells slots (MQ below (QG D B Y (some (.long x)) w P) args s cells slots (AB B)) (F0 m pc ls [.long x]) :=
  W.lret C.1 C.2.1 C.2.2.2.2.2.1 (q_mk C hH hP) hH.2.1.2.2 hdg C.2.2.2.2.2.2.1
theorem q_retv (C : CX D B Y p s m args meth c cc n own none) (hH : HS D B Y w s H locs) {P : Prop} (hP : P) (hdg : decode cc pc = .ok (.return_, 1)) : W p l e R s m args below meth c H locs cells slots (MQ below (QG D B Y none w P) args s cells slots (AB B)) (F0 m pc ls []) :=
  W.vret C.1 C.2.1 C.2.2.2.2.2.1 (q_mk C hH hP) hH.2.1.2.2 hdg C.2.2.2.2.2.2.1
theorem q_retr {En : String} (C : CX D B Y p s m args meth c cc n own (some (.object En))) (hH : HS D B Y w s H locs) {a : Nat} {P : Prop} (hP : P) (hdg : decode cc pc = .ok (.areturn, 1)) : W p l e R s m args below meth c H locs cells slots (MQ below (QG D B Y (some (.ref a)) w P) args s cells slots (AB B)) (F0 m pc ls [.ref a]) :=
  W.aret C.1 C.2.1 C.2.2.2.2.2.1 (Or.inl ⟨En, rfl⟩) (Or.inr ⟨a, rfl⟩) (q_mk C hH hP) hH.2.1.2.2 hdg C.2.2.2.2.2.2.1
theorem q_retn {En : String} (C : CX D B Y p s m args meth c cc n own (some (.object En))) (hH : HS D B Y w s H locs) {P : Prop} (hP : P) (hdg : decode cc pc = .ok (.areturn, 1)) : W p l e R s m args below meth c H locs cells slots (MQ below (QG D B Y (some .null) w P) args s cells slots (AB B)) (F0 m pc ls [.null]) :=
  W.aret C.1 C.2.1 C.2.2.2.2.2.1 (Or.inl ⟨En, rfl⟩) (Or.inl rfl) (q_mk C hH hP) hH.2.1.2.2 hdg C.2.2.2.2.2.2.1
/-! the end of a method that may throw: it returns after all -/
theorem q_x {o : Option Value} {P : Prop} {mc ms : Nat} {g : JFrame} (k : W p l e R s m args below meth c H locs cells slots (MQ below (QG D B Y o w P) args s mc ms (AB B)) g) : W p l e R s m args below meth c H locs cells slots (vx_MQ below (QX D B Y (.inr o) w P) (XX D B Y (.inr o) w) args s mc ms (AB B)) g := by
  refine vx_ret (fun T hT X => ?_)
  obtain ⟨t, a1, o', b1, b2, b3, b4⟩ := k T hT X
  exact ⟨t, a1, o', b1, b2, ⟨⟨o, rfl, b3.1.1, b3.1.2.1, b3.1.2.2.1, b3.1.2.2.2⟩, b3.2⟩, b4⟩
theorem q_x0 {z : Nat ⊕ Option Value} {o : Option Value} {P : Prop} {g : JFrame} (hz : z = .inr o) (k : W p l e R s m args below meth c H locs 0 0 (MQ below (QG D B Y o w P) args s 0 0 (AB B)) g) : W p l e R s m args below meth c H locs 0 0 (vx_MQ below (QX D B Y z w P) (XX D B Y z w) args s (xv z) (6 * xv z) (AB B)) g := by
  subst hz
  exact q_x k
/-! calls -/
theorem q_run {o : Option Value} {w' : Wd} {P : Prop} {a : Array Value} {mc ms : Nat} {st0 : List Value} (hr : va_Run p l e R s m args below meth c H locs cells slots mc ms (F0 m pc ls st0) rest (QG D B Y o w' P a) (AB B)) (hH : HS D B Y w s H locs)
    (kk : ∀ (H1 : Heap) (locs1 : List Loc), HS D B Y w' s H1 locs1 → P → W p l e R s m args below meth c H1 locs1 (cells + mc) (slots + ms) Q (F0 m (pc + 3) ls (o.toList ++ rest))) : W p l e R s m args below meth c H locs cells slots Q (F0 m pc ls st0) := by
  intro T hT X
  obtain ⟨v, st₀, t, T', L, h0, X', hL, e1, e2, ⟨⟨hv, hp, hb, hPP⟩, hz, hk⟩, st⟩ := hr T hT X
  cases hv
  rw [h0] at hz hk
  obtain ⟨t2, a1, b1⟩ := kk T'.heap (locs ++ L) ⟨by rw [e1]; exact hp, ⟨Nat.le_trans hH.2.1.1 (by rw [e1]; exact hz), fun q h1 h2 => by rw [e1, hk q (Nat.lt_of_lt_of_le h1 hH.2.1.1) h2]; exact hH.2.1.2.1 q h1 h2, fun q hq => by
      rcases List.mem_append.mp hq with h | h
      · exact hH.2.1.2.2 q h
      · exact hL q h⟩, hb⟩ hPP T' rfl X'
  exact ⟨t2, st t2 a1, b1⟩
theorem q_pre (C : CX D B Y p s m args meth c cc n own ret) (hH : HS D B Y w s H locs) {As : List Value} : PreS s H (va_Pc As (WDs D B Y w)) As :=
  ⟨WDs_blind, fun U hU hW => ⟨rfl, by rw [hU]; exact hH.1, hH.2.2, KN_warm hW C.2.2.2.2.2.2.2.1, by rw [hU]; exact ZQ_moved hW.alike (ZQ_kept C.2.2.2.2.2.2.2.2 hH.2.1.2.1)⟩⟩
theorem q_preV (C : CX D B Y p s m args meth c cc n own ret) (hH : HS D B Y w s H locs) {As : List Value} {o ci : Nat} {r : vw_C} (hc : vwCl[ci]? = some r) (hci : ci < 12) (hk : KD o = ci) : PreV s H r.1 (B + o) (va_Pc (.ref (B + o) :: As) (WDs D B Y w)) As :=
  ⟨WDs_blind, va_recv C.2.2.2.2.2.2.2.1.1 hH.1 hc ((wl_get (KD_lt hk (by omega))).trans (by rw [ent_obj hk hci])), (q_pre C hH (As := .ref (B + o) :: As)).2⟩
theorem RM_fit {hc hm mc ms : Nat} {maxL mc0 ms0 : Nat} (h1 : hc + 1 ≤ hm) (h2 : maxL ≤ 21) : (RM hc mc0 ms0).frames + 1 ≤ (RM hm mc ms).frames ∧ 8 + (maxL + 11) + (RM hc mc0 ms0).locals ≤ (RM hm mc ms).locals := by
  unfold RM
  constructor
  · show hc + 10 + 1 ≤ hm + 10
    omega
  · show 8 + (maxL + 11) + (40 * hc + 200) ≤ 40 * hm + 200
    omega
variable {hm mcm msm : Nat}
theorem q_callV (C : CX D B Y p s m args meth c cc n own ret) (hH : HS D B Y w s H locs) {y : MethodName} {bytes : ByteArray} {maxL : Nat} {ret' : Option FieldType} {h o ci index : Nat} {As : List Value} {r : vw_C} {ov : Option Value} {w' : Wd} {P : Prop} {st0 : List Value} (hc : vwCl[ci]? = some r) (hci : ci < 12) (hg : GoodIn ws0 (wsV own index r.1 y (WSM y bytes maxL ret')))
    (hd : y.cls = r.1 ∧ y.cls ≠ "java/lang/invoke/MethodHandle" ∧ y.cls ≠ "java/lang/invoke/VarHandle" ∧ (parseMethodDescriptor y.desc).map (fun d => d.parameters.length) = some As.length) (hmax : maxL ≤ 21) (hh : h + 1 ≤ hm)
    (hk : KD o = ci) (hM : CM l D B Y y bytes maxL ret' h (.ref (B + o) :: As) w ov w' P) (hsize : ls.size = n) (hst : st0 = As.reverse ++ .ref (B + o) :: rest) (hW : (rest.map fun v => v.category).sum ≤ 8) (hdg : decode cc pc = .ok (.invokevirtual index, 3)) (hf : cells ≤ mcm ∧ slots ≤ msm)
    (kk : ∀ (H1 : Heap) (locs1 : List Loc), HS D B Y w' s H1 locs1 → P → W p l e (RM hm mcm msm) s m args below meth c H1 locs1 cells slots Q (F0 m (pc + 3) ls (ov.toList ++ rest))) : W p l e (RM hm mcm msm) s m args below meth c H locs cells slots Q (F0 m pc ls st0) :=
  q_run (va_runV ⟨C.1, C.2.1, C.2.2.1, C.2.2.2.1, C.2.2.2.2.1⟩ hM (cwV As.length C.2.2.2.2.1 hg rfl rfl rfl hd (RM_fit hh hmax)) (q_preV C hH hc hci hk) rfl rfl hsize hst (lv_room hW) hdg hf) hH kk
theorem q_callS (C : CX D B Y p s m args meth c cc n own ret) (hH : HS D B Y w s H locs) {y : MethodName} {bytes : ByteArray} {maxL : Nat} {ret' : Option FieldType} {h index : Nat} {As : List Value} {ov : Option Value} {w' : Wd} {P : Prop} {st0 : List Value} (hg : GoodIn ws0 (va_wsS own index y (WSM y bytes maxL ret')))
    (hd : y.cls ≠ "java/lang/invoke/MethodHandle" ∧ y.cls ≠ "java/lang/invoke/VarHandle" ∧ (parseMethodDescriptor y.desc).map (fun d => d.parameters.length) = some As.length) (hmax : maxL ≤ 21) (hh : h + 1 ≤ hm)
    (hM : CM l D B Y y bytes maxL ret' h As w ov w' P) (hsize : ls.size = n) (hst : st0 = As.reverse ++ rest) (hW : (rest.map fun v => v.category).sum ≤ 8) (hdg : decode cc pc = .ok (.invokestatic index, 3)) (hf : cells ≤ mcm ∧ slots ≤ msm)
    (kk : ∀ (H1 : Heap) (locs1 : List Loc), HS D B Y w' s H1 locs1 → P → W p l e (RM hm mcm msm) s m args below meth c H1 locs1 cells slots Q (F0 m (pc + 3) ls (ov.toList ++ rest))) : W p l e (RM hm mcm msm) s m args below meth c H locs cells slots Q (F0 m pc ls st0) :=
  q_run (va_runS ⟨C.1, C.2.1, C.2.2.1, C.2.2.2.1, C.2.2.2.2.1⟩ hM (va_cwS As.length C.2.2.2.2.1 hg rfl rfl rfl hd (RM_fit hh hmax)) (q_pre C hH) rfl rfl hsize hst (lv_room hW) hdg hf) hH kk
theorem q_callN (C : CX D B Y p s m args meth c cc n own ret) (hH : HS D B Y w s H locs) {y : MethodName} {bytes : ByteArray} {maxL : Nat} {ret' : Option FieldType} {h index : Nat} {host : String} {As : List Value} {ov : Option Value} {w' : Wd} {P : Prop} {st0 : List Value} (hn : (own, index, y, host) ∈ nestL) (hg : Cond.code y bytes maxL ret' ∈ ws0) (hi : Cond.initialized y.cls ∈ ws0) (hs : Cond.static y ∈ ws0)
    (hd : y.cls ≠ "java/lang/invoke/MethodHandle" ∧ y.cls ≠ "java/lang/invoke/VarHandle" ∧ (parseMethodDescriptor y.desc).map (fun d => d.parameters.length) = some As.length) (hmax : maxL ≤ 21) (hh : h + 1 ≤ hm)
    (hM : CM l D B Y y bytes maxL ret' h As w ov w' P) (hsize : ls.size = n) (hst : st0 = As.reverse ++ rest) (hW : (rest.map fun v => v.category).sum ≤ 8) (hdg : decode cc pc = .ok (.invokestatic index, 3)) (hf : cells ≤ mcm ∧ slots ≤ msm)
    (kk : ∀ (H1 : Heap) (locs1 : List Loc), HS D B Y w' s H1 locs1 → P → W p l e (RM hm mcm msm) s m args below meth c H1 locs1 cells slots Q (F0 m (pc + 3) ls (ov.toList ++ rest))) : W p l e (RM hm mcm msm) s m args below meth c H locs cells slots Q (F0 m pc ls st0) :=
  q_run (va_runSN ⟨C.1, C.2.1, C.2.2.1, C.2.2.2.1, C.2.2.2.2.1⟩ hM ⟨va_cnB As.length C.2.2.2.2.1 (WSM_good hg) rfl rfl rfl (C.2.2.2.2.2.2.2.1.2.1 _ hn) (C.2.2.2.2.1 _ hi) hd (RM_fit hh hmax), C.2.2.2.2.1 _ hs, trivial⟩ (q_pre C hH) rfl rfl hsize hst (lv_room hW) hdg hf) hH kk
end QROWS
