/-! ===== two objects at once ===== -/
def A2 (B : Nat) : Nat → Prop := fun q => B ≤ q ∧ q < B + 1426
def ZA (A : Nat → Prop) (U : State) (H : Heap) : Prop := vx_Zq Bundle.tN "UNASSIGNED_STACK" Bundle.steD A U H ∧ vx_Zq Bundle.tN "SUPPRESSED_SENTINEL" Bundle.listD A U H
theorem ZA_kept {A : Nat → Prop} {U : State} {H H1 : Heap} (h : ZA A U H) (hq : ∀ a : Nat, a < H.size → ¬ A a → H1[a]? = H[a]?) : ZA A U H1 := ⟨h.1.kept hq, h.2.kept hq⟩
theorem ZA_moved {A : Nat → Prop} {u U : State} {H : Heap} (hA : u.vm.Alike U.vm) (h : ZA A u H) : ZA A U H := ⟨vx_Zq.moved hA h.1, vx_Zq.moved hA h.2⟩
theorem ZA_Q {A : Nat → Prop} {B : Nat} {U : State} {H : Heap} (h : ZA A U H) (hA : ∀ q, AB B q → A q) : ZQ B U H := ⟨h.1.narrow hA, h.2.narrow hA⟩
def SEP (A : Nat → Prop) (B B' : Nat) : Prop := (B + 713 ≤ B' ∨ B' + 713 ≤ B) ∧ (∀ q, AB B q → A q) ∧ (∀ q, AB B' q → A q)
theorem SEP.sy {A : Nat → Prop} {B B' : Nat} (h : SEP A B B') : SEP A B' B := ⟨h.1.symm, h.2.2, h.2.1⟩
def HT (D : va_G) (A : Nat → Prop) (B B' : Nat) (Y : Nat → ClassId) (w v : Wd) (s : State) (H : Heap) (locs : List Loc) : Prop := va_P D vwCl (wl B Y w) H ∧ va_P D vwCl (wl B' Y v) H ∧ va_S A s.heap H locs ∧ OKw w ∧ OKw v ∧ SEP A B B'
theorem HT.sy {D : va_G} {A : Nat → Prop} {B B' : Nat} {Y : Nat → ClassId} {w v : Wd} {s : State} {H : Heap} {locs : List Loc} (h : HT D A B B' Y w v s H locs) : HT D A B' B Y v w s H locs := ⟨h.2.1, h.1, h.2.2.1, h.2.2.2.2.1, h.2.2.2.1, h.2.2.2.2.2.sy⟩
def CX2 (D : va_G) (A : Nat → Prop) (Y : Nat → ClassId) (p : Program) (s : State) (m : MethodId) (args : Array Value) (meth : Method) (c : Code) (cc : ByteArray) (n : Nat) (own : String) (ret : Option FieldType) : Prop :=
  p.tables.exec = Jvm.exec ∧ c.code = cc ∧ c.maxLocals = n ∧ s.vm.findClass own = some m.cls ∧ (∀ w ∈ ws0, w.before args s = true) ∧ meth.sig.returnType = ret ∧ meth.locks = false ∧ KN D Y s ∧ ZA A s s.heap
def WD2 (D : va_G) (A : Nat → Prop) (B B' : Nat) (Y : Nat → ClassId) (w v : Wd) (U : State) : Prop := va_P D vwCl (wl B Y w) U.heap ∧ va_P D vwCl (wl B' Y v) U.heap ∧ OKw w ∧ OKw v ∧ SEP A B B' ∧ KN D Y U ∧ ZA A U U.heap
theorem WD2_blind {D : va_G} {A : Nat → Prop} {B B' : Nat} {Y : Nat → ClassId} {w v : Wd} {av : List Value} : FrameBlind (va_Pc av (WD2 D A B B' Y w v)) := by
  intro a U g mk h
  obtain ⟨h0, h1, h2, h3, h4, h5, h6, h7⟩ := h
  exact ⟨h0, h1, h2, h3, h4, h5, KN_warm (s := U) (U := U.calling g mk a) (State.WarmedH.refl U) h6, ZA_moved (u := U) (U := U.calling g mk a) (Vm.Alike.refl U.vm) h7⟩
def QG2 (D : va_G) (A : Nat → Prop) (B B' : Nat) (Y : Nat → ClassId) (o : Option Value) (w v : Wd) (P : Prop) : Array Value → State → Outcome → State → Prop := fun _ st oc t =>
  (oc = .returned o ∧ va_P D vwCl (wl B Y w) t.heap ∧ va_P D vwCl (wl B' Y v) t.heap ∧ OKw w ∧ OKw v ∧ P) ∧ va_F A st t
/-- a method that looks at two objects -/
def C2 (l : Launch) (D : va_G) (A : Nat → Prop) (B B' : Nat) (Y : Nat → ClassId) (y : MethodName) (cc : ByteArray) (n : Nat) (ret : Option FieldType) (h mc : Nat) (av : List Value) (w v : Wd) (o : Option Value) (w' v' : Wd) (P : Prop) : Prop :=
  Met l y (WSM y cc n ret) (RM h mc (6 * mc)) (va_Pc av (WD2 D A B B' Y w v)) (QG2 D A B B' Y o w' v' P) mc (6 * mc) A
theorem C2_of {l : Launch} {D : va_G} {A : Nat → Prop} {B B' : Nat} {Y : Nat → ClassId} {y : MethodName} {cc : ByteArray} {n : Nat} {ret : Option FieldType} {h mc : Nat} {av : List Value} {w v : Wd} {o : Option Value} {w' v' : Wd} {P : Prop} (hy : plainName y.cls = true) (hn : (lg_sl av).length ≤ n)
    (body : ∀ (p : Program) (e : Env) (s : State) (m : MethodId) (args : Array Value) (below : List Frame) (meth : Method) (c : Code) (ls : Array Slot), CX2 D A Y p s m args meth c cc n y.cls ret → HT D A B B' Y w v s s.heap [] → lv_has ls n (lv_args 0 av) →
      W p l e (RM h mc (6 * mc)) s m args below meth c s.heap [] 0 0 (MQ below (QG2 D A B B' Y o w' v' P) args s mc (6 * mc) A) (F0 m 0 ls [])) : C2 l D A B B' Y y cc n ret h mc av w v o w' v' P := by
  refine Met.ofW (cc := cc) (maxL := n) (ret := ret) hy rfl ?_
  intro p e s m args below meth c s₁ Bd hml hv
  obtain ⟨rfl, hP, hP', hO, hO', hS, hK, hZ⟩ := hv
  rw [lg_entry_eq]
  exact body p e s m _ below meth c _ ⟨Bd.exec, Bd.bytes, hml, findClass_of_methodNamed Bd.named, fun w hw => atoms_spec (ws := WSM y cc n ret) Bd.pre w (List.mem_cons_of_mem _ hw), Bd.returns, Bd.notSynchronized, hK, hZ⟩ ⟨hP, hP', va_S.rf, hO, hO', hS⟩ (lv_entry av hn)
section TROWS
variable {D : va_G} {A : Nat → Prop} {B B' : Nat} {Y : Nat → ClassId} {p : Program} {l : Launch} {e : Env} {R : Room} {s : State} {m : MethodId} {args : Array Value} {below : List Frame} {meth : Method} {c : Code} {H : Heap} {locs : List Loc} {cells slots : Nat} {Q : State → Prop} {cc : ByteArray} {n : Nat} {own : String} {ret : Option FieldType} {w v : Wd} {pc : Nat} {ls : Array Slot} {rest : List Value}
/-- what a call on one of them leaves of the other -/
theorem two_after {w' : Wd} {H1 : Heap} {L : List Loc} (hH : HT D A B B' Y w v s H locs) (hp : va_P D vwCl (wl B Y w') H1) (hb : OKw w') (hz : H.size ≤ H1.size) (hk : ∀ q : Nat, q < H.size → ¬ AB B q → H1[q]? = H[q]?) (hL : ∀ q ∈ L, AB B q.base) : HT D A B B' Y w' v s H1 (locs ++ L) := by
  obtain ⟨h1, h2, h3, h4, h5, h6⟩ := hH
  refine ⟨hp, ?_, ⟨Nat.le_trans h3.1 hz, fun q a b => ?_, fun q hq => ?_⟩, hb, h5, h6⟩
  · intro k q hq
    have hk' : k < 713 := by
      have := (List.getElem?_eq_some_iff.mp hq).1
      rwa [wl_len] at this
    have e : q.1 = B' + k := by
      rw [wl_get hk'] at hq
      cases hq
      rfl
    refine (h2 k q hq).kept (hk _ (h2 k q hq).lt (fun a => ?_))
    rw [e] at a
    have a1 : B ≤ B' + k := a.1
    have a2 : B' + k < B + 713 := a.2
    rcases h6.1 with z | z <;> omega
  · rw [hk q (Nat.lt_of_lt_of_le a h3.1) (fun z => b (h6.2.1 q z))]
    exact h3.2.1 q a b
  · rcases List.mem_append.mp hq with z | z
    · exact h3.2.2 q z
    · exact h6.2.1 _ (hL q z)
theorem q2_run {o : Option Value} {w' : Wd} {P : Prop} {a : Array Value} {mc ms : Nat} {st0 : List Value} (hr : va_Run p l e R s m args below meth c H locs cells slots mc ms (F0 m pc ls st0) rest (QG D B Y o w' P a) (AB B)) (hH : HT D A B B' Y w v s H locs)
    (kk : ∀ (H1 : Heap) (locs1 : List Loc), HT D A B B' Y w' v s H1 locs1 → P → W p l e R s m args below meth c H1 locs1 (cells + mc) (slots + ms) Q (F0 m (pc + 3) ls (o.toList ++ rest))) : W p l e R s m args below meth c H locs cells slots Q (F0 m pc ls st0) := by
  intro T hT X
  obtain ⟨x, st₀, t, T', L, h0, X', hL, e1, e2, ⟨⟨hv, hp, hb, hPP⟩, hz, hk⟩, st⟩ := hr T hT X
  cases hv
  rw [h0] at hz hk
  obtain ⟨t2, a1, b1⟩ := kk T'.heap (locs ++ L) (two_after hH (by rw [e1]; exact hp) hb (by rw [e1]; exact hz) (fun q a b => by rw [e1]; exact hk q a b) hL) hPP T' rfl X'
  exact ⟨t2, st t2 a1, b1⟩
theorem q2_xrun {ov : Option Value} {w' : Wd} {P : Prop} {a : Array Value} {mc ms : Nat} {st0 : List Value} (hr : vx_Run p l e R s m args below meth c H locs cells slots mc ms (F0 m pc ls st0) rest (QX D B Y (.inr ov) w' P a) (XX D B Y (.inr ov) w') (AB B)) (hH : HT D A B B' Y w v s H locs)
    (kk : ∀ (H1 : Heap) (locs1 : List Loc), HT D A B B' Y w' v s H1 locs1 → P → W p l e R s m args below meth c H1 locs1 (cells + mc) (slots + ms) Q (F0 m (pc + 3) ls (ov.toList ++ rest))) : W p l e R s m args below meth c H locs cells slots Q (F0 m pc ls st0) := by
  intro T hT X
  rcases hr T hT X with ⟨x, st₀, t, T', L, h0, X', hL, e1, e2, ⟨⟨o, ho, hv, hp, hb, hPP⟩, hz, hk⟩, st⟩ | ⟨q, st₀, t, T', L, E, ce, h0, X', hL, e1, e2, ⟨⟨k, hk, -⟩, -⟩, -⟩
  · cases ho
    cases hv
    rw [h0] at hz hk
    obtain ⟨t2, a1, b1⟩ := kk T'.heap (locs ++ L) (two_after hH (by rw [e1]; exact hp) hb (by rw [e1]; exact hz) (fun q a b => by rw [e1]; exact hk q a b) hL) hPP T' rfl X'
    exact ⟨t2, st t2 a1, b1⟩
  · cases hk
theorem q2_pre (C : CX2 D A Y p s m args meth c cc n own ret) (hH : HT D A B B' Y w v s H locs) {As : List Value} : PreS s H (va_Pc As (WDs D B Y w)) As :=
  ⟨WDs_blind, fun U hU hW => ⟨rfl, by rw [hU]; exact hH.1, hH.2.2.2.1, KN_warm hW C.2.2.2.2.2.2.2.1, by rw [hU]; exact ZA_Q (ZA_moved hW.alike (ZA_kept C.2.2.2.2.2.2.2.2 hH.2.2.1.2.1)) hH.2.2.2.2.2.2.1⟩⟩
theorem q2_preV (C : CX2 D A Y p s m args meth c cc n own ret) (hH : HT D A B B' Y w v s H locs) {As : List Value} : PreV s H RX10 (B + 0) (va_Pc (.ref (B + 0) :: As) (WDs D B Y w)) As :=
  ⟨WDs_blind, va_recv C.2.2.2.2.2.2.2.1.1 hH.1 (ci := 10) (q := (RX10, TX10, 20)) rfl ((wl_get (KD_lt kc_0 (by omega))).trans (by rw [ent_obj kc_0 (by omega)])), (q2_pre C hH (As := .ref (B + 0) :: As)).2⟩
theorem q2_pre2 (C : CX2 D A Y p s m args meth c cc n own ret) (hH : HT D A B B' Y w v s H locs) {As : List Value} : PreS s H (va_Pc As (WD2 D A B B' Y w v)) As :=
  ⟨WD2_blind, fun U hU hW => ⟨rfl, by rw [hU]; exact hH.1, by rw [hU]; exact hH.2.1, hH.2.2.2.1, hH.2.2.2.2.1, hH.2.2.2.2.2, KN_warm hW C.2.2.2.2.2.2.2.1, by rw [hU]; exact ZA_moved hW.alike (ZA_kept C.2.2.2.2.2.2.2.2 hH.2.2.1.2.1)⟩⟩
/-- a method that catches -/
theorem q2_callLW (C : CX2 D A Y p s m args meth c cc n RL ret) (hH : HT D A B B' Y w v s H locs) {y : MethodName} {bytes : ByteArray} {maxL : Nat} {hh : List (Nat × Nat × Nat × Nat)} {h mc index : Nat} {As : List Value} {k : Int32} {w' : Wd} {st0 : List Value} (hg : GoodIn ws0 (va_wsS RL index y (WSL y bytes maxL hh)))
    (hd : y.cls ≠ "java/lang/invoke/MethodHandle" ∧ y.cls ≠ "java/lang/invoke/VarHandle" ∧ (parseMethodDescriptor y.desc).map (fun d => d.parameters.length) = some As.length)
    (hM : LM l D B Y y bytes maxL hh h mc As w k w') (hfr : h + 10 + 1 ≤ R.frames) (hlo : 8 + (maxL + 11) + (40 * h + 200) ≤ R.locals) (hsize : ls.size = n) (hst : st0 = As.reverse ++ rest) (hW : (rest.map fun v => v.category).sum ≤ 8) (hdg : decode cc pc = .ok (.invokestatic index, 3)) (hf : cells + mc ≤ R.cells ∧ slots + 6 * mc ≤ R.slots)
    (kk : ∀ (H1 : Heap) (locs1 : List Loc), HT D A B B' Y w' v s H1 locs1 → W p l e R s m args below meth c H1 locs1 (cells + mc) (slots + 6 * mc) Q (F0 m (pc + 3) ls (.int k :: rest))) : W p l e R s m args below meth c H locs cells slots Q (F0 m pc ls st0) :=
  q2_run (vx_runSW (hh := hh) ⟨C.1, C.2.1, C.2.2.1, C.2.2.2.1, C.2.2.2.2.1⟩ hM (vx_cwSW As.length C.2.2.2.2.1 hg rfl rfl rfl hd ⟨hfr, hlo⟩) (q2_pre C hH) rfl rfl hsize hst (lv_room hW) hdg hf) hH (fun H1 locs1 h _ => kk H1 locs1 h)
/-- a method of the law that returns, and takes cells -/
theorem q2_callCK (C : CX2 D A Y p s m args meth c cc n own ret) (hH : HT D A B B' Y w v s H locs) {y : MethodName} {bytes : ByteArray} {maxL : Nat} {ret' : Option FieldType} {h mc index : Nat} {As : List Value} {x : Value} {w' : Wd} {P : Prop} {st0 : List Value} (hg : GoodIn ws0 (va_wsS own index y (WSM y bytes maxL ret')))
    (hd : y.cls ≠ "java/lang/invoke/MethodHandle" ∧ y.cls ≠ "java/lang/invoke/VarHandle" ∧ (parseMethodDescriptor y.desc).map (fun d => d.parameters.length) = some As.length)
    (hM : CK l D B Y y bytes maxL ret' h mc As w (some x) w' P) (hfr : h + 10 + 1 ≤ R.frames) (hlo : 8 + (maxL + 11) + (40 * h + 200) ≤ R.locals) (hsize : ls.size = n) (hst : st0 = As.reverse ++ rest) (hW : (rest.map fun v => v.category).sum ≤ 8) (hdg : decode cc pc = .ok (.invokestatic index, 3)) (hf : cells + mc ≤ R.cells ∧ slots + 6 * mc ≤ R.slots)
    (kk : ∀ (H1 : Heap) (locs1 : List Loc), HT D A B B' Y w' v s H1 locs1 → P → W p l e R s m args below meth c H1 locs1 (cells + mc) (slots + 6 * mc) Q (F0 m (pc + 3) ls (x :: rest))) : W p l e R s m args below meth c H locs cells slots Q (F0 m pc ls st0) :=
  q2_run (va_runS ⟨C.1, C.2.1, C.2.2.1, C.2.2.2.1, C.2.2.2.2.1⟩ hM (va_cwS As.length C.2.2.2.2.1 hg rfl rfl rfl hd ⟨hfr, hlo⟩) (q2_pre C hH) rfl rfl hsize hst (lv_room hW) hdg hf) hH kk
/-- one that returns and takes none -/
theorem q2_callS (C : CX2 D A Y p s m args meth c cc n own ret) (hH : HT D A B B' Y w v s H locs) {y : MethodName} {bytes : ByteArray} {maxL : Nat} {ret' : Option FieldType} {h index : Nat} {As : List Value} {x : Value} {w' : Wd} {P : Prop} {st0 : List Value} (hg : GoodIn ws0 (va_wsS own index y (WSM y bytes maxL ret')))
    (hd : y.cls ≠ "java/lang/invoke/MethodHandle" ∧ y.cls ≠ "java/lang/invoke/VarHandle" ∧ (parseMethodDescriptor y.desc).map (fun d => d.parameters.length) = some As.length)
    (hM : CM l D B Y y bytes maxL ret' h As w (some x) w' P) (hfr : h + 10 + 1 ≤ R.frames) (hlo : 8 + (maxL + 11) + (40 * h + 200) ≤ R.locals) (hsize : ls.size = n) (hst : st0 = As.reverse ++ rest) (hW : (rest.map fun v => v.category).sum ≤ 8) (hdg : decode cc pc = .ok (.invokestatic index, 3)) (hf : cells ≤ R.cells ∧ slots ≤ R.slots)
    (kk : ∀ (H1 : Heap) (locs1 : List Loc), HT D A B B' Y w' v s H1 locs1 → P → W p l e R s m args below meth c H1 locs1 cells slots Q (F0 m (pc + 3) ls (x :: rest))) : W p l e R s m args below meth c H locs cells slots Q (F0 m pc ls st0) :=
  q2_run (va_runS ⟨C.1, C.2.1, C.2.2.1, C.2.2.2.1, C.2.2.2.2.1⟩ hM (va_cwS As.length C.2.2.2.2.1 hg rfl rfl rfl hd ⟨hfr, hlo⟩) (q2_pre C hH) rfl rfl hsize hst (lv_room hW) hdg hf) hH kk
theorem q2_callV (C : CX2 D A Y p s m args meth c cc n own ret) (hH : HT D A B B' Y w v s H locs) {y : MethodName} {bytes : ByteArray} {maxL : Nat} {ret' : Option FieldType} {h index : Nat} {As : List Value} {x : Value} {w' : Wd} {P : Prop} {st0 : List Value} (hg : GoodIn ws0 (wsV own index RX10 y (WSM y bytes maxL ret')))
    (hd : y.cls = RX10 ∧ y.cls ≠ "java/lang/invoke/MethodHandle" ∧ y.cls ≠ "java/lang/invoke/VarHandle" ∧ (parseMethodDescriptor y.desc).map (fun d => d.parameters.length) = some As.length)
    (hM : CM l D B Y y bytes maxL ret' h (.ref (B + 0) :: As) w (some x) w' P) (hfr : h + 10 + 1 ≤ R.frames) (hlo : 8 + (maxL + 11) + (40 * h + 200) ≤ R.locals) (hsize : ls.size = n) (hst : st0 = As.reverse ++ .ref (B + 0) :: rest) (hW : (rest.map fun v => v.category).sum ≤ 8) (hdg : decode cc pc = .ok (.invokevirtual index, 3)) (hf : cells ≤ R.cells ∧ slots ≤ R.slots)
    (kk : ∀ (H1 : Heap) (locs1 : List Loc), HT D A B B' Y w' v s H1 locs1 → P → W p l e R s m args below meth c H1 locs1 cells slots Q (F0 m (pc + 3) ls (x :: rest))) : W p l e R s m args below meth c H locs cells slots Q (F0 m pc ls st0) :=
  q2_run (va_runV ⟨C.1, C.2.1, C.2.2.1, C.2.2.2.1, C.2.2.2.2.1⟩ hM (cwV As.length C.2.2.2.2.1 hg rfl rfl rfl hd ⟨hfr, hlo⟩) (q2_preV C hH) rfl rfl hsize hst (lv_room hW) hdg hf) hH kk
/-- one of the class that might throw, and doesn't -/
theorem q2_xV (C : CX2 D A Y p s m args meth c cc n own ret) (hH : HT D A B B' Y w v s H locs) {y : MethodName} {bytes : ByteArray} {maxL : Nat} {ret' : Option FieldType} {h index : Nat} {As : List Value} {x : Value} {w' : Wd} {P : Prop} {st0 : List Value} (hg : GoodIn ws0 (wsV own index RX10 y (WSM y bytes maxL ret')))
    (hd : y.cls = RX10 ∧ y.cls ≠ "java/lang/invoke/MethodHandle" ∧ y.cls ≠ "java/lang/invoke/VarHandle" ∧ (parseMethodDescriptor y.desc).map (fun d => d.parameters.length) = some As.length)
    (hM : XM l D B Y y bytes maxL ret' h (.ref (B + 0) :: As) w (.inr (some x)) w' P) (hfr : h + 10 + 1 ≤ R.frames) (hlo : 8 + (maxL + 11) + (40 * h + 200) ≤ R.locals) (hsize : ls.size = n) (hst : st0 = As.reverse ++ .ref (B + 0) :: rest) (hW : (rest.map fun v => v.category).sum ≤ 8) (hdg : decode cc pc = .ok (.invokevirtual index, 3)) (hf : cells ≤ R.cells ∧ slots ≤ R.slots)
    (kk : ∀ (H1 : Heap) (locs1 : List Loc), HT D A B B' Y w' v s H1 locs1 → P → W p l e R s m args below meth c H1 locs1 cells slots Q (F0 m (pc + 3) ls (x :: rest))) : W p l e R s m args below meth c H locs cells slots Q (F0 m pc ls st0) :=
  q2_xrun (vx_runV ⟨C.1, C.2.1, C.2.2.1, C.2.2.2.1, C.2.2.2.2.1⟩ hM (cwV As.length C.2.2.2.2.1 hg rfl rfl rfl hd ⟨hfr, hlo⟩) (q2_preV C hH) rfl rfl hsize hst (lv_room hW) hdg hf) hH kk
theorem q2_xS (C : CX2 D A Y p s m args meth c cc n own ret) (hH : HT D A B B' Y w v s H locs) {y : MethodName} {bytes : ByteArray} {maxL : Nat} {ret' : Option FieldType} {h index : Nat} {As : List Value} {x : Value} {w' : Wd} {P : Prop} {st0 : List Value} (hg : GoodIn ws0 (va_wsS own index y (WSM y bytes maxL ret')))
    (hd : y.cls ≠ "java/lang/invoke/MethodHandle" ∧ y.cls ≠ "java/lang/invoke/VarHandle" ∧ (parseMethodDescriptor y.desc).map (fun d => d.parameters.length) = some As.length)
    (hM : XM l D B Y y bytes maxL ret' h As w (.inr (some x)) w' P) (hfr : h + 10 + 1 ≤ R.frames) (hlo : 8 + (maxL + 11) + (40 * h + 200) ≤ R.locals) (hsize : ls.size = n) (hst : st0 = As.reverse ++ rest) (hW : (rest.map fun v => v.category).sum ≤ 8) (hdg : decode cc pc = .ok (.invokestatic index, 3)) (hf : cells ≤ R.cells ∧ slots ≤ R.slots)
    (kk : ∀ (H1 : Heap) (locs1 : List Loc), HT D A B B' Y w' v s H1 locs1 → P → W p l e R s m args below meth c H1 locs1 cells slots Q (F0 m (pc + 3) ls (x :: rest))) : W p l e R s m args below meth c H locs cells slots Q (F0 m pc ls st0) :=
  q2_xrun (vx_runS ⟨C.1, C.2.1, C.2.2.1, C.2.2.2.1, C.2.2.2.2.1⟩ hM (va_cwS As.length C.2.2.2.2.1 hg rfl rfl rfl hd ⟨hfr, hlo⟩) (q2_pre C hH) rfl rfl hsize hst (lv_room hW) hdg hf) hH kk
theorem q2_xK (C : CX2 D A Y p s m args meth c cc n own ret) (hH : HT D A B B' Y w v s H locs) {y : MethodName} {bytes : ByteArray} {maxL : Nat} {ret' : Option FieldType} {h mc index : Nat} {As : List Value} {x : Value} {w' : Wd} {P : Prop} {st0 : List Value} (hg : GoodIn ws0 (va_wsS own index y (WSM y bytes maxL ret')))
    (hd : y.cls ≠ "java/lang/invoke/MethodHandle" ∧ y.cls ≠ "java/lang/invoke/VarHandle" ∧ (parseMethodDescriptor y.desc).map (fun d => d.parameters.length) = some As.length)
    (hM : XK l D B Y y bytes maxL ret' h mc As w (.inr (some x)) w' P) (hfr : h + 10 + 1 ≤ R.frames) (hlo : 8 + (maxL + 11) + (40 * h + 200) ≤ R.locals) (hsize : ls.size = n) (hst : st0 = As.reverse ++ rest) (hW : (rest.map fun v => v.category).sum ≤ 8) (hdg : decode cc pc = .ok (.invokestatic index, 3)) (hf : cells + mc ≤ R.cells ∧ slots + 6 * mc ≤ R.slots)
    (kk : ∀ (H1 : Heap) (locs1 : List Loc), HT D A B B' Y w' v s H1 locs1 → P → W p l e R s m args below meth c H1 locs1 (cells + mc) (slots + 6 * mc) Q (F0 m (pc + 3) ls (x :: rest))) : W p l e R s m args below meth c H locs cells slots Q (F0 m pc ls st0) :=
  q2_xrun (vx_runS ⟨C.1, C.2.1, C.2.2.1, C.2.2.2.1, C.2.2.2.2.1⟩ hM (va_cwS As.length C.2.2.2.2.1 hg rfl rfl rfl hd ⟨hfr, hlo⟩) (q2_pre C hH) rfl rfl hsize hst (lv_room hW) hdg hf) hH kk
/-- the method of the law that looks at both -/
theorem q2_call2 (C : CX2 D A Y p s m args meth c cc n own ret) (hH : HT D A B B' Y w v s H locs) {y : MethodName} {bytes : ByteArray} {maxL : Nat} {ret' : Option FieldType} {h mc index : Nat} {As : List Value} {x : Value} {w' v' : Wd} {P : Prop} {st0 : List Value} (hg : GoodIn ws0 (va_wsS own index y (WSM y bytes maxL ret')))
    (hd : y.cls ≠ "java/lang/invoke/MethodHandle" ∧ y.cls ≠ "java/lang/invoke/VarHandle" ∧ (parseMethodDescriptor y.desc).map (fun d => d.parameters.length) = some As.length)
    (hM : C2 l D A B B' Y y bytes maxL ret' h mc As w v (some x) w' v' P) (hfr : h + 10 + 1 ≤ R.frames) (hlo : 8 + (maxL + 11) + (40 * h + 200) ≤ R.locals) (hsize : ls.size = n) (hst : st0 = As.reverse ++ rest) (hW : (rest.map fun v => v.category).sum ≤ 8) (hdg : decode cc pc = .ok (.invokestatic index, 3)) (hf : cells + mc ≤ R.cells ∧ slots + 6 * mc ≤ R.slots)
    (kk : ∀ (H1 : Heap) (locs1 : List Loc), HT D A B B' Y w' v' s H1 locs1 → P → W p l e R s m args below meth c H1 locs1 (cells + mc) (slots + 6 * mc) Q (F0 m (pc + 3) ls (x :: rest))) : W p l e R s m args below meth c H locs cells slots Q (F0 m pc ls st0) := by
  have hr : va_Run p l e R s m args below meth c H locs cells slots mc (6 * mc) (F0 m pc ls st0) rest (QG2 D A B B' Y (some x) w' v' P As.toArray) A := va_runS ⟨C.1, C.2.1, C.2.2.1, C.2.2.2.1, C.2.2.2.2.1⟩ hM (va_cwS As.length C.2.2.2.2.1 hg rfl rfl rfl hd ⟨hfr, hlo⟩) (q2_pre2 C hH) rfl rfl hsize hst (lv_room hW) hdg hf
  intro T hT X
  obtain ⟨y1, st₀, t, T', L, h0, X', hL, e1, e2, ⟨⟨hv, hp, hp', hb, hb', hPP⟩, hz, hk⟩, st⟩ := hr T hT X
  cases hv
  rw [h0] at hz hk
  obtain ⟨g1, g2, g3, g4, g5, g6⟩ := hH
  obtain ⟨t2, a1, b1⟩ := kk T'.heap (locs ++ L) ⟨by rw [e1]; exact hp, by rw [e1]; exact hp', ⟨Nat.le_trans g3.1 (by rw [e1]; exact hz), fun q h1 h2 => by rw [e1, hk q (Nat.lt_of_lt_of_le h1 g3.1) h2]; exact g3.2.1 q h1 h2, fun q hq => by
      rcases List.mem_append.mp hq with h | h
      · exact g3.2.2 q h
      · exact hL q h⟩, hb, hb', g6⟩ hPP T' rfl X'
  exact ⟨t2, st t2 a1, b1⟩
theorem q2_retz (C : CX2 D A Y p s m args meth c cc n own (some .boolean)) (hH : HT D A B B' Y w v s H locs) {x : Int32} {P : Prop} (hx : isZ x) (hP : P) (hdg : decode cc pc = .ok (.ireturn, 1)) : W p l e R s m args below meth c H locs cells slots (MQ below (QG2 D A B B' Y (some (.int x)) w v P) args s cells slots A) (F0 m pc ls [.int x]) :=
  W.zret C.1 C.2.1 C.2.2.2.2.2.1 (isZ_nar hx) (fun t ht hW => ⟨⟨rfl, by rw [ht]; exact hH.1, by rw [ht]; exact hH.2.1, hH.2.2.2.1, hH.2.2.2.2.1, hP⟩, hH.2.2.1.F ht⟩) hH.2.2.1.2.2 hdg C.2.2.2.2.2.2.1
theorem loopN_indN {S Z : Type} {body : (S → Option Z) → S → Option Z} {z : Z} {P : Nat → S → Prop} (h : ∀ (n : Nat) (rec : S → Option Z), (∀ s, rec s = some z → P n s) → ∀ s, body rec s = some z → P (n + 1) s) : ∀ (n : Nat) (s : S), loopN body n s = some z → P n s := by
  intro n
  induction n with
  | zero => intro s hs; cases hs
  | succ n ih => intro s hs; exact h n _ ih s hs
end TROWS
/-! ===== the script ===== -/
def LX2 (b L : Nat) (xs : Nat → Int32) (s : State) (B : Nat) : Prop := va_X b L xs s s.heap ∧ b < s.heap.size ∧ s.heap.size = B
def WDx (b L : Nat) (xs : Nat → Int32) (U : State) : Prop := va_X b L xs U U.heap ∧ b < U.heap.size
theorem WDx_blind {b L : Nat} {xs : Nat → Int32} {av : List Value} : FrameBlind (va_Pc av (WDx b L xs)) := by
  intro a U g mk h
  obtain ⟨h0, h1, h2⟩ := h
  exact ⟨h0, va_X.moved (u := U) (U := U.calling g mk a) (Vm.Alike.refl U.vm) h1, h2⟩
def QCel (k : Int32) : Array Value → State → Outcome → State → Prop := fun _ st oc t => oc = .returned (some (.int k)) ∧ va_F (fun _ => False) st t
set_option maxRecDepth 100000 in
theorem c_L_cell {l : Launch} {b L : Nat} {xs : Nat → Int32} {k x : Int32} (h : celV L xs k = some x) : Met l yL_cell (WSM yL_cell cL_cell 2 (some .int)) (RM 0 0 0) (va_Pc [.ref b, .int k] (WDx b L xs)) (QCel x) 0 0 (fun _ => False) := by
  refine Met.ofW (cc := cL_cell) (maxL := 2) (ret := some .int) (by decide +kernel) rfl ?_
  intro p e s m args below meth c s₁ Bd hml hv
  obtain ⟨rfl, hX, hlt⟩ := hv
  rw [lg_entry_eq]
  refine (show ∀ ls : Array Slot, lv_has ls 2 [(0, .ref b), (1, .int k)] → W p l e (RM 0 0 0) s m ([.ref b, .int k] : List Value).toArray below meth c s.heap [] 0 0 (MQ below (QCel x) ([.ref b, .int k] : List Value).toArray s 0 0 (fun _ => False)) (F0 m 0 ls []) from ?_) _ (lv_entry [.ref b, .int k] (Nat.le_of_ble_eq_true rfl))
  intro ls hl2
  have hx := Bd.exec
  have hb := Bd.bytes
  have fin : ∀ (pc : Nat) (v : Int32), v = x → decode cL_cell pc = .ok (.ireturn, 1) → W p l e (RM 0 0 0) s m ([.ref b, .int k] : List Value).toArray below meth c s.heap [] 0 0 (MQ below (QCel x) ([.ref b, .int k] : List Value).toArray s 0 0 (fun _ => False)) (F0 m pc ls [.int v]) := by
    intro pc v e hd
    subst e
    exact W.iret hx hb Bd.returns (fun t ht _ => ⟨rfl, by unfold va_F; rw [ht]; exact ⟨Nat.le_refl _, fun q _ _ => rfl⟩⟩) (fun q hq => by cases hq) hd Bd.notSynchronized
  unfold celV at h
  refine lv_iload_n hx hb dL_cell_0 rfl (lv_at hl2 1 rfl) ?_
  refine lv_aload_n hx hb dL_cell_1 rfl (lv_at hl2 0 rfl) ?_
  refine va_slen hx hb hX hlt (A := fun _ => False) (fun q => q) va_S.rf dL_cell_2 ?_
  refine lv_icmp_ge (tgt := 12) hx hb dL_cell_3 (by decide) (fun q => ?_) (fun q => ?_)
  · rw [if_neg (by rw [Int32.lt_iff_toInt_lt]; rw [Int32.le_iff_toInt_le] at q; omega)] at h
    refine lv_sipush (v := (7919 : Int32)) hx hb dL_cell_12 (by decide) ?_
    refine lv_iload_n hx hb dL_cell_15 rfl (lv_at hl2 1 rfl) ?_
    refine lv_sipush (v := (1291 : Int32)) hx hb dL_cell_16 (by decide) ?_
    refine lv_iadd hx hb dL_cell_19 ?_
    refine lv_imul hx hb dL_cell_20 ?_
    refine lv_iload_n hx hb dL_cell_21 rfl (lv_at hl2 1 rfl) ?_
    refine lv_sipush (v := (3761 : Int32)) hx hb dL_cell_22 (by decide) ?_
    refine lv_iadd hx hb dL_cell_25 ?_
    refine lv_imul hx hb dL_cell_26 ?_
    exact fin 27 _ (Option.some.inj h) dL_cell_27
  · rw [if_pos (by rw [Int32.lt_iff_toInt_lt]; rw [Int32.le_iff_toInt_le] at q; omega)] at h
    by_cases hi : inb k L = true
    · rw [if_pos hi] at h
      refine lv_aload_n hx hb dL_cell_6 rfl (lv_at hl2 0 rfl) ?_
      refine lv_iload_n hx hb dL_cell_7 rfl (lv_at hl2 1 rfl) ?_
      refine va_sld hx hb hX hlt (A := fun _ => False) (fun q => q) va_S.rf (inb_in hi) dL_cell_8 ?_
      refine lv_goto (tgt := 27) hx hb dL_cell_9 (by decide) ?_
      exact fin 27 _ (Option.some.inj h) dL_cell_27
    · rw [if_neg hi] at h; cases h
section SROWS
variable {D : va_G} {A : Nat → Prop} {B B' : Nat} {Y : Nat → ClassId} {p : Program} {l : Launch} {e : Env} {R : Room} {s : State} {m : MethodId} {args : Array Value} {below : List Frame} {meth : Method} {c : Code} {H : Heap} {locs : List Loc} {cells slots : Nat} {Q : State → Prop} {cc : ByteArray} {n : Nat} {ret : Option FieldType} {w v : Wd} {pc : Nat} {ls : Array Slot} {rest : List Value} {b L : Nat} {xs : Nat → Int32}
theorem q2_cell (C : CX2 D (A2 B) Y p s m args meth c cc n RL ret) (hX : LX2 b L xs s B) (hH : HT D (A2 B) B (B + 713) Y w v s H locs) {k x : Int32} {index : Nat} {st0 : List Value} (hc : celV L xs k = some x) (hg : GoodIn ws0 (va_wsS RL index yL_cell (WSM yL_cell cL_cell 2 (some .int))))
    (hd : yL_cell.cls ≠ "java/lang/invoke/MethodHandle" ∧ yL_cell.cls ≠ "java/lang/invoke/VarHandle" ∧ (parseMethodDescriptor yL_cell.desc).map (fun d => d.parameters.length) = some 2) (hfr : 0 + 10 + 1 ≤ R.frames) (hlo : 8 + (2 + 11) + (40 * 0 + 200) ≤ R.locals) (hsize : ls.size = n) (hst : st0 = [Value.ref b, .int k].reverse ++ rest) (hW : (rest.map fun v => v.category).sum ≤ 8) (hdg : decode cc pc = .ok (.invokestatic index, 3)) (hf : cells ≤ R.cells ∧ slots ≤ R.slots)
    (kk : ∀ (H1 : Heap) (locs1 : List Loc), HT D (A2 B) B (B + 713) Y w v s H1 locs1 → W p l e R s m args below meth c H1 locs1 cells slots Q (F0 m (pc + 3) ls (.int x :: rest))) : W p l e R s m args below meth c H locs cells slots Q (F0 m pc ls st0) := by
  have hnA : ¬ A2 B b := fun q => by have h1 : B ≤ b := q.1; have := hX.2.1; have := hX.2.2; omega
  have hpre : PreS s H (va_Pc [Value.ref b, .int k] (WDx b L xs)) [Value.ref b, .int k] :=
    ⟨WDx_blind, fun U hU hW => ⟨rfl, by rw [hU]; exact va_X.moved hW.alike (va_X.kept hX.1 (hH.2.2.1.2.1 b hX.2.1 hnA)), by rw [hU]; exact Nat.lt_of_lt_of_le hX.2.1 hH.2.2.1.1⟩⟩
  have hr : va_Run p l e R s m args below meth c H locs cells slots 0 0 (F0 m pc ls st0) rest (QCel x ([Value.ref b, .int k] : List Value).toArray) (fun _ => False) := va_runS (As := [Value.ref b, .int k]) ⟨C.1, C.2.1, C.2.2.1, C.2.2.2.1, C.2.2.2.2.1⟩ (c_L_cell (l := l) hc) (va_cwS 2 C.2.2.2.2.1 hg rfl rfl rfl hd ⟨hfr, hlo⟩) hpre rfl rfl hsize hst (lv_room hW) hdg hf
  intro T hT X
  obtain ⟨y1, st₀, t, T', L1, h0, X', hL, e1, e2, ⟨hv, hz, hk⟩, st⟩ := hr T hT X
  cases hv
  rw [h0] at hz hk
  obtain ⟨g1, g2, g3, g4, g5, g6⟩ := hH
  have same : ∀ q : Nat, q < H.size → T'.heap[q]? = H[q]? := fun q a => by rw [e1]; exact hk q a (fun z => z)
  obtain ⟨t2, a1, b1⟩ := kk T'.heap (locs ++ L1) ⟨fun k q hq => (g1 k q hq).kept (same _ (g1 k q hq).lt), fun k q hq => (g2 k q hq).kept (same _ (g2 k q hq).lt), ⟨Nat.le_trans g3.1 (by rw [e1]; exact hz), fun q h1 h2 => by rw [same q (Nat.lt_of_lt_of_le h1 g3.1)]; exact g3.2.1 q h1 h2, fun q hq => by
      rcases List.mem_append.mp hq with h | h
      · exact g3.2.2 q h
      · exact (hL q h).elim⟩, g4, g5, g6⟩ T' rfl X'
  exact ⟨t2, st t2 a1, b1⟩
theorem q2_lawret (C : CX2 D (A2 B) Y p s m #[.ref b] meth c cL_law 9 RL (some .boolean)) (hX : LX2 b L xs s B) (hcs : cells ≤ room_1.cells ∧ slots ≤ room_1.slots) (hH : HT D (A2 B) B (B + 713) Y w v s H locs) (hdg : decode cL_law pc = .ok (.ireturn, 1)) :
    W p l e room_1 s m #[.ref b] below meth c H locs cells slots (lw_Z below #[.ref b] s) (F0 m pc ls [.int 1]) := by
  refine va_forget (fun q hq => ?_) ?_
  · have h : A2 B q.base := hH.2.2.1.2.2 q hq
    rw [hX.2.2]
    exact h.1
  · refine W.widen (k := 600056) (n := 7301712) ?_ ?_ ?_
    · exact hcs.1
    · exact hcs.2
    · exact lw_ret C.1 C.2.1 C.2.2.2.2.2.1 C.2.2.2.2.2.2.1 hdg
end SROWS
