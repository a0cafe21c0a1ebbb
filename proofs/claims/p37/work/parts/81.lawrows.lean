/-! ===== the law's own methods: wrappers that catch; the script; the law's end ===== -/
theorem xw_1 {z : Nat ⊕ Option Value} (h : xv z = 1) : 0 + xv z ≤ 1 ∧ 0 + 6 * xv z ≤ 6 * 1 := by rw [h]; omega
theorem xw_n {z : Nat ⊕ Option Value} {a b n m : Nat} (h : xv z = 1) (h1 : a + 1 ≤ n) (h2 : b + 6 ≤ m) : a + xv z ≤ n ∧ b + 6 * xv z ≤ m := by rw [h]; omega
abbrev WSL (y : MethodName) (cc : ByteArray) (n : Nat) (hh : List (Nat × Nat × Nat × Nat)) : List Cond := Cond.codeWith y cc n (some .int) hh :: ws0
/-- a wrapper: it returns k, whatever its callee does -/
def LM (l : Launch) (D : va_G) (B : Nat) (Y : Nat → ClassId) (y : MethodName) (cc : ByteArray) (n : Nat) (hh : List (Nat × Nat × Nat × Nat)) (h mc : Nat) (av : List Value) (w : Wd) (k : Int32) (w' : Wd) : Prop :=
  Met l y (WSL y cc n hh) (RM h mc (6 * mc)) (va_Pc av (WDs D B Y w)) (QG D B Y (some (.int k)) w' True) mc (6 * mc) (AB B)
theorem LM_of {l : Launch} {D : va_G} {B : Nat} {Y : Nat → ClassId} {y : MethodName} {cc : ByteArray} {n : Nat} {hh : List (Nat × Nat × Nat × Nat)} {h mc : Nat} {av : List Value} {w : Wd} {k : Int32} {w' : Wd} (hy : plainName y.cls = true) (hn : (lg_sl av).length ≤ n)
    (body : ∀ (p : Program) (e : Env) (s : State) (m : MethodId) (args : Array Value) (below : List Frame) (meth : Method) (c : Code) (ls : Array Slot), CX D B Y p s m args meth c cc n y.cls (some .int) → c.exceptionTable.toList = tableOf hh → HS D B Y w s s.heap [] → lv_has ls n (lv_args 0 av) →
      W p l e (RM h mc (6 * mc)) s m args below meth c s.heap [] 0 0 (MQ below (QG D B Y (some (.int k)) w' True) args s mc (6 * mc) (AB B)) (F0 m 0 ls [])) : LM l D B Y y cc n hh h mc av w k w' := by
  unfold LM Met
  refine MetFree.of_bodyS (code := cc) (maxLocals := n) (ret := some .int) hy ?_ ?_
  · intro args s m hb hn
    obtain ⟨m9, meth, c, hn9, h1, h2, h3, h4, -, h5, h6, -⟩ := Cond.codeWith_spec (atoms_spec (ws := WSL y cc n hh) hb _ List.mem_cons_self)
    cases hn.symm.trans hn9
    exact ⟨meth, c, h1, h2, h3, h4, h5, h6⟩
  · intro p e s m args below meth c s₁ Bd hml hv _
    obtain ⟨rfl, hP, hO, hK, hZ⟩ := hv
    have hh0 : s₁.heap = s.heap := by rw [Bd.state]; rfl
    have ht : c.exceptionTable.toList = tableOf hh := vx_table (x := y) Bd (atoms_spec (ws := WSL y cc n hh) Bd.pre _ List.mem_cons_self)
    have K : W p l e (RM h mc (6 * mc)) s m av.toArray below meth c s.heap [] 0 0 (MQ below (QG D B Y (some (.int k)) w' True) av.toArray s mc (6 * mc) (AB B)) (entryFrame m av.toArray n) := by
      rw [lg_entry_eq]
      exact body p e s m _ below meth c _ ⟨Bd.exec, Bd.bytes, hml, findClass_of_methodNamed Bd.named, fun w hw => atoms_spec (ws := WSL y cc n hh) Bd.pre w (List.mem_cons_of_mem _ hw), Bd.returns, Bd.notSynchronized, hK, hZ⟩ ht ⟨hP, va_S.rf, hO⟩ (lv_entry av hn)
    obtain ⟨t, a1, o, b1, b2, b3⟩ := K s₁ hh0 (Stand.of_body Bd)
    exact ⟨t, o, a1, b1, b2, ⟨b3.1, b3.2⟩⟩
theorem WSL_good {y : MethodName} {cc : ByteArray} {n : Nat} {hh : List (Nat × Nat × Nat × Nat)} (h : Cond.codeWith y cc n (some .int) hh ∈ ws0) : GoodIn ws0 (WSL y cc n hh) := by
  intro w hw
  rcases List.mem_cons.mp hw with rfl | hw
  · exact ws0_self _ h
  · exact ws0_self _ hw
theorem goodSW {own : String} {idx : Nat} {y : MethodName} {cc : ByteArray} {n : Nat} {hh : List (Nat × Nat × Nat × Nat)} (h1 : Cond.methodLink own idx y ∈ ws0) (h2 : Cond.static y ∈ ws0) (h4 : Cond.initialized y.cls ∈ ws0) (h5 : Cond.codeWith y cc n (some .int) hh ∈ ws0) : GoodIn ws0 (va_wsS own idx y (WSL y cc n hh)) := by
  intro w hw
  rcases List.mem_append.mp hw with hw | hw
  · simp only [List.mem_cons, List.not_mem_nil, or_false] at hw
    rcases hw with rfl | rfl | rfl
    · exact ws0_self _ h1
    · exact ws0_self _ h2
    · exact ws0_self _ h4
  · exact WSL_good h5 _ hw
/-- which exception a row of a wrapper's table takes -/
def ctN (ct : Nat) : Nat := if ct = 68 then 1 else if ct = 71 then 2 else 3
theorem lk_13 : Cond.classLink RL 71 (exN 2) ∈ ws0 := ws0_of 435 (by decide +kernel) (by decide +kernel)
theorem lk_15 : Cond.classLink RL 73 (exN 3) ∈ ws0 := ws0_of 436 (by decide +kernel) (by decide +kernel)
theorem lk_21 : Cond.classLink RL 68 (exN 1) ∈ ws0 := ws0_of 434 (by decide +kernel) (by decide +kernel)
theorem lk_of {ct : Nat} (h : ct = 71 ∨ ct = 73 ∨ ct = 68) : Cond.classLink RL ct (exN (ctN ct)) ∈ ws0 := by
  rcases h with rfl | rfl | rfl
  · exact lk_13
  · exact lk_15
  · exact lk_21
theorem ct_k {ct : Nat} (h : ct = 71 ∨ ct = 73 ∨ ct = 68) : ctN ct = 1 ∨ ctN ct = 2 ∨ ctN ct = 3 := by
  rcases h with rfl | rfl | rfl <;> decide
theorem ct_inj {a b : Nat} (ha : a = 71 ∨ a = 73 ∨ a = 68) (hb : b = 71 ∨ b = 73 ∨ b = 68) (h : a ≠ b) : ctN a ≠ ctN b := by
  rcases ha with rfl | rfl | rfl <;> rcases hb with rfl | rfl | rfl <;> first | exact absurd rfl h | decide
theorem castL_in {k : Nat} (h : k = 1 ∨ k = 2 ∨ k = 3) : (exN k, exN k) ∈ castL := by
  rcases h with rfl | rfl | rfl <;> decide +kernel
theorem ncL_in {j k : Nat} (hj : j = 1 ∨ j = 2 ∨ j = 3) (hk : k = 1 ∨ k = 2 ∨ k = 3) (h : j ≠ k) : (exN j, exN k) ∈ ncL := by
  rcases hj with rfl | rfl | rfl <;> rcases hk with rfl | rfl | rfl <;> first | exact absurd rfl h | decide +kernel
section LROWS
variable {D : va_G} {B : Nat} {Y : Nat → ClassId} {p : Program} {l : Launch} {e : Env} {R : Room} {s : State} {m : MethodId} {args : Array Value} {below : List Frame} {meth : Method} {c : Code} {H : Heap} {locs : List Loc} {cells slots : Nat} {Q : State → Prop} {cc : ByteArray} {n : Nat} {ret : Option FieldType} {w : Wd} {pc : Nat} {ls : Array Slot} {rest : List Value}
theorem q_catch (C : CX D B Y p s m args meth c cc n RL ret) {hh : List (Nat × Nat × Nat × Nat)} (htab : c.exceptionTable.toList = tableOf hh) {pre suf : List (Nat × Nat × Nat × Nat)} {x : Nat × Nat × Nat × Nat} {E : Nat} {ce : Cell} {q : Addr} (hs : hh = pre ++ x :: suf) (hct : x.2.2.2 = 71 ∨ x.2.2.2 = 73 ∨ x.2.2.2 = 68) (hE : ctN x.2.2.2 = E) (hcov : covers (⟨x.1, x.2.1, x.2.2.1, x.2.2.2⟩ : ExceptionTableEntry) pc = true) (hpre : ∀ z ∈ pre, (z.2.2.2 = 71 ∨ z.2.2.2 = 73 ∨ z.2.2.2 = 68) ∧ x.2.2.2 ≠ z.2.2.2) (h1 : H[q]? = some ce) (h2 : ce.vm = .none) (h3 : s.vm.findClass (exN E) = some ce.cls)
    (kk : W p l e R s m args below meth c H locs cells slots Q (F0 m x.2.2.1 ls [.ref q])) : vx_W p l e R s m args below meth c H locs cells slots Q (F0 m pc ls rest) q := by
  subst hE
  refine vx_catch (name := exN (ctN x.2.2.2)) C.2.2.2.1 (tableOf pre) ⟨x.1, x.2.1, x.2.2.1, x.2.2.2⟩ (tableOf suf) ?_ ?_ hcov ?_ (C.2.2.2.2.1 _ (lk_of hct)) ?_ h1 h2 h3 kk
  · rw [htab, hs]
    show (pre ++ x :: suf).map _ = pre.map _ ++ _ :: suf.map _
    rw [List.map_append, List.map_cons]
  · intro z hz
    obtain ⟨y, hy, rfl⟩ := List.mem_map.mp hz
    obtain ⟨hy1, hy2⟩ := hpre y hy
    refine Or.inr ⟨?_, exN (ctN y.2.2.2), C.2.2.2.2.1 _ (lk_of hy1), C.2.2.2.2.2.2.2.1.2.2.2.2.2 _ (ncL_in (ct_k hct) (ct_k hy1) (ct_inj hct hy1 hy2))⟩
    show y.2.2.2 ≠ 0
    omega
  · show x.2.2.2 ≠ 0
    omega
  · exact va_Nw.use rfl (C.2.2.2.2.2.2.2.1.2.2.2.1 _ (castL_in (ct_k hct)))
theorem q_callLW (C : CX D B Y p s m args meth c cc n RL ret) (hH : HS D B Y w s H locs) {y : MethodName} {bytes : ByteArray} {maxL : Nat} {hh : List (Nat × Nat × Nat × Nat)} {h mc index : Nat} {As : List Value} {k : Int32} {w' : Wd} {st0 : List Value} (hg : GoodIn ws0 (va_wsS RL index y (WSL y bytes maxL hh)))
    (hd : y.cls ≠ "java/lang/invoke/MethodHandle" ∧ y.cls ≠ "java/lang/invoke/VarHandle" ∧ (parseMethodDescriptor y.desc).map (fun d => d.parameters.length) = some As.length)
    (hM : LM l D B Y y bytes maxL hh h mc As w k w') (hfr : h + 10 + 1 ≤ R.frames) (hlo : 8 + (maxL + 11) + (40 * h + 200) ≤ R.locals) (hsize : ls.size = n) (hst : st0 = As.reverse ++ rest) (hW : (rest.map fun v => v.category).sum ≤ 8) (hdg : decode cc pc = .ok (.invokestatic index, 3)) (hf : cells + mc ≤ R.cells ∧ slots + 6 * mc ≤ R.slots)
    (kk : ∀ (H1 : Heap) (locs1 : List Loc), HS D B Y w' s H1 locs1 → W p l e R s m args below meth c H1 locs1 (cells + mc) (slots + 6 * mc) Q (F0 m (pc + 3) ls (.int k :: rest))) : W p l e R s m args below meth c H locs cells slots Q (F0 m pc ls st0) :=
  q_run (vx_runSW (hh := hh) ⟨C.1, C.2.1, C.2.2.1, C.2.2.2.1, C.2.2.2.2.1⟩ hM (vx_cwSW As.length C.2.2.2.2.1 hg rfl rfl rfl hd ⟨hfr, hlo⟩) (q_pre C hH) rfl rfl hsize hst (lv_room hW) hdg hf) hH (fun H1 locs1 h _ => kk H1 locs1 h)
end LROWS
/-- a method that returns, and may take so many cells -/
def CK (l : Launch) (D : va_G) (B : Nat) (Y : Nat → ClassId) (y : MethodName) (cc : ByteArray) (n : Nat) (ret : Option FieldType) (h mc : Nat) (av : List Value) (w : Wd) (o : Option Value) (w' : Wd) (P : Prop) : Prop :=
  Met l y (WSM y cc n ret) (RM h mc (6 * mc)) (va_Pc av (WDs D B Y w)) (QG D B Y o w' P) mc (6 * mc) (AB B)
theorem CK_of {l : Launch} {D : va_G} {B : Nat} {Y : Nat → ClassId} {y : MethodName} {cc : ByteArray} {n : Nat} {ret : Option FieldType} {h mc : Nat} {av : List Value} {w : Wd} {o : Option Value} {w' : Wd} {P : Prop} (hy : plainName y.cls = true) (hn : (lg_sl av).length ≤ n)
    (body : ∀ (p : Program) (e : Env) (s : State) (m : MethodId) (args : Array Value) (below : List Frame) (meth : Method) (c : Code) (ls : Array Slot), CX D B Y p s m args meth c cc n y.cls ret → HS D B Y w s s.heap [] → lv_has ls n (lv_args 0 av) →
      W p l e (RM h mc (6 * mc)) s m args below meth c s.heap [] 0 0 (MQ below (QG D B Y o w' P) args s mc (6 * mc) (AB B)) (F0 m 0 ls [])) : CK l D B Y y cc n ret h mc av w o w' P := by
  refine Met.ofW (cc := cc) (maxL := n) (ret := ret) hy rfl ?_
  intro p e s m args below meth c s₁ Bd hml hv
  obtain ⟨rfl, hP, hO, hK, hZ⟩ := hv
  rw [lg_entry_eq]
  exact body p e s m _ below meth c _ ⟨Bd.exec, Bd.bytes, hml, findClass_of_methodNamed Bd.named, fun w hw => atoms_spec (ws := WSM y cc n ret) Bd.pre w (List.mem_cons_of_mem _ hw), Bd.returns, Bd.notSynchronized, hK, hZ⟩ ⟨hP, va_S.rf, hO⟩ (lv_entry av hn)
/-- a method that returns or throws, and may take so many cells -/
def XK (l : Launch) (D : va_G) (B : Nat) (Y : Nat → ClassId) (y : MethodName) (cc : ByteArray) (n : Nat) (ret : Option FieldType) (h mc : Nat) (av : List Value) (w : Wd) (z : Nat ⊕ Option Value) (w' : Wd) (P : Prop) : Prop :=
  vx_Met l y (WSM y cc n ret) (RM h mc (6 * mc)) (va_Pc av (WDs D B Y w)) (QX D B Y z w' P) (XX D B Y z w') mc (6 * mc) (AB B)
theorem XK_of {l : Launch} {D : va_G} {B : Nat} {Y : Nat → ClassId} {y : MethodName} {cc : ByteArray} {n : Nat} {ret : Option FieldType} {h mc : Nat} {av : List Value} {w : Wd} {z : Nat ⊕ Option Value} {w' : Wd} {P : Prop} (hy : plainName y.cls = true) (hn : (lg_sl av).length ≤ n)
    (body : ∀ (p : Program) (e : Env) (s : State) (m : MethodId) (args : Array Value) (below : List Frame) (meth : Method) (c : Code) (ls : Array Slot), CX D B Y p s m args meth c cc n y.cls ret → (∀ x ∈ c.exceptionTable.toList, False) → HS D B Y w s s.heap [] → lv_has ls n (lv_args 0 av) →
      W p l e (RM h mc (6 * mc)) s m args below meth c s.heap [] 0 0 (vx_MQ below (QX D B Y z w' P) (XX D B Y z w') args s mc (6 * mc) (AB B)) (F0 m 0 ls [])) : XK l D B Y y cc n ret h mc av w z w' P := by
  refine vx_ofW (cc := cc) (maxL := n) (ret := ret) hy rfl ?_
  intro p e s m args below meth c s₁ Bd hml hxt hv
  obtain ⟨rfl, hP, hO, hK, hZ⟩ := hv
  rw [lg_entry_eq]
  exact body p e s m _ below meth c _ ⟨Bd.exec, Bd.bytes, hml, findClass_of_methodNamed Bd.named, fun w hw => atoms_spec (ws := WSM y cc n ret) Bd.pre w (List.mem_cons_of_mem _ hw), Bd.returns, Bd.notSynchronized, hK, hZ⟩ hxt ⟨hP, va_S.rf, hO⟩ (lv_entry av hn)
