section BROWS
variable {p : Program} {l : Launch} {e : Env} {R : Room} {s : State} {m : MethodId} {args : Array Value} {below : List Frame} {meth : Method} {c : Code} {H : Heap} {locs : List Loc} {cells slots : Nat} {Q : State → Prop} {cc : ByteArray} {pc : Nat} {ls : Array Slot} {rest : List Value}
theorem b_if_eq (hx : p.tables.exec = Jvm.exec) (hb : c.code = cc) {x : Int32} {Z : Type} {A1 A2 : Option Z} {z : Z} {off : Int} {tgt : Nat} (hf : (if x = 0 then A1 else A2) = some z) (hdg : decode cc pc = .ok (.ifCond .eq off, 3)) (ht : (pc : Int) + off = (tgt : Int))
    (kt : A1 = some z → W p l e R s m args below meth c H locs cells slots Q (F0 m tgt ls rest)) (kf : A2 = some z → W p l e R s m args below meth c H locs cells slots Q (F0 m (pc + 3) ls rest)) : W p l e R s m args below meth c H locs cells slots Q (F0 m pc ls (.int x :: rest)) :=
  lv_if_eq hx hb hdg ht (fun h => kt (by rw [if_pos h] at hf; exact hf)) (fun h => kf (by rw [if_neg h] at hf; exact hf))
theorem b_icmp_eq (hx : p.tables.exec = Jvm.exec) (hb : c.code = cc) {x y : Int32} {Z : Type} {A1 A2 : Option Z} {z : Z} {off : Int} {tgt : Nat} (hf : (if x = y then A1 else A2) = some z) (hdg : decode cc pc = .ok (.if_icmp .eq off, 3)) (ht : (pc : Int) + off = (tgt : Int))
    (kt : A1 = some z → W p l e R s m args below meth c H locs cells slots Q (F0 m tgt ls rest)) (kf : A2 = some z → W p l e R s m args below meth c H locs cells slots Q (F0 m (pc + 3) ls rest)) : W p l e R s m args below meth c H locs cells slots Q (F0 m pc ls (.int y :: .int x :: rest)) :=
  lv_icmp_eq hx hb hdg ht (fun h => kt (by rw [if_pos h] at hf; exact hf)) (fun h => kf (by rw [if_neg h] at hf; exact hf))
theorem b_if_ne (hx : p.tables.exec = Jvm.exec) (hb : c.code = cc) {x : Int32} {Z : Type} {A1 A2 : Option Z} {z : Z} {off : Int} {tgt : Nat} (hf : (if x = 0 then A1 else A2) = some z) (hdg : decode cc pc = .ok (.ifCond .ne off, 3)) (ht : (pc : Int) + off = (tgt : Int))
    (kt : A2 = some z → W p l e R s m args below meth c H locs cells slots Q (F0 m tgt ls rest)) (kf : A1 = some z → W p l e R s m args below meth c H locs cells slots Q (F0 m (pc + 3) ls rest)) : W p l e R s m args below meth c H locs cells slots Q (F0 m pc ls (.int x :: rest)) :=
  lv_if_ne hx hb hdg ht (fun h => kt (by rw [if_neg h] at hf; exact hf)) (fun h => kf (by rw [if_pos h] at hf; exact hf))
theorem b_icmp_ne (hx : p.tables.exec = Jvm.exec) (hb : c.code = cc) {x y : Int32} {Z : Type} {A1 A2 : Option Z} {z : Z} {off : Int} {tgt : Nat} (hf : (if x = y then A1 else A2) = some z) (hdg : decode cc pc = .ok (.if_icmp .ne off, 3)) (ht : (pc : Int) + off = (tgt : Int))
    (kt : A2 = some z → W p l e R s m args below meth c H locs cells slots Q (F0 m tgt ls rest)) (kf : A1 = some z → W p l e R s m args below meth c H locs cells slots Q (F0 m (pc + 3) ls rest)) : W p l e R s m args below meth c H locs cells slots Q (F0 m pc ls (.int y :: .int x :: rest)) :=
  lv_icmp_ne hx hb hdg ht (fun h => kt (by rw [if_neg h] at hf; exact hf)) (fun h => kf (by rw [if_pos h] at hf; exact hf))
theorem b_if_lt (hx : p.tables.exec = Jvm.exec) (hb : c.code = cc) {x : Int32} {Z : Type} {A1 A2 : Option Z} {z : Z} {off : Int} {tgt : Nat} (hf : (if x < 0 then A1 else A2) = some z) (hdg : decode cc pc = .ok (.ifCond .lt off, 3)) (ht : (pc : Int) + off = (tgt : Int))
    (kt : A1 = some z → W p l e R s m args below meth c H locs cells slots Q (F0 m tgt ls rest)) (kf : A2 = some z → W p l e R s m args below meth c H locs cells slots Q (F0 m (pc + 3) ls rest)) : W p l e R s m args below meth c H locs cells slots Q (F0 m pc ls (.int x :: rest)) :=
  lv_if_lt hx hb hdg ht (fun h => kt (by rw [if_pos h] at hf; exact hf)) (fun h => kf (by rw [if_neg h] at hf; exact hf))
theorem b_icmp_lt (hx : p.tables.exec = Jvm.exec) (hb : c.code = cc) {x y : Int32} {Z : Type} {A1 A2 : Option Z} {z : Z} {off : Int} {tgt : Nat} (hf : (if x < y then A1 else A2) = some z) (hdg : decode cc pc = .ok (.if_icmp .lt off, 3)) (ht : (pc : Int) + off = (tgt : Int))
    (kt : A1 = some z → W p l e R s m args below meth c H locs cells slots Q (F0 m tgt ls rest)) (kf : A2 = some z → W p l e R s m args below meth c H locs cells slots Q (F0 m (pc + 3) ls rest)) : W p l e R s m args below meth c H locs cells slots Q (F0 m pc ls (.int y :: .int x :: rest)) :=
  lv_icmp_lt hx hb hdg ht (fun h => kt (by rw [if_pos h] at hf; exact hf)) (fun h => kf (by rw [if_neg h] at hf; exact hf))
theorem b_if_ge (hx : p.tables.exec = Jvm.exec) (hb : c.code = cc) {x : Int32} {Z : Type} {A1 A2 : Option Z} {z : Z} {off : Int} {tgt : Nat} (hf : (if 0 ≤ x then A1 else A2) = some z) (hdg : decode cc pc = .ok (.ifCond .ge off, 3)) (ht : (pc : Int) + off = (tgt : Int))
    (kt : A1 = some z → W p l e R s m args below meth c H locs cells slots Q (F0 m tgt ls rest)) (kf : A2 = some z → W p l e R s m args below meth c H locs cells slots Q (F0 m (pc + 3) ls rest)) : W p l e R s m args below meth c H locs cells slots Q (F0 m pc ls (.int x :: rest)) :=
  lv_if_ge hx hb hdg ht (fun h => kt (by rw [if_pos h] at hf; exact hf)) (fun h => kf (by rw [if_neg h] at hf; exact hf))
theorem b_icmp_ge (hx : p.tables.exec = Jvm.exec) (hb : c.code = cc) {x y : Int32} {Z : Type} {A1 A2 : Option Z} {z : Z} {off : Int} {tgt : Nat} (hf : (if y ≤ x then A1 else A2) = some z) (hdg : decode cc pc = .ok (.if_icmp .ge off, 3)) (ht : (pc : Int) + off = (tgt : Int))
    (kt : A1 = some z → W p l e R s m args below meth c H locs cells slots Q (F0 m tgt ls rest)) (kf : A2 = some z → W p l e R s m args below meth c H locs cells slots Q (F0 m (pc + 3) ls rest)) : W p l e R s m args below meth c H locs cells slots Q (F0 m pc ls (.int y :: .int x :: rest)) :=
  lv_icmp_ge hx hb hdg ht (fun h => kt (by rw [if_pos h] at hf; exact hf)) (fun h => kf (by rw [if_neg h] at hf; exact hf))
theorem b_if_gt (hx : p.tables.exec = Jvm.exec) (hb : c.code = cc) {x : Int32} {Z : Type} {A1 A2 : Option Z} {z : Z} {off : Int} {tgt : Nat} (hf : (if 0 < x then A1 else A2) = some z) (hdg : decode cc pc = .ok (.ifCond .gt off, 3)) (ht : (pc : Int) + off = (tgt : Int))
    (kt : A1 = some z → W p l e R s m args below meth c H locs cells slots Q (F0 m tgt ls rest)) (kf : A2 = some z → W p l e R s m args below meth c H locs cells slots Q (F0 m (pc + 3) ls rest)) : W p l e R s m args below meth c H locs cells slots Q (F0 m pc ls (.int x :: rest)) :=
  lv_if_gt hx hb hdg ht (fun h => kt (by rw [if_pos h] at hf; exact hf)) (fun h => kf (by rw [if_neg h] at hf; exact hf))
theorem b_icmp_gt (hx : p.tables.exec = Jvm.exec) (hb : c.code = cc) {x y : Int32} {Z : Type} {A1 A2 : Option Z} {z : Z} {off : Int} {tgt : Nat} (hf : (if y < x then A1 else A2) = some z) (hdg : decode cc pc = .ok (.if_icmp .gt off, 3)) (ht : (pc : Int) + off = (tgt : Int))
    (kt : A1 = some z → W p l e R s m args below meth c H locs cells slots Q (F0 m tgt ls rest)) (kf : A2 = some z → W p l e R s m args below meth c H locs cells slots Q (F0 m (pc + 3) ls rest)) : W p l e R s m args below meth c H locs cells slots Q (F0 m pc ls (.int y :: .int x :: rest)) :=
  lv_icmp_gt hx hb hdg ht (fun h => kt (by rw [if_pos h] at hf; exact hf)) (fun h => kf (by rw [if_neg h] at hf; exact hf))
theorem b_if_le (hx : p.tables.exec = Jvm.exec) (hb : c.code = cc) {x : Int32} {Z : Type} {A1 A2 : Option Z} {z : Z} {off : Int} {tgt : Nat} (hf : (if x ≤ 0 then A1 else A2) = some z) (hdg : decode cc pc = .ok (.ifCond .le off, 3)) (ht : (pc : Int) + off = (tgt : Int))
    (kt : A1 = some z → W p l e R s m args below meth c H locs cells slots Q (F0 m tgt ls rest)) (kf : A2 = some z → W p l e R s m args below meth c H locs cells slots Q (F0 m (pc + 3) ls rest)) : W p l e R s m args below meth c H locs cells slots Q (F0 m pc ls (.int x :: rest)) :=
  lv_if_le hx hb hdg ht (fun h => kt (by rw [if_pos h] at hf; exact hf)) (fun h => kf (by rw [if_neg h] at hf; exact hf))
theorem b_icmp_le (hx : p.tables.exec = Jvm.exec) (hb : c.code = cc) {x y : Int32} {Z : Type} {A1 A2 : Option Z} {z : Z} {off : Int} {tgt : Nat} (hf : (if x ≤ y then A1 else A2) = some z) (hdg : decode cc pc = .ok (.if_icmp .le off, 3)) (ht : (pc : Int) + off = (tgt : Int))
    (kt : A1 = some z → W p l e R s m args below meth c H locs cells slots Q (F0 m tgt ls rest)) (kf : A2 = some z → W p l e R s m args below meth c H locs cells slots Q (F0 m (pc + 3) ls rest)) : W p l e R s m args below meth c H locs cells slots Q (F0 m pc ls (.int y :: .int x :: rest)) :=
  lv_icmp_le hx hb hdg ht (fun h => kt (by rw [if_pos h] at hf; exact hf)) (fun h => kf (by rw [if_neg h] at hf; exact hf))
theorem b_acmp_ne (hx : p.tables.exec = Jvm.exec) (hb : c.code = cc) {B a b : Nat} {Z : Type} {A1 A2 : Option Z} {z : Z} {off : Int} {tgt : Nat} (hf : (if a = b then A1 else A2) = some z) (hdg : decode cc pc = .ok (.if_acmp .ne off, 3)) (ht : (pc : Int) + off = (tgt : Int))
    (kt : A2 = some z → W p l e R s m args below meth c H locs cells slots Q (F0 m tgt ls rest)) (kf : A1 = some z → W p l e R s m args below meth c H locs cells slots Q (F0 m (pc + 3) ls rest)) : W p l e R s m args below meth c H locs cells slots Q (F0 m pc ls (.ref (B + b) :: .ref (B + a) :: rest)) :=
  lv_acmp_ne (rx := some (B + a)) (ry := some (B + b)) hx hb hdg ht (fun h => kt (by rw [if_neg (fun e => h (by rw [e]))] at hf; exact hf)) (fun h => kf (by rw [if_pos (by have := Option.some.inj h; omega)] at hf; exact hf))
end BROWS
section XROWS
variable {D : va_G} {B : Nat} {Y : Nat → ClassId} {p : Program} {l : Launch} {e : Env} {R : Room} {s : State} {m : MethodId} {args : Array Value} {below : List Frame} {meth : Method} {c : Code} {H : Heap} {locs : List Loc} {cells slots : Nat} {Q : State → Prop} {cc : ByteArray} {n : Nat} {own : String} {ret : Option FieldType} {w : Wd} {pc : Nat} {ls : Array Slot} {rest : List Value}
def xnames : List String := ["java/lang/RuntimeException", "java/lang/Exception"]
def xrest (k : Nat) : List Cond := (Bundle.throwableAtoms ++ Bundle.throwableSAtoms ++ Bundle.chainSAtoms (exN k) xnames ++
  ([.instantiable (exN k) 6, .castable (exN k) (exN k), .selects (exN k) Bundle.tFill0 Bundle.tFill0, .selects (exN k) Bundle.tFill Bundle.tFill,
   .lays (exN k) Bundle.tN "cause" "Ljava/lang/Throwable;", .lays (exN k) Bundle.tN "stackTrace" Bundle.steD, .lays (exN k) Bundle.tN "suppressedExceptions" Bundle.listD, .lays (exN k) Bundle.tN "detailMessage" "Ljava/lang/String;",
   .isRef (.static Bundle.tN "UNASSIGNED_STACK" Bundle.steD), .isRef (.static Bundle.tN "SUPPRESSED_SENTINEL" Bundle.listD),
   .fieldLink Bundle.tN 198 Bundle.tN "backtrace" "Ljava/lang/Object;", .lays Bundle.tN Bundle.tN "backtrace" "Ljava/lang/Object;", .lays (exN k) Bundle.tN "backtrace" "Ljava/lang/Object;"] : List Cond)).filter vx_no
theorem xwords_in {k ic : Nat} {w : Cond} (h : w ∈ vx_atS RX10 ic (exN k) xnames) : w = .methodLink RX10 ic (Bundle.initS (exN k)) ∨ w ∈ xrest k := by
  unfold vx_atS Bundle.ownAtoms at h
  unfold xrest
  rw [List.mem_filter] at h ⊢
  obtain ⟨h1, h2⟩ := h
  rcases List.mem_append.mp h1 with h1 | h1
  · exact Or.inr ⟨List.mem_append_left _ h1, h2⟩
  · rcases List.mem_cons.mp h1 with h1 | h1
    · exact Or.inl h1
    · exact Or.inr ⟨List.mem_append_right _ h1, h2⟩
def xknown (w : Cond) : Bool := decide (w ∈ castL.map (fun q => Cond.castable q.1 q.2)) || decide (w ∈ declL.map (fun q => Cond.declares q))
theorem xw1 : (xrest 1).all (fun w => (decide (w ∈ lw_tbl) && goodWord w) || xknown w) = true := by decide +kernel
theorem xw2 : (xrest 2).all (fun w => (decide (w ∈ lw_tbl) && goodWord w) || xknown w) = true := by decide +kernel
theorem xw3 : (xrest 3).all (fun w => (decide (w ∈ lw_tbl) && goodWord w) || xknown w) = true := by decide +kernel
theorem xot1 : (xrest 1).all vx_ot = true := by decide +kernel
theorem xot2 : (xrest 2).all vx_ot = true := by decide +kernel
theorem xot3 : (xrest 3).all vx_ot = true := by decide +kernel
theorem q_throw (C : CX D B Y p s m args meth c cc n RX10 ret) (hH : HS D B Y w s H locs) (hxt : ∀ x ∈ c.exceptionTable.toList, False) (htr : l.stackTraces = false) {k ik is ic hm mc : Nat} {text : String} {P : Prop} (hk : k = 1 ∨ k = 2 ∨ k = 3)
    (hcl : Cond.classLink RX10 ik (exN k) ∈ ws0) (hini : Cond.initialized (exN k) ∈ ws0) (hml : Cond.methodLink RX10 ic (Bundle.initS (exN k)) ∈ ws0) (hst : (RX10, is, text) ∈ strL) (hsize : ls.size = n)
    (d0 : decode cc pc = .ok (.new ik, 3)) (d3 : decode cc (pc + 3) = .ok (.dup, 1)) (d4 : decode cc (pc + 4) = .ok (.ldc is, 2)) (d6 : decode cc (pc + 6) = .ok (.invokespecial ic, 3)) (d9 : decode cc (pc + 9) = .ok (.athrow, 1))
    (hrest : (rest.map fun v => v.category).sum ≤ 8) (hc : cells + 1 ≤ mc) (hs : slots + 6 ≤ 6 * mc) :
    W p l e (RM hm mc (6 * mc)) s m args below meth c H locs cells slots (vx_MQ below (QX D B Y (.inl k) w P) (XX D B Y (.inl k) w) args s mc (6 * mc) (AB B)) (F0 m pc ls rest) := by
  obtain ⟨sa, hsa⟩ := C.2.2.2.2.2.2.2.1.2.2.1 _ hst
  have hat : ∀ w ∈ vx_atS RX10 ic (exN k) xnames, w.before args s = true := by
    intro w hw
    rcases xwords_in hw with rfl | hw
    · exact C.2.2.2.2.1 _ hml
    · have h1 : ((decide (w ∈ lw_tbl) && goodWord w) || xknown w) = true := by
        rcases hk with rfl | rfl | rfl
        · exact List.all_eq_true.mp xw1 w hw
        · exact List.all_eq_true.mp xw2 w hw
        · exact List.all_eq_true.mp xw3 w hw
      simp only [Bool.or_eq_true, Bool.and_eq_true, decide_eq_true_eq] at h1
      rcases h1 with h1 | h1
      · exact C.2.2.2.2.1 _ (List.mem_filter.mpr h1)
      · unfold xknown at h1
        simp only [Bool.or_eq_true, decide_eq_true_eq, List.mem_map] at h1
        rcases h1 with ⟨q, hq, rfl⟩ | ⟨q, hq, rfl⟩
        · exact va_Nw.use rfl (C.2.2.2.2.2.2.2.1.2.2.2.1 q hq)
        · exact va_Nw.use rfl (C.2.2.2.2.2.2.2.1.2.2.2.2.1 q hq)
  have hgood : ∀ w ∈ Cond.classLink RX10 ik (exN k) :: Cond.initialized (exN k) :: vx_atS RX10 ic (exN k) xnames, vx_ot w = true := by
    intro w hw
    rcases List.mem_cons.mp hw with rfl | hw
    · rfl
    rcases List.mem_cons.mp hw with rfl | hw
    · rfl
    rcases xwords_in hw with rfl | hw
    · rfl
    · rcases hk with rfl | rfl | rfl
      · exact List.all_eq_true.mp xot1 w hw
      · exact List.all_eq_true.mp xot2 w hw
      · exact List.all_eq_true.mp xot3 w hw
  refine vx_throwS (names := xnames) C.1 C.2.1 htr C.2.2.2.1 (by rcases hk with rfl | rfl | rfl <;> decide +kernel) (by decide +kernel) (C.2.2.2.2.1 _ hcl) (C.2.2.2.2.1 _ hini) hsa hat hgood C.2.2.2.2.2.2.2.2.1 C.2.2.2.2.2.2.2.2.2 hH.2.1 (by rw [hsize, C.2.2.1]) d0 d3 d4 d6 d9 (fun x hx => (hxt x hx).elim) ?_ ?_ ?_ ?_ C.2.2.2.2.2.2.1 ?_ hH.2.1.2.2 hc hs
  · show 2 + 3 < hm + 10
    omega
  · show _ + (13 * (2 + 1) + 43) ≤ 40 * hm + 200
    omega
  · exact hc
  · exact hs
  · intro t hA hz hq
    refine ⟨⟨k, rfl, rfl, ?_, hH.2.2⟩, Nat.le_trans hH.2.1.1 hz, fun q h1 h2 => ?_⟩
    · intro k2 q2 h2
      exact (hH.1 k2 q2 h2).kept (hq _ (hH.1 k2 q2 h2).lt)
    · rw [hq q (Nat.lt_of_lt_of_le h1 hH.2.1.1)]
      exact hH.2.1.2.1 q h1 h2
theorem q_throwW (C : CX D B Y p s m args meth c cc n RX10 ret) (hH : HS D B Y w s H locs) (hxt : ∀ x ∈ c.exceptionTable.toList, False) (htr : l.stackTraces = false) {k ik is ic hm mc : Nat} {text : String} {P : Prop} (hk : k = 1 ∨ k = 2 ∨ k = 3)
    (hcl : Cond.classLink RX10 ik (exN k) ∈ ws0) (hini : Cond.initialized (exN k) ∈ ws0) (hml : Cond.methodLink RX10 ic (Bundle.initS (exN k)) ∈ ws0) (hst : (RX10, is, text) ∈ strL) (hsize : ls.size = n)
    (d0 : decode cc pc = .ok (.new ik, 3)) (d3 : decode cc (pc + 3) = .ok (.dup, 1)) (d4 : decode cc (pc + 4) = .ok (.ldc_w is, 3)) (d6 : decode cc (pc + 7) = .ok (.invokespecial ic, 3)) (d9 : decode cc (pc + 10) = .ok (.athrow, 1))
    (hrest : (rest.map fun v => v.category).sum ≤ 8) (hc : cells + 1 ≤ mc) (hs : slots + 6 ≤ 6 * mc) :
    W p l e (RM hm mc (6 * mc)) s m args below meth c H locs cells slots (vx_MQ below (QX D B Y (.inl k) w P) (XX D B Y (.inl k) w) args s mc (6 * mc) (AB B)) (F0 m pc ls rest) := by
  obtain ⟨sa, hsa⟩ := C.2.2.2.2.2.2.2.1.2.2.1 _ hst
  have hat : ∀ w ∈ vx_atS RX10 ic (exN k) xnames, w.before args s = true := by
    intro w hw
    rcases xwords_in hw with rfl | hw
    · exact C.2.2.2.2.1 _ hml
    · have h1 : ((decide (w ∈ lw_tbl) && goodWord w) || xknown w) = true := by
        rcases hk with rfl | rfl | rfl
        · exact List.all_eq_true.mp xw1 w hw
        · exact List.all_eq_true.mp xw2 w hw
        · exact List.all_eq_true.mp xw3 w hw
      simp only [Bool.or_eq_true, Bool.and_eq_true, decide_eq_true_eq] at h1
      rcases h1 with h1 | h1
      · exact C.2.2.2.2.1 _ (List.mem_filter.mpr h1)
      · unfold xknown at h1
        simp only [Bool.or_eq_true, decide_eq_true_eq, List.mem_map] at h1
        rcases h1 with ⟨q, hq, rfl⟩ | ⟨q, hq, rfl⟩
        · exact va_Nw.use rfl (C.2.2.2.2.2.2.2.1.2.2.2.1 q hq)
        · exact va_Nw.use rfl (C.2.2.2.2.2.2.2.1.2.2.2.2.1 q hq)
  have hgood : ∀ w ∈ Cond.classLink RX10 ik (exN k) :: Cond.initialized (exN k) :: vx_atS RX10 ic (exN k) xnames, vx_ot w = true := by
    intro w hw
    rcases List.mem_cons.mp hw with rfl | hw
    · rfl
    rcases List.mem_cons.mp hw with rfl | hw
    · rfl
    rcases xwords_in hw with rfl | hw
    · rfl
    · rcases hk with rfl | rfl | rfl
      · exact List.all_eq_true.mp xot1 w hw
      · exact List.all_eq_true.mp xot2 w hw
      · exact List.all_eq_true.mp xot3 w hw
  refine vx_throwSW (names := xnames) C.1 C.2.1 htr C.2.2.2.1 (by rcases hk with rfl | rfl | rfl <;> decide +kernel) (by decide +kernel) (C.2.2.2.2.1 _ hcl) (C.2.2.2.2.1 _ hini) hsa hat hgood C.2.2.2.2.2.2.2.2.1 C.2.2.2.2.2.2.2.2.2 hH.2.1 (by rw [hsize, C.2.2.1]) d0 d3 d4 d6 d9 (fun x hx => (hxt x hx).elim) ?_ ?_ ?_ ?_ C.2.2.2.2.2.2.1 ?_ hH.2.1.2.2 hc hs
  · show 2 + 3 < hm + 10
    omega
  · show _ + (13 * (2 + 1) + 43) ≤ 40 * hm + 200
    omega
  · exact hc
  · exact hs
  · intro t hA hz hq
    refine ⟨⟨k, rfl, rfl, ?_, hH.2.2⟩, Nat.le_trans hH.2.1.1 hz, fun q h1 h2 => ?_⟩
    · intro k2 q2 h2
      exact (hH.1 k2 q2 h2).kept (hq _ (hH.1 k2 q2 h2).lt)
    · rw [hq q (Nat.lt_of_lt_of_le h1 hH.2.1.1)]
      exact hH.2.1.2.1 q h1 h2
/-! calls of methods that may throw -/
theorem q_xrun {ov : Option Value} {w' : Wd} {P : Prop} {a : Array Value} {st0 : List Value} (hr : vx_Run p l e R s m args below meth c H locs cells slots (xv (.inr ov)) (6 * xv (.inr ov)) (F0 m pc ls st0) rest (QX D B Y (.inr ov) w' P a) (XX D B Y (.inr ov) w') (AB B)) (hH : HS D B Y w s H locs)
    (kk : ∀ (H1 : Heap) (locs1 : List Loc), HS D B Y w' s H1 locs1 → P → W p l e R s m args below meth c H1 locs1 cells slots Q (F0 m (pc + 3) ls (ov.toList ++ rest))) : W p l e R s m args below meth c H locs cells slots Q (F0 m pc ls st0) := by
  intro T hT X
  rcases hr T hT X with ⟨v, st₀, t, T', L, h0, X', hL, e1, e2, ⟨⟨o, ho, hv, hp, hb, hPP⟩, hz, hk⟩, st⟩ | ⟨q, st₀, t, T', L, E, ce, h0, X', hL, e1, e2, ⟨⟨k, hk, -⟩, -⟩, -⟩
  · cases ho
    cases hv
    rw [h0] at hz hk
    obtain ⟨t2, a1, b1⟩ := kk T'.heap (locs ++ L) ⟨by rw [e1]; exact hp, ⟨Nat.le_trans hH.2.1.1 (by rw [e1]; exact hz), fun q h1 h2 => by rw [e1, hk q (Nat.lt_of_lt_of_le h1 hH.2.1.1) h2]; exact hH.2.1.2.1 q h1 h2, fun q hq => by
        rcases List.mem_append.mp hq with h | h
        · exact hH.2.1.2.2 q h
        · exact hL q h⟩, hb⟩ hPP T' rfl X'
    exact ⟨t2, st t2 a1, b1⟩
  · cases hk
theorem q_xrunX {k0 : Nat} {w' : Wd} {P : Prop} {a : Array Value} {st0 : List Value} (hr : vx_Run p l e R s m args below meth c H locs cells slots (xv (.inl k0)) (6 * xv (.inl k0)) (F0 m pc ls st0) rest (QX D B Y (.inl k0) w' P a) (XX D B Y (.inl k0) w') (AB B)) (hH : HS D B Y w s H locs)
    (kx : ∀ (H1 : Heap) (locs1 : List Loc) (ce : Cell) (q : Addr), HS D B Y w' s H1 locs1 → H1[q]? = some ce → ce.vm = .none → s.vm.findClass (exN k0) = some ce.cls → vx_W p l e R s m args below meth c H1 locs1 (cells + 1) (slots + 6) Q (F0 m pc ls rest) q) : W p l e R s m args below meth c H locs cells slots Q (F0 m pc ls st0) := by
  intro T hT X
  rcases hr T hT X with ⟨v, st₀, t, T', L, h0, X', hL, e1, e2, ⟨⟨o, ho, -⟩, -⟩, st⟩ | ⟨q, st₀, t, T', L, E, ce, h0, X', hL, e1, e2, ⟨⟨k, hk, hE, hp, hb⟩, hz, hkq⟩, hce, hcv, hcl, st⟩
  · cases ho
  · cases hk
    subst hE
    rw [h0] at hz hkq
    obtain ⟨t2, a1, b1⟩ := kx T'.heap (locs ++ L) ce q ⟨by rw [e1]; exact hp, ⟨Nat.le_trans hH.2.1.1 (by rw [e1]; exact hz), fun q h1 h2 => by rw [e1, hkq q (Nat.lt_of_lt_of_le h1 hH.2.1.1) h2]; exact hH.2.1.2.1 q h1 h2, fun q hq => by
        rcases List.mem_append.mp hq with h | h
        · exact hH.2.1.2.2 q h
        · exact hL q h⟩, hb⟩ (by rw [e1]; exact hce) hcv hcl T' rfl X'
    exact ⟨t2, st.trans a1, b1⟩
/-- the exception leaves this method too -/
theorem q_out (C : CX D B Y p s m args meth c cc n own ret) (hH : HS D B Y w s H locs) (hxt : ∀ x ∈ c.exceptionTable.toList, False) {k mc ms : Nat} {P : Prop} {ce : Cell} {q : Addr} (h1 : H[q]? = some ce) (h2 : ce.vm = .none) (h3 : s.vm.findClass (exN k) = some ce.cls) (hc : cells ≤ mc) (hs : slots ≤ ms) :
    vx_W p l e R s m args below meth c H locs cells slots (vx_MQ below (QX D B Y (.inl k) w P) (XX D B Y (.inl k) w) args s mc ms (AB B)) (F0 m pc ls rest) q :=
  vx_out (fun x hx => (hxt x hx).elim) C.2.2.2.2.2.2.1 h1 h2 h3 (fun t ht _ => ⟨⟨k, rfl, rfl, by rw [ht]; exact hH.1, hH.2.2⟩, hH.2.1.F ht⟩) hH.2.1.2.2 hc hs
variable {hm mcm msm : Nat}
theorem q_xV (C : CX D B Y p s m args meth c cc n own ret) (hH : HS D B Y w s H locs) {y : MethodName} {bytes : ByteArray} {maxL : Nat} {ret' : Option FieldType} {h o ci index : Nat} {As : List Value} {r : vw_C} {z : Nat ⊕ Option Value} {w' : Wd} {P : Prop} {st0 : List Value} (hc : vwCl[ci]? = some r) (hci : ci < 12) (hg : GoodIn ws0 (wsV own index r.1 y (WSM y bytes maxL ret')))
    (hd : y.cls = r.1 ∧ y.cls ≠ "java/lang/invoke/MethodHandle" ∧ y.cls ≠ "java/lang/invoke/VarHandle" ∧ (parseMethodDescriptor y.desc).map (fun d => d.parameters.length) = some As.length) (hmax : maxL ≤ 21) (hh : h + 1 ≤ hm)
    (hk : KD o = ci) (hM : XM l D B Y y bytes maxL ret' h (.ref (B + o) :: As) w z w' P) (hsize : ls.size = n) (hst : st0 = As.reverse ++ .ref (B + o) :: rest) (hW : (rest.map fun v => v.category).sum ≤ 8) (hdg : decode cc pc = .ok (.invokevirtual index, 3)) (hf : cells + xv z ≤ mcm ∧ slots + 6 * xv z ≤ msm) :
    vx_Run p l e (RM hm mcm msm) s m args below meth c H locs cells slots (xv z) (6 * xv z) (F0 m pc ls st0) rest (QX D B Y z w' P (Value.ref (B + o) :: As).toArray) (XX D B Y z w') (AB B) :=
  vx_runV ⟨C.1, C.2.1, C.2.2.1, C.2.2.2.1, C.2.2.2.2.1⟩ hM (cwV As.length C.2.2.2.2.1 hg rfl rfl rfl hd (RM_fit hh hmax)) (q_preV C hH hc hci hk) rfl rfl hsize hst (lv_room hW) hdg hf
theorem q_xS (C : CX D B Y p s m args meth c cc n own ret) (hH : HS D B Y w s H locs) {y : MethodName} {bytes : ByteArray} {maxL : Nat} {ret' : Option FieldType} {h index : Nat} {As : List Value} {z : Nat ⊕ Option Value} {w' : Wd} {P : Prop} {st0 : List Value} (hg : GoodIn ws0 (va_wsS own index y (WSM y bytes maxL ret')))
    (hd : y.cls ≠ "java/lang/invoke/MethodHandle" ∧ y.cls ≠ "java/lang/invoke/VarHandle" ∧ (parseMethodDescriptor y.desc).map (fun d => d.parameters.length) = some As.length) (hmax : maxL ≤ 21) (hh : h + 1 ≤ hm)
    (hM : XM l D B Y y bytes maxL ret' h As w z w' P) (hsize : ls.size = n) (hst : st0 = As.reverse ++ rest) (hW : (rest.map fun v => v.category).sum ≤ 8) (hdg : decode cc pc = .ok (.invokestatic index, 3)) (hf : cells + xv z ≤ mcm ∧ slots + 6 * xv z ≤ msm) :
    vx_Run p l e (RM hm mcm msm) s m args below meth c H locs cells slots (xv z) (6 * xv z) (F0 m pc ls st0) rest (QX D B Y z w' P As.toArray) (XX D B Y z w') (AB B) :=
  vx_runS ⟨C.1, C.2.1, C.2.2.1, C.2.2.2.1, C.2.2.2.2.1⟩ hM (va_cwS As.length C.2.2.2.2.1 hg rfl rfl rfl hd (RM_fit hh hmax)) (q_pre C hH) rfl rfl hsize hst (lv_room hW) hdg hf
end XROWS
