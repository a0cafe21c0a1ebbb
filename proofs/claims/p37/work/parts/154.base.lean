/-! ===== the words that every contract carries ===== -/
def ws0 : List Cond := lw_tbl.filter goodWord
theorem ws0_of {w : Cond} (i : Nat) (h : lw_tbl[i]? = some w) (g : goodWord w = true) : w ∈ ws0 := List.mem_filter.mpr ⟨List.mem_of_getElem? h, g⟩
theorem ws0_self : GoodIn ws0 ws0 := fun _ h => ⟨h, good_of_word (List.mem_filter.mp h).2⟩
abbrev WSM (y : MethodName) (cc : ByteArray) (n : Nat) (ret : Option FieldType) : List Cond := Cond.code y cc n ret :: ws0
theorem WSM_good {y : MethodName} {cc : ByteArray} {n : Nat} {ret : Option FieldType} (h : Cond.code y cc n ret ∈ ws0) : GoodIn ws0 (WSM y cc n ret) := by
  intro w hw
  rcases List.mem_cons.mp hw with rfl | hw
  · exact ws0_self _ h
  · exact ws0_self _ hw
def RVw (w : Wd) (k j : Nat) : Nat := if k = 0 ∧ j = 9 then w.2.1 else if k = 0 ∧ j = 10 then w.2.2.1 else RV k j
def fv (B : Nat) (w : Wd) (k j : Nat) : Value := if isR (KD k) j = true then .ref (B + RVw w k j) else .int (w.1 k j)
def ent (B : Nat) (Y : Nat → ClassId) (w : Wd) (k : Nat) : va_E :=
  if KD k < 12 then .inr (KD k, (List.range (NF (KD k))).map (fv B w k))
  else if KD k < 22 then .inl (Y (KD k), LEN k, .inl (w.1 k))
  else if KD k = 22 then .inl (Y (KD k), LEN k, .inr (.inl (fun _ => w.2.2.2)))
  else .inl (Y (KD k), LEN k, .inr (.inr (.inr (.inr (fun i => some (B + RV k i))))))
def wl (B : Nat) (Y : Nat → ClassId) (w : Wd) : va_W := (List.range 713).map (fun k => (B + k, ent B Y w k))
def AB (B : Nat) : Nat → Prop := fun q => B ≤ q ∧ q < B + 713
def tys (Y : Nat → ClassId) : List (ClassId × FieldType) := [(Y 20, .int), (Y 20, .int), (Y 20, .int), (Y 23, .object RX7), (Y 24, .object RX2), (Y 25, .object RX9), (Y 26, .object RX8), (Y 27, .object RX6)]
theorem wl_len (B : Nat) (Y : Nat → ClassId) (w : Wd) : (wl B Y w).length = 713 := by simp [wl]
theorem wl_get {B : Nat} {Y : Nat → ClassId} {w : Wd} {o : Nat} (h : o < 713) : (wl B Y w)[o]? = some (B + o, ent B Y w o) := by
  simp [wl, List.getElem?_map, List.getElem?_range h]
theorem wl_D (B : Nat) (Y : Nat → ClassId) (w : Wd) : va_D (AB B) (wl B Y w) := by
  have key : ∀ (k : Nat) (q : Nat × va_E), (wl B Y w)[k]? = some q → q.1 = B + k := by
    intro k q h
    have hk : k < 713 := by
      have := (List.getElem?_eq_some_iff.mp h).1
      rwa [wl_len] at this
    rw [wl_get hk] at h
    cases h
    rfl
  have key2 : ∀ (k : Nat) (q : Nat × va_E), (wl B Y w)[k]? = some q → k < 713 := by
    intro k q h
    have := (List.getElem?_eq_some_iff.mp h).1
    rwa [wl_len] at this
  refine ⟨fun i j p q hp hq e => ?_, fun k q h => ?_⟩
  · have h1 := key i p hp
    have h2 := key j q hq
    omega
  · have h1 := key k q h
    have h2 := key2 k q h
    show B ≤ q.1 ∧ q.1 < B + 713
    omega
theorem ent_obj {B : Nat} {Y : Nat → ClassId} {w : Wd} {o ci : Nat} (h : KD o = ci) (hc : ci < 12) : ent B Y w o = .inr (ci, (List.range (NF ci)).map (fv B w o)) := by
  unfold ent; rw [h, if_pos hc]
theorem ent_ints {B : Nat} {Y : Nat → ClassId} {w : Wd} {o ci : Nat} (h : KD o = ci) (hc : ci = 20 ∨ ci = 21) : ent B Y w o = .inl (Y ci, LEN o, .inl (w.1 o)) := by
  unfold ent; rw [h, if_neg (by omega), if_pos (by omega)]
theorem ent_long {B : Nat} {Y : Nat → ClassId} {w : Wd} {o : Nat} (h : KD o = 22) : ent B Y w o = .inl (Y 22, LEN o, .inr (.inl (fun _ => w.2.2.2))) := by
  unfold ent; rw [h, if_neg (by omega), if_neg (by omega), if_pos rfl]
theorem ent_refs {B : Nat} {Y : Nat → ClassId} {w : Wd} {o ci : Nat} (h : KD o = ci) (hc : 22 < ci) : ent B Y w o = .inl (Y ci, LEN o, .inr (.inr (.inr (.inr (fun i => some (B + RV o i)))))) := by
  unfold ent; rw [h, if_neg (by omega), if_neg (by omega), if_neg (by omega)]
theorem setI_ne {w : Wd} {o j : Nat} {v : Int32} {k : Nat} (h : k ≠ o) : (setI w o j v).1 k = w.1 k := by
  funext b; simp [setI, h]
theorem setI_eq (w : Wd) (o j : Nat) (v : Int32) : (setI w o j v).1 o = upd (w.1 o) j v := by
  funext b; simp [setI, upd]
theorem ent_setI {B : Nat} {Y : Nat → ClassId} {w : Wd} {o j : Nat} {v : Int32} {k : Nat} (h : k ≠ o) : ent B Y (setI w o j v) k = ent B Y w k := by
  have e : fv B (setI w o j v) k = fv B w k := by
    funext b; unfold fv; rw [setI_ne h]; rfl
  unfold ent
  rw [setI_ne h, e]
  rfl
theorem wl_set {B : Nat} {Y : Nat → ClassId} {w w' : Wd} {o : Nat} {e : va_E} (ho : o < 713) (h1 : ent B Y w' o = e) (h2 : ∀ k, k ≠ o → ent B Y w' k = ent B Y w k) : (wl B Y w).set o (B + o, e) = wl B Y w' := by
  apply List.ext_getElem?
  intro k
  rw [List.getElem?_set, wl_len]
  by_cases hk : o = k
  · subst hk
    rw [if_pos rfl, if_pos ho, wl_get ho, h1]
  · rw [if_neg hk]
    rcases Nat.lt_or_ge k 713 with q | q
    · rw [wl_get q, wl_get q, h2 k (fun h => hk h.symm)]
    · rw [List.getElem?_eq_none (by rw [wl_len]; exact q), List.getElem?_eq_none (by rw [wl_len]; exact q)]
theorem wl_setI_obj {B : Nat} {Y : Nat → ClassId} {w : Wd} {o j ci : Nat} {v : Int32} (h : KD o = ci) (hc : ci < 12) (hr : isR ci j = false) :
    (wl B Y w).set o (B + o, .inr (ci, ((List.range (NF ci)).map (fv B w o)).set j (.int v))) = wl B Y (setI w o j v) := by
  refine wl_set (KD_lt h (by omega)) ?_ (fun k hk => ent_setI hk)
  rw [ent_obj h hc]
  congr 2
  apply List.ext_getElem?
  intro b
  rw [List.getElem?_set, List.length_map, List.length_range]
  by_cases hb : j = b
  · subst hb
    rw [if_pos rfl]
    by_cases hj : j < NF ci
    · rw [if_pos hj, List.getElem?_map, List.getElem?_range hj]
      simp [fv, h, hr, setI]
    · rw [if_neg hj, List.getElem?_eq_none (by simp; omega)]
  · rw [if_neg hb]
    by_cases hq : b < NF ci
    · have hb' : ¬ b = j := fun e => hb e.symm
      rw [List.getElem?_map, List.getElem?_map, List.getElem?_range hq]
      simp [fv, setI, hb', RVw]
    · rw [List.getElem?_eq_none (by simp; omega), List.getElem?_eq_none (by simp; omega)]
theorem wl_setI_arr {B : Nat} {Y : Nat → ClassId} {w : Wd} {o j ci : Nat} {v : Int32} (h : KD o = ci) (hc : ci = 20 ∨ ci = 21) :
    (wl B Y w).set o (B + o, .inl (Y ci, LEN o, .inl (upd (w.1 o) j v))) = wl B Y (setI w o j v) := by
  refine wl_set (KD_lt h (by omega)) ?_ (fun k hk => ent_setI hk)
  rw [ent_ints h hc, setI_eq]

theorem wl_setT {B : Nat} {Y : Nat → ClassId} {w : Wd} {r : Nat} : (wl B Y w).set 0 (B + 0, .inr (10, ((List.range (NF 10)).map (fv B w 0)).set 9 (.ref (B + r)))) = wl B Y (setT w r) := by
  have h : KD 0 = 10 := by decide +kernel
  refine wl_set (by omega) ?_ (fun k hk => ?_)
  · rw [ent_obj h (by omega)]
    congr 2
  · have e : fv B (setT w r) k = fv B w k := by
      funext b; unfold fv RVw; simp [hk, setT]
    unfold ent
    rw [e]
    rfl
theorem wl_setD {B : Nat} {Y : Nat → ClassId} {w : Wd} {r : Nat} : (wl B Y w).set 0 (B + 0, .inr (10, ((List.range (NF 10)).map (fv B w 0)).set 10 (.ref (B + r)))) = wl B Y (setD w r) := by
  have h : KD 0 = 10 := by decide +kernel
  refine wl_set (by omega) ?_ (fun k hk => ?_)
  · rw [ent_obj h (by omega)]
    congr 2
  · have e : fv B (setD w r) k = fv B w k := by
      funext b; unfold fv RVw; simp [hk, setD]
    unfold ent
    rw [e]
    rfl
theorem isZ_nar {x : Int32} (h : isZ x) : narrow .boolean (.int x) = .int x := by
  rcases h with rfl | rfl <;> rfl
theorem isZ_fits {x : Int32} (h : isZ x) : fits .boolean (.int x) = true := by
  rcases h with rfl | rfl <;> rfl

