/-! ===== the law over two objects, as a function ===== -/
/-- the call of a method that mayn't throw -/
def bdr {R Z : Type} (o : Option ((Nat ⊕ R) × Wd)) (k : R → Wd → Option Z) : Option Z := match o with
  | some (.inr r, w) => k r w
  | _ => none
theorem bdr_some {R Z : Type} {o : Option ((Nat ⊕ R) × Wd)} {k : R → Wd → Option Z} {z : Z} (h : bdr o k = some z) : ∃ (r : R) (w : Wd), o = some (.inr r, w) ∧ k r w = some z := by
  rcases o with _ | ⟨e | r, w⟩
  · cases h
  · cases h
  · exact ⟨r, w, rfl, h⟩
def bd2 {R Z : Type} (o : Option (R × Wd × Wd)) (k : R → Wd → Wd → Option Z) : Option Z := match o with
  | some (r, w, v) => k r w v
  | none => none
theorem bd2_some {R Z : Type} {o : Option (R × Wd × Wd)} {k : R → Wd → Wd → Option Z} {z : Z} (h : bd2 o k = some z) : ∃ (r : R) (w v : Wd), o = some (r, w, v) ∧ k r w v = some z := by
  rcases o with _ | ⟨r, w, v⟩
  · cases h
  · exact ⟨r, w, v, rfl, h⟩
def celV (L : Nat) (xs : Nat → Int32) (k : Int32) : Option Int32 := if k < Int32.ofNat L then (if inb k L = true then some (xs k.toNatClampNeg) else none) else some ((7919 : Int32) * (k + (1291 : Int32)) * (k + (3761 : Int32)))
def cel {Z : Type} (L : Nat) (xs : Nat → Int32) (k : Int32) (K : Int32 → Option Z) : Option Z := match celV L xs k with
  | some x => K x
  | none => none
theorem b_cel {Z : Type} {z : Z} {L : Nat} {xs : Nat → Int32} {k : Int32} {K : Int32 → Option Z} {G : Prop} (h : cel L xs k K = some z) (kk : ∀ x : Int32, celV L xs k = some x → K x = some z → G) : G := by
  unfold cel at h
  cases e : celV L xs k with
  | none => rw [e] at h; cases h
  | some x => rw [e] at h; exact kk x e h
def g2_L_areAlike_225 (rc_94 : Int32 × Int32 × Wd × Wd → Option (Int32 × Wd × Wd)) (rc_225 : Int32 × Int32 × Int32 × Int32 × Wd × Wd → Option (Int32 × Wd × Wd)) (v2 : Int32) (v3 : Int32) (v4 : Int32) (v5 : Int32) (w v : Wd) : Option (Int32 × Wd × Wd) :=
  (if v4 ≤ v5 then lt (v3 + (1 : Int32)) (fun x1 => rc_94 (v2, x1, w, v)) else (if v2 = 0 then lt (v3 + (1 : Int32)) (fun x2 => rc_94 (v2, x2, w, v)) else bdr (f_X10_at v3 v5 w) (fun x4 w3 => bdr (f_X10_at v3 v5 v) (fun x6 w5 => (if x4 = x6 then (if v5 = (3 : Int32) then bdr (f_X10_level v3 v5 (-1 : Int32) w3) (fun x10 w9 => bdr (f_X10_level v3 v5 (-1 : Int32) w5) (fun x12 w11 => (if x10 = x12 then lt (v5 + (1 : Int32)) (fun x14 => rc_225 ((1 : Int32), v3, v4, x14, w9, w11)) else lt (v5 + (1 : Int32)) (fun x13 => rc_225 ((0 : Int32), v3, v4, x13, w9, w11))))) else lt (v5 + (1 : Int32)) (fun x8 => rc_225 ((1 : Int32), v3, v4, x8, w3, w5))) else lt (v5 + (1 : Int32)) (fun x7 => rc_225 ((0 : Int32), v3, v4, x7, w3, w5)))))))
def f2_L_areAlike_225 (rc_94 : Int32 × Int32 × Wd × Wd → Option (Int32 × Wd × Wd)) (v2 : Int32) (v3 : Int32) (v4 : Int32) (v5 : Int32) (w v : Wd) : Option (Int32 × Wd × Wd) :=
  loopN (fun rc σ => g2_L_areAlike_225 rc_94 rc σ.1 σ.2.1 σ.2.2.1 σ.2.2.2.1 σ.2.2.2.2.1 σ.2.2.2.2.2) FU (v2, v3, v4, v5, w, v)
def g2_L_areAlike_94 (rc_94 : Int32 × Int32 × Wd × Wd → Option (Int32 × Wd × Wd)) (v2 : Int32) (v3 : Int32) (w v : Wd) : Option (Int32 × Wd × Wd) :=
  (if (6 : Int32) ≤ v3 then some (v2, w, v) else (if v2 = 0 then some (v2, w, v) else bdr (f_X10_at v3 (-1 : Int32) w) (fun x2 w1 => bdr (f_X10_at v3 (-1 : Int32) v) (fun x4 w3 => (if x4 = x2 then bd (f_L_does (14 : Int32) v3 (0 : Int32) (0 : Int32) w1) (fun x6 w5 => bd (f_L_does (14 : Int32) v3 (0 : Int32) (0 : Int32) w3) (fun x8 w7 => (if x6 = x8 then bd (f_X10_word v3 w5) (fun y10 w9 => bd (f_X10_word v3 w7) (fun y12 w11 => (if (lg_cmp y10 y12) = 0 then bdr (f_X10_breaks v3 (2 : Int32) w9) (fun y14 w13 => bdr (f_X10_breaks v3 (2 : Int32) w11) (fun y16 w15 => (if (lg_cmp y14 y16) = 0 then bd (f_L_does (20 : Int32) (0 : Int32) v3 (-1 : Int32) w13) (fun x18 w17 => bd (f_L_does (20 : Int32) (0 : Int32) v3 (-1 : Int32) w15) (fun x20 w19 => (if x18 = x20 then bd (f_L_does (23 : Int32) v3 (0 : Int32) (0 : Int32) w17) (fun x22 w21 => bd (f_L_does (23 : Int32) v3 (0 : Int32) (0 : Int32) w19) (fun x24 w23 => (if x22 = x24 then f2_L_areAlike_225 rc_94 (1 : Int32) v3 x2 (0 : Int32) w21 w23 else f2_L_areAlike_225 rc_94 (0 : Int32) v3 x2 (0 : Int32) w21 w23))) else f2_L_areAlike_225 rc_94 (0 : Int32) v3 x2 (0 : Int32) w17 w19))) else f2_L_areAlike_225 rc_94 (0 : Int32) v3 x2 (0 : Int32) w13 w15))) else f2_L_areAlike_225 rc_94 (0 : Int32) v3 x2 (0 : Int32) w9 w11))) else f2_L_areAlike_225 rc_94 (0 : Int32) v3 x2 (0 : Int32) w5 w7))) else f2_L_areAlike_225 rc_94 (0 : Int32) v3 x2 (0 : Int32) w1 w3)))))
def f2_L_areAlike_94 (v2 : Int32) (v3 : Int32) (w v : Wd) : Option (Int32 × Wd × Wd) :=
  loopN (fun rc σ => g2_L_areAlike_94 rc σ.1 σ.2.1 σ.2.2.1 σ.2.2.2) 7 (v2, v3, w, v)
def f2_L_areAlike (w v : Wd) : Option (Int32 × Wd × Wd) :=
  bd (f_L_does (13 : Int32) (0 : Int32) (1 : Int32) (0 : Int32) w) (fun x2 w1 => bd (f_L_does (13 : Int32) (0 : Int32) (1 : Int32) (0 : Int32) v) (fun x4 w3 => (if x2 = x4 then bd (f_L_does (19 : Int32) (0 : Int32) (0 : Int32) (1 : Int32) w1) (fun x6 w5 => bd (f_L_does (19 : Int32) (0 : Int32) (0 : Int32) (1 : Int32) w3) (fun x8 w7 => (if x6 = x8 then bd (f_L_does (21 : Int32) (0 : Int32) (1 : Int32) (0 : Int32) w5) (fun x10 w9 => bd (f_L_does (21 : Int32) (0 : Int32) (1 : Int32) (0 : Int32) w7) (fun x12 w11 => (if x10 = x12 then bd (f_L_does (25 : Int32) (0 : Int32) (7 : Int32) (0 : Int32) w9) (fun x14 w13 => bd (f_L_does (25 : Int32) (0 : Int32) (7 : Int32) (0 : Int32) w11) (fun x16 w15 => (if x14 = x16 then f2_L_areAlike_94 (1 : Int32) (0 : Int32) w13 w15 else f2_L_areAlike_94 (0 : Int32) (0 : Int32) w13 w15))) else f2_L_areAlike_94 (0 : Int32) (0 : Int32) w9 w11))) else f2_L_areAlike_94 (0 : Int32) (0 : Int32) w5 w7))) else f2_L_areAlike_94 (0 : Int32) (0 : Int32) w1 w3)))
def f2_L_law_120 (L : Nat) (xs : Nat → Int32) (rc_21 : Int32 × Int32 × Wd × Wd → Option Unit) (v3 : Int32) (v4 : Int32) (v5 : Int32) (w v : Wd) : Option Unit :=
  (if (v4 - v4 / (7 : Int32) * (7 : Int32)) = (3 : Int32) then (if v3 = 0 then lt (v4 + (1 : Int32)) (fun x2 => rc_21 (v3, x2, w, v)) else bd (f_L_low (v5 >>> ((4 : Int32) &&& 31)) (3 : Int32) w) (fun x4 w3 => bdr (f_L_areFormsSo x4 w3) (fun x6 w5 => (if x6 = 0 then lt (v4 + (1 : Int32)) (fun x7 => rc_21 ((0 : Int32), x7, w5, v)) else bdr (f_L_areFormsSo x4 v) (fun x9 w8 => (if x9 = 0 then lt (v4 + (1 : Int32)) (fun x10 => rc_21 ((0 : Int32), x10, w5, w8)) else bd (f_L_low (v5 >>> ((6 : Int32) &&& 31)) (3 : Int32) w5) (fun x12 w11 => bdr (f_L_isShownSo x4 (x12 - (1 : Int32)) w11) (fun x14 w13 => (if x14 = 0 then lt (v4 + (1 : Int32)) (fun x15 => rc_21 ((0 : Int32), x15, w13, w8)) else bdr (f_L_areBreaksSo x4 w13) (fun x17 w16 => (if x17 = 0 then lt (v4 + (1 : Int32)) (fun x18 => rc_21 ((0 : Int32), x18, w16, w8)) else lt (v4 + (1 : Int32)) (fun x19 => rc_21 ((1 : Int32), x19, w16, w8))))))))))))) else lt (v4 + (1 : Int32)) (fun x1 => rc_21 (v3, x1, w, v)))
def f2_L_law_96 (L : Nat) (xs : Nat → Int32) (rc_21 : Int32 × Int32 × Wd × Wd → Option Unit) (v4 : Int32) (v5 : Int32) (w v : Wd) : Option Unit :=
  (if (v4 - v4 / (9 : Int32) * (9 : Int32)) = (8 : Int32) then bd2 (f2_L_areAlike w v) (fun x2 w1 w3 => (if x2 = 0 then f2_L_law_120 L xs rc_21 (0 : Int32) v4 v5 w1 w3 else f2_L_law_120 L xs rc_21 (1 : Int32) v4 v5 w1 w3)) else f2_L_law_120 L xs rc_21 (1 : Int32) v4 v5 w v)
def f2_L_law_21 (L : Nat) (xs : Nat → Int32) (rc_21 : Int32 × Int32 × Wd × Wd → Option Unit) (v3 : Int32) (v4 : Int32) (w v : Wd) : Option Unit :=
  (if (140 : Int32) ≤ v4 then (if v3 = 0 then none else bd2 (f2_L_areAlike w v) (fun x2 w1 w3 => (if x2 = 0 then none else some ()))) else (if v3 = 0 then (if v3 = 0 then none else bd2 (f2_L_areAlike w v) (fun x5 w4 w6 => (if x5 = 0 then none else some ()))) else cel L xs (v4 - v4 / (61 : Int32) * (61 : Int32)) (fun x7 => lt (x7 + ((1571 : Int32) * (v4 / (61 : Int32)))) (fun x8 => bd (f_L_low x8 (56 : Int32) w) (fun x10 w9 => bd (f_L_act x8 w9) (fun x12 w11 => (if x12 = (-9999999 : Int32) then (if x10 < (47 : Int32) then f2_L_law_96 L xs rc_21 v4 x8 w11 v else bd (f_L_act x8 v) (fun x16 w15 => (if x16 = x12 then f2_L_law_96 L xs rc_21 v4 x8 w11 w15 else f2_L_law_120 L xs rc_21 (0 : Int32) v4 x8 w11 w15))) else bd (f_L_act x8 v) (fun x14 w13 => (if x14 = x12 then f2_L_law_96 L xs rc_21 v4 x8 w11 w13 else f2_L_law_120 L xs rc_21 (0 : Int32) v4 x8 w11 w13)))))))))
