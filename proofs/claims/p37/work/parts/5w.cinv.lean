/-! ===== the invariant of the law ===== -/
section
variable {w w' : Wd} {tab tab' : Nat → Int} {txt txt' : Nat → List Int} {nv : Nat} {sav : Nat → Nat → Int} {tp tp' os os' : List Int} {pt : Option (List PC)} {S F : Nat → Prop}
def CLS (w : Wd) (tab : Nat → Int) (txt : Nat → List Int) (nv : Nat) (sav : Nat → Nat → Int) (tp os : List Int) (pt : Option (List PC)) : Prop :=
  okall w ∧ trel w 1 tab ∧ ctx w txt ∧ cvr w nv sav ∧ cta w tp ∧ cou w os ∧ hasC w pt ∧ (KD w.2.1 = 5 ∧ KD w.2.2.1 = 5 ∧ w.2.1 ≠ w.2.2.1)
def OKS (tab : Nat → Int) (txt : Nat → List Int) (nv : Nat) (sav : Nat → Nat → Int) (tp os : List Int) : Prop :=
  tok tab ∧ xok txt ∧ nv ≤ 4 ∧ (∀ v, v < nv → tok (sav v)) ∧ tpok tp ∧ ouok os
theorem trel_oc (hk : tok tab) (h : trel w 1 tab) (o : oc S w w') (s : ∀ k, 1 ≤ k → k < 125 → ¬ S k) : trel w' 1 tab := trel_fr hk h (fun k a b => o.1 k (s k a (by omega)))
theorem ctx_oc (h : ctx w txt) (o : oc S w w') (s : ∀ k, 623 ≤ k → k < 635 → ¬ S k) : ctx w' txt := ctx_fr h (fun k a b => o.1 k (s k a b))
theorem cta_oc (h : cta w tp) (o : oc S w w') (s : ¬ S 635) (s2 : ¬ S 636) : cta w' tp := by
  show rl w' 635 = tp
  rw [rl_fr (o.1 635 s) (o.1 (635 + 1) s2)]; exact h
theorem cou_oc (h : cou w os) (o : oc S w w') (s : ¬ S 637) (s2 : ¬ S 638) : cou w' os := by
  show rl w' 637 = os
  rw [rl_fr (o.1 637 s) (o.1 (637 + 1) s2)]; exact h
theorem cvr_oc (hn : nv ≤ 4) (hs : ∀ v, v < nv → tok (sav v)) (h : cvr w nv sav) (o : oc S w w') (s0 : ¬ S 0) (s : ∀ k, 126 ≤ k → k < 622 → ¬ S k) : cvr w' nv sav := by
  refine ⟨by rw [o.1 0 s0]; exact h.1, fun v hv => trel_fr (hs v hv) (h.2 v hv) (fun k a b => o.1 k (s k (by omega) (by omega)))⟩
theorem hasC_oc (h : hasC w pt) (o : oc S w w') (s0 : ¬ S 0) (s : ∀ k, w.2.1 + 1 ≤ k → k ≤ w.2.1 + 6 → ¬ S k) : hasC w' pt := by
  cases pt with
  | none => show (w'.1 0 11).toInt = 0; rw [o.1 0 s0]; exact h
  | some l =>
    obtain ⟨h1, h2, h3⟩ := h
    refine ⟨by rw [o.1 0 s0]; exact h1, ?_, h3⟩
    rw [o.2]
    unfold patC at *
    rw [rl_fr (o.1 (w.2.1 + 1) (s _ (by omega) (by omega))) (o.1 (w.2.1 + 1 + 1) (s _ (by omega) (by omega))), rl_fr (o.1 (w.2.1 + 3) (s _ (by omega) (by omega))) (o.1 (w.2.1 + 3 + 1) (s _ (by omega) (by omega))), rl_fr (o.1 (w.2.1 + 5) (s _ (by omega) (by omega))) (o.1 (w.2.1 + 5 + 1) (s _ (by omega) (by omega)))]
    exact h2
/-- the class after a call that leaves the versions and the pattern -/
theorem CLS_oc (hO : OKS tab txt nv sav tp os) (h : CLS w tab txt nv sav tp os pt) (o : oc S w w') (ok : okall w') (s0 : ¬ S 0) (sv : ∀ k, 126 ≤ k → k < 622 → ¬ S k) (sp : ∀ k, w.2.1 + 1 ≤ k → k ≤ w.2.1 + 6 → ¬ S k) (t : trel w' 1 tab') (x : ctx w' txt') (a : cta w' tp') (u : cou w' os') : CLS w' tab' txt' nv sav tp' os' pt := by
  obtain ⟨h1, h2, h3, h4, h5, h6, h7, h8⟩ := h
  refine ⟨ok, t, x, cvr_oc hO.2.2.1 hO.2.2.2.1 h4 o s0 sv, a, u, hasC_oc h7 o s0 sp, ?_⟩
  rw [o.2]; exact h8
theorem pat_rng {d : Nat} (h : KD d = 5) : d = 674 ∨ d = 683 := (pat_facts d h).2.2.2.2.2.2.2.2
/-- what the reference does leaves the class -/
theorem CLS_fr (hO : OKS tab txt nv sav tp os) (h : CLS w tab txt nv sav tp os pt) (r : rcg F S w w') (s : ∀ k, k < 713 → ¬ S k) : CLS w' tab txt nv sav tp os pt := by
  have P := h.2.2.2.2.2.2.2
  have o : oc (fun k => 713 ≤ k) w w' := ⟨fun k hk => r.1 k (by omega) (s k (by omega)), r.2.2⟩
  have K7 : ∀ k, KD k = 7 → k < 713 := by
    have g : (List.range 713).all (fun d => decide (KD d = 7 → d < 713)) = true := by decide +kernel
    intro k hk
    exact of_decide_eq_true (List.all_eq_true.mp g k (List.mem_range.mpr (KD_lt hk (by omega)))) hk
  have ok : okall w' := okall_fr h.1 (fun k hk => o.1 k (by have := K7 k hk; omega))
  exact CLS_oc hO h o ok (by omega) (fun k _ _ => by omega) (fun k _ _ => by rcases pat_rng P.1 with e | e <;> omega) (trel_oc hO.1 h.2.1 o (fun k _ _ => by omega)) (ctx_oc h.2.2.1 o (fun k _ _ => by omega)) (cta_oc h.2.2.2.2.1 o (by omega) (by omega)) (cou_oc h.2.2.2.2.2.1 o (by omega) (by omega))
end
/-! the wrapper writes the law's long between the two calls: the rest is the same -/
def sameW (w u : Wd) : Prop := u.1 = w.1 ∧ u.2.1 = w.2.1 ∧ u.2.2.1 = w.2.2.1
theorem sameW_rf {w : Wd} : sameW w w := ⟨rfl, rfl, rfl⟩
theorem sameW_L {w : Wd} {x : Int64} : sameW w (setL w x) := ⟨rfl, rfl, rfl⟩
section
variable {w u : Wd} {tab : Nat → Int} {txt : Nat → List Int} {nv : Nat} {sav : Nat → Nat → Int} {tp os : List Int} {pt : Option (List PC)}
theorem CLS_same (s : sameW w u) (h : CLS w tab txt nv sav tp os pt) : CLS u tab txt nv sav tp os pt := by
  rcases w with ⟨a, b, c, d⟩
  rcases u with ⟨a', b', c', d'⟩
  obtain ⟨rfl, rfl, rfl⟩ := s
  exact h
end
/-- how the class's outcome and the reference's are alike: the code of what is thrown, or one answer -/
def ag (c : Nat → Int) (r : Nat ⊕ Int32) (t s : Int32) : Prop := (∃ e, r = .inl e ∧ t.toInt = c e ∧ c e ≠ 0) ∨ (∃ v, r = .inr v ∧ t.toInt = 0 ∧ v = s)
def agu (c : Nat → Int) (r : Nat ⊕ Unit) (t : Int32) : Prop := (∃ e, r = .inl e ∧ t.toInt = c e ∧ c e ≠ 0) ∨ (r = .inr () ∧ t.toInt = 0)
/-- IndexOutOfBounds first, IllegalState second; all three; and so on -/
def kc12 (e : Nat) : Int := if e = 1 then 1 else if e = 2 then 2 else 0
def kc13 (e : Nat) : Int := if e = 1 then 1 else if e = 3 then 2 else 0
def kc123 (e : Nat) : Int := if e = 1 then 1 else if e = 2 then 2 else if e = 3 then 3 else 0
def kc23 (e : Nat) : Int := if e = 2 then 1 else if e = 3 then 2 else 0
def kc1 (e : Nat) : Int := if e = 1 then 1 else 0
def kc3 (e : Nat) : Int := if e = 3 then 1 else 0

