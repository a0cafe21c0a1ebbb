/-! ===== the law's calls on one object ===== -/
/-- what a call leaves as it was: T is S, if it throws (F), or always (Q) -/
def PX (S : ST) (F Q : Prop) (r : Nat ⊕ Int32) (T : ST) : Prop := (∀ e, r = .inl e → (e = 1 ∨ e = 2 ∨ e = 3) ∧ (F → T = S)) ∧ (∀ v, r = .inr v → v = -9999999 → F → T = S) ∧ (Q → T = S)
def AX (A : Wd → Option ((Nat ⊕ Int32) × Wd)) (S : ST) (F Q : Prop) : Prop := ∃ (r : Nat ⊕ Int32) (T : ST), DTr A S r T ∧ GS T ∧ PX S F Q r T
def AO (A : Wd → Option (Int32 × Wd)) (S : ST) (F Q : Prop) : Prop := ∃ (x : Int32) (T : ST), DTr A S x T ∧ GS T ∧ (x = -9999999 → F → T = S) ∧ (Q → T = S)
theorem m9 : (-9999999 : Int32).toInt = -9999999 := by decide
theorem gout_all {R : Type} {P : (Nat ⊕ R) → ST → Prop} : ∀ (l : List (Prop × Nat × ST)) {fin : (Nat ⊕ R) → ST → Prop}, (∀ q ∈ l, P (.inl q.2.1) q.2.2) → (∀ r T, fin r T → P r T) → ∀ r T, gout l fin r T → P r T := by
  intro l
  induction l with
  | nil => intro fin _ hf r T h; exact hf r T h
  | cons a l ih =>
    intro fin hl hf r T h
    rcases h with ⟨-, e1, e2⟩ | ⟨-, h⟩
    · rw [e1, e2]; exact hl a List.mem_cons_self
    · exact ih (fun q hq => hl q (List.mem_cons_of_mem _ hq)) hf r T h
/-- which rows of thrown ones are so -/
def lok3 (S : ST) (F Q : Prop) (q : Prop × Nat × ST) : Prop := (q.2.1 = 1 ∨ q.2.1 = 2 ∨ q.2.1 = 3) ∧ (F → q.2.2 = S) ∧ (Q → q.2.2 = S)
section
variable {S T0 : ST} {F Q : Prop} {B : Prop} {q0 q1 q2 : Prop × Nat × ST}
theorem lo {n : Nat} (h : n = 1 ∨ n = 2 ∨ n = 3) : lok3 S F Q (B, n, S) := ⟨h, fun _ => rfl, fun _ => rfl⟩
theorem lo' {n : Nat} (h : n = 1 ∨ n = 2 ∨ n = 3) (hF : ¬ F) (hQ : ¬ Q) : lok3 S F Q (B, n, T0) := ⟨h, fun f => absurd f hF, fun f => absurd f hQ⟩
theorem lo1 (a : lok3 S F Q q0) : ∀ q ∈ [q0], lok3 S F Q q := by
  intro q h
  rw [List.mem_singleton] at h
  rw [h]; exact a
theorem lo2 (a : lok3 S F Q q0) (b : lok3 S F Q q1) : ∀ q ∈ [q0, q1], lok3 S F Q q := by
  intro q h
  rcases List.mem_cons.mp h with e | h
  · rw [e]; exact a
  · exact lo1 b q h
theorem lo3 (a : lok3 S F Q q0) (b : lok3 S F Q q1) (c : lok3 S F Q q2) : ∀ q ∈ [q0, q1, q2], lok3 S F Q q := by
  intro q h
  rcases List.mem_cons.mp h with e | h
  · rw [e]; exact a
  · exact lo2 b c q h
theorem PX_l {q : Prop × Nat × ST} (h : lok3 S F Q q) : PX S F Q (.inl q.2.1) q.2.2 := ⟨fun e he => by cases he; exact ⟨h.1, h.2.1⟩, (by intro v hv; cases hv), h.2.2⟩
theorem PX_s {v : Int32} : PX S F Q (.inr v) S := ⟨(by intro e he; cases he), fun _ _ _ _ => rfl, fun _ => rfl⟩
theorem PX_v {v : Int32} {T : ST} (h : 0 ≤ v.toInt) (hQ : ¬ Q) : PX S F Q (.inr v) T := ⟨(by intro e he; cases he), fun x hx e => by cases hx; rw [e, m9] at h; omega, fun q => absurd q hQ⟩
theorem AX_g {f : Wd → Option ((Nat ⊕ Int32) × Wd)} {l : List (Prop × Nat × ST)} {fin : (Nat ⊕ Int32) → ST → Prop} (h : ∃ (r : Nat ⊕ Int32) (T : ST), gout l fin r T ∧ DTr f S r T ∧ GS T) (hl : ∀ q ∈ l, lok3 S F Q q) (hf : ∀ r T, fin r T → PX S F Q r T) : AX f S F Q := by
  obtain ⟨r, T, hg, hd, hs⟩ := h
  exact ⟨r, T, hd, hs, gout_all l (fun q hq => PX_l (hl q hq)) hf r T hg⟩
/-- a question -/
theorem AX_q {f : Wd → Option ((Nat ⊕ Int32) × Wd)} {l : List (Prop × Nat × ST)} {x : Int} (h : ∃ (r : Nat ⊕ Int32) (T : ST), gout l (finI x S) r T ∧ DTr f S r T ∧ GS T) (hl : ∀ q ∈ l, lok3 S F Q q) : AX f S F Q :=
  AX_g h hl (by rintro r T ⟨v, rfl, -, rfl⟩; exact PX_s)
/-- what answers a number -/
theorem AX_v {f : Wd → Option ((Nat ⊕ Int32) × Wd)} {l : List (Prop × Nat × ST)} {x : Int} (h : ∃ (r : Nat ⊕ Int32) (T : ST), gout l (finI x T0) r T ∧ DTr f S r T ∧ GS T) (hl : ∀ q ∈ l, lok3 S F Q q) (hx : 0 ≤ x) (hQ : ¬ Q) : AX f S F Q :=
  AX_g h hl (by rintro r T ⟨v, rfl, hv, rfl⟩; exact PX_v (by omega) hQ)
theorem AX_i {f : Wd → Option ((Nat ⊕ Int32) × Wd)} (h : AX f S F Q) : AX (fun w => bdx (f w) (fun x w1 => some (.inr x, w1))) S F Q := by
  obtain ⟨r, T, hd, h2⟩ := h
  refine ⟨r, T, fun w hw => ?_, h2⟩
  obtain ⟨w', e, hc⟩ := hd w hw
  refine ⟨w', ?_, hc⟩
  show bdx (f w) _ = _
  rw [e]
  rcases r with r | r <;> rfl
theorem AX_u {f : Wd → Option ((Nat ⊕ Unit) × Wd)} {l : List (Prop × Nat × ST)} (h : ∃ (r : Nat ⊕ Unit) (T : ST), gout l (finU T0) r T ∧ DTr f S r T ∧ GS T) (hl : ∀ q ∈ l, lok3 S F Q q) (hQ : ¬ Q) : AX (fun w => bdx (f w) (fun _ w1 => some (.inr (0 : Int32), w1))) S F Q := by
  obtain ⟨r, T, hg, hd, hs⟩ := h
  have P := gout_all (P := fun r T => ∀ e, r = .inl e → (e = 1 ∨ e = 2 ∨ e = 3) ∧ (F → T = S)) l (fun q hq e he => by cases he; exact ⟨(hl q hq).1, (hl q hq).2.1⟩) (by rintro r T ⟨rfl, -⟩ e he; cases he) r T hg
  rcases r with e | u
  · refine ⟨.inl e, T, fun w hw => ?_, hs, fun x hx => by cases hx; exact P e rfl, (by intro v hv; cases hv), fun q => absurd q hQ⟩
    obtain ⟨w', e1, hc⟩ := hd w hw
    refine ⟨w', ?_, hc⟩
    show bdx (f w) _ = _
    rw [e1]; rfl
  · refine ⟨.inr 0, T, fun w hw => ?_, hs, PX_v (by decide) hQ⟩
    obtain ⟨w', e1, hc⟩ := hd w hw
    refine ⟨w', ?_, hc⟩
    show bdx (f w) _ = _
    rw [e1]; rfl
theorem AX_z {f : Wd → Option ((Nat ⊕ Int32) × Wd)} (h : AX f S F Q) (hS : Q) : AX (fun w => bdx (f w) (fun x w1 => if x = 0 then some (.inr (0 : Int32), w1) else some (.inr (1 : Int32), w1))) S F Q := by
  obtain ⟨r, T, hd, hs, hp⟩ := h
  have e0 := hp.2.2 hS
  subst e0
  rcases r with e | x
  · refine ⟨.inl e, _, fun w hw => ?_, hs, fun y hy => by cases hy; exact hp.1 e rfl, (by intro v hv; cases hv), fun _ => rfl⟩
    obtain ⟨w', e1, hc⟩ := hd w hw
    refine ⟨w', ?_, hc⟩
    show bdx (f w) _ = _
    rw [e1]; rfl
  · by_cases c : x = 0
    · refine ⟨.inr 0, _, fun w hw => ?_, hs, PX_s⟩
      obtain ⟨w', e1, hc⟩ := hd w hw
      refine ⟨w', ?_, hc⟩
      show bdx (f w) _ = _
      rw [e1]
      show (if x = 0 then _ else _) = _
      rw [if_pos c]
    · refine ⟨.inr 1, _, fun w hw => ?_, hs, PX_s⟩
      obtain ⟨w', e1, hc⟩ := hd w hw
      refine ⟨w', ?_, hc⟩
      show bdx (f w) _ = _
      rw [e1]
      show (if x = 0 then _ else _) = _
      rw [if_neg c]
theorem AX_if {c : Prop} [Decidable c] {A B : Wd → Option ((Nat ⊕ Int32) × Wd)} (h1 : c → AX A S F Q) (h2 : ¬ c → AX B S F Q) : AX (fun w => if c then A w else B w) S F Q := by
  by_cases h : c
  · have e : (fun w => if c then A w else B w) = A := funext (fun w => if_pos h)
    rw [e]; exact h1 h
  · have e : (fun w => if c then A w else B w) = B := funext (fun w => if_neg h)
    rw [e]; exact h2 h
theorem AO_if {c : Prop} [Decidable c] {A B : Wd → Option (Int32 × Wd)} (h1 : c → AO A S F Q) (h2 : ¬ c → AO B S F Q) : AO (fun w => if c then A w else B w) S F Q := by
  by_cases h : c
  · have e : (fun w => if c then A w else B w) = A := funext (fun w => if_pos h)
    rw [e]; exact h1 h
  · have e : (fun w => if c then A w else B w) = B := funext (fun w => if_neg h)
    rw [e]; exact h2 h
theorem PX_mono {F' Q' : Prop} {r : Nat ⊕ Int32} {T : ST} (hF : F' → F) (hQ : Q' → Q) (h : PX S F Q r T) : PX S F' Q' r T := ⟨fun e he => ⟨(h.1 e he).1, fun f => (h.1 e he).2 (hF f)⟩, fun v hv e f => h.2.1 v hv e (hF f), fun q => h.2.2 (hQ q)⟩
theorem AX_mono {F' Q' : Prop} {A : Wd → Option ((Nat ⊕ Int32) × Wd)} (hF : F' → F) (hQ : Q' → Q) (h : AX A S F Q) : AX A S F' Q' := by
  obtain ⟨r, T, hd, hs, hp⟩ := h
  exact ⟨r, T, hd, hs, PX_mono hF hQ hp⟩
theorem AO_mono {F' Q' : Prop} {A : Wd → Option (Int32 × Wd)} (hF : F' → F) (hQ : Q' → Q) (h : AO A S F Q) : AO A S F' Q' := by
  obtain ⟨r, T, hd, hs, h1, h2⟩ := h
  exact ⟨r, T, hd, hs, fun e f => h1 e (hF f), fun q => h2 (hQ q)⟩
/-- it is caught -/
theorem AO_c {A : Wd → Option ((Nat ⊕ Int32) × Wd)} (h : AX A S F Q) : AO (fun w => bdc (A w) (fun k w1 => (if k = 1 then some ((-9999999 : Int32), w1) else (if k = 2 then some ((-9999999 : Int32), w1) else (if k = 3 then some ((-9999999 : Int32), w1) else none)))) (fun x w1 => some (x, w1))) S F Q := by
  obtain ⟨r, T, hd, hs, hp⟩ := h
  rcases r with e | x
  · have E := hp.1 e rfl
    refine ⟨-9999999, T, fun w hw => ?_, hs, fun _ f => E.2 f, hp.2.2⟩
    obtain ⟨w', e1, hc⟩ := hd w hw
    refine ⟨w', ?_, hc⟩
    show bdc (A w) _ _ = _
    rw [e1]
    show (if e = 1 then _ else _) = _
    rcases E.1 with rfl | rfl | rfl <;> rfl
  · refine ⟨x, T, fun w hw => ?_, hs, fun q f => hp.2.1 x rfl q f, hp.2.2⟩
    obtain ⟨w', e1, hc⟩ := hd w hw
    refine ⟨w', ?_, hc⟩
    show bdc (A w) _ _ = _
    rw [e1]; rfl
/-- the same where it catches two kinds alone -/
theorem AO_c2 {A : Wd → Option ((Nat ⊕ Int32) × Wd)} (h : AX A S F Q) (h2 : ∀ e T, DTr A S (.inl e) T → e ≠ 1) : AO (fun w => bdc (A w) (fun k w1 => (if k = 2 then some ((-9999999 : Int32), w1) else (if k = 3 then some ((-9999999 : Int32), w1) else none))) (fun x w1 => some (x, w1))) S F Q := by
  obtain ⟨r, T, hd, hs, hp⟩ := h
  rcases r with e | x
  · have E := hp.1 e rfl
    have E2 := h2 e T hd
    refine ⟨-9999999, T, fun w hw => ?_, hs, fun _ f => E.2 f, hp.2.2⟩
    obtain ⟨w', e1, hc⟩ := hd w hw
    refine ⟨w', ?_, hc⟩
    show bdc (A w) _ _ = _
    rw [e1]
    show (if e = 2 then _ else _) = _
    rcases E.1 with rfl | rfl | rfl
    · exact absurd rfl E2
    · rfl
    · rfl
  · refine ⟨x, T, fun w hw => ?_, hs, fun q f => hp.2.1 x rfl q f, hp.2.2⟩
    obtain ⟨w', e1, hc⟩ := hd w hw
    refine ⟨w', ?_, hc⟩
    show bdc (A w) _ _ = _
    rw [e1]; rfl
end
/-- neither pattern, message nor decode -/
def nt (h : Int32) : Prop := h ≠ 22 ∧ h ≠ 26 ∧ h < 28
def isq (h : Int32) : Prop := h = 13 ∨ h = 14 ∨ h = 19 ∨ h = 20 ∨ h = 21 ∨ h = 23 ∨ h = 25
theorem nq {h k : Int32} (e : h = k) (d : ¬ isq k) : ¬ isq h := by rw [e]; exact d
section
variable {tab : Nat → Int} {txt : Nat → List Int} {nv : Nat} {sav : Nat → Nat → Int} {tp os : List Int} {pt : Option (List PC)} {h a b c : Int32}
theorem e1 : (1 : Nat) = 1 ∨ (1 : Nat) = 2 ∨ (1 : Nat) = 3 := Or.inl rfl
theorem e2 : (2 : Nat) = 1 ∨ (2 : Nat) = 2 ∨ (2 : Nat) = 3 := Or.inr (Or.inl rfl)
theorem e3 : (3 : Nat) = 1 ∨ (3 : Nat) = 2 ∨ (3 : Nat) = 3 := Or.inr (Or.inr rfl)
theorem ax_tells (hS : GS (tab, txt, nv, sav, tp, os, pt)) : AX (fun w => f_L_tells h a b c w) (tab, txt, nv, sav, tp, os, pt) True False := by
  unfold f_L_tells
  refine AX_if (fun _ => AX_u (g_letter hS) (lo2 (lo e1) (lo e2)) (fun q => q)) (fun _ => ?_)
  refine AX_if (fun _ => AX_u (g_split hS) (lo2 (lo e1) (lo e2)) (fun q => q)) (fun _ => ?_)
  refine AX_if (fun _ => AX_u (g_capital hS) (lo2 (lo e1) (lo e2)) (fun q => q)) (fun _ => ?_)
  refine AX_if (fun _ => AX_u (g_partners hS) (lo2 (lo e1) (lo e3)) (fun q => q)) (fun _ => ?_)
  exact AX_u (g_weigh hS) (lo2 (lo e1) (lo e2)) (fun q => q)
theorem ax_first (hS : GS (tab, txt, nv, sav, tp, os, pt)) : AX (fun w => f_L_first h a b c w) (tab, txt, nv, sav, tp, os, pt) True (isq h) := by
  have hO : OKS tab txt nv sav tp os := hS.1
  have hk := hO.1
  have w0 := (tok_parts.mp hk).2.2.1.1
  have r0 := (tok_parts.mp hk).2.2.2.1
  unfold f_L_first
  refine AX_if (fun e => AX_u (g_use hS) (lo1 (lo e1)) (nq e (by unfold isq; decide))) (fun _ => ?_)
  refine AX_if (fun e => AX_i (AX_v (g_addWord hS) (lo2 (lo e1) (lo e3)) (by omega) (nq e (by unfold isq; decide)))) (fun _ => ?_)
  refine AX_if (fun e => AX_i (AX_v (g_addRule hS) (lo3 (lo e1) (lo e2) (lo e3)) (by omega) (nq e (by unfold isq; decide)))) (fun _ => ?_)
  refine AX_if (fun e => AX_i (AX_v (g_save hS) (lo1 (lo e3)) (by omega) (nq e (by unfold isq; decide)))) (fun _ => ?_)
  refine AX_if (fun e => AX_i (AX_v (g_put hS) (lo2 (lo e1) (lo e3)) (by omega) (nq e (by unfold isq; decide)))) (fun _ => ?_)
  refine AX_if (fun e => AX_i (AX_v (g_clear hS) (lo1 (lo e1)) (by omega) (nq e (by unfold isq; decide)))) (fun _ => ?_)
  refine AX_if (fun e => AX_i (AX_q (g_at hS) (lo1 (lo e1)))) (fun _ => ?_)
  refine AX_if (fun e => AX_i (AX_g (g_form hS) (lo3 (lo e1) (lo e2) (lo e3)) ?_)) (fun _ => ?_)
  · rintro r T ⟨ys, x, -, rfl, hx, -⟩
    exact PX_v (by omega) (nq e (by unfold isq; decide))
  refine AX_if (fun e => AX_z (AX_g (g_looksLike hS) (lo2 (lo e1) (lo e3)) ?_) (Or.inl e)) (fun _ => ?_)
  · rintro r T ⟨x, rfl, -, rfl⟩
    exact PX_s
  exact AX_i (AX_q (g_base hS) (lo1 (lo e1)))
theorem last_dec {h : Int32} (h0 : (15 : Int32) ≤ h) (a15 : ¬ h = 15) (a16 : ¬ h = 16) (a17 : ¬ h = 17) (a18 : ¬ h = 18) (a19 : ¬ h = 19) (a20 : ¬ h = 20) (a21 : ¬ h = 21) (a22 : ¬ h = 22) (a23 : ¬ h = 23) (a24 : ¬ h = 24) (a25 : ¬ h = 25) (a26 : ¬ h = 26) (a27 : ¬ h = 27) : ¬ nt h ∧ ¬ isq h := by
  rw [Int32.le_iff_toInt_le, show (15 : Int32).toInt = 15 by decide] at h0
  rw [i_eq, show (15 : Int32).toInt = 15 by decide] at a15
  rw [i_eq, show (16 : Int32).toInt = 16 by decide] at a16
  rw [i_eq, show (17 : Int32).toInt = 17 by decide] at a17
  rw [i_eq, show (18 : Int32).toInt = 18 by decide] at a18
  rw [i_eq, show (19 : Int32).toInt = 19 by decide] at a19
  rw [i_eq, show (20 : Int32).toInt = 20 by decide] at a20
  rw [i_eq, show (21 : Int32).toInt = 21 by decide] at a21
  rw [i_eq, show (22 : Int32).toInt = 22 by decide] at a22
  rw [i_eq, show (23 : Int32).toInt = 23 by decide] at a23
  rw [i_eq, show (24 : Int32).toInt = 24 by decide] at a24
  rw [i_eq, show (25 : Int32).toInt = 25 by decide] at a25
  rw [i_eq, show (26 : Int32).toInt = 26 by decide] at a26
  rw [i_eq, show (27 : Int32).toInt = 27 by decide] at a27
  constructor
  · rintro ⟨-, -, q⟩
    rw [Int32.lt_iff_toInt_lt, show (28 : Int32).toInt = 28 by decide] at q
    omega
  · have g : ∀ k : Int32, h = k → h.toInt = k.toInt := fun k e => by rw [e]
    rintro (q | q | q | q | q | q | q)
    · have := g _ q; rw [show (13 : Int32).toInt = 13 by decide] at this; omega
    · have := g _ q; rw [show (14 : Int32).toInt = 14 by decide] at this; omega
    · have := g _ q; rw [show (19 : Int32).toInt = 19 by decide] at this; omega
    · have := g _ q; rw [show (20 : Int32).toInt = 20 by decide] at this; omega
    · have := g _ q; rw [show (21 : Int32).toInt = 21 by decide] at this; omega
    · have := g _ q; rw [show (23 : Int32).toInt = 23 by decide] at this; omega
    · have := g _ q; rw [show (25 : Int32).toInt = 25 by decide] at this; omega
theorem ao_does (hS : GS (tab, txt, nv, sav, tp, os, pt)) : AO (fun w => f_L_does h a b c w) (tab, txt, nv, sav, tp, os, pt) (nt h) (isq h) := by
  have hO : OKS tab txt nv sav tp os := hS.1
  unfold f_L_does
  refine AO_if (fun _ => ?_) (fun q5 => AO_c (AX_mono (fun _ => trivial) (fun q => ?_) (ax_tells hS)))
  rotate_left
  · exfalso
    rw [Int32.le_iff_toInt_le, show (5 : Int32).toInt = 5 by decide] at q5
    have g : ∀ k : Int32, h = k → h.toInt = k.toInt := fun k e => by rw [e]
    rcases q with q | q | q | q | q | q | q
    · have := g _ q; rw [show (13 : Int32).toInt = 13 by decide] at this; omega
    · have := g _ q; rw [show (14 : Int32).toInt = 14 by decide] at this; omega
    · have := g _ q; rw [show (19 : Int32).toInt = 19 by decide] at this; omega
    · have := g _ q; rw [show (20 : Int32).toInt = 20 by decide] at this; omega
    · have := g _ q; rw [show (21 : Int32).toInt = 21 by decide] at this; omega
    · have := g _ q; rw [show (23 : Int32).toInt = 23 by decide] at this; omega
    · have := g _ q; rw [show (25 : Int32).toInt = 25 by decide] at this; omega
  refine AO_if (fun q15 => ?_) (fun _ => AO_c (AX_mono (fun _ => trivial) (fun q => q) (ax_first hS)))
  refine AO_if (fun e => AO_c (AX_q (g_level hS) (lo2 (lo e1) (lo e2)))) (fun a15 => ?_)
  refine AO_if (fun e => AO_c (AX_q (g_shown hS) (lo2 (lo e1) (lo e2)))) (fun a16 => ?_)
  have bs : ∀ x : Int32, AX (fun w => f_X10_bySight a b x w) (tab, txt, nv, sav, tp, os, pt) (nt h) (isq h) := fun x => AX_g (g_bySight hS) (lo1 (lo e1)) (by rintro r T ⟨_, v, rfl, -, -, rfl⟩; exact PX_s)
  refine AO_if (fun e => AO_if (fun _ => AO_c (bs 1)) (fun _ => AO_c (bs 0))) (fun a17 => ?_)
  refine AO_if (fun e => AO_if (fun _ => AO_c (AX_q (g_bySense hS) (lo1 (lo e1)))) (fun _ => AO_c (AX_q (g_bySense hS) (lo1 (lo e1))))) (fun a18 => ?_)
  refine AO_if (fun e => AO_c (AX_g (g_compare hS) (lo2 (lo e1) (lo e3)) (by rintro r T ⟨x, _, _, rfl, -, -, -, rfl⟩; exact PX_s))) (fun a19 => ?_)
  refine AO_if (fun e => AO_c (AX_g (g_key hS) (lo2 (lo e1) (lo e3)) ?_)) (fun a20 => ?_)
  · rintro r T ⟨_, -, (⟨-, rfl⟩ | ⟨-, x, rfl, -⟩), rfl⟩
    · exact PX_l (q := (True, 1, _)) (lo e1)
    · exact PX_s
  refine AO_if (fun e => AO_c (AX_q (g_find hS) (lo3 (lo e1) (lo e2) (lo e3)))) (fun a21 => ?_)
  refine AO_if (fun e => AO_c (AX_g (g_pattern hS) (lo1 (lo' e3 (fun q => q.1 e) (nq e (by unfold isq; decide)))) ?_)) (fun a22 => ?_)
  · rintro r T ⟨l, x, -, rfl, hx, -⟩
    exact PX_v (by omega) (nq e (by unfold isq; decide))
  refine AO_if (fun e => AO_c (AX_g (g_match hS) (lo2 (lo e1) (lo e3)) (by rintro r T ⟨l, x, -, rfl, -, rfl⟩; exact PX_s))) (fun a23 => ?_)
  have tr : h = 24 → ∀ x : Int32, AX (fun w => f_X10_transliterate a b x w) (tab, txt, nv, sav, tp, os, pt) (nt h) (isq h) := fun e x => AX_g (g_transliterate hS) (lo2 (lo e1) (lo e3)) (by rintro r T ⟨ys, v, -, rfl, hx, -⟩; exact PX_v (by omega) (nq e (by unfold isq; decide)))
  refine AO_if (fun e => AO_if (fun _ => AO_c (tr e 1)) (fun _ => AO_c (tr e 0))) (fun a24 => ?_)
  refine AO_if (fun e => AO_c (AX_q (g_classOf hS) (lo2 (lo e1) (lo e2)))) (fun a25 => ?_)
  refine AO_if (fun e => AO_c (AX_g (g_message hS) (lo3 (lo e1) (lo e2) (lo' e3 (fun q => q.2.1 e) (nq e (by unfold isq; decide)))) ?_)) (fun a26 => ?_)
  · rintro r T ⟨l, x, -, rfl, hx, -⟩
    exact PX_v (by omega) (nq e (by unfold isq; decide))
  refine AO_if (fun e => AO_c (AX_v (g_encode hS) (lo1 (lo e1)) (by omega) (nq e (by unfold isq; decide)))) (fun a27 => ?_)
  have N := last_dec q15 a15 a16 a17 a18 a19 a20 a21 a22 a23 a24 a25 a26 a27
  exact AO_c (AX_v (g_decode hS) (lo2 (lo e1) (lo' e3 N.1 N.2)) (dcl_ok tp 0 (Or.inl rfl)).2.2.1 N.2)
theorem ao_more {d e : Int32} (hS : GS (tab, txt, nv, sav, tp, os, pt)) {f : Int32} : AO (fun w => f_L_more h a b c d f w) (tab, txt, nv, sav, tp, os, pt) True False := by
  have hO : OKS tab txt nv sav tp os := hS.1
  have N := (tok_parts.mp hO.1).2.1 0 (by decide)
  unfold f_L_more
  refine AO_if (fun _ => AO_c (AX_g (g_contract hS) (lo3 (lo e1) (lo e2) (lo e3)) ?_)) (fun _ => AO_c (AX_v (g_plural hS) (lo3 (lo e1) (lo e2) (lo e3)) ?_ (fun q => q)))
  · rintro r T ⟨i, d', x, -, hc, rfl, hx, -⟩
    refine PX_v ?_ (fun q => q)
    have e0 : (0 : Int32).toInt.toNat = 0 := by decide
    rw [e0] at hx hc
    have := N.1.1
    have h2 : 0 ≤ tab (1440 + 0) := this
    rcases hc with ⟨d0, _⟩ | ⟨d1, _⟩
    · rw [d0] at hx
      have hx2 : x.toInt = tab (1440 + 0) + 0 := hx
      omega
    · rw [d1] at hx
      have hx2 : x.toInt = tab (1440 + 0) + 1 := hx
      omega
  · have e0 : (0 : Int32).toInt.toNat = 0 := by decide
    rw [e0]
    have := N.2.1.1
    omega
theorem ao_feed {x : Int64} (hS : GS (tab, txt, nv, sav, tp, os, pt)) : AO (fun w => f_L_feed x a w) (tab, txt, nv, sav, tp, os, pt) True False := by
  unfold f_L_feed
  obtain ⟨r, T, hg, hd, hs⟩ := g_feed (b0 := x) (n := a) hS
  have h1 : r ≠ .inl 1 := by
    rcases hg with ⟨-, e, -⟩ | ⟨-, ⟨-, e, -⟩ | ⟨-, v, e, -⟩⟩ <;> rw [e] <;> intro q <;> cases q
  have P : PX (tab, txt, nv, sav, tp, os, pt) True False r T := by
    rcases hg with ⟨-, rfl, rfl⟩ | ⟨b, ⟨-, rfl, rfl⟩ | ⟨c, v, rfl, hv, rfl⟩⟩
    · exact PX_l (q := (True, 2, _)) (lo e2)
    · exact PX_l (q := (True, 3, _)) (lo e3)
    · have B := Classical.not_not.mp b
      exact PX_v (by omega) (fun q => q)
  refine AO_c2 ⟨r, T, hd, hs, P⟩ (fun e U hU q => ?_)
  subst q
  obtain ⟨w, hw⟩ := hS.2
  obtain ⟨w1, q1, -⟩ := hd w hw
  obtain ⟨w2, q2, -⟩ := hU w hw
  have q1' : f_X10_feed x a w = some (r, w1) := q1
  have q2' : f_X10_feed x a w = some (.inl 1, w2) := q2
  rw [q1'] at q2'
  cases q2'
  exact h1 rfl
end
