/-! ===== patterns: the reference matches ===== -/
theorem s_ofR {w : Wd} {tab : Nat → Int} {v j : Int32} (ht : rtab w = tab) (h0 : 0 ≤ v.toInt) (h1 : v.toInt < 96) (hj : 0 ≤ j.toInt ∧ j.toInt < 9) : Wp (f_X11_of v j w) (fun x w' => w = w' ∧ x.toInt = tab (9 * v.toInt.toNat + j.toInt.toNat)) := by
  refine (s_of h0 h1 hj).mono ?_
  rintro x _ ⟨rfl, h⟩
  exact ⟨rfl, by rw [h, ht]⟩
theorem s_isCapital {w : Wd} {tab : Nat → Int} {x : Int32} (ht : rtab w = tab) (hx : 0 ≤ x.toInt ∧ x.toInt ≤ 95) :
    Wp (f_X11_isCapital x w) (fun r w' => w = w' ∧ ((r = 1 ∧ cpt tab x.toInt) ∨ (r = 0 ∧ ¬ cpt tab x.toInt))) := by
  have L := LIT
  have l96 : (96 : Int32).toInt = 96 := by decide
  have l6 : (6 : Int32).toInt = 6 := by decide
  have l7 : (7 : Int32).toInt = 7 := by decide
  have x1 : (x + 1).toInt = x.toInt + 1 := by rw [i_add (by omega), L.2.1]
  unfold f_X11_isCapital f_X11_isCapital_4
  rw [FUv]
  refine wp_loop (fun σ : Int32 × Int32 × Int32 × Wd => σ.1 = x ∧ σ.2.2.2 = w ∧ 0 ≤ σ.2.2.1.toInt ∧ σ.2.2.1.toInt ≤ 96 ∧ ((σ.2.1 = 1 ∧ cpt tab x.toInt) ∨ (σ.2.1 = 0 ∧ ∀ k : Nat, (k : Int) < σ.2.2.1.toInt → ¬ ((k : Int) ≠ x.toInt ∧ (tab (9 * k + 6) = x.toInt + 1 ∨ tab (9 * k + 7) = x.toInt + 1)))))
    (fun σ => (97 - σ.2.2.1.toInt).toNat) ?_ 100000 _ ⟨rfl, rfl, by dsimp only; omega, by dsimp only; omega, Or.inr ⟨rfl, fun k hk => by dsimp only at hk; omega⟩⟩ (by dsimp only; omega)
  rintro rc ⟨x', b, k, u⟩ ⟨rfl, rfl, hk0, hk1, hb⟩ ih
  dsimp only at *
  have ck : ((k.toInt.toNat : Nat) : Int) = k.toInt := by omega
  unfold g_X11_isCapital_4
  refine wp_ifle (fun c => wp_ret ⟨rfl, ?_⟩) (fun c => ?_)
  · rcases hb with hb | ⟨rfl, hb⟩
    · exact Or.inl hb
    · exact Or.inr ⟨rfl, fun ⟨k2, g1, g2⟩ => hb k2 (by omega) g2⟩
  rcases hb with ⟨rfl, hb⟩ | ⟨rfl, hb⟩
  · refine wp_ifeq (fun q => by omega) (fun _ => wp_add (by omega) (fun z hz => ih (x', 1, z, u) ⟨rfl, rfl, by dsimp only; omega, by dsimp only; omega, Or.inl ⟨rfl, hb⟩⟩ (by dsimp only; omega)))
  · refine wp_ifeq (fun _ => ?_) (fun q => absurd rfl q)
    have no : ¬ (k.toInt ≠ x'.toInt ∧ (tab (9 * k.toInt.toNat + 6) = x'.toInt + 1 ∨ tab (9 * k.toInt.toNat + 7) = x'.toInt + 1)) → Wp (f_X11_isCapital_49 rc x' k u) (fun r w' => u = w' ∧ ((r = 1 ∧ cpt tab x'.toInt) ∨ (r = 0 ∧ ¬ cpt tab x'.toInt))) := by
      intro nf
      unfold f_X11_isCapital_49
      refine wp_add (by omega) (fun z hz => ih (x', 0, z, u) ⟨rfl, rfl, by dsimp only; omega, by dsimp only; omega, Or.inr ⟨rfl, fun k2 hk2 g => ?_⟩⟩ (by dsimp only; omega))
      dsimp only at hk2
      by_cases e : k2 = k.toInt.toNat
      · subst e
        rw [ck] at g
        exact nf g
      · exact hb k2 (by omega) g
    have yes : (k.toInt ≠ x'.toInt ∧ (tab (9 * k.toInt.toNat + 6) = x'.toInt + 1 ∨ tab (9 * k.toInt.toNat + 7) = x'.toInt + 1)) → ∀ z : Int32, z.toInt = k.toInt + (1 : Int32).toInt → Wp (rc (x', 1, z, u)) (fun r w' => u = w' ∧ ((r = 1 ∧ cpt tab x'.toInt) ∨ (r = 0 ∧ ¬ cpt tab x'.toInt))) := by
      intro f z hz
      exact ih (x', 1, z, u) ⟨rfl, rfl, by dsimp only; omega, by dsimp only; omega, Or.inl ⟨rfl, k.toInt.toNat, by omega, by rw [ck]; exact f.1, f.2⟩⟩ (by dsimp only; omega)
    refine wp_ifeq (fun q => no (fun f => f.1 q)) (fun q => ?_)
    refine wp_bd (s_ofR ht hk0 (by omega) (by omega)) ?_
    rintro y _ ⟨rfl, hy⟩
    rw [l6, show (6 : Int).toNat = 6 from rfl] at hy
    refine wp_ifeq (fun q2 => wp_add (by omega) (fun z hz => yes ⟨q, Or.inl (by omega)⟩ z hz)) (fun q2 => ?_)
    refine wp_bd (s_ofR ht hk0 (by omega) (by omega)) ?_
    rintro y2 _ ⟨rfl, hy2⟩
    rw [l7, show (7 : Int).toNat = 7 from rfl] at hy2
    exact wp_ifeq (fun q3 => wp_add (by omega) (fun z hz => yes ⟨q, Or.inr (by omega)⟩ z hz)) (fun q3 => no (fun f => f.2.elim (fun g => q2 (by omega)) (fun g => q3 (by omega))))
theorem s_hasLetter {w : Wd} {tab : Nat → Int} {c x : Int32} {s : Int} (ht : rtab w = tab) (hs : scd s) (hc : c.toInt = s) (hx : 0 ≤ x.toInt ∧ x.toInt ≤ 95) :
    Wp (f_X11_hasLetter c x w) (fun r w' => w = w' ∧ ((r = 1 ∧ inS tab s x.toInt) ∨ (r = 0 ∧ ¬ inS tab s x.toInt))) := by
  have L := LIT
  have l100 : (100 : Int32).toInt = 100 := by decide
  have l6 : (6 : Int32).toInt = 6 := by decide
  have l5 : (5 : Int32).toInt = 5 := by decide
  unfold scd at hs
  have ans : ∀ t : Int32, ((t = 1 ∧ inB tab (if s < 0 then -1 - s else s) x.toInt) ∨ (t = 0 ∧ ¬ inB tab (if s < 0 then -1 - s else s) x.toInt)) → Wp (f_X11_hasLetter_81 c t w) (fun r w' => w = w' ∧ ((r = 1 ∧ inS tab s x.toInt) ∨ (r = 0 ∧ ¬ inS tab s x.toInt))) := by
    intro t ht2
    unfold f_X11_hasLetter_81 f_X11_hasLetter_94 inS
    refine wp_ifle (fun g => ?_) (fun g => ?_)
    · rw [if_neg (show ¬ s < 0 by omega)] at ht2
      rw [if_neg (show ¬ s < 0 by omega)]
      rcases ht2 with ⟨rfl, h⟩ | ⟨rfl, h⟩
      · rw [if_neg (by decide)]; exact wp_ret ⟨rfl, Or.inl ⟨rfl, h⟩⟩
      · rw [if_pos rfl]; exact wp_ret ⟨rfl, Or.inr ⟨rfl, h⟩⟩
    · rw [if_pos (show s < 0 by omega)] at ht2
      rw [if_pos (show s < 0 by omega)]
      rcases ht2 with ⟨rfl, h⟩ | ⟨rfl, h⟩
      · rw [if_pos rfl]; exact wp_ret ⟨rfl, Or.inr ⟨rfl, fun q => q h⟩⟩
      · rw [if_neg (by decide)]; exact wp_ret ⟨rfl, Or.inl ⟨rfl, h⟩⟩
  have base : ∀ t : Int32, t.toInt = (if s < 0 then -1 - s else s) → Wp (f_X11_hasLetter_11 c x t w) (fun r w' => w = w' ∧ ((r = 1 ∧ inS tab s x.toInt) ∨ (r = 0 ∧ ¬ inS tab s x.toInt))) := by
    intro t ht2
    have hb : (0 ≤ (if s < 0 then -1 - s else s) ∧ (if s < 0 then -1 - s else s) ≤ 6) ∨ (100 ≤ (if s < 0 then -1 - s else s) ∧ (if s < 0 then -1 - s else s) ≤ 195) := by
      split <;> omega
    have A := ans
    generalize (if s < 0 then -1 - s else s) = b at ht2 hb A
    have l2 : (2 : Int32).toInt = 2 := by decide
    unfold f_X11_hasLetter_11 f_X11_hasLetter_73
    refine wp_bd (s_ofR (j := 2) ht hx.1 (by omega) (by omega)) ?_
    rintro y _ ⟨rfl, hy⟩
    rw [l2, show (2 : Int).toNat = 2 from rfl] at hy
    refine wp_iflt (fun z => wp_ifeq (fun z2 => ?_) (fun z2 => wp_ifeq (fun z3 => A 1 (Or.inl ⟨rfl, ?_⟩)) (fun z3 => ?_))) (fun z => ?_)
    · have e : b = 6 := by omega
      have iB : inB tab b x.toInt ↔ cpt tab x.toInt := by rw [e]; unfold inB; rw [if_neg (by decide), if_pos rfl]
      refine wp_bd (s_isCapital ht hx) ?_
      rintro r _ ⟨rfl, hr⟩
      exact A r (hr.imp (fun q => ⟨q.1, iB.mpr q.2⟩) (fun q => ⟨q.1, fun g => q.2 (iB.mp g)⟩))
    · have e : b = 0 := by omega
      rw [e]; unfold inB
      rw [if_neg (by decide), if_neg (by decide), if_pos rfl]; trivial
    · have iB : inB tab b x.toInt ↔ tab (9 * x.toInt.toNat + 2) = (if b = 5 then 6 else b) := by unfold inB; rw [if_neg (by omega), if_neg (by omega), if_neg (by omega)]
      refine wp_ifeq (fun z4 => ?_) (fun z4 => ?_)
      · rw [if_pos (show b = 5 by omega)] at iB
        exact wp_ifeq (fun q => A 1 (Or.inl ⟨rfl, iB.mpr (by omega)⟩)) (fun q => A 0 (Or.inr ⟨rfl, fun q2 => q (by have := iB.mp q2; omega)⟩))
      · rw [if_neg (show ¬ b = 5 by omega)] at iB
        exact wp_ifeq (fun q => A 1 (Or.inl ⟨rfl, iB.mpr (by omega)⟩)) (fun q => A 0 (Or.inr ⟨rfl, fun q2 => q (by have := iB.mp q2; omega)⟩))
    · have iB : inB tab b x.toInt ↔ x.toInt = b - 100 := by unfold inB; rw [if_pos (by omega)]
      have t1 : (t - (100 : Int32)).toInt = t.toInt - 100 := by rw [i_sub (by omega), l100]
      exact wp_ifeq (fun q => A 1 (Or.inl ⟨rfl, iB.mpr (by omega)⟩)) (fun q => A 0 (Or.inr ⟨rfl, fun q2 => q (by have := iB.mp q2; omega)⟩))
  unfold f_X11_hasLetter
  refine wp_ifle (fun g => base c (by rw [if_neg (by omega)]; exact hc)) (fun g => base _ ?_)
  rw [if_pos (by omega), i_sub (by omega), L.2.2.1, hc]
theorem s_takes {w : Wd} {tab : Nat → Int} {txt : Nat → List Int} {P : List PC} {s k n : Int32} (ht : rtab w = tab) (hx : rtx w txt) (hkx : xok txt) (hs : 0 ≤ s.toInt ∧ s.toInt ≤ 5) (hP : pok P) (hA : patA w P) (hn : 0 ≤ n.toInt ∧ n.toInt < P.length) (hk : 0 ≤ k.toInt ∧ k.toInt < 40) :
    Wp (f_X11_takes s k n w) (fun r w' => w = w' ∧ ((r = 1 ∧ tks tab (txt s.toInt.toNat) P k.toInt.toNat n.toInt.toNat) ∨ (r = 0 ∧ ¬ tks tab (txt s.toInt.toNat) P k.toInt.toNat n.toInt.toNat))) := by
  have L := LIT
  have M := L736
  have l999 : (999 : Int32).toInt = 999 := by decide
  have Y : lok40 (txt s.toInt.toNat) := hkx _ (slot_lt hs)
  have h40 := Y.1
  have h8 := hP.1
  have V := hP.2 n.toInt.toNat (by omega)
  have A := hA n.toInt.toNat (by omega)
  have ck : ((k.toInt.toNat : Nat) : Int) = k.toInt := by omega
  have no : ¬ tks tab (txt s.toInt.toNat) P k.toInt.toNat n.toInt.toNat → Wp (some ((0 : Int32), w)) (fun r w' => w = w' ∧ ((r = 1 ∧ tks tab (txt s.toInt.toNat) P k.toInt.toNat n.toInt.toNat) ∨ (r = 0 ∧ ¬ tks tab (txt s.toInt.toNat) P k.toInt.toNat n.toInt.toNat))) := fun nf => wp_ret ⟨rfl, Or.inr ⟨rfl, nf⟩⟩
  unfold f_X11_takes
  refine s_len hx hs (fun m hm => ?_)
  refine wp_ifle (fun c => no (fun q => by have := q.1; omega)) (fun c => wp_ald (by omega) ?_)
  refine wp_bd (s_let hx hs (k := k) (by omega) h40) ?_
  rintro x _ ⟨rfl, hx1⟩
  have g := lok_gt Y (k := k.toInt) hk.1 (by omega)
  refine wp_bd (s_hasLetter (s := (pg P n.toInt.toNat).2.1) ht V.2.1 A.2.1 (by omega)) ?_
  rintro r _ ⟨rfl, hr⟩
  rw [hx1] at hr
  rcases hr with ⟨rfl, hr⟩ | ⟨rfl, hr⟩
  · rw [if_neg (by decide)]
    refine wp_ald (by omega) (wp_ifeq (fun d => wp_ret ⟨rfl, Or.inl ⟨rfl, by omega, by rw [ck]; exact hr, Or.inl (by omega)⟩⟩) (fun d => wp_ifle (fun e => no (fun q => q.2.2.elim (fun z => d (by omega)) (fun z => by omega))) (fun e => wp_ald (by omega) ?_)))
    have k1 : (k - 1).toInt = k.toInt - 1 := by rw [i_sub (by omega), L.2.1]
    refine wp_bd (s_let hx hs (k := k - 1) (by omega) h40) ?_
    rintro x2 _ ⟨rfl, hx2⟩
    rw [k1] at hx2
    have g2 := lok_gt Y (k := k.toInt - 1) (by omega) (by omega)
    refine wp_bd (s_hasLetter (s := (pg P n.toInt.toNat).1) ht (V.2.2.elim (fun z => absurd (A.1.trans z) (by omega)) id) A.1 (by omega)) ?_
    rintro r2 _ ⟨rfl, hr2⟩
    rw [hx2] at hr2
    rcases hr2 with ⟨rfl, hr2⟩ | ⟨rfl, hr2⟩
    · rw [if_neg (by decide)]
      exact wp_ret ⟨rfl, Or.inl ⟨rfl, by omega, by rw [ck]; exact hr, Or.inr ⟨by omega, by rw [ck]; exact hr2⟩⟩⟩
    · rw [if_pos rfl]
      refine no (fun q => q.2.2.elim (fun z => d (by omega)) (fun z => hr2 ?_))
      have := z.2
      rwa [ck] at this
  · rw [if_pos rfl]
    exact no (fun q => hr (by have := q.2.1; rwa [ck] at this))
/-- a row of marks says so -/
def mrk (w : Wd) (o : Nat) (b : Nat → Prop) : Prop := ∀ k : Nat, k ≤ 40 → (w.1 o k = 1 ∧ b k) ∨ (w.1 o k = 0 ∧ ¬ b k)
theorem L739 : LEN 739 = 41 ∧ LEN 740 = 41 := by decide +kernel
def omt (w w' : Wd) : Prop := oc (fun k => k = 739 ∨ k = 740) w w'
theorem omt_patA {w w' : Wd} {P : List PC} (h : omt w w') (hA : patA w P) : patA w' P := fun i hi => by
  rw [h.1 737 (by decide), h.1 736 (by decide), h.1 738 (by decide)]; exact hA i hi
section
variable {w0 : Wd} {tab : Nat → Int} {txt : Nat → List Int} {P : List PC} {s : Int32} {a : Nat} {rc : Int32 × Int32 × Wd → Option (Int32 × Wd)} {Q : Int32 → Wd → Prop}
theorem s_mat185 {w : Wd} {n : Int32} {b : Nat → Prop} (hn : 0 ≤ n.toInt ∧ n.toInt ≤ 8) (hV : omt w0 w) (hm : mrk w 740 b) (hgo : ∀ (z : Int32) (u : Wd), z.toInt = n.toInt + 1 → omt w0 u → mrk u 739 b → Wp (rc (s, z, u)) Q) :
    Wp (f_X11_matches_185 rc s n 0 w) Q := by
  have L := LIT
  have M := L739
  have l40 : (40 : Int32).toInt = 40 := by decide
  unfold f_X11_matches_185
  rw [FUv]
  refine wp_loop (fun σ : Int32 × Int32 × Int32 × Wd => σ.1 = s ∧ σ.2.1 = n ∧ omt w0 σ.2.2.2 ∧ 0 ≤ σ.2.2.1.toInt ∧ σ.2.2.1.toInt ≤ 41 ∧ mrk σ.2.2.2 740 b ∧ ∀ k : Nat, (k : Int) < σ.2.2.1.toInt → (σ.2.2.2.1 739 k = 1 ∧ b k) ∨ (σ.2.2.2.1 739 k = 0 ∧ ¬ b k))
    (fun σ => (42 - σ.2.2.1.toInt).toNat) ?_ 100000 _ ⟨rfl, rfl, hV, by dsimp only; omega, by dsimp only; omega, hm, fun k hk => by dsimp only at hk; omega⟩ (by dsimp only; omega)
  rintro rc2 ⟨s', n', k, u⟩ ⟨rfl, rfl, V, hk0, hk1, hb, hd⟩ ih
  dsimp only at *
  unfold g_X11_matches_185
  refine wp_iflt (fun c => wp_add (by omega) (fun z hz => hgo z u (by omega) V (fun k hk => hd k (by omega)))) (fun c => wp_ald (by omega) (wp_ast (by omega) (wp_add (by omega) (fun z hz => ih (s', n', z, _) ⟨rfl, rfl, oc_tr V (oc_setI (Or.inl rfl)), by dsimp only; omega, by dsimp only; omega, fun j hj => ?_, fun j hj => ?_⟩ (by dsimp only; omega)))))
  · dsimp only
    rw [setI_at, if_neg (by omega)]; exact hb j hj
  · dsimp only at hj ⊢
    rw [setI_at]
    by_cases e : j = k.toInt.toNat
    · rw [if_pos ⟨rfl, e⟩]
      subst e
      rcases hb k.toInt.toNat (by omega) with ⟨h1, h2⟩ | ⟨h1, h2⟩
      · rw [h1]; exact Or.inl ⟨rfl, h2⟩
      · rw [h1]; exact Or.inr ⟨rfl, h2⟩
    · rw [if_neg (fun g => e g.2)]; exact hd j (by omega)
theorem s_mat90 {w : Wd} {n : Int32} (ht : rtab w0 = tab) (hx : rtx w0 txt) (hkx : xok txt) (hs : 0 ≤ s.toInt ∧ s.toInt ≤ 5) (hP : pok P) (hA : patA w0 P) (hn : 0 ≤ n.toInt ∧ n.toInt < P.length) (hV : omt w0 w) (h9 : mrk w 739 (rch tab (txt s.toInt.toNat) P a n.toInt.toNat))
    (h0 : ∀ k : Nat, k ≤ 40 → (w.1 740 k = 1 ∧ (0 < (pg P n.toInt.toNat).2.2 ∧ rch tab (txt s.toInt.toNat) P a n.toInt.toNat k)) ∨ (w.1 740 k = 0 ∧ ¬ (0 < (pg P n.toInt.toNat).2.2 ∧ rch tab (txt s.toInt.toNat) P a n.toInt.toNat k)))
    (hgo : ∀ (z : Int32) (u : Wd), z.toInt = n.toInt + 1 → omt w0 u → mrk u 739 (rch tab (txt s.toInt.toNat) P a (n.toInt.toNat + 1)) → Wp (rc (s, z, u)) Q) :
    Wp (f_X11_matches_90 rc s n 0 w) Q := by
  have L := LIT
  have M := L739
  have M2 := L736
  have l40 : (40 : Int32).toInt = 40 := by decide
  have h8 := hP.1
  unfold f_X11_matches_90
  rw [FUv]
  refine wp_loop (fun σ : Int32 × Int32 × Int32 × Wd => σ.1 = s ∧ σ.2.1 = n ∧ omt w0 σ.2.2.2 ∧ 0 ≤ σ.2.2.1.toInt ∧ σ.2.2.1.toInt ≤ 40 ∧ mrk σ.2.2.2 739 (rch tab (txt s.toInt.toNat) P a n.toInt.toNat) ∧
      (∀ k : Nat, (k : Int) ≤ σ.2.2.1.toInt → (σ.2.2.2.1 740 k = 1 ∧ rch tab (txt s.toInt.toNat) P a (n.toInt.toNat + 1) k) ∨ (σ.2.2.2.1 740 k = 0 ∧ ¬ rch tab (txt s.toInt.toNat) P a (n.toInt.toNat + 1) k)) ∧
      ∀ k : Nat, σ.2.2.1.toInt < k → k ≤ 40 → (σ.2.2.2.1 740 k = 1 ∧ (0 < (pg P n.toInt.toNat).2.2 ∧ rch tab (txt s.toInt.toNat) P a n.toInt.toNat k)) ∨ (σ.2.2.2.1 740 k = 0 ∧ ¬ (0 < (pg P n.toInt.toNat).2.2 ∧ rch tab (txt s.toInt.toNat) P a n.toInt.toNat k)))
    (fun σ => (42 - σ.2.2.1.toInt).toNat) ?_ 100000 _ ⟨rfl, rfl, hV, by dsimp only; omega, by dsimp only; omega, h9, fun k hk => ?_, fun k _ hk => h0 k hk⟩ (by dsimp only; omega)
  · rintro rc2 ⟨s', n', k, u⟩ ⟨rfl, rfl, V, hk0, hk1, hb, hd, he⟩ ih
    dsimp only at *
    have ck : ((k.toInt.toNat : Nat) : Int) = k.toInt := by omega
    have Au := omt_patA V hA
    obtain ⟨t2, x2⟩ := oc_r V (by omega) (by omega) (by omega) ht hx
    unfold g_X11_matches_90
    refine wp_ifle (fun c => s_mat185 (b := rch tab (txt s'.toInt.toNat) P a (n'.toInt.toNat + 1)) (by omega) V (fun j hj => hd j (by omega)) hgo) (fun c => ?_)
    have k1 : (k + 1).toInt = k.toInt + 1 := by rw [i_add (by omega), L.2.1]
    have k1n : (k + 1).toInt.toNat = k.toInt.toNat + 1 := by omega
    have A3 := (Au n'.toInt.toNat (by omega)).2.2
    have dk := hd k.toInt.toNat (by omega)
    have ek := he (k.toInt.toNat + 1) (by omega) (by omega)
    have S := rch_s (tab := tab) (l := txt s'.toInt.toNat) (P := P) (a := a) (n := n'.toInt.toNat) (k := k.toInt.toNat)
    -- the next mark is laid
    have put : ∀ (v z : Int32), z.toInt = k.toInt + (1 : Int32).toInt → ((v = 1 ∧ rch tab (txt s'.toInt.toNat) P a (n'.toInt.toNat + 1) (k.toInt.toNat + 1)) ∨ (v = 0 ∧ ¬ rch tab (txt s'.toInt.toNat) P a (n'.toInt.toNat + 1) (k.toInt.toNat + 1))) → Wp (rc2 (s', n', z, setI u 740 (k.toInt.toNat + 1) v)) Q := by
      intro v z hz hv
      refine ih (s', n', z, _) ⟨rfl, rfl, oc_tr V (oc_setI (Or.inr rfl)), by dsimp only; omega, by dsimp only; omega, fun j hj => ?_, fun j hj => ?_, fun j h1 h2 => ?_⟩ (by dsimp only; omega)
      · dsimp only; rw [setI_at, if_neg (by omega)]; exact hb j hj
      · dsimp only at hj ⊢
        rw [setI_at]
        by_cases e : j = k.toInt.toNat + 1
        · rw [if_pos ⟨rfl, e⟩]; subst e; exact hv
        · rw [if_neg (fun g => e g.2)]; exact hd j (by omega)
      · dsimp only at h1 ⊢
        rw [setI_at, if_neg (by omega)]; exact he j (by omega) h2
    have m132 : ∀ t : Int32, ((t = 1 ∧ (rch tab (txt s'.toInt.toNat) P a n'.toInt.toNat k.toInt.toNat ∨ ((pg P n'.toInt.toNat).2.2 = 2 ∧ rch tab (txt s'.toInt.toNat) P a (n'.toInt.toNat + 1) k.toInt.toNat))) ∨ (t = 0 ∧ ¬ (rch tab (txt s'.toInt.toNat) P a n'.toInt.toNat k.toInt.toNat ∨ ((pg P n'.toInt.toNat).2.2 = 2 ∧ rch tab (txt s'.toInt.toNat) P a (n'.toInt.toNat + 1) k.toInt.toNat)))) → Wp (f_X11_matches_132 rc2 s' n' k t u) Q := by
      intro t ht3
      unfold f_X11_matches_132 f_X11_matches_174
      refine wp_ald (by omega) ?_
      rw [k1n]
      rcases ek with ⟨e1, e2⟩ | ⟨e1, e2⟩
      · rw [e1, if_neg (by decide)]
        refine wp_ast (by omega) ?_
        rw [k1n]
        exact wp_add (by omega) (fun z hz => put 1 z hz (Or.inl ⟨rfl, S.mpr (Or.inl e2)⟩))
      · rw [e1, if_pos rfl]
        rcases ht3 with ⟨rfl, h1⟩ | ⟨rfl, h1⟩
        · rw [if_neg (by decide)]
          refine wp_bd (s_takes (k := k) (n := n') t2 x2 hkx hs hP Au hn (by omega)) ?_
          rintro r _ ⟨rfl, hr⟩
          rcases hr with ⟨rfl, hr⟩ | ⟨rfl, hr⟩
          · rw [if_neg (by decide)]
            refine wp_ast (by omega) ?_
            rw [k1n]
            exact wp_add (by omega) (fun z hz => put 1 z hz (Or.inl ⟨rfl, S.mpr (Or.inr ⟨hr, h1⟩)⟩))
          · rw [if_pos rfl]
            refine wp_ast (by omega) ?_
            rw [k1n]
            exact wp_add (by omega) (fun z hz => put 0 z hz (Or.inr ⟨rfl, fun g => (S.mp g).elim e2 (fun y => hr y.1)⟩))
        · rw [if_pos rfl]
          refine wp_ast (by omega) ?_
          rw [k1n]
          exact wp_add (by omega) (fun z hz => put 0 z hz (Or.inr ⟨rfl, fun g => (S.mp g).elim e2 (fun y => h1 y.2)⟩))
    have bk := hb k.toInt.toNat (by omega)
    unfold f_X11_matches_131
    refine wp_ald (by omega) ?_
    rcases bk with ⟨b1, b2⟩ | ⟨b1, b2⟩
    · rw [b1, if_neg (by decide)]
      exact m132 1 (Or.inl ⟨rfl, Or.inl b2⟩)
    · rw [b1, if_pos rfl]
      refine wp_ald (by omega) (wp_ifeq (fun q => wp_ald (by omega) ?_) (fun q => m132 0 (Or.inr ⟨rfl, fun g => g.elim b2 (fun y => q (by have := y.1; omega))⟩)))
      rcases dk with ⟨d1, d2⟩ | ⟨d1, d2⟩
      · rw [d1, if_neg (by decide)]
        exact m132 1 (Or.inl ⟨rfl, Or.inr ⟨by omega, d2⟩⟩)
      · rw [d1, if_pos rfl]
        exact m132 0 (Or.inr ⟨rfl, fun g => g.elim b2 (fun y => d2 y.2)⟩)
  · dsimp only at hk ⊢
    have : k = 0 := by omega
    subst this
    exact h0 0 (by decide)
theorem s_mat43 {w : Wd} {n : Int32} (ht : rtab w0 = tab) (hx : rtx w0 txt) (hkx : xok txt) (hs : 0 ≤ s.toInt ∧ s.toInt ≤ 5) (hP : pok P) (hA : patA w0 P) (hn : 0 ≤ n.toInt ∧ n.toInt < P.length) (hV : omt w0 w) (h9 : mrk w 739 (rch tab (txt s.toInt.toNat) P a n.toInt.toNat))
    (hgo : ∀ (z : Int32) (u : Wd), z.toInt = n.toInt + 1 → omt w0 u → mrk u 739 (rch tab (txt s.toInt.toNat) P a (n.toInt.toNat + 1)) → Wp (rc (s, z, u)) Q) :
    Wp (f_X11_matches_43 rc s n 0 w) Q := by
  have L := LIT
  have M := L739
  have M2 := L736
  have l40 : (40 : Int32).toInt = 40 := by decide
  have h8 := hP.1
  unfold f_X11_matches_43
  rw [FUv]
  refine wp_loop (fun σ : Int32 × Int32 × Int32 × Wd => σ.1 = s ∧ σ.2.1 = n ∧ omt w0 σ.2.2.2 ∧ 0 ≤ σ.2.2.1.toInt ∧ σ.2.2.1.toInt ≤ 41 ∧ mrk σ.2.2.2 739 (rch tab (txt s.toInt.toNat) P a n.toInt.toNat) ∧
      ∀ k : Nat, (k : Int) < σ.2.2.1.toInt → (σ.2.2.2.1 740 k = 1 ∧ (0 < (pg P n.toInt.toNat).2.2 ∧ rch tab (txt s.toInt.toNat) P a n.toInt.toNat k)) ∨ (σ.2.2.2.1 740 k = 0 ∧ ¬ (0 < (pg P n.toInt.toNat).2.2 ∧ rch tab (txt s.toInt.toNat) P a n.toInt.toNat k)))
    (fun σ => (42 - σ.2.2.1.toInt).toNat) ?_ 100000 _ ⟨rfl, rfl, hV, by dsimp only; omega, by dsimp only; omega, h9, fun k hk => by dsimp only at hk; omega⟩ (by dsimp only; omega)
  rintro rc2 ⟨s', n', k, u⟩ ⟨rfl, rfl, V, hk0, hk1, hb, hd⟩ ih
  dsimp only at *
  have Au := omt_patA V hA
  have A3 := (Au n'.toInt.toNat (by omega)).2.2
  unfold g_X11_matches_43 f_X11_matches_79
  refine wp_iflt (fun c => s_mat90 ht hx hkx hs hP hA hn V hb (fun j hj => hd j (by omega)) hgo) (fun c => wp_ald (by omega) ?_)
  have put : ∀ (v z : Int32), z.toInt = k.toInt + (1 : Int32).toInt → ((v = 1 ∧ (0 < (pg P n'.toInt.toNat).2.2 ∧ rch tab (txt s'.toInt.toNat) P a n'.toInt.toNat k.toInt.toNat)) ∨ (v = 0 ∧ ¬ (0 < (pg P n'.toInt.toNat).2.2 ∧ rch tab (txt s'.toInt.toNat) P a n'.toInt.toNat k.toInt.toNat))) → Wp (rc2 (s', n', z, setI u 740 k.toInt.toNat v)) Q := by
    intro v z hz hv
    refine ih (s', n', z, _) ⟨rfl, rfl, oc_tr V (oc_setI (Or.inr rfl)), by dsimp only; omega, by dsimp only; omega, fun j hj => ?_, fun j hj => ?_⟩ (by dsimp only; omega)
    · dsimp only; rw [setI_at, if_neg (by omega)]; exact hb j hj
    · dsimp only at hj ⊢
      rw [setI_at]
      by_cases e : j = k.toInt.toNat
      · rw [if_pos ⟨rfl, e⟩]; subst e; exact hv
      · rw [if_neg (fun g => e g.2)]; exact hd j (by omega)
  refine wp_ifle (fun q => wp_ast (by omega) (wp_add (by omega) (fun z hz => put 0 z hz (Or.inr ⟨rfl, fun g => by have := g.1; omega⟩)))) (fun q => wp_ald (by omega) ?_)
  rcases hb k.toInt.toNat (by omega) with ⟨b1, b2⟩ | ⟨b1, b2⟩
  · rw [b1, if_neg (by decide)]
    exact wp_ast (by omega) (wp_add (by omega) (fun z hz => put 1 z hz (Or.inl ⟨rfl, by omega, b2⟩)))
  · rw [b1, if_pos rfl]
    exact wp_ast (by omega) (wp_add (by omega) (fun z hz => put 0 z hz (Or.inr ⟨rfl, fun g => b2 g.2⟩)))
end
theorem s_matches {w : Wd} {tab : Nat → Int} {txt : Nat → List Int} {P : List PC} {s p : Int32} (ht : rtab w = tab) (hx : rtx w txt) (hkx : xok txt) (hs : 0 ≤ s.toInt ∧ s.toInt ≤ 5) (hP : pok P) (hR : patR w P) (hp : 0 ≤ p.toInt ∧ p.toInt ≤ 40) :
    Wp (f_X11_matches s p w) (fun r w' => omt w w' ∧ lastOf (fun k => rch tab (txt s.toInt.toNat) P p.toInt.toNat P.length k) 41 r.toInt) := by
  have L := LIT
  have M := L739
  have l40 : (40 : Int32).toInt = 40 := by decide
  have h8 := hP.1
  unfold f_X11_matches f_X11_matches_2
  rw [FUv]
  refine wp_loop (fun σ : Int32 × Int32 × Int32 × Wd => σ.1 = s ∧ σ.2.1 = p ∧ omt w σ.2.2.2 ∧ 0 ≤ σ.2.2.1.toInt ∧ σ.2.2.1.toInt ≤ 41 ∧ ∀ k : Nat, (k : Int) < σ.2.2.1.toInt → (σ.2.2.2.1 739 k = 1 ∧ k = p.toInt.toNat) ∨ (σ.2.2.2.1 739 k = 0 ∧ ¬ k = p.toInt.toNat))
    (fun σ => (42 - σ.2.2.1.toInt).toNat) ?_ 100000 _ ⟨rfl, rfl, oc_rf, by dsimp only; omega, by dsimp only; omega, fun k hk => by dsimp only at hk; omega⟩ (by dsimp only; omega)
  rintro rc ⟨s', p', k, u⟩ ⟨rfl, rfl, V, hk0, hk1, hd⟩ ih
  dsimp only at *
  unfold g_X11_matches_2
  have put : ∀ (v z : Int32), z.toInt = k.toInt + (1 : Int32).toInt → k.toInt ≤ 40 → ((v = 1 ∧ k.toInt.toNat = p'.toInt.toNat) ∨ (v = 0 ∧ ¬ k.toInt.toNat = p'.toInt.toNat)) → Wp (rc (s', p', z, setI u 739 k.toInt.toNat v)) (fun r w' => omt w w' ∧ lastOf (fun k => rch tab (txt s'.toInt.toNat) P p'.toInt.toNat P.length k) 41 r.toInt) := by
    intro v z hz hk40 hv
    refine ih (s', p', z, _) ⟨rfl, rfl, oc_tr V (oc_setI (Or.inl rfl)), by dsimp only; omega, by dsimp only; omega, fun j hj => ?_⟩ (by dsimp only; omega)
    dsimp only at hj ⊢
    rw [setI_at]
    by_cases e : j = k.toInt.toNat
    · rw [if_pos ⟨rfl, e⟩]; subst e; exact hv
    · rw [if_neg (fun g => e g.2)]; exact hd j (by omega)
  refine wp_iflt (fun c => ?_) (fun c => wp_ifeq (fun e => wp_ast (by omega) (wp_add (by omega) (fun z hz => put 1 z hz (by omega) (Or.inl ⟨rfl, by omega⟩)))) (fun e => wp_ast (by omega) (wp_add (by omega) (fun z hz => put 0 z hz (by omega) (Or.inr ⟨rfl, by omega⟩)))))
  have m0 : mrk u 739 (rch tab (txt s'.toInt.toNat) P p'.toInt.toNat 0) := fun j hj => hd j (by omega)
  unfold f_X11_matches_32
  rw [FUv]
  refine wp_loop (fun σ : Int32 × Int32 × Wd => σ.1 = s' ∧ omt w σ.2.2 ∧ 0 ≤ σ.2.1.toInt ∧ σ.2.1.toInt ≤ P.length ∧ mrk σ.2.2 739 (rch tab (txt s'.toInt.toNat) P p'.toInt.toNat σ.2.1.toInt.toNat))
    (fun σ => (10 - σ.2.1.toInt).toNat) ?_ 100000 _ ⟨rfl, V, by dsimp only; omega, by dsimp only; omega, m0⟩ (by dsimp only; omega)
  rintro rc2 ⟨s2, n, u2⟩ ⟨rfl, V2, hn0, hn1, hm⟩ ih2
  dsimp only at *
  have cnt : (u2.1 713 32).toInt = P.length := by rw [V2.1 713 (by decide)]; exact hR.1
  unfold g_X11_matches_32
  refine wp_ifle (fun d => ?_) (fun d => s_mat43 (a := p'.toInt.toNat) ht hx hkx hs hP hR.2 (by omega) V2 hm (fun z u3 hz g1 g2 => ih2 (s2, z, u3) ⟨rfl, g1, by dsimp only; omega, by dsimp only; omega, by dsimp only; rw [show z.toInt.toNat = n.toInt.toNat + 1 by omega]; exact g2⟩ (by dsimp only; omega)))
  rw [show n.toInt.toNat = P.length by omega] at hm
  unfold f_X11_matches_223
  rw [FUv]
  refine wp_loop (fun σ : Int32 × Int32 × Wd => σ.2.2 = u2 ∧ 0 ≤ σ.2.1.toInt ∧ σ.2.1.toInt ≤ 41 ∧ lastOf (fun k => rch tab (txt s2.toInt.toNat) P p'.toInt.toNat P.length k) σ.2.1.toInt.toNat σ.1.toInt)
    (fun σ => (42 - σ.2.1.toInt).toNat) ?_ 100000 _ ⟨rfl, by dsimp only; omega, by dsimp only; omega, Or.inl ⟨L.2.2.1, fun k hk _ => by dsimp only at hk; omega⟩⟩ (by dsimp only; omega)
  rintro rc3 ⟨e, j, u3⟩ ⟨rfl, hj0, hj1, hE⟩ ih3
  dsimp only at *
  unfold g_X11_matches_223
  refine wp_iflt (fun q => wp_ret ⟨V2, ?_⟩) (fun q => wp_ald (by omega) ?_)
  · rw [show j.toInt.toNat = 41 by omega] at hE; exact hE
  · rcases hm j.toInt.toNat (by omega) with ⟨b1, b2⟩ | ⟨b1, b2⟩
    · rw [b1, if_neg (by decide)]
      refine wp_add (by omega) (fun z hz => ih3 (j, z, u3) ⟨rfl, by dsimp only; omega, by dsimp only; omega, ?_⟩ (by dsimp only; omega))
      dsimp only
      have := lastOf_y (b := fun k => rch tab (txt s2.toInt.toNat) P p'.toInt.toNat P.length k) (N := j.toInt.toNat) b2
      rw [show z.toInt.toNat = j.toInt.toNat + 1 by omega]
      rwa [show ((j.toInt.toNat : Nat) : Int) = j.toInt by omega] at this
    · rw [b1, if_pos rfl]
      refine wp_add (by omega) (fun z hz => ih3 (e, z, u3) ⟨rfl, by dsimp only; omega, by dsimp only; omega, ?_⟩ (by dsimp only; omega))
      dsimp only
      rw [show z.toInt.toNat = j.toInt.toNat + 1 by omega]
      exact lastOf_s hE b2
/-- the pattern that the reference has, if it has one -/
def hasR (w : Wd) (o : Option (List PC)) : Prop := match o with
  | none => (w.1 713 31).toInt = 0
  | some l => (w.1 713 31).toInt = 1 ∧ patR w l ∧ pok l
theorem r_match {w : Wd} {tab : Nat → Int} {txt : Nat → List Int} {s p : Int32} {pt : Option (List PC)} (ht : rtab w = tab) (hx : rtx w txt) (hkx : xok txt) (hp : hasR w pt) :
    Wp (f_X11_match s p w) (fun r w' => rcg (fun f => f = 0) (fun k => k = 739 ∨ k = 740) w w' ∧ ((bad_pl txt s.toInt p.toInt ∧ (w'.1 713 0).toInt = 1) ∨ (¬ bad_pl txt s.toInt p.toInt ∧ pt = none ∧ (w'.1 713 0).toInt = 2) ∨
      (¬ bad_pl txt s.toInt p.toInt ∧ (w'.1 713 0).toInt = 0 ∧ ∃ l : List PC, pt = some l ∧ lastOf (fun k => rch tab (txt s.toInt.toNat) l p.toInt.toNat l.length k) ((txt s.toInt.toNat).length + 1) r.toInt))) := by
  have L := LIT
  have bad : bad_pl txt s.toInt p.toInt → Wp (f_X11_match_25 s p w) (fun r w' => rcg (fun f => f = 0) (fun k => k = 739 ∨ k = 740) w w' ∧ ((bad_pl txt s.toInt p.toInt ∧ (w'.1 713 0).toInt = 1) ∨ (¬ bad_pl txt s.toInt p.toInt ∧ pt = none ∧ (w'.1 713 0).toInt = 2) ∨
      (¬ bad_pl txt s.toInt p.toInt ∧ (w'.1 713 0).toInt = 0 ∧ ∃ l : List PC, pt = some l ∧ lastOf (fun k => rch tab (txt s.toInt.toNat) l p.toInt.toNat l.length k) ((txt s.toInt.toNat).length + 1) r.toInt))) := by
    intro hb
    unfold f_X11_match_25 f_X11_match_26 f_X11_match_48
    rw [if_pos rfl, e_holds, bd_r, ite_zo, if_neg (by decide)]
    exact wp_ret ⟨rcg_fld rfl, Or.inl ⟨hb, by rw [th0_v]; exact L.2.1⟩⟩
  unfold f_X11_match
  simp only [e_isSlot, bd_r, ite_zo]
  refine wp_if (fun hs => ?_) (fun hs => bad (fun q => hs q.1))
  have Y : lok40 (txt s.toInt.toNat) := hkx _ (slot_lt hs)
  have h40 := Y.1
  refine s_len hx hs (fun n hn => ?_)
  simp only [e_in, bd_r, ite_zo, L.1]
  refine wp_if (fun hq => ?_) (fun hq => bad (fun q => hq (by omega)))
  have nb : ¬ bad_pl txt s.toInt p.toInt := fun q => q ⟨hs, by omega⟩
  unfold f_X11_match_26 f_X11_match_48
  rw [if_neg (by decide)]
  cases pt with
  | none =>
    have e : (w.1 713 31).toInt = 0 := hp
    refine wp_ifeq (fun _ => ?_) (fun q => by omega)
    rw [e_holds, bd_r, ite_zo, if_neg (by decide)]
    exact wp_ret ⟨rcg_fld rfl, Or.inr (Or.inl ⟨nb, rfl, by rw [th0_v]; exact L.2.2.2.1⟩)⟩
  | some l =>
    obtain ⟨e, hR, hP⟩ := hp
    refine wp_ifeq (fun q => by omega) (fun _ => ?_)
    rw [e_holds, bd_r, ite_zo, if_pos rfl]
    have hR2 : patR (setI w 713 0 0) l := by
      refine ⟨by rw [setI_at, if_neg (by omega)]; exact hR.1, fun i hi => ?_⟩
      rw [setI_at, if_neg (by omega), setI_at, if_neg (by omega), setI_at, if_neg (by omega)]
      exact hR.2 i hi
    refine wp_bd (s_matches (th0_t ht) (th0_x hx) hkx hs hP hR2 (by omega)) ?_
    rintro x w1 ⟨V, hx1⟩
    refine wp_ret ⟨rcg_tr (rcg_fld (j := 0) (v := 0) rfl) ⟨fun k _ q => V.1 k q, fun f _ => by rw [V.1 713 (by decide)], V.2⟩, Or.inr (Or.inr ⟨nb, ?_, l, rfl, ?_⟩)⟩
    · rw [V.1 713 (by decide), th0_v]; exact L.1
    · -- what lies behind the text is not come upon
      have none : ∀ k, (txt s.toInt.toNat).length + 1 ≤ k → ¬ rch tab (txt s.toInt.toNat) l p.toInt.toNat l.length k := fun k h1 q => by
        have := rch_le (by omega) _ _ q
        omega
      rcases hx1 with ⟨g1, g2⟩ | ⟨k, g1, g2, g3, g4⟩
      · exact Or.inl ⟨g1, fun k hk => g2 k (by omega)⟩
      · have : k < (txt s.toInt.toNat).length + 1 := by
          by_cases c : k < (txt s.toInt.toNat).length + 1
          · exact c
          · exact absurd g3 (none k (by omega))
        exact Or.inr ⟨k, this, g2, g3, fun j h1 h2 => g4 j h1 (by omega)⟩
