/-! ===== directions: the reference lays frames ===== -/
def fsr (b : Int) : Int := if 7 ≤ b ∧ b ≤ 9 then 2 else if b = 4 ∨ b = 5 then 1 else 0
/-- the reference's own frames -/
def frR (w : Wd) (st : FSt) (k : Nat) : Prop :=
  (w.1 713 21).toInt = st.2.2.1.length ∧ (∀ i : Nat, i < k → (w.1 723 i).toInt = gt st.2.1 i) ∧
  ∀ i : Nat, i < st.2.2.1.length → (w.1 728 i).toInt = gt st.2.2.1 i ∧ (w.1 729 i).toInt = fsr (gt st.2.2.2.2.1 i) ∧ (w.1 730 i).toInt = gt st.2.2.2.1 i
def rfr (w w' : Wd) : Prop := rcg (fun f => f = 21) (fun k => k = 723 ∨ (728 ≤ k ∧ k ≤ 730)) w w'
theorem rfr_x {w w' : Wd} {tab : Nat → Int} {txt : Nat → List Int} (h : rfr w w') (ht : rtab w = tab) (hx : rtx w txt) : rtab w' = tab ∧ rtx w' txt :=
  ⟨(rtab_fr (h.1 714 (by decide) (by omega))).trans ht, rtx_fr hx (h.1 716 (by decide) (by omega)) (h.1 717 (by decide) (by omega))⟩
theorem rfr_i {w w' : Wd} {tab : Nat → Int} {l : List Int} (h : rfr w w') (hI : isoL w tab l) : isoL w' tab l := by
  intro k hk
  rw [h.1 725 (by decide) (by omega), h.1 726 (by decide) (by omega)]
  exact hI k hk
theorem L723 : LEN 723 = 40 ∧ LEN 728 = 41 ∧ LEN 729 = 41 ∧ LEN 730 = 41 := by decide +kernel
theorem mod2_all : ∀ n, n < 32 → ((Int32.ofNat n) - (Int32.ofNat n) / (2 : Int32) * (2 : Int32)).toInt = ((n % 2 : Nat) : Int) := by decide +kernel
theorem i_mod2 {x : Int32} (h : 0 ≤ x.toInt ∧ x.toInt < 32) : (x - x / (2 : Int32) * (2 : Int32)).toInt = x.toInt % 2 := by
  have A := mod2_all x.toInt.toNat (by omega)
  rw [i_back h.1] at A
  rw [A]; omega
theorem s_begins {w : Wd} {a b c : Int32} {n : Nat} (hn : (w.1 713 21).toInt = n) (h40 : n ≤ 40) (ha : 0 ≤ a.toInt ∧ a.toInt < n) (hl : 0 ≤ (w.1 728 a.toInt.toNat).toInt ∧ (w.1 728 a.toInt.toNat).toInt ≤ 9) (hc : c.toInt = 0 ∨ c.toInt = 1) :
    Wp (f_X11_begins a b c w) (fun r w' => rfr w w' ∧ r.toInt = n ∧ (w'.1 713 21).toInt = n + 1 ∧ w'.1 723 = w.1 723 ∧
      (∀ i, i ≠ n → w'.1 728 i = w.1 728 i ∧ w'.1 729 i = w.1 729 i ∧ w'.1 730 i = w.1 730 i) ∧ (w'.1 728 n).toInt = lw (w.1 728 a.toInt.toNat).toInt c.toInt ∧ w'.1 729 n = b ∧ w'.1 730 n = a) := by
  have L := LIT
  have l9 : (9 : Int32).toInt = 9 := by decide
  have M := L723
  unfold f_X11_begins
  refine wp_ald (by omega) ?_
  generalize hx : w.1 728 a.toInt.toNat = x at hl ⊢
  have m2 := i_mod2 (x := x) (by omega)
  have e2 : (x + 2).toInt = x.toInt + 2 := by rw [i_add (by omega), L.2.2.2.1]
  have e1 : (x + 1).toInt = x.toInt + 1 := by rw [i_add (by omega), L.2.1]
  have put : ∀ v : Int32, v.toInt = lw x.toInt c.toInt → Wp (f_X11_begins_59 a b 728 (w.1 713 21) v w) (fun r w' => rfr w w' ∧ r.toInt = n ∧ (w'.1 713 21).toInt = n + 1 ∧ w'.1 723 = w.1 723 ∧
      (∀ i, i ≠ n → w'.1 728 i = w.1 728 i ∧ w'.1 729 i = w.1 729 i ∧ w'.1 730 i = w.1 730 i) ∧ (w'.1 728 n).toInt = lw x.toInt c.toInt ∧ w'.1 729 n = b ∧ w'.1 730 n = a) := by
    intro v hv
    have hnn : (w.1 713 21).toInt.toNat = n := by omega
    unfold f_X11_begins_59
    refine wp_ast (by omega) ?_
    rw [hnn]
    have q1 : (setI w 728 n v).1 713 21 = w.1 713 21 := by rw [setI_at, if_neg (by omega)]
    rw [q1]
    refine wp_ast (by omega) ?_
    rw [hnn]
    have q2 : (setI (setI w 728 n v) 729 n b).1 713 21 = w.1 713 21 := by rw [setI_at, if_neg (by omega), q1]
    rw [q2]
    refine wp_ast (by omega) ?_
    rw [hnn]
    have q3 : (setI (setI (setI w 728 n v) 729 n b) 730 n a).1 713 21 = w.1 713 21 := by rw [setI_at, if_neg (by omega), q2]
    rw [q3]
    refine wp_wr (wp_ret ?_)
    have s1 : (w.1 713 21 + 1).toInt = n + 1 := by rw [i_add (by omega), L.2.1]; omega
    rw [setI_at, if_pos ⟨rfl, rfl⟩]
    refine ⟨rcg_tr (rcg_set (by decide) (Or.inr (by omega))) (rcg_tr (rcg_set (by decide) (Or.inr (by omega))) (rcg_tr (rcg_set (by decide) (Or.inr (by omega))) (rcg_fld rfl))), ?_, s1, ?_, fun i hi => ⟨?_, ?_, ?_⟩, ?_, ?_, ?_⟩
    · rw [i_sub (by omega), s1, L.2.1]; omega
    · funext i; rw [setI_at, if_neg (by omega), setI_at, if_neg (by omega), setI_at, if_neg (by omega), setI_at, if_neg (by omega)]
    · rw [setI_at, if_neg (by omega), setI_at, if_neg (by omega), setI_at, if_neg (by omega), setI_at, if_neg (by omega)]
    · rw [setI_at, if_neg (by omega), setI_at, if_neg (by omega), setI_at, if_neg (by omega), setI_at, if_neg (by omega)]
    · rw [setI_at, if_neg (by omega), setI_at, if_neg (by omega), setI_at, if_neg (by omega), setI_at, if_neg (by omega)]
    · rw [setI_at, if_neg (by omega), setI_at, if_neg (by omega), setI_at, if_neg (by omega), setI_at, if_pos ⟨rfl, rfl⟩]; exact hv
    · rw [setI_at, if_neg (by omega), setI_at, if_neg (by omega), setI_at, if_pos ⟨rfl, rfl⟩]
    · rw [setI_at, if_neg (by omega), setI_at, if_pos ⟨rfl, rfl⟩]
  have mid : ∀ t1 : Int32, t1.toInt = c.toInt → Wp (f_X11_begins_21 a b x (x - x / (2 : Int32) * (2 : Int32)) t1 w) (fun r w' => rfr w w' ∧ r.toInt = n ∧ (w'.1 713 21).toInt = n + 1 ∧ w'.1 723 = w.1 723 ∧
      (∀ i, i ≠ n → w'.1 728 i = w.1 728 i ∧ w'.1 729 i = w.1 729 i ∧ w'.1 730 i = w.1 730 i) ∧ (w'.1 728 n).toInt = lw x.toInt c.toInt ∧ w'.1 729 n = b ∧ w'.1 730 n = a) := by
    intro t1 ht1
    unfold f_X11_begins_21 f_X11_begins_35
    refine wp_ifeq (fun q => wp_ifle (fun q2 => put _ ?_) (fun q2 => put _ ?_)) (fun q => wp_ifle (fun q2 => put _ ?_) (fun q2 => put _ ?_))
    · unfold lw; rw [if_neg (by omega), if_pos (by omega)]; exact e2
    · unfold lw; rw [if_neg (by omega), if_neg (by omega)]
    · unfold lw; rw [if_pos (by omega), if_pos (by omega)]; exact e1
    · unfold lw; rw [if_pos (by omega), if_neg (by omega)]
  exact wp_ifeq (fun q => mid 0 (by omega)) (fun q => mid 1 (by omega))
theorem s_walk {w : Wd} {tab : Nat → Int} {l : List Int} {st : FSt} {k kk : Nat} {s x v4 v5 : Int32} {rc : Int32 × Int32 × Int32 × Wd → Option (Unit × Wd)} {Q : Unit → Wd → Prop} {T f : Int} (hI : frI tab l st k) (hk : k ≤ 40) (hR : frR w st kk)
    (hx : 0 ≤ x.toInt ∧ x.toInt < st.2.2.1.length) (hp : 0 < gt st.2.2.2.2.2 x.toInt) (hT : aro st.2.2.2.1 st.2.2.2.2.1 f 41 x.toInt = T) (hgo : ∀ y : Int32, y.toInt = T → Wp (f_X11_laysFrames_89 rc s y v4 v5 w) Q) :
    Wp (f_X11_laysFrames_62 rc s x v4 v5 w) Q := by
  have L := LIT
  have M := L723
  obtain ⟨⟨_, a2, a3, _⟩, b, _, d, e0, _, g, _⟩ := hI
  unfold f_X11_laysFrames_62
  rw [FUv]
  refine wp_loop (fun σ : Int32 × Int32 × Int32 × Int32 × Wd => σ.1 = s ∧ σ.2.2.1 = v4 ∧ σ.2.2.2.1 = v5 ∧ σ.2.2.2.2 = w ∧ 0 ≤ σ.2.1.toInt ∧ σ.2.1.toInt < st.2.2.1.length ∧ 0 < gt st.2.2.2.2.2 σ.2.1.toInt ∧ ∃ n : Nat, σ.2.1.toInt < n ∧ aro st.2.2.2.1 st.2.2.2.2.1 f n σ.2.1.toInt = T)
    (fun σ => σ.2.1.toInt.toNat) ?_ 100000 _ ⟨rfl, rfl, rfl, rfl, hx.1, hx.2, hp, 41, by dsimp only; omega, hT⟩ (by dsimp only; omega)
  rintro rc2 ⟨s', i, v4', v5', u⟩ ⟨rfl, rfl, rfl, rfl, hi, hi2, hp2, n, hn, ha⟩ ih
  dsimp only at *
  unfold g_X11_laysFrames_62
  have i1 : 1 ≤ i.toInt := by
    rcases Int.lt_or_le 0 i.toInt with z | z
    · omega
    · have z0 : i.toInt = 0 := by omega
      rw [z0, e0.2.2] at hp2; omega
  have D := d i.toInt i1 hi2
  have ci : ((i.toInt.toNat : Nat) : Int) = i.toInt := by omega
  have R := hR.2.2 i.toInt.toNat (by omega)
  rw [ci] at R
  obtain ⟨n', rfl⟩ : ∃ n', n = n' + 1 := ⟨n - 1, by omega⟩
  rw [aro, if_neg (by omega)] at ha
  refine wp_ald (by omega) ?_
  refine wp_ifeq (fun q => wp_ald (by omega) (hgo _ ?_)) (fun q => wp_ald (by omega) ?_)
  · have c : 7 ≤ gt st.2.2.2.2.1 i.toInt ∧ gt st.2.2.2.2.1 i.toInt ≤ 9 := by
      rcases D.2.1 with z | z
      · have : fsr (gt st.2.2.2.2.1 i.toInt) = 1 := by unfold fsr; rw [if_neg (by omega), if_pos z]
        omega
      · exact z
    rw [if_pos c] at ha
    rw [R.2.2]; exact ha
  · have c : ¬ (7 ≤ gt st.2.2.2.2.1 i.toInt ∧ gt st.2.2.2.2.1 i.toInt ≤ 9) := by
      intro z
      have : fsr (gt st.2.2.2.2.1 i.toInt) = 2 := by unfold fsr; rw [if_pos z]
      omega
    rw [if_neg c] at ha
    have D2 := D.2.2
    unfold isD at D2
    rw [if_neg c] at D2
    refine ih (s', _, v4', v5', u) ⟨rfl, rfl, rfl, rfl, ?_, ?_, ?_, n', ?_, ?_⟩ ?_
    · dsimp only; omega
    · dsimp only; omega
    · dsimp only; rw [R.2.2]; omega
    · dsimp only; omega
    · dsimp only; rw [R.2.2]; exact ha
    · dsimp only; omega
theorem s_laysFrames {w : Wd} {tab : Nat → Int} {txt : Nat → List Int} {s b : Int32} (hk : tok tab) (ht : rtab w = tab) (hx : rtx w txt) (hkx : xok txt) (hs : 0 ≤ s.toInt ∧ s.toInt ≤ 5) (hI : isoL w tab (txt s.toInt.toNat)) (hb : b.toInt = 0 ∨ b.toInt = 1) :
    Wp (f_X11_laysFrames s b w) (fun _ w' => rfr w w' ∧ frR w' (fr tab (txt s.toInt.toNat) b.toInt (txt s.toInt.toNat).length) (txt s.toInt.toNat).length) := by
  have L := LIT
  have l7 : (7 : Int32).toInt = 7 := by decide
  have l8 : (8 : Int32).toInt = 8 := by decide
  have l9 : (9 : Int32).toInt = 9 := by decide
  have l6 : (6 : Int32).toInt = 6 := by decide
  have l5 : (5 : Int32).toInt = 5 := by decide
  have l4 : (4 : Int32).toInt = 4 := by decide
  have M := L723
  have Y : lok40 (txt s.toInt.toNat) := hkx _ (slot_lt hs)
  have h40 := Y.1
  unfold f_X11_laysFrames
  refine wp_wr (wp_ast (by omega) (wp_ast (by omega) (wp_ast (by omega) ?_)))
  have z0 : (0 : Int32).toInt.toNat = 0 := by decide
  rw [z0]
  unfold f_X11_laysFrames_31
  rw [FUv]
  refine wp_loop (fun σ : Int32 × Int32 × Int32 × Wd => σ.1 = s ∧ rfr w σ.2.2.2 ∧ 0 ≤ σ.2.2.1.toInt ∧ σ.2.2.1.toInt ≤ (txt s.toInt.toNat).length ∧ σ.2.1.toInt = (fr tab (txt s.toInt.toNat) b.toInt σ.2.2.1.toInt.toNat).1 ∧ frR σ.2.2.2 (fr tab (txt s.toInt.toNat) b.toInt σ.2.2.1.toInt.toNat) σ.2.2.1.toInt.toNat)
    (fun σ => (42 - σ.2.2.1.toInt).toNat) ?_ 100000 _ ⟨rfl, rcg_tr (rcg_fld rfl) (rcg_tr (rcg_set (by decide) (Or.inr (by omega))) (rcg_tr (rcg_set (by decide) (Or.inr (by omega))) (rcg_set (by decide) (Or.inr (by omega))))), by dsimp only; omega, by dsimp only; omega, by dsimp only; rw [L.1]; rfl, ?_⟩ (by dsimp only; omega)
  · rintro rc ⟨s', f, k, u⟩ ⟨rfl, V, hk0, hk1, hf, hR⟩ ih
    dsimp only at *
    have ci : ((k.toInt.toNat : Nat) : Int) = k.toInt := by omega
    obtain ⟨t2, x2⟩ := rfr_x V ht hx
    have I2 := rfr_i V hI
    unfold g_X11_laysFrames_31
    refine s_len x2 hs (fun n hn => ?_)
    refine wp_ifle (fun q => wp_ret ⟨V, ?_⟩) (fun q => ?_)
    · rw [show k.toInt.toNat = (txt s'.toInt.toNat).length by omega] at hR; exact hR
    have I := fr_I (tab := tab) (l := txt s'.toInt.toNat) hb k.toInt.toNat (by omega)
    have N := nw1_spec I (by omega)
    refine wp_bd (r_directionAt t2 x2 hkx hs (by omega)) ?_
    rintro d _ ⟨rfl, hd⟩
    generalize hst : fr tab (txt s'.toInt.toNat) b.toInt k.toInt.toNat = st at hf hR I N
    have nxt : fr tab (txt s'.toInt.toNat) b.toInt (k.toInt.toNat + 1) = frS tab (txt s'.toInt.toNat) st k.toInt.toNat := by rw [fr, hst]
    have lens := I.1
    have A := I2 k.toInt.toNat (by omega)
    rw [ci] at A
    have go : ∀ f1 : Int32, f1.toInt = nw1 tab (txt s'.toInt.toNat) st k.toInt.toNat → Wp (f_X11_laysFrames_89 rc s' f1 k d u) (fun _ w' => rfr w w' ∧ frR w' (fr tab (txt s'.toInt.toNat) b.toInt (txt s'.toInt.toNat).length) (txt s'.toInt.toNat).length) := by
      intro f1 hf1
      have fin : ∀ (f2 z : Int32) (u2 : Wd), z.toInt = k.toInt + (1 : Int32).toInt → rfr w u2 → f2.toInt = (frS tab (txt s'.toInt.toNat) st k.toInt.toNat).1 → frR u2 (frS tab (txt s'.toInt.toNat) st k.toInt.toNat) (k.toInt.toNat + 1) → Wp (rc (s', f2, z, u2)) (fun _ w' => rfr w w' ∧ frR w' (fr tab (txt s'.toInt.toNat) b.toInt (txt s'.toInt.toNat).length) (txt s'.toInt.toNat).length) := by
        intro f2 z u2 hz h1 h2 h3
        have hz2 : z.toInt.toNat = k.toInt.toNat + 1 := by omega
        refine ih (s', f2, z, u2) ⟨rfl, h1, by dsimp only; omega, by dsimp only; omega, ?_, ?_⟩ (by dsimp only; omega)
        · dsimp only; rw [hz2, nxt]; exact h2
        · dsimp only; rw [hz2, nxt]; exact h3
      unfold f_X11_laysFrames_89
      refine wp_ast (by omega) ?_
      have V1 : rfr w (setI u 723 k.toInt.toNat f1) := rcg_tr V (rcg_set (by decide) (Or.inl rfl))
      have hfo : ∀ i : Nat, i < k.toInt.toNat + 1 → ((setI u 723 k.toInt.toNat f1).1 723 i).toInt = gt (st.2.1 ++ [nw1 tab (txt s'.toInt.toNat) st k.toInt.toNat]) i := by
        intro i hi
        rw [setI_at, gt_snoc]
        by_cases z : i = k.toInt.toNat
        · rw [if_pos ⟨rfl, z⟩, if_pos (by omega)]; exact hf1
        · rw [if_neg (by omega), if_neg (by omega)]; exact hR.2.1 i (by omega)
      have h28 : ∀ j i, 728 ≤ j → (setI u 723 k.toInt.toNat f1).1 j i = u.1 j i := fun j i hj => by rw [setI_at, if_neg (by omega)]
      have h13 : ((setI u 723 k.toInt.toNat f1).1 713 21).toInt = st.2.2.1.length := by rw [setI_at, if_neg (by omega)]; exact hR.1
      obtain ⟨t3, x3⟩ := rfr_x V1 ht hx
      have I3 := rfr_i V1 hI
      generalize setI u 723 k.toInt.toNat f1 = u1 at V1 hfo h28 h13 t3 x3 I3 ⊢
      have F1 := hR.2.2 f1.toInt.toNat (by omega)
      rw [show ((f1.toInt.toNat : Nat) : Int) = nw1 tab (txt s'.toInt.toNat) st k.toInt.toNat by omega] at F1
      have G := I.2.2.1 _ N.1.1 N.1.2
      have beg : frB (dr tab (txt s'.toInt.toNat) k.toInt) → ∀ (b2 c : Int32), b2.toInt = fsr (dr tab (txt s'.toInt.toNat) k.toInt) → c.toInt = odd tab (txt s'.toInt.toNat) k.toInt.toNat (dr tab (txt s'.toInt.toNat) k.toInt) →
          Wp (bd (f_X11_begins f1 b2 c u1) (fun y2 w1 => lt (k + (1 : Int32)) (fun x3 => rc (s', y2, x3, w1)))) (fun _ w' => rfr w w' ∧ frR w' (fr tab (txt s'.toInt.toNat) b.toInt (txt s'.toInt.toNat).length) (txt s'.toInt.toNat).length) := by
        intro hB b2 c hb2 hc
        have oc01 : c.toInt = 0 ∨ c.toInt = 1 := by rw [hc]; unfold odd; split <;> omega
        refine wp_bd (s_begins (n := st.2.2.1.length) h13 (by omega) (by omega) (by rw [h28 728 _ (by decide), F1.1]; exact G) oc01) ?_
        rintro f2 u2 ⟨V2, m0, m1, m2, m3, m4, m5, m6⟩
        rw [h28 728 _ (by decide), F1.1, hc] at m4
        have S : frS tab (txt s'.toInt.toNat) st k.toInt.toNat = ((st.2.2.1.length : Int), st.2.1 ++ [nw1 tab (txt s'.toInt.toNat) st k.toInt.toNat], st.2.2.1 ++ [lw (gt st.2.2.1 (nw1 tab (txt s'.toInt.toNat) st k.toInt.toNat)) (odd tab (txt s'.toInt.toNat) k.toInt.toNat (dr tab (txt s'.toInt.toNat) k.toInt))], st.2.2.2.1 ++ [nw1 tab (txt s'.toInt.toNat) st k.toInt.toNat], st.2.2.2.2.1 ++ [dr tab (txt s'.toInt.toNat) k.toInt], st.2.2.2.2.2 ++ [gt st.2.2.2.2.2 (nw1 tab (txt s'.toInt.toNat) st k.toInt.toNat) + isD (dr tab (txt s'.toInt.toNat) k.toInt)]) := by
          unfold frS; rw [ci, if_pos hB]
        refine wp_add (by omega) (fun z hz => fin f2 z u2 hz (rcg_tr V1 V2) ?_ ?_)
        · rw [S]; exact m0
        · rw [S]
          refine ⟨?_, ?_, fun i hi => ?_⟩
          · dsimp only; rw [m1, List.length_append]; rfl
          · dsimp only; rw [m2]; exact hfo
          · dsimp only at hi ⊢
            rw [List.length_append, List.length_singleton] at hi
            rw [gt_snoc, gt_snoc, gt_snoc, lens.2.2.2.1, lens.2.2.2.2.1]
            by_cases z2 : i = st.2.2.1.length
            · rw [if_pos (by omega), if_pos (by omega), if_pos (by omega), z2, m4, m5, m6]
              exact ⟨rfl, hb2, hf1⟩
            · obtain ⟨p1, p2, p3⟩ := m3 i z2
              have R := hR.2.2 i (by omega)
              rw [if_neg (by omega), if_neg (by omega), if_neg (by omega), p1, p2, p3, h28 728 _ (by decide), h28 729 _ (by decide), h28 730 _ (by decide)]
              exact R
      have e109 : (d.toInt = 4 ∨ d.toInt = 5) → Wp (f_X11_laysFrames_109 rc s' f1 k d u1) (fun _ w' => rfr w w' ∧ frR w' (fr tab (txt s'.toInt.toNat) b.toInt (txt s'.toInt.toNat).length) (txt s'.toInt.toNat).length) := by
        intro hd45
        have sr : (1 : Int32).toInt = fsr (dr tab (txt s'.toInt.toNat) k.toInt) := by
          unfold fsr; rw [if_neg (by omega), if_pos (by omega)]; exact L.2.1
        unfold f_X11_laysFrames_109 f_X11_laysFrames_123
        refine wp_ifeq (fun q => beg (Or.inl (by omega)) 1 1 sr ?_) (fun q => beg (Or.inl (by omega)) 1 0 sr ?_)
        · unfold odd; rw [if_pos (by omega)]; exact L.2.1
        · unfold odd; rw [if_neg (by omega)]; exact L.1
      refine wp_ifeq (fun q => e109 (by omega)) (fun q => wp_ifeq (fun q2 => e109 (by omega)) (fun q2 => ?_))
      simp only [e_in, bd_r, ite_zo, l7, l9]
      rw [hd]
      refine wp_if (fun c => ?_) (fun c => ?_)
      · have sr : (2 : Int32).toInt = fsr (dr tab (txt s'.toInt.toNat) k.toInt) := by
          unfold fsr; rw [if_pos c]; exact L.2.2.2.1
        refine wp_ifeq (fun q3 => ?_) (fun q3 => wp_ifeq (fun q4 => ?_) (fun q4 => ?_))
        · have E := (I3 k.toInt.toNat (by omega)).1 (by rw [ci]; exact c)
          have hk1' : (k + 1).toInt = k.toInt + 1 := by rw [i_add (by omega), L.2.1]
          refine wp_ald (by have := L72x; omega) ?_
          refine wp_bd (r_baseOf (x := 1) (p := k + 1) hk t3 x3 hkx hs I3 (by omega) (Or.inr ⟨rfl, ?_⟩)) ?_
          · rw [E, hk1', show (k.toInt + 1).toNat = k.toInt.toNat + 1 by omega, show (txt s'.toInt.toNat).length - (k.toInt.toNat + 1) = (txt s'.toInt.toNat).length - k.toInt.toNat - 1 by omega]
          rintro r _ ⟨rfl, hr⟩
          rw [hk1', show (k.toInt + 1).toNat = k.toInt.toNat + 1 by omega] at hr
          unfold f_X11_laysFrames_189
          refine wp_ifeq (fun q5 => beg (Or.inr c) 2 1 sr ?_) (fun q5 => beg (Or.inr c) 2 0 sr ?_)
          · unfold odd; rw [if_pos (Or.inr (Or.inr ⟨by omega, by omega⟩))]; exact L.2.1
          · unfold odd; rw [if_neg (by omega)]; exact L.1
        · unfold f_X11_laysFrames_189
          refine beg (Or.inr c) 2 1 sr ?_
          unfold odd; rw [if_pos (by omega)]; exact L.2.1
        · unfold f_X11_laysFrames_189
          refine beg (Or.inr c) 2 0 sr ?_
          unfold odd; rw [if_neg (by omega)]; exact L.1
      · have nB : ¬ frB (dr tab (txt s'.toInt.toNat) k.toInt) := fun z => z.elim (by omega) c
        have keep : ∀ st2 : Int, frR u1 (st2, st.2.1 ++ [nw1 tab (txt s'.toInt.toNat) st k.toInt.toNat], st.2.2) (k.toInt.toNat + 1) := by
          intro st2
          refine ⟨h13, hfo, fun i hi => ?_⟩
          rw [h28 728 _ (by decide), h28 729 _ (by decide), h28 730 _ (by decide)]
          exact hR.2.2 i hi
        have stay : ¬ (dr tab (txt s'.toInt.toNat) k.toInt = 6 ∧ (gt st.2.2.2.2.1 (nw1 tab (txt s'.toInt.toNat) st k.toInt.toNat) = 4 ∨ gt st.2.2.2.2.1 (nw1 tab (txt s'.toInt.toNat) st k.toInt.toNat) = 5)) → ∀ z : Int32, z.toInt = k.toInt + (1 : Int32).toInt → Wp (rc (s', f1, z, u1)) (fun _ w' => rfr w w' ∧ frR w' (fr tab (txt s'.toInt.toNat) b.toInt (txt s'.toInt.toNat).length) (txt s'.toInt.toNat).length) := by
          intro nf z hz
          have S : frS tab (txt s'.toInt.toNat) st k.toInt.toNat = (nw1 tab (txt s'.toInt.toNat) st k.toInt.toNat, st.2.1 ++ [nw1 tab (txt s'.toInt.toNat) st k.toInt.toNat], st.2.2) := by
            unfold frS; rw [ci, if_neg nB, if_neg nf]
          refine fin f1 z u1 hz V1 ?_ ?_
          · rw [S]; exact hf1
          · rw [S]; exact keep _
        refine wp_ifeq (fun q3 => ?_) (fun q3 => wp_add (by omega) (stay (fun z => q3 (by omega))))
        refine wp_ald (by omega) ?_
        rw [h28 729 _ (by decide)]
        refine wp_ifeq (fun q4 => ?_) (fun q4 => wp_add (by omega) (stay (fun z => q4 ?_)))
        · have e45 : gt st.2.2.2.2.1 (nw1 tab (txt s'.toInt.toNat) st k.toInt.toNat) = 4 ∨ gt st.2.2.2.2.1 (nw1 tab (txt s'.toInt.toNat) st k.toInt.toNat) = 5 := by
            by_cases z : gt st.2.2.2.2.1 (nw1 tab (txt s'.toInt.toNat) st k.toInt.toNat) = 4 ∨ gt st.2.2.2.2.1 (nw1 tab (txt s'.toInt.toNat) st k.toInt.toNat) = 5
            · exact z
            · have := F1.2.1
              unfold fsr at this
              rw [if_neg z] at this
              split at this <;> omega
          refine wp_ald (by omega) ?_
          rw [h28 730 _ (by decide)]
          have S : frS tab (txt s'.toInt.toNat) st k.toInt.toNat = (gt st.2.2.2.1 (nw1 tab (txt s'.toInt.toNat) st k.toInt.toNat), st.2.1 ++ [nw1 tab (txt s'.toInt.toNat) st k.toInt.toNat], st.2.2) := by
            unfold frS; rw [ci, if_neg nB, if_pos ⟨by omega, e45⟩]
          refine wp_add (by omega) (fun z hz => fin _ z u1 hz V1 ?_ ?_)
          · rw [S]; exact F1.2.2
          · rw [S]; exact keep _
        · rw [F1.2.1, L.2.1]
          unfold fsr; rw [if_neg (by omega), if_pos z.2]
    refine wp_ald (by have := L72x; omega) ?_
    refine wp_ifeq (fun c => go f ?_) (fun c => ?_)
    · have c2 := A.2.mp (by omega)
      unfold nw1
      rw [ci]
      by_cases z : dr tab (txt s'.toInt.toNat) k.toInt = 10
      · rw [if_pos z]
        have S := aro_spec I st.1 41 st.1 I.2.1.1 I.2.1.2 (by have := I.2.1; omega)
        have o0 := I.2.2.2.2.2.2.2
        rw [S.1 (by omega)]; exact hf
      · rw [if_neg z]; exact hf
    · have c2 : dr tab (txt s'.toInt.toNat) k.toInt = 10 ∧ 0 < opn tab (txt s'.toInt.toNat) k.toInt.toNat := by
        by_cases z : dr tab (txt s'.toInt.toNat) k.toInt = 10 ∧ 0 < opn tab (txt s'.toInt.toNat) k.toInt.toNat
        · exact z
        · have := A.2.mpr z
          omega
      have o0 := I.2.2.2.2.2.2.2
      refine s_walk (T := nw1 tab (txt s'.toInt.toNat) st k.toInt.toNat) (f := st.1) I (by omega) hR (by have := I.2.1; omega) (by rw [hf]; omega) ?_ go
      unfold nw1
      rw [ci, if_pos c2.1, hf]
  · dsimp only
    rw [L.1]
    refine ⟨?_, fun i hi => absurd hi (by omega), fun i hi => ?_⟩
    · rw [setI_at, if_neg (by omega), setI_at, if_neg (by omega), setI_at, if_neg (by omega), setI_at, if_pos ⟨rfl, rfl⟩]; exact L.2.1
    · have : i = 0 := by
        have h2 : i < 1 := hi
        omega
      subst this
      refine ⟨?_, ?_, ?_⟩
      · rw [setI_at, if_neg (by omega), setI_at, if_neg (by omega), setI_at, if_pos ⟨rfl, rfl⟩]; rfl
      · rw [setI_at, if_neg (by omega), setI_at, if_pos ⟨rfl, rfl⟩]; exact L.1
      · rw [setI_at, if_pos ⟨rfl, rfl⟩]; exact L.2.2.1
