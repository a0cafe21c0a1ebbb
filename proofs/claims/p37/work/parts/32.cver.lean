/-! ===== save, use ===== -/
theorem s_copyCells {w : Wd} {a b n : Nat} (ha : LEN a = n) (hb : LEN b = n) (hab : a ≠ b) (hn : n < 50000) : Wp (f_X10_copyCells a b w) (fun _ w' => (∀ k, k ≠ b → w'.1 k = w.1 k) ∧ (∀ j, j < n → w'.1 b j = w.1 a j) ∧ w'.2 = w.2) := by
  have L := LIT
  have ea : (Int32.ofNat (LEN a)).toInt = n := by rw [ha]; exact i_ofNat (by omega)
  have eb : (Int32.ofNat (LEN b)).toInt = n := by rw [hb]; exact i_ofNat (by omega)
  unfold f_X10_copyCells f_X10_copyCells_2
  refine wp_loop (fun (σ : Nat × Nat × Int32 × Wd) => σ.1 = a ∧ σ.2.1 = b ∧ 0 ≤ σ.2.2.1.toInt ∧ σ.2.2.1.toInt ≤ n ∧ (∀ k, k ≠ b → σ.2.2.2.1 k = w.1 k) ∧ (∀ j : Nat, j < σ.2.2.1.toInt → σ.2.2.2.1 b j = w.1 a j) ∧ σ.2.2.2.2 = w.2) (fun (σ : Nat × Nat × Int32 × Wd) => n - σ.2.2.1.toInt.toNat) ?_ FU _ ⟨rfl, rfl, by dsimp only; omega, by dsimp only; omega, fun _ _ => rfl, fun j hj => by dsimp only at hj; omega, rfl⟩ (by rw [FUv]; dsimp only; omega)
  rintro rc ⟨a', b', k, w1⟩ ⟨e1, e2, hk0, hk1, hf, hg, h2⟩ ih
  dsimp only at e1 e2 hk0 hk1 hf hg h2
  subst e1; subst e2
  show Wp (g_X10_copyCells_2 rc a' b' k w1) _
  unfold g_X10_copyCells_2
  have fin : n ≤ k.toInt → Wp (some ((), w1)) (fun _ w' => (∀ k, k ≠ b' → w'.1 k = w.1 k) ∧ (∀ j, j < n → w'.1 b' j = w.1 a' j) ∧ w'.2 = w.2) := fun q => wp_ret ⟨hf, fun j hj => hg j (by omega), h2⟩
  refine wp_ifle (fun q => fin (by omega)) (fun q => wp_ifle (fun q => fin (by omega)) (fun q2 => ?_))
  refine wp_ald (by omega) (wp_ast (by omega) (wp_add (by omega) (fun z hz => ?_)))
  refine ih (a', b', z, _) ⟨rfl, rfl, by dsimp only; omega, by dsimp only; omega, fun m hm => ?_, fun j hj => ?_, h2⟩ (by dsimp only; omega)
  · dsimp only
    rw [← hf m hm]
    funext c; rw [setI_at, if_neg (fun q => hm q.1)]
  · dsimp only at hj ⊢
    rw [setI_at]
    by_cases e : j = k.toInt.toNat
    · rw [if_pos ⟨rfl, e⟩, hf _ hab, e]
    · rw [if_neg (fun q => e q.2)]; exact hg j (by omega)
theorem s_pluCopy {w : Wd} {a b : Nat} : Wp (f_X6_copyFrom a b w) (fun _ w' => (∀ k, k ≠ a → w'.1 k = w.1 k) ∧ (∀ f, f < 7 → w'.1 a f = w.1 b f) ∧ w'.2 = w.2) := by
  unfold f_X6_copyFrom f_X6_tell wr
  rw [bd_r]
  refine wp_ret ⟨fun k hk => ?_, fun f hf => ?_, rfl⟩
  · funext c
    simp only [setI_at]
    rw [if_neg (fun q => hk q.1), if_neg (fun q => hk q.1), if_neg (fun q => hk q.1), if_neg (fun q => hk q.1), if_neg (fun q => hk q.1), if_neg (fun q => hk q.1), if_neg (fun q => hk q.1)]
  · rcases (show f = 0 ∨ f = 1 ∨ f = 2 ∨ f = 3 ∨ f = 4 ∨ f = 5 ∨ f = 6 by omega) with rfl | rfl | rfl | rfl | rfl | rfl | rfl <;> simp [setI_at]
theorem okall_oc {S : Nat → Prop} {w w' : Wd} (h : okall w) (hr : ∀ k, ¬ S k → w'.1 k = w.1 k) (hs : ∀ k, S k → KD k ≠ 7) : okall w' :=
  okall_fr h (fun o ho => hr o (fun q => hs o q ho))
theorem s_langCopy {w : Wd} {A B n : Nat} {tab : Nat → Int} (hA : KD A = 2) (hB : KD B = 2) (hd : A + 13 ≤ B ∨ B + 13 ≤ A) (hn : n < 2) (hk : tok tab) (ho : okall w) (hu : urel w B tab n) :
    Wp (f_X2_copyFrom A B w) (fun _ w' => urel w' A tab n ∧ okall w' ∧ oc (fun k => A ≤ k ∧ k < A + 13) w w') := by
  have L := LIT
  have FA := lang_facts A hA
  have FB := lang_facts B hB
  have K := hk.2.1 n hn
  obtain ⟨u1, u2, u3, u4, u5, u6⟩ := hu
  have n0 := lang_n7 hA 0 (by omega)
  have n1 := lang_n7 hA 1 (by omega)
  have n2 := lang_n7 hA 2 (by omega)
  unfold f_X2_copyFrom
  refine wp_bd (s_copyCells (n := 102) (FB.1 0 (by omega)).2 (FA.1 0 (by omega)).2 (by omega) (by omega)) ?_
  rintro _ w1 ⟨f1, g1, h1⟩
  have ok1 : okall w1 := okall_fr ho (fun o h7 => f1 o (by rintro rfl; exact n0 h7))
  refine wp_bd (s_copyCells (n := 102) (FB.1 1 (by omega)).2 (FA.1 1 (by omega)).2 (by omega) (by omega)) ?_
  rintro _ w2 ⟨f2, g2, h2⟩
  have ok2 : okall w2 := okall_fr ok1 (fun o h7 => f2 o (by rintro rfl; exact n1 h7))
  refine wp_bd (s_copyCells (n := 102) (FB.1 2 (by omega)).2 (FA.1 2 (by omega)).2 (by omega) (by omega)) ?_
  rintro _ w3 ⟨f3, g3, h3⟩
  have ok3 : okall w3 := okall_fr ok2 (fun o h7 => f3 o (by rintro rfl; exact n2 h7))
  have F3 : ∀ k, ¬ (A + 1 ≤ k ∧ k < A + 4) → w3.1 k = w.1 k := fun k hk => (f3 k (by omega)).trans ((f2 k (by omega)).trans (f1 k (by omega)))
  have b4 : rl w3 (B + 4) = rl w (B + 4) := rl_fr (F3 _ (by omega)) (F3 _ (by omega))
  have b6 : rl w3 (B + 6) = rl w (B + 6) := rl_fr (F3 _ (by omega)) (F3 _ (by omega))
  refine wp_bd (s_takeOver (ok3 _ FA.2.1) (ok3 _ FB.2.1) (by rw [b4, FA.2.2.1]; omega)) ?_
  rintro _ w4 h4
  have ok4 := okall_rs ok3 h4
  rw [b4] at h4
  have c6 : rl w4 (B + 6) = rl w (B + 6) := by rw [rs_rl h4 FB.2.2.2.1 (by omega), b6]
  refine wp_bd (s_takeOver (ok4 _ FA.2.2.2.1) (ok4 _ FB.2.2.2.1) (by rw [c6, FA.2.2.2.2.1]; omega)) ?_
  rintro _ w5 h5
  have ok5 := okall_rs ok4 h5
  rw [c6] at h5
  have F5 : ∀ k, ¬ (A + 1 ≤ k ∧ k < A + 8) → w5.1 k = w.1 k := fun k hk => (h5.1 k (by omega) (by omega)).trans ((h4.1 k (by omega) (by omega)).trans (F3 k (by omega)))
  have G5 : ∀ r, r < 3 → ∀ u, u < 102 → w5.1 (A + 1 + r) u = w.1 (B + 1 + r) u := by
    intro r hr u hu
    rw [h5.1 _ (by omega) (by omega), h4.1 _ (by omega) (by omega)]
    rcases (show r = 0 ∨ r = 1 ∨ r = 2 by omega) with rfl | rfl | rfl
    · rw [f3 _ (by omega), f2 _ (by omega)]; exact g1 u hu
    · rw [f3 _ (by omega)]; exact (g2 u hu).trans (by rw [f1 _ (by omega)])
    · exact (g3 u hu).trans (by rw [f2 _ (by omega), f1 _ (by omega)])
  have a4 : rl w5 (A + 4) = rl w (B + 4) := by rw [rs_rl h5 FA.2.1 (by omega), rs_l h4]
  have a6 : rl w5 (A + 6) = rl w (B + 6) := rs_l h5
  have W2 : w5.2 = w.2 := h5.2.1.trans (h4.2.1.trans (h3.trans (h2.trans h1)))
  unfold f_X2_copyFrom_57
  have la : (Int32.ofNat (LEN (A + 8))).toInt = 4 := by rw [FA.2.2.2.2.2.1]; decide
  have lb : (Int32.ofNat (LEN (B + 8))).toInt = 4 := by rw [FB.2.2.2.2.2.1]; decide
  refine wp_loop (fun (σ : Nat × Nat × Int32 × Wd) => σ.1 = A ∧ σ.2.1 = B ∧ 0 ≤ σ.2.2.1.toInt ∧ σ.2.2.1.toInt ≤ 4 ∧ (∀ k, ¬ (A + 9 ≤ k ∧ k < A + 13) → σ.2.2.2.1 k = w5.1 k) ∧ (∀ i : Nat, i < σ.2.2.1.toInt → ∀ f, f < 7 → σ.2.2.2.1 (A + 9 + i) f = w.1 (B + 9 + i) f) ∧ σ.2.2.2.2 = w.2) (fun (σ : Nat × Nat × Int32 × Wd) => 4 - σ.2.2.1.toInt.toNat) ?_ FU _ ⟨rfl, rfl, by dsimp only; omega, by dsimp only; omega, fun _ _ => rfl, fun j hj => by dsimp only at hj; omega, W2⟩ (by rw [FUv]; dsimp only; omega)
  rintro rc ⟨a', b', k, w6⟩ ⟨e1, e2, hk0, hk1, hf, hg, h6⟩ ih
  dsimp only at e1 e2 hk0 hk1 hf hg h6
  subst e1; subst e2
  show Wp (g_X2_copyFrom_57 rc a' b' k w6) _
  unfold g_X2_copyFrom_57
  have fin : 4 ≤ k.toInt → Wp (f_X2_copyFrom_96 a' b' w6) (fun _ w' => urel w' a' tab n ∧ okall w' ∧ oc (fun k => a' ≤ k ∧ k < a' + 13) w w') := by
    intro q
    unfold f_X2_copyFrom_96 wr
    have ok6 : okall w6 := okall_fr ok5 (fun o h7 => hf o (by
      rintro ⟨p1, p2⟩
      have := (FA.2.2.2.2.2.2 (o - (a' + 9)) (by omega)).2
      rw [show a' + 9 + (o - (a' + 9)) = o by omega] at this
      omega))
    have fr : ∀ q, q ≠ a' → (setI w6 a' 6 (w6.1 b' 6)).1 q = w6.1 q := fun q hq => by funext c; rw [setI_at, if_neg (fun z => hq z.1)]
    have eb : w6.1 b' = w.1 b' := by rw [hf _ (by omega), F5 _ (by omega)]
    refine wp_ret ⟨⟨fun u hu r hr => ?_, ?_, ?_, fun i hi => ?_, ?_, fun i hi f hf1 => ?_⟩, okall_setI ok6 (by omega), fun q hq => ?_, h6⟩
    · rw [fr _ (by omega), hf _ (by omega), G5 r hr u (by omega)]; exact u1 u hu r hr
    · rw [rl_fr (fr _ (by omega)) (fr _ (by omega)), rl_fr (hf _ (by omega)) (hf _ (by omega)), a4]; exact u2
    · rw [rl_fr (fr _ (by omega)) (fr _ (by omega)), rl_fr (hf _ (by omega)) (hf _ (by omega)), a6]; exact u3
    · rw [rl_fr (fr (a' + 4) (by omega)) (fr _ (by omega)), rl_fr (hf (a' + 4) (by omega)) (hf _ (by omega)), a4, rl_fr (fr (a' + 6) (by omega)) (fr _ (by omega)), rl_fr (hf (a' + 6) (by omega)) (hf _ (by omega)), a6]
      obtain ⟨v1, v2, v3⟩ := u4 i hi
      refine ⟨v1, v2, fun r hr => ?_⟩
      rw [fr _ (by omega), hf _ (by omega), G5 r hr _ (by omega)]
      exact v3 r hr
    · rw [setI_at, if_pos ⟨rfl, rfl⟩, eb]; exact u5
    · rw [fr _ (by omega), hg i (by omega) f hf1]; exact u6 i hi f hf1
    · rw [fr q (by omega), hf q (by omega), F5 q (by omega)]
  refine wp_ifle (fun q => fin (by omega)) (fun q => wp_ifle (fun q => fin (by omega)) (fun q2 => ?_))
  refine wp_ard (by omega) (wp_ard (by omega) ?_)
  rw [(FA.2.2.2.2.2.2 k.toInt.toNat (by omega)).1, (FB.2.2.2.2.2.2 k.toInt.toNat (by omega)).1]
  refine wp_bd s_pluCopy ?_
  rintro _ w7 ⟨f7, g7, h7⟩
  refine wp_add (by omega) (fun z hz => ?_)
  refine ih (a', b', z, _) ⟨rfl, rfl, by dsimp only; omega, by dsimp only; omega, fun m hm => ?_, fun j hj f hf1 => ?_, h7.trans h6⟩ (by dsimp only; omega)
  · dsimp only
    rw [f7 m (by omega)]; exact hf m hm
  · dsimp only at hj ⊢
    by_cases e : j = k.toInt.toNat
    · rw [e, g7 f hf1, hf _ (by omega), F5 _ (by omega)]
    · rw [f7 _ (by omega)]; exact hg j (by omega) f hf1
theorem s_ruleCopy {w : Wd} {A B : Nat} (hA : KD A = 8) (hB : KD B = 8) (hd : A + 9 ≤ B ∨ B + 9 ≤ A) (ho : okall w) :
    Wp (f_X8_copyFrom A B w) (fun _ w' => (w'.1 A 0 = w.1 B 0 ∧ rl w' (A + 1) = rl w (B + 1) ∧ rl w' (A + 3) = rl w (B + 3) ∧ rl w' (A + 5) = rl w (B + 5) ∧ rl w' (A + 7) = rl w (B + 7)) ∧ okall w' ∧ oc (fun k => A ≤ k ∧ k < A + 9) w w') := by
  have FA := rule_facts A hA
  have FB := rule_facts B hB
  unfold f_X8_copyFrom f_X8_tell wr
  have okS : okall (setI w A 0 (w.1 B 0)) := okall_setI ho (by omega)
  have fr : ∀ k, k ≠ A → (setI w A 0 (w.1 B 0)).1 k = w.1 k := fun k hk => by funext m; rw [setI_at, if_neg (fun q => hk q.1)]
  have fl : ∀ q, q ≠ A → q + 1 ≠ A → rl (setI w A 0 (w.1 B 0)) q = rl w q := fun q h1 h2 => rl_fr (fr _ h1) (fr _ h2)
  refine wp_bd (P := fun _ w' => (w'.1 A 0 = w.1 B 0 ∧ rl w' (A + 1) = rl w (B + 1) ∧ rl w' (A + 3) = rl w (B + 3) ∧ rl w' (A + 5) = rl w (B + 5) ∧ rl w' (A + 7) = rl w (B + 7)) ∧ okall w' ∧ oc (fun k => A ≤ k ∧ k < A + 9) w w') ?_ (fun _ w' h => wp_ret h)
  have e1 : rl (setI w A 0 (w.1 B 0)) (B + 1) = rl w (B + 1) := by rw [fl _ (by omega) (by omega)]
  have c1 := rl_le (ho _ FB.1)
  have c2 := rl_le (ho _ FB.2.2.1)
  have c3 := rl_le (ho _ FB.2.2.2.2.1)
  have c4 := rl_le (ho _ FB.2.2.2.2.2.2.1)
  simp only [Nat.add_assoc, Nat.reduceAdd] at c1 c2 c3 c4
  refine wp_bd (s_takeOver (okS _ FA.1) (okS _ FB.1) (by rw [e1, FA.2.1]; omega)) ?_
  rintro _ w1 h1
  rw [e1] at h1
  have ok1 := okall_rs okS h1
  have e2 : rl w1 (B + 3) = rl w (B + 3) := by rw [rs_rl h1 FB.2.2.1 (by omega), fl _ (by omega) (by omega)]
  refine wp_bd (s_takeOver (ok1 _ FA.2.2.1) (ok1 _ FB.2.2.1) (by rw [e2, FA.2.2.2.1]; omega)) ?_
  rintro _ w2 h2
  rw [e2] at h2
  have ok2 := okall_rs ok1 h2
  have e3 : rl w2 (B + 5) = rl w (B + 5) := by rw [rs_rl h2 FB.2.2.2.2.1 (by omega), rs_rl h1 FB.2.2.2.2.1 (by omega), fl _ (by omega) (by omega)]
  refine wp_bd (s_takeOver (ok2 _ FA.2.2.2.2.1) (ok2 _ FB.2.2.2.2.1) (by rw [e3, FA.2.2.2.2.2.1]; omega)) ?_
  rintro _ w3 h3
  rw [e3] at h3
  have ok3 := okall_rs ok2 h3
  have e4 : rl w3 (B + 7) = rl w (B + 7) := by rw [rs_rl h3 FB.2.2.2.2.2.2.1 (by omega), rs_rl h2 FB.2.2.2.2.2.2.1 (by omega), rs_rl h1 FB.2.2.2.2.2.2.1 (by omega), fl _ (by omega) (by omega)]
  refine wp_bd (s_takeOver (ok3 _ FA.2.2.2.2.2.2.1) (ok3 _ FB.2.2.2.2.2.2.1) (by rw [e4, FA.2.2.2.2.2.2.2]; omega)) ?_
  rintro _ w4 h4
  rw [e4] at h4
  refine wp_ret ⟨⟨?_, ?_, ?_, ?_, ?_⟩, okall_rs ok3 h4, fun q hq => ?_, h4.2.1.trans (h3.2.1.trans (h2.2.1.trans h1.2.1))⟩
  · rw [h4.1 A (by omega) (by omega), h3.1 A (by omega) (by omega), h2.1 A (by omega) (by omega), h1.1 A (by omega) (by omega), setI_at, if_pos ⟨rfl, rfl⟩]
  · rw [rs_rl h4 FA.1 (by omega), rs_rl h3 FA.1 (by omega), rs_rl h2 FA.1 (by omega), rs_l h1]
  · rw [rs_rl h4 FA.2.2.1 (by omega), rs_rl h3 FA.2.2.1 (by omega), rs_l h2]
  · rw [rs_rl h4 FA.2.2.2.2.1 (by omega), rs_l h3]
  · exact rs_l h4
  · rw [h4.1 q (by omega) (by omega), h3.1 q (by omega) (by omega), h2.1 q (by omega) (by omega), h1.1 q (by omega) (by omega), fr q (by omega)]
theorem tab_apart {A B : Nat} (hA : KD A = 9) (hB : KD B = 9) (h : A ≠ B) : A + 124 ≤ B ∨ B + 124 ≤ A := by
  have a := tab_cases A hA
  have b := tab_cases B hB
  omega
theorem s_tabCopy {w : Wd} {A B : Nat} {tab : Nat → Int} (hA : KD A = 9) (hB : KD B = 9) (hab : A ≠ B) (hk : tok tab) (ho : okall w) (hr : trel w B tab) :
    Wp (f_X9_copyFrom A B w) (fun _ w' => trel w' A tab ∧ okall w' ∧ oc (fun k => A ≤ k ∧ k < A + 124) w w') := by
  have L := LIT
  have FA := tab_facts A hA
  have FB := tab_facts B hB
  have GA := tab_kinds A hA
  have GB := tab_kinds B hB
  have hd := tab_apart hA hB hab
  have kA : ∀ j, j < 10 → KD (A + 1 + j) ≠ 7 := fun j hj => by have := (FA.1 j hj).1; omega
  -- one row of letters
  have one : ∀ (j : Nat), j < 10 → ∀ (w1 : Wd), okall w1 → oc (fun k => A ≤ k ∧ k < A + 124) w w1 → (∀ i, i < j → ∀ l, l < 96 → w1.1 (A + 1 + i) l = w.1 (B + 1 + i) l) →
      Wp (f_X10_copyCells (B + 1 + j) (A + 1 + j) w1) (fun _ w2 => okall w2 ∧ oc (fun k => A ≤ k ∧ k < A + 124) w w2 ∧ (∀ i, i < j + 1 → ∀ l, l < 96 → w2.1 (A + 1 + i) l = w.1 (B + 1 + i) l)) := by
    intro j hj w1 ok1 oc1 h1
    refine (s_copyCells (n := 96) (FB.1 j hj).2 (FA.1 j hj).2 (by omega) (by omega)).mono ?_
    rintro _ w2 ⟨f2, g2, h2⟩
    refine ⟨okall_fr ok1 (fun o h7 => f2 o (by rintro rfl; exact kA j hj h7)), ⟨fun k hk => (f2 k (by omega)).trans (oc1.1 k hk), h2.trans oc1.2⟩, fun i hi l hl => ?_⟩
    by_cases e : i = j
    · subst e; rw [g2 l hl, oc1.1 _ (by omega)]
    · rw [f2 _ (by omega)]; exact h1 i (by omega) l hl
  unfold f_X9_copyFrom
  refine wp_bd (one 0 (by omega) w ho oc_rf (fun i hi => by omega)) ?_
  rintro _ w1 ⟨ok1, oc1, g1⟩
  refine wp_bd (one 1 (by omega) w1 ok1 oc1 g1) ?_
  rintro _ w2 ⟨ok2, oc2, g2⟩
  refine wp_bd (one 2 (by omega) w2 ok2 oc2 g2) ?_
  rintro _ w3 ⟨ok3, oc3, g3⟩
  refine wp_bd (one 3 (by omega) w3 ok3 oc3 g3) ?_
  rintro _ w4 ⟨ok4, oc4, g4⟩
  refine wp_bd (one 4 (by omega) w4 ok4 oc4 g4) ?_
  rintro _ w5 ⟨ok5, oc5, g5⟩
  refine wp_bd (one 5 (by omega) w5 ok5 oc5 g5) ?_
  rintro _ w6 ⟨ok6, oc6, g6⟩
  refine wp_bd (one 6 (by omega) w6 ok6 oc6 g6) ?_
  rintro _ w7 ⟨ok7, oc7, g7⟩
  refine wp_bd (one 7 (by omega) w7 ok7 oc7 g7) ?_
  rintro _ w8 ⟨ok8, oc8, g8⟩
  refine wp_bd (one 8 (by omega) w8 ok8 oc8 g8) ?_
  rintro _ w9 ⟨ok9, oc9, g9⟩
  refine wp_bd (one 9 (by omega) w9 ok9 oc9 g9) ?_
  rintro _ v ⟨okv, ocv, gv⟩
  clear ok1 oc1 g1 ok2 oc2 g2 ok3 oc3 g3 ok4 oc4 g4 ok5 oc5 g5 ok6 oc6 g6 ok7 oc7 g7 ok8 oc8 g8 ok9 oc9 g9 w1 w2 w3 w4 w5 w6 w7 w8 w9 one
  have lv : ∀ u : Wd, (∀ k, A + 1 ≤ k ∧ k < A + 11 → u.1 k = v.1 k) → ∀ l, l < 96 → lrel u A tab l := by
    intro u hu l hl
    have hh := hr.1 l hl
    have e : ∀ i, i < 10 → u.1 (A + 1 + i) l = w.1 (B + 1 + i) l := fun i hi => by rw [hu _ (by omega)]; exact gv i hi l hl
    have o0 : u.1 (A + 1) l = w.1 (B + 1) l := e 0 (by omega)
    have o1 : u.1 (A + 2) l = w.1 (B + 2) l := e 1 (by omega)
    have o2 : u.1 (A + 3) l = w.1 (B + 3) l := e 2 (by omega)
    have o3 : u.1 (A + 4) l = w.1 (B + 4) l := e 3 (by omega)
    have o4 : u.1 (A + 5) l = w.1 (B + 5) l := e 4 (by omega)
    have o5 : u.1 (A + 6) l = w.1 (B + 6) l := e 5 (by omega)
    have o6 : u.1 (A + 7) l = w.1 (B + 7) l := e 6 (by omega)
    have o7 : u.1 (A + 8) l = w.1 (B + 8) l := e 7 (by omega)
    have o8 : u.1 (A + 9) l = w.1 (B + 9) l := e 8 (by omega)
    have o9 : u.1 (A + 10) l = w.1 (B + 10) l := e 9 (by omega)
    unfold lrel at hh ⊢
    rw [o0, o1, o2, o3, o4, o5, o6, o7, o8, o9]
    exact hh
  have rb : ∀ u : Wd, oc (fun k => A ≤ k ∧ k < A + 124) w u → trel u B tab := fun u hu => trel_fr hk hr (fun k a b => hu.1 k (by omega))
  obtain ⟨kw1, kw2, kw3⟩ := hk.2.2.1
  obtain ⟨kr1, kr2, kr3⟩ := hk.2.2.2
  -- rules, last
  have rules : ∀ u : Wd, okall u → oc (fun k => A ≤ k ∧ k < A + 124) w u → (∀ k, A + 1 ≤ k ∧ k < A + 11 → u.1 k = v.1 k) → (∀ n, n < 2 → urel u (A + 12 + 13 * n) tab n) → ((u.1 A 12).toInt = tab 1502 ∧ ∀ i : Nat, i < tab 1502 → rl u (A + 39 + 2 * i) = tl tab (1503 + 9 * i + 1) (tab (1503 + 9 * i)).toNat) →
      Wp (f_X9_copyFrom_202 A B 0 u) (fun _ w' => trel w' A tab ∧ okall w' ∧ oc (fun k => A ≤ k ∧ k < A + 124) w w') := by
    intro u oku ocu lu uu wu
    have la : (Int32.ofNat (LEN (A + 51))).toInt = 8 := by rw [FA.2.2.2.1]; decide
    have lb : (Int32.ofNat (LEN (B + 51))).toInt = 8 := by rw [FB.2.2.2.1]; decide
    unfold f_X9_copyFrom_202
    refine wp_loop (fun (σ : Nat × Nat × Int32 × Wd) => σ.1 = A ∧ σ.2.1 = B ∧ 0 ≤ σ.2.2.1.toInt ∧ σ.2.2.1.toInt ≤ 8 ∧ okall σ.2.2.2 ∧ oc (fun k => A ≤ k ∧ k < A + 124) w σ.2.2.2 ∧ (∀ k, ¬ (A + 52 ≤ k ∧ k < A + 124) → σ.2.2.2.1 k = u.1 k) ∧ (∀ i : Nat, i < σ.2.2.1.toInt → i < tab 1557 → ruel σ.2.2.2 (A + 52 + 9 * i) tab i)) (fun (σ : Nat × Nat × Int32 × Wd) => 8 - σ.2.2.1.toInt.toNat) ?_ FU _ ⟨rfl, rfl, by dsimp only; omega, by dsimp only; omega, oku, ocu, fun _ _ => rfl, fun j hj => by dsimp only at hj; omega⟩ (by rw [FUv]; dsimp only; omega)
    rintro rc ⟨a', b', k, w6⟩ ⟨e1, e2, hk0, hk1, ok6, oc6, hf, hg⟩ ih
    dsimp only at e1 e2 hk0 hk1 ok6 oc6 hf hg
    subst e1; subst e2
    show Wp (g_X9_copyFrom_202 rc a' b' k w6) _
    unfold g_X9_copyFrom_202
    have fin : 8 ≤ k.toInt → Wp (f_X9_copyFrom_241 a' b' w6) (fun _ w' => trel w' a' tab ∧ okall w' ∧ oc (fun k => a' ≤ k ∧ k < a' + 124) w w') := by
      intro q
      unfold f_X9_copyFrom_241 wr
      have fr : ∀ q, q ≠ a' → (setI w6 a' 14 (w6.1 b' 14)).1 q = w6.1 q := fun q hq => by funext c; rw [setI_at, if_neg (fun z => hq z.1)]
      have eb : w6.1 b' = w.1 b' := oc6.1 _ (by omega)
      refine wp_ret ⟨⟨lv _ (fun q hq => by rw [fr q (by omega), hf q (by omega)]; exact lu q hq), fun n hn => ?_, ⟨?_, fun i hi => ?_⟩, ?_, fun i hi => ?_⟩, okall_setI ok6 (by omega), oc_tr oc6 (oc_setI (by omega))⟩
      · exact urel_fr (hk.2.1 n hn).1 (hk.2.1 n hn).2.1 (fun q p1 p2 => by rw [fr q (by omega), hf q (by omega)]) (fun _ _ => rfl) (uu n hn)
      · rw [setI_at, if_neg (by omega), hf a' (by omega)]; exact wu.1
      · rw [rl_fr (fr _ (by omega)) (fr _ (by omega)), rl_fr (hf _ (by omega)) (hf _ (by omega))]; exact wu.2 i hi
      · rw [setI_at, if_pos ⟨rfl, rfl⟩, eb]; exact hr.2.2.2.1
      · exact ruel_fr (by omega) (kr3 i hi) (fun q p1 p2 => fr q (by omega)) (fun _ _ => rfl) (hg i (by omega) hi)
    refine wp_ifle (fun q => fin (by omega)) (fun q => wp_ifle (fun q => fin (by omega)) (fun q2 => ?_))
    refine wp_ard (by omega) (wp_ard (by omega) ?_)
    rw [FA.2.2.2.2.2.2 k.toInt.toNat (by omega), FB.2.2.2.2.2.2 k.toInt.toNat (by omega)]
    have step : ∀ w7 : Wd, okall w7 → oc (fun q => a' + 52 + 9 * k.toInt.toNat ≤ q ∧ q < a' + 52 + 9 * k.toInt.toNat + 9) w6 w7 → (k.toInt < tab 1557 → ruel w7 (a' + 52 + 9 * k.toInt.toNat) tab k.toInt.toNat) → Wp (lt (k + 1) fun x4 => rc (a', b', x4, w7)) (fun _ w' => trel w' a' tab ∧ okall w' ∧ oc (fun k => a' ≤ k ∧ k < a' + 124) w w') := by
      intro w7 ok7 oc7 h7
      refine wp_add (by omega) (fun z hz => ?_)
      refine ih (a', b', z, _) ⟨rfl, rfl, by dsimp only; omega, by dsimp only; omega, ok7, oc_tr oc6 (oc_mono oc7 (fun q hq => by omega)), fun m hm => ?_, fun j hj hj2 => ?_⟩ (by dsimp only; omega)
      · dsimp only; rw [oc7.1 m (by omega)]; exact hf m hm
      · dsimp only at hj ⊢
        by_cases e : j = k.toInt.toNat
        · rw [e]; exact h7 (by omega)
        · exact ruel_fr (by omega) (kr3 j hj2) (fun q p1 p2 => oc7.1 q (by omega)) (fun _ _ => rfl) (hg j (by omega) hj2)
    refine wp_bd (s_ruleCopy (GA.2.2 _ (by omega)) (GB.2.2 _ (by omega)) (by omega) ok6) ?_
    rintro _ w7 ⟨⟨p0, p1, p2, p3, p4⟩, ok7, oc7⟩
    refine step w7 ok7 oc7 (fun c => ?_)
    have := (rb w6 oc6).2.2.2.2 k.toInt.toNat (by omega)
    unfold ruel at this ⊢
    rw [p0, p1, p2, p3, p4]
    exact this
  -- words
  have words : ∀ u : Wd, okall u → oc (fun k => A ≤ k ∧ k < A + 124) w u → (∀ k, A + 1 ≤ k ∧ k < A + 11 → u.1 k = v.1 k) → (∀ n, n < 2 → urel u (A + 12 + 13 * n) tab n) →
      Wp (f_X9_copyFrom_153 A B 0 u) (fun _ w' => trel w' A tab ∧ okall w' ∧ oc (fun k => A ≤ k ∧ k < A + 124) w w') := by
    intro u oku ocu lu uu
    have la : (Int32.ofNat (LEN (A + 38))).toInt = 6 := by rw [FA.2.2.1]; decide
    have lb : (Int32.ofNat (LEN (B + 38))).toInt = 6 := by rw [FB.2.2.1]; decide
    unfold f_X9_copyFrom_153
    refine wp_loop (fun (σ : Nat × Nat × Int32 × Wd) => σ.1 = A ∧ σ.2.1 = B ∧ 0 ≤ σ.2.2.1.toInt ∧ σ.2.2.1.toInt ≤ 6 ∧ okall σ.2.2.2 ∧ oc (fun k => A ≤ k ∧ k < A + 124) w σ.2.2.2 ∧ (∀ k, ¬ (A + 39 ≤ k ∧ k < A + 51) → σ.2.2.2.1 k = u.1 k) ∧ (∀ i : Nat, i < σ.2.2.1.toInt → rl σ.2.2.2 (A + 39 + 2 * i) = rl w (B + 39 + 2 * i))) (fun (σ : Nat × Nat × Int32 × Wd) => 6 - σ.2.2.1.toInt.toNat) ?_ FU _ ⟨rfl, rfl, by dsimp only; omega, by dsimp only; omega, oku, ocu, fun _ _ => rfl, fun j hj => by dsimp only at hj; omega⟩ (by rw [FUv]; dsimp only; omega)
    rintro rc ⟨a', b', k, w6⟩ ⟨e1, e2, hk0, hk1, ok6, oc6, hf, hg⟩ ih
    dsimp only at e1 e2 hk0 hk1 ok6 oc6 hf hg
    subst e1; subst e2
    show Wp (g_X9_copyFrom_153 rc a' b' k w6) _
    unfold g_X9_copyFrom_153
    have fin : 6 ≤ k.toInt → Wp (f_X9_copyFrom_192 a' b' w6) (fun _ w' => trel w' a' tab ∧ okall w' ∧ oc (fun k => a' ≤ k ∧ k < a' + 124) w w') := by
      intro q
      unfold f_X9_copyFrom_192
      refine wp_wr ?_
      have fr : ∀ q, q ≠ a' → (setI w6 a' 12 (w6.1 b' 12)).1 q = w6.1 q := fun q hq => by funext c; rw [setI_at, if_neg (fun z => hq z.1)]
      have eb : w6.1 b' = w.1 b' := oc6.1 _ (by omega)
      refine rules _ (okall_setI ok6 (by omega)) (oc_tr oc6 (oc_setI (by omega))) (fun q hq => by rw [fr q (by omega), hf q (by omega)]; exact lu q hq) (fun n hn => ?_) ⟨?_, fun i hi => ?_⟩
      · exact urel_fr (hk.2.1 n hn).1 (hk.2.1 n hn).2.1 (fun q p1 p2 => by rw [fr q (by omega), hf q (by omega)]) (fun _ _ => rfl) (uu n hn)
      · rw [setI_at, if_pos ⟨rfl, rfl⟩, eb]; exact hr.2.2.1.1
      · rw [rl_fr (fr _ (by omega)) (fr _ (by omega)), hg i (by omega)]; exact hr.2.2.1.2 i hi
    refine wp_ifle (fun q => fin (by omega)) (fun q => wp_ifle (fun q => fin (by omega)) (fun q2 => ?_))
    refine wp_ard (by omega) (wp_ard (by omega) ?_)
    rw [FA.2.2.2.2.2.1 k.toInt.toNat (by omega), FB.2.2.2.2.2.1 k.toInt.toNat (by omega)]
    have KA := GA.2.1 k.toInt.toNat (by omega)
    have KB := GB.2.1 k.toInt.toNat (by omega)
    have cB := rl_le (ok6 _ KB.1)
    rw [show b' + 39 + 2 * k.toInt.toNat + 1 = b' + 40 + 2 * k.toInt.toNat by omega, KB.2] at cB
    refine wp_bd (s_takeOver (ok6 _ KA.1) (ok6 _ KB.1) (by rw [show a' + 39 + 2 * k.toInt.toNat + 1 = a' + 40 + 2 * k.toInt.toNat by omega, KA.2]; exact cB)) ?_
    rintro _ w7 h7
    refine wp_add (by omega) (fun z hz => ?_)
    refine ih (a', b', z, _) ⟨rfl, rfl, by dsimp only; omega, by dsimp only; omega, okall_rs ok6 h7, oc_tr oc6 (oc_rs h7 (by omega) (by omega)), fun m hm => ?_, fun j hj => ?_⟩ (by dsimp only; omega)
    · dsimp only; rw [h7.1 m (by omega) (by omega)]; exact hf m hm
    · dsimp only at hj ⊢
      by_cases e : j = k.toInt.toNat
      · rw [e, rs_l h7]; exact rl_fr (oc6.1 _ (by omega)) (oc6.1 _ (by omega))
      · rw [rs_rl h7 (GA.2.1 j (by omega)).1 (by omega)]; exact hg j (by omega)
  -- languages
  have la : (Int32.ofNat (LEN (A + 11))).toInt = 2 := by rw [FA.2.1]; decide
  have lb : (Int32.ofNat (LEN (B + 11))).toInt = 2 := by rw [FB.2.1]; decide
  unfold f_X9_copyFrom_112
  refine wp_loop (fun (σ : Nat × Nat × Int32 × Wd) => σ.1 = A ∧ σ.2.1 = B ∧ 0 ≤ σ.2.2.1.toInt ∧ σ.2.2.1.toInt ≤ 2 ∧ okall σ.2.2.2 ∧ oc (fun k => A ≤ k ∧ k < A + 124) w σ.2.2.2 ∧ (∀ k, ¬ (A + 12 ≤ k ∧ k < A + 38) → σ.2.2.2.1 k = v.1 k) ∧ (∀ n : Nat, n < σ.2.2.1.toInt → urel σ.2.2.2 (A + 12 + 13 * n) tab n)) (fun (σ : Nat × Nat × Int32 × Wd) => 2 - σ.2.2.1.toInt.toNat) ?_ FU _ ⟨rfl, rfl, by dsimp only; omega, by dsimp only; omega, okv, ocv, fun _ _ => rfl, fun j hj => by dsimp only at hj; omega⟩ (by rw [FUv]; dsimp only; omega)
  rintro rc ⟨a', b', k, w6⟩ ⟨e1, e2, hk0, hk1, ok6, oc6, hf, hg⟩ ih
  dsimp only at e1 e2 hk0 hk1 ok6 oc6 hf hg
  subst e1; subst e2
  show Wp (g_X9_copyFrom_112 rc a' b' k w6) _
  unfold g_X9_copyFrom_112
  have fin : 2 ≤ k.toInt → Wp (f_X9_copyFrom_151 a' b' w6) (fun _ w' => trel w' a' tab ∧ okall w' ∧ oc (fun k => a' ≤ k ∧ k < a' + 124) w w') := by
    intro q
    unfold f_X9_copyFrom_151
    exact words w6 ok6 oc6 (fun q hq => hf q (by omega)) (fun n hn => hg n (by omega))
  refine wp_ifle (fun q => fin (by omega)) (fun q => wp_ifle (fun q => fin (by omega)) (fun q2 => ?_))
  refine wp_ard (by omega) (wp_ard (by omega) ?_)
  rw [FA.2.2.2.2.1 k.toInt.toNat (by omega), FB.2.2.2.2.1 k.toInt.toNat (by omega)]
  refine wp_bd (s_langCopy (n := k.toInt.toNat) (tab := tab) (GA.1 _ (by omega)) (GB.1 _ (by omega)) (by omega) (by omega) hk ok6 ((rb w6 oc6).2.1 _ (by omega))) ?_
  rintro _ w7 ⟨u7, ok7, oc7⟩
  refine wp_add (by omega) (fun z hz => ?_)
  refine ih (a', b', z, _) ⟨rfl, rfl, by dsimp only; omega, by dsimp only; omega, ok7, oc_tr oc6 (oc_mono oc7 (fun q hq => by omega)), fun m hm => ?_, fun j hj => ?_⟩ (by dsimp only; omega)
  · dsimp only; rw [oc7.1 m (by omega)]; exact hf m hm
  · dsimp only at hj ⊢
    by_cases e : j = k.toInt.toNat
    · rw [e]; exact u7
    · exact urel_fr (hk.2.1 j (by omega)).1 (hk.2.1 j (by omega)).2.1 (fun q p1 p2 => oc7.1 q (by omega)) (fun _ _ => rfl) (hg j (by omega))

/-! the versions -/
def cvr (w : Wd) (nv : Nat) (sav : Nat → Nat → Int) : Prop := (w.1 0 2).toInt = nv ∧ ∀ v, v < nv → trel w (126 + 124 * v) (sav v)
def svset (sav : Nat → Nat → Int) (v : Nat) (tab : Nat → Int) : Nat → Nat → Int := fun k => if k = v then tab else sav k
theorem ver_kd : ∀ v, v < 4 → KD (126 + 124 * v) = 9 := by decide +kernel
/-- cells of the class's versions -/
def vin (k : Nat) : Prop := k = 0 ∨ (126 ≤ k ∧ k < 622)
theorem trel_cg {w : Wd} {T : Nat} {tab tab' : Nat → Int} (hk : tok tab) (h : trel w T tab) (e : ∀ i, i < 1740 → tab' i = tab i) : trel w T tab' :=
  ⟨fun l hl => lrel_fr (fun _ _ => rfl) (fun j hj => e _ (by omega)) (h.1 l hl), trU_fr hk h (fun _ _ _ => rfl) (fun i hi => e i (by omega)), trW_fr hk h (fun _ _ => rfl) (fun i hi => e i (by omega)), trR_fr hk h (fun _ _ => rfl) (fun i hi => e i (by omega))⟩
theorem k_save {w : Wd} {tab : Nat → Int} {nv : Nat} {sav : Nat → Nat → Int} (hn : nv ≤ 4) (hk : tok tab) (hs : ∀ v, v < nv → tok (sav v)) (h : trel w 1 tab) (hv : cvr w nv sav) (ho : okall w) :
    Wp (f_X10_save w) (fun r w' => (nv = 4 ∧ r = .inl 3 ∧ w' = w) ∨ (nv ≠ 4 ∧ (∃ x : Int32, r = .inr x ∧ x.toInt = nv) ∧ cvr w' (nv + 1) (svset sav nv tab) ∧ okall w' ∧ oc vin w w' ∧ ∀ f, f ≠ 2 → w'.1 0 f = w.1 0 f)) := by
  have L := LIT
  obtain ⟨h1, h2⟩ := hv
  have l4 : (Int32.ofNat (LEN 125)).toInt = 4 := by rw [LENs.2.1]; decide
  unfold f_X10_save f_X10_save_19
  by_cases full : nv = 4
  · exact wp_iflt (fun q => by omega) (fun q => wp_iflt (fun q2 => by omega) (fun q2 => wp_ret (Or.inl ⟨full, rfl, rfl⟩)))
  · refine wp_iflt (fun q => by omega) (fun q => wp_iflt (fun q2 => wp_ard (by rw [LENs.2.1]; omega) ?_) (fun q2 => by omega))
    rw [RV_125 _ (by omega), show (w.1 0 2).toInt.toNat = nv by omega]
    refine wp_bd (s_tabCopy (ver_kd nv (by omega)) (by decide +kernel) (by omega) hk ho h) ?_
    rintro _ w1 ⟨t1, ok1, oc1⟩
    have e0 : w1.1 0 = w.1 0 := oc1.1 0 (by omega)
    have x1 : (w1.1 0 2 + 1).toInt = nv + 1 := by rw [e0, i_add (by omega), L.2.1, h1]
    have fr : ∀ q, q ≠ 0 → (setI w1 0 2 (w1.1 0 2 + 1)).1 q = w1.1 q := fun q hq => by funext c; rw [setI_at, if_neg (fun z => hq z.1)]
    refine wp_wr (wp_ret (Or.inr ⟨full, ⟨_, rfl, ?_⟩, ⟨?_, fun v hv => ?_⟩, okall_setI ok1 (by decide +kernel), oc_tr (oc_mono oc1 (fun q hq => by unfold vin; omega)) (oc_setI (by unfold vin; omega)), fun f hf => ?_⟩))
    · rw [setI_at, if_pos ⟨rfl, rfl⟩, i_sub (by omega), L.2.1]; omega
    · rw [setI_at, if_pos ⟨rfl, rfl⟩]; omega
    · unfold svset
      by_cases e : v = nv
      · rw [if_pos e, e]
        exact trel_fr hk t1 (fun k a b => fr k (by omega))
      · rw [if_neg e]
        exact trel_fr (hs v (by omega)) (h2 v (by omega)) (fun k a b => by rw [fr k (by omega), oc1.1 k (by omega)])
    · rw [setI_at, if_neg (fun q => hf q.2), e0]
def bad_ver (nv : Nat) (v : Int) : Prop := ¬ (0 ≤ v ∧ v < nv)
theorem k_use {w : Wd} {nv : Nat} {sav : Nat → Nat → Int} {v : Int32} (hn : nv ≤ 4) (hs : ∀ v, v < nv → tok (sav v)) (hv : cvr w nv sav) (ho : okall w) :
    Wp (f_X10_use v w) (fun r w' => (bad_ver nv v.toInt ∧ r = .inl 1 ∧ w' = w) ∨ (¬ bad_ver nv v.toInt ∧ r = .inr () ∧ trel w' 1 (sav v.toInt.toNat) ∧ okall w' ∧ oc tin w w')) := by
  have L := LIT
  obtain ⟨h1, h2⟩ := hv
  have l4 : (Int32.ofNat (LEN 125)).toInt = 4 := by rw [LENs.2.1]; decide
  unfold f_X10_use f_X10_use_21
  refine wp_iflt (fun q => wp_ret (Or.inl ⟨by unfold bad_ver; omega, rfl, rfl⟩)) (fun q => wp_ifle (fun q2 => wp_ret (Or.inl ⟨by unfold bad_ver; omega, rfl, rfl⟩)) (fun q2 => wp_iflt (fun q3 => wp_ard (by rw [LENs.2.1]; omega) ?_) (fun q3 => by omega)))
  rw [RV_125 _ (by omega)]
  refine wp_bd (s_tabCopy (by decide +kernel) (ver_kd v.toInt.toNat (by omega)) (by omega) (hs _ (by omega)) ho (h2 _ (by omega))) ?_
  rintro _ w1 ⟨t1, ok1, oc1⟩
  exact wp_ret (Or.inr ⟨by unfold bad_ver; omega, rfl, t1, ok1, oc_mono oc1 (fun q hq => by unfold tin; omega)⟩)
