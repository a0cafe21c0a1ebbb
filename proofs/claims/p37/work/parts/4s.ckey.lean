/-! ===== orders: units, weights, keys ===== -/
/-- the contraction of two letters: its number, -1 for none -/
def ctf (tab : Nat → Int) (n : Nat) (a b : Int) : Nat → Int
  | 0 => -1
  | k + 1 => if ctf tab n a b k ≠ -1 then ctf tab n a b k else if tab (1442 + 5 * (6 * n + k)) = a ∧ tab (1442 + 5 * (6 * n + k) + 1) = b then (k : Int) else -1
def ct (tab : Nat → Int) (n : Nat) (a b : Int) : Int := ctf tab n a b (tab (1440 + n)).toNat
theorem ctf_no {tab : Nat → Int} {n : Nat} {a b : Int} : ∀ k : Nat, (∀ i, i < k → ¬ cm tab n a b i) → ctf tab n a b k = -1 := by
  intro k
  induction k with
  | zero => intro _; rfl
  | succ k ih =>
    intro h
    rw [ctf, if_neg (fun q => q (ih (fun i hi => h i (by omega)))), if_neg (show ¬ (tab (1442 + 5 * (6 * n + k)) = a ∧ tab (1442 + 5 * (6 * n + k) + 1) = b) from h k (by omega))]
theorem ctf_yes {tab : Nat → Int} {n : Nat} {a b : Int} {i : Nat} (hi : cm tab n a b i) : ∀ k : Nat, i < k → (∀ j, j < k → cm tab n a b j → j = i) → ctf tab n a b k = i := by
  intro k
  induction k with
  | zero => intro h; omega
  | succ k ih =>
    intro h hu
    rw [ctf]
    by_cases e : i = k
    · subst e
      rw [if_neg (fun q => q (ctf_no i (fun j hj hc => by have := hu j (by omega) hc; omega))), if_pos (show tab (1442 + 5 * (6 * n + i)) = a ∧ tab (1442 + 5 * (6 * n + i) + 1) = b from hi)]
    · rw [ih (by omega) (fun j hj hc => hu j (by omega) hc), if_pos (by omega)]
theorem ct_no {tab : Nat → Int} {n : Nat} {a b : Int} (h : ∀ i : Nat, i < tab (1440 + n) → ¬ cm tab n a b i) : ct tab n a b = -1 := ctf_no _ (fun i hi => h i (by omega))
theorem ct_yes {tab : Nat → Int} {n : Nat} {a b : Int} (hk : tok tab) (hn : n < 2) {i : Nat} (hi : i < tab (1440 + n)) (hc : cm tab n a b i) : ct tab n a b = i := by
  refine ctf_yes hc _ (by omega) (fun j hj hc2 => ?_)
  have U := (hk.2.1 n hn).2.2.1
  rcases Nat.lt_trichotomy i j with z | z | z
  · exact absurd ⟨hc.1.trans hc2.1.symm, hc.2.trans hc2.2.symm⟩ (U i j z (by omega))
  · exact z.symm
  · exact absurd ⟨hc2.1.trans hc.1.symm, hc2.2.trans hc.2.symm⟩ (U j i z hi)
theorem ct_rng {tab : Nat → Int} {n : Nat} {a b : Int} (hk : tok tab) (hn : n < 2) : ct tab n a b = -1 ∨ (0 ≤ ct tab n a b ∧ ct tab n a b < tab (1440 + n)) := by
  by_cases h : ∃ i : Nat, i < tab (1440 + n) ∧ cm tab n a b i
  · obtain ⟨i, h1, h2⟩ := h
    rw [ct_yes hk hn h1 h2]
    exact Or.inr ⟨by omega, h1⟩
  · exact Or.inl (ct_no (fun i hi hc => h ⟨i, hi, hc⟩))
theorem ct_out {tab : Nat → Int} {n : Nat} {a : Int} (hk : tok tab) (hn : n < 2) : ct tab n a (-1) = -1 := by
  refine ct_no (fun i hi hc => ?_)
  have := (hk.2.1 n hn).2.2.2.1 i hi
  have h2 := hc.2
  omega
/-- the units of a text, from a place on -/
def unz (tab : Nat → Int) (n : Nat) (zs : List Int) : Nat → Nat → List Int
  | 0, _ => []
  | f + 1, i => if i < zs.length then (if ct tab n (gt zs i) (gt zs ((i + 1 : Nat) : Int)) = -1 then gt zs i :: unz tab n zs f (i + 1) else (96 + ct tab n (gt zs i) (gt zs ((i + 1 : Nat) : Int))) :: unz tab n zs f (i + 2)) else []
theorem unz_out {tab : Nat → Int} {n : Nat} {zs : List Int} {f i : Nat} (h : zs.length ≤ i) : unz tab n zs f i = [] := by
  cases f with
  | zero => rfl
  | succ f => rw [unz, if_neg (by omega)]
theorem unz_in {tab : Nat → Int} {n : Nat} {zs : List Int} {f i : Nat} (h : i < zs.length) : unz tab n zs (f + 1) i = if ct tab n (gt zs i) (gt zs ((i + 1 : Nat) : Int)) = -1 then gt zs i :: unz tab n zs f (i + 1) else (96 + ct tab n (gt zs i) (gt zs ((i + 1 : Nat) : Int))) :: unz tab n zs f (i + 2) := by
  rw [unz, if_pos h]
theorem unz_len {tab : Nat → Int} {n : Nat} {zs : List Int} : ∀ f i : Nat, (unz tab n zs f i).length ≤ zs.length - i := by
  intro f
  induction f with
  | zero => intro i; exact Nat.zero_le _
  | succ f ih =>
    intro i
    by_cases h : i < zs.length
    · rw [unz_in h]
      split
      · have := ih (i + 1); rw [List.length_cons]; omega
      · have := ih (i + 2); rw [List.length_cons]; omega
    · rw [unz_out (by omega)]; exact Nat.zero_le _
def uok (tab : Nat → Int) (n : Nat) (us : List Int) : Prop := ∀ u ∈ us, 0 ≤ u ∧ u < 96 + tab (1440 + n)
theorem unz_ok {tab : Nat → Int} {n : Nat} {zs : List Int} (hk : tok tab) (hn : n < 2) (hl : lets zs) : ∀ f i : Nat, uok tab n (unz tab n zs f i) := by
  intro f
  have K := (hk.2.1 n hn).1
  induction f with
  | zero => intro i u hu; cases hu
  | succ f ih =>
    intro i u hu
    by_cases h : i < zs.length
    · rw [unz_in h] at hu
      split at hu
      · rcases List.mem_cons.mp hu with rfl | hu
        · have := lets_gt hl (k := i) (by omega) (by omega); omega
        · exact ih _ u hu
      · rename_i c
        rcases List.mem_cons.mp hu with rfl | hu
        · have := ct_rng (a := gt zs i) (b := gt zs ((i + 1 : Nat) : Int)) hk hn
          omega
        · exact ih _ u hu
    · rw [unz_out (by omega)] at hu; cases hu
theorem uok_gt {tab : Nat → Int} {n : Nat} {us : List Int} (h : uok tab n us) {i : Nat} (hi : i < us.length) : 0 ≤ gt us i ∧ gt us i < 96 + tab (1440 + n) := by
  rw [gt_getElem hi]; exact h _ (List.getElem_mem _)
/-- the weight of a unit -/
def wt (tab : Nat → Int) (n : Nat) (r : Nat) (u : Int) : Int := if u < 96 then tab (864 + 3 * (96 * n + u.toNat) + r) else tab (1442 + 5 * (6 * n + (u - 96).toNat) + 2 + r)
def wk (tab : Nat → Int) (n : Nat) (r : Nat) (us : List Int) : List Int := (us.map (wt tab n r)).filter (fun x => decide (0 < x))
def keyOf (tab : Nat → Int) (n : Nat) (us : List Int) : List Int := wk tab n 0 us ++ 0 :: (wk tab n 1 us ++ 0 :: wk tab n 2 us)
theorem wk_cons {tab : Nat → Int} {n r : Nat} {u : Int} {us : List Int} : wk tab n r (u :: us) = if 0 < wt tab n r u then wt tab n r u :: wk tab n r us else wk tab n r us := by
  unfold wk
  rw [List.map_cons, List.filter_cons]
  by_cases h : 0 < wt tab n r u
  · rw [if_pos h, if_pos (by simpa using h)]
  · rw [if_neg h, if_neg (by simpa using h)]
theorem wk_app {tab : Nat → Int} {n r : Nat} {us vs : List Int} : wk tab n r (us ++ vs) = wk tab n r us ++ wk tab n r vs := by
  unfold wk; rw [List.map_append, List.filter_append]
theorem wk_len {tab : Nat → Int} {n r : Nat} (us : List Int) : (wk tab n r us).length ≤ us.length := by
  unfold wk
  have := List.length_filter_le (fun x : Int => decide (0 < x)) (us.map (wt tab n r))
  rwa [List.length_map] at this
theorem wk_pos {tab : Nat → Int} {n r : Nat} {us : List Int} : ∀ x ∈ wk tab n r us, 0 < x := by
  intro x hx
  have := (List.mem_filter.mp hx).2
  simpa using this
theorem drop_gt {us : List Int} {i : Nat} (h : i < us.length) : us.drop i = gt us i :: us.drop (i + 1) := by
  rw [gt_getElem h, List.drop_eq_getElem_cons h]
theorem wk_drop {tab : Nat → Int} {n r : Nat} {us : List Int} {i : Nat} (h : i < us.length) : wk tab n r (us.drop i) = if 0 < wt tab n r (gt us i) then wt tab n r (gt us i) :: wk tab n r (us.drop (i + 1)) else wk tab n r (us.drop (i + 1)) := by
  rw [drop_gt h, wk_cons]
/-! the class -/
theorem s_weightOf {w : Wd} {tab : Nat → Int} {L n : Nat} {u r : Int32} (hn : n < 2) (hL : KD L = 2) (hu : urel w L tab n) (hk : tok tab) (h0 : 0 ≤ u.toInt ∧ u.toInt < 96 + tab (1440 + n)) (hr : 0 ≤ r.toInt ∧ r.toInt ≤ 2) :
    Wp (f_X2_weightOf L u r w) (fun x w' => w = w' ∧ x.toInt = wt tab n r.toInt.toNat u.toInt) := by
  have I := LIT
  have F := (lang_facts L hL).1
  have K := (hk.2.1 n hn).1
  obtain ⟨u1, _, _, u4, _, _⟩ := hu
  have main : ∀ q : Nat, q < 3 → q = r.toInt.toNat → Wp (f_X2_weightOf_27 u (L + 1 + q) w) (fun x w' => w = w' ∧ x.toInt = wt tab n r.toInt.toNat u.toInt) := by
    intro q hq e
    unfold f_X2_weightOf_27
    have ln := (F q hq).2
    rw [e_cell (by omega) h0.1 (by omega), bd_r]
    refine wp_ret ⟨rfl, ?_⟩
    unfold wt
    rw [← e]
    by_cases c : u.toInt < 96
    · rw [if_pos c]; exact u1 u.toInt.toNat (by omega) q hq
    · rw [if_neg c]
      have := (u4 (u.toInt - 96).toNat (by omega)).2.2 q hq
      rw [show 96 + (u.toInt - 96).toNat = u.toInt.toNat by omega] at this
      exact this
  unfold f_X2_weightOf
  exact wp_ifeq (fun c => main 0 (by omega) (by omega)) (fun c => wp_ifeq (fun c2 => main 1 (by omega) (by omega)) (fun c2 => main 2 (by omega) (by omega)))
/-- a row is laid anew; the tables stay -/
theorem urel_o {w w' : Wd} {tab : Nat → Int} {L n : Nat} (hn : n < 2) (hk : tok tab) (h : urel w L tab n) (hc : ∀ k, L ≤ k → k < L + 13 → w'.1 k = w.1 k) : urel w' L tab n :=
  urel_fr (hk.2.1 n hn).1 (hk.2.1 n hn).2.1 hc (fun _ _ => rfl) h
theorem s_unitsInto {w : Wd} {tab : Nat → Int} {L n t o : Nat} {zs : List Int} (hn : n < 2) (hL : KD L = 2) (hL2 : L < 100) (hk : tok tab) (hu : urel w L tab n) (ho : okall w) (h7 : KD t = 7) (h8 : KD o = 7) (hto : t ≠ o) (ho6 : 640 ≤ o) (hcap : LEN (o + 1) = 80) (hz : rl w t = zs) (h80 : zs.length ≤ 80) (hl : lets zs) :
    Wp (f_X2_unitsInto L t o w) (fun _ w' => rs w w' o (unz tab n zs 100 0)) := by
  have I := LIT
  have F := lang_facts L hL
  unfold f_X2_unitsInto
  refine wp_bd (s_cut0 (ho _ h8)) ?_
  rintro _ w1 q1
  unfold f_X2_unitsInto_7
  rw [FUv]
  refine wp_loop (fun σ : Nat × Nat × Nat × Int32 × Wd => σ.1 = L ∧ σ.2.1 = t ∧ σ.2.2.1 = o ∧ 0 ≤ σ.2.2.2.1.toInt ∧ σ.2.2.2.1.toInt ≤ zs.length + 1 ∧ ∃ (A : List Int) (f : Nat), rs w σ.2.2.2.2 o A ∧ A ++ unz tab n zs f σ.2.2.2.1.toInt.toNat = unz tab n zs 100 0 ∧ zs.length ≤ f + σ.2.2.2.1.toInt.toNat ∧ A.length ≤ σ.2.2.2.1.toInt.toNat)
    (fun σ => (82 - σ.2.2.2.1.toInt).toNat) ?_ 100000 _ ⟨rfl, rfl, rfl, by dsimp only; omega, by dsimp only; omega, [], 100, q1, by dsimp only; rw [I.1, List.nil_append, show Int.toNat 0 = 0 from rfl], by dsimp only; omega, Nat.zero_le _⟩ (by dsimp only; omega)
  rintro rc ⟨L', t', o', i, u⟩ ⟨rfl, rfl, rfl, hi0, hi1, A, f, hr, he, hf, hA⟩ ih
  dsimp only at *
  have ok := okall_rs ho hr
  have Z : rl u t' = zs := (rs_rl hr h7 hto).trans hz
  have U : urel u L' tab n := urel_o hn hk hu (fun k a b => hr.1 k (by omega) (by omega))
  unfold g_X2_unitsInto_7
  refine wp_bd (s_size (ok _ h7)) ?_
  rintro m _ ⟨rfl, hm⟩
  rw [Z] at hm
  refine wp_ifle (fun q => wp_ret ?_) (fun q => ?_)
  · rw [unz_out (by omega), List.append_nil] at he
    rw [← he]; exact hr
  have ci : ((i.toInt.toNat : Nat) : Int) = i.toInt := by omega
  obtain ⟨f', rfl⟩ : ∃ f', f = f' + 1 := ⟨f - 1, by omega⟩
  rw [unz_in (by omega), ci] at he
  have i1 : (i + 1).toInt = i.toInt + 1 := by rw [i_add (by omega), I.2.1]
  have ci1 : ((i.toInt.toNat + 1 : Nat) : Int) = i.toInt + 1 := by omega
  rw [ci1] at he
  refine wp_bd (s_get (ok _ h7)) ?_
  rintro a _ ⟨rfl, ha⟩
  refine wp_bd (s_get (ok _ h7)) ?_
  rintro b _ ⟨rfl, hb⟩
  rw [Z] at ha hb
  rw [i1] at hb
  refine wp_bd (s_contractionOf (a := a) (b := b) hn hk U (ok _ F.2.1) (ok _ F.2.2.2.1)) ?_
  rintro c _ ⟨rfl, hc⟩
  rw [ha, hb] at hc
  have lenA : (rl u o').length < LEN (o' + 1) := by rw [rs_l hr, hcap]; omega
  rcases hc with ⟨c1, c2⟩ | ⟨j, c1, c2, c3⟩
  · have e := ct_no c2
    rw [if_pos e] at he
    refine wp_ifeq (fun _ => ?_) (fun d => by omega)
    refine wp_bd (s_get (ok _ h7)) ?_
    rintro x _ ⟨rfl, hx⟩
    rw [Z] at hx
    refine wp_bd (s_add (ok _ h8) lenA) ?_
    rintro _ u2 ⟨_, p2⟩
    rw [rs_l hr] at p2
    refine wp_add (by omega) (fun z hz2 => ih (L', t', o', z, u2) ⟨rfl, rfl, rfl, by dsimp only; omega, by dsimp only; omega, A ++ [x.toInt], f', rs_tr hr p2, ?_, by dsimp only; omega, ?_⟩ (by dsimp only; omega))
    · dsimp only
      rw [List.append_assoc, show z.toInt.toNat = i.toInt.toNat + 1 by omega, hx]; exact he
    · dsimp only; rw [List.length_append, List.length_singleton]; omega
  · have e := ct_yes hk hn c1 c2
    rw [if_neg (by omega), e] at he
    have K := (hk.2.1 n hn).1
    have i2 : i.toInt + 1 < zs.length := by
      by_cases z : i.toInt + 1 < zs.length
      · exact z
      · have g : gt zs (i.toInt + 1) = -1 := gt_out (Or.inr (by omega))
        rw [g] at e
        have := ct_out (a := gt zs i.toInt) hk hn
        omega
    refine wp_ifeq (fun d => by omega) (fun _ => ?_)
    refine wp_bd (s_add (ok _ h8) lenA) ?_
    rintro _ u2 ⟨_, p2⟩
    rw [rs_l hr] at p2
    refine wp_add (by omega) (fun z hz2 => wp_add (by omega) (fun z2 hz3 => ih (L', t', o', z2, u2) ⟨rfl, rfl, rfl, by dsimp only; omega, by dsimp only; omega, A ++ [c.toInt], f', rs_tr hr p2, ?_, by dsimp only; omega, ?_⟩ (by dsimp only; omega)))
    · dsimp only
      rw [List.append_assoc, show z2.toInt.toNat = i.toInt.toNat + 2 by omega, c3]; exact he
    · dsimp only; rw [List.length_append, List.length_singleton]; omega
theorem s_keyInto {w : Wd} {tab : Nat → Int} {L n : Nat} {us : List Int} (hn : n < 2) (hL : KD L = 2) (hL2 : L < 100) (hk : tok tab) (hu : urel w L tab n) (ho : okall w) (hz : rl w 703 = us) (h80 : us.length ≤ 80) (hok : uok tab n us) :
    Wp (f_X2_keyInto L 703 707 w) (fun _ w' => rs w w' 707 (keyOf tab n us)) := by
  have I := LIT
  have l3 : (3 : Int32).toInt = 3 := by decide
  have h7 : KD 703 = 7 := by decide +kernel
  have h8 : KD 707 = 7 := by decide +kernel
  have hcap : LEN (707 + 1) = 242 := by decide +kernel
  have W0 := wk_len (tab := tab) (n := n) (r := 0) us
  have W1 := wk_len (tab := tab) (n := n) (r := 1) us
  unfold f_X2_keyInto
  refine wp_bd (s_cut0 (ho _ h8)) ?_
  rintro _ w1 q1
  unfold f_X2_keyInto_7
  rw [FUv]
  -- what stands ahead of a rank
  have pre : ∀ r : Int, r = 0 ∨ r = 1 ∨ r = 2 ∨ r = 3 → ∃ B : List Int, B = (if r = 0 then [] else if r = 1 then wk tab n 0 us else if r = 2 then wk tab n 0 us ++ 0 :: wk tab n 1 us else keyOf tab n us) := fun r _ => ⟨_, rfl⟩
  refine wp_loop (fun σ : Nat × Nat × Nat × Int32 × Wd => σ.1 = L ∧ σ.2.1 = 703 ∧ σ.2.2.1 = 707 ∧ 0 ≤ σ.2.2.2.1.toInt ∧ σ.2.2.2.1.toInt ≤ 3 ∧ rs w σ.2.2.2.2 707 (if σ.2.2.2.1.toInt = 0 then [] else if σ.2.2.2.1.toInt = 1 then wk tab n 0 us else if σ.2.2.2.1.toInt = 2 then wk tab n 0 us ++ 0 :: wk tab n 1 us else keyOf tab n us))
    (fun σ => (4 - σ.2.2.2.1.toInt).toNat) ?_ 100000 _ ⟨rfl, rfl, rfl, by dsimp only; omega, by dsimp only; omega, by dsimp only; rw [if_pos I.1]; exact q1⟩ (by dsimp only; omega)
  rintro rc ⟨L', t', o', r, u⟩ ⟨rfl, rfl, rfl, hr0, hr1, hr⟩ ih
  dsimp only at *
  unfold g_X2_keyInto_7
  refine wp_ifle (fun q => wp_ret ?_) (fun q => ?_)
  · rw [if_neg (by omega), if_neg (by omega), if_neg (by omega)] at hr; exact hr
  -- one rank
  have rank : ∀ (u1 : Wd) (B : List Int), rs w u1 707 B → B.length ≤ 81 * r.toInt.toNat → B ++ wk tab n r.toInt.toNat us = (if r.toInt + 1 = 1 then wk tab n 0 us else if r.toInt + 1 = 2 then wk tab n 0 us ++ 0 :: wk tab n 1 us else keyOf tab n us) → Wp (f_X2_keyInto_22 rc L' 703 707 r u1) (fun _ w' => rs w w' 707 (keyOf tab n us)) := by
    intro u1 B hB hBl hfin
    unfold f_X2_keyInto_22 f_X2_keyInto_25
    rw [FUv]
    refine wp_loop (fun σ : Nat × Nat × Nat × Int32 × Int32 × Wd => σ.1 = L' ∧ σ.2.1 = 703 ∧ σ.2.2.1 = 707 ∧ σ.2.2.2.1 = r ∧ 0 ≤ σ.2.2.2.2.1.toInt ∧ σ.2.2.2.2.1.toInt ≤ us.length ∧ ∃ A : List Int, rs w σ.2.2.2.2.2 707 (B ++ A) ∧ A ++ wk tab n r.toInt.toNat (us.drop σ.2.2.2.2.1.toInt.toNat) = wk tab n r.toInt.toNat us ∧ A.length ≤ σ.2.2.2.2.1.toInt.toNat)
      (fun σ => (82 - σ.2.2.2.2.1.toInt).toNat) ?_ 100000 _ ⟨rfl, rfl, rfl, rfl, by dsimp only; omega, by dsimp only; omega, [], by rw [List.append_nil]; exact hB, by dsimp only; rw [I.1, List.nil_append, show Int.toNat 0 = 0 from rfl, List.drop_zero], Nat.zero_le _⟩ (by dsimp only; omega)
    rintro rc2 ⟨L2, t2, o2, r2, i, u2⟩ ⟨rfl, rfl, rfl, rfl, hi0, hi1, A, hA, he, hAl⟩ ih2
    dsimp only at *
    have ok := okall_rs ho hA
    have Z : rl u2 703 = us := (rs_rl hA h7 (by decide)).trans hz
    have U : urel u2 L2 tab n := urel_o hn hk hu (fun k a b => hA.1 k (by omega) (by omega))
    unfold g_X2_keyInto_25
    refine wp_bd (s_size (ok _ h7)) ?_
    rintro m _ ⟨rfl, hm⟩
    rw [Z] at hm
    refine wp_ifle (fun c => wp_add (by omega) (fun z hz2 => ih (L2, 703, 707, z, u2) ⟨rfl, rfl, rfl, by dsimp only; omega, by dsimp only; omega, ?_⟩ (by dsimp only; omega))) (fun c => ?_)
    · dsimp only
      rw [List.drop_eq_nil_of_le (by omega), show wk tab n r2.toInt.toNat [] = [] from rfl, List.append_nil] at he
      rw [if_neg (by omega), show z.toInt = r2.toInt + 1 by omega, ← hfin, ← he]; exact hA
    · have il : i.toInt.toNat < us.length := by omega
      have ci : ((i.toInt.toNat : Nat) : Int) = i.toInt := by omega
      have O := uok_gt hok il
      rw [ci] at O
      rw [wk_drop il, ci] at he
      refine wp_bd (s_get (ok _ h7)) ?_
      rintro x _ ⟨rfl, hx⟩
      rw [Z] at hx
      refine wp_bd (s_weightOf (u := x) (r := r2) hn hL U hk (by rw [hx]; exact O) (by omega)) ?_
      rintro y _ ⟨rfl, hy⟩
      rw [hx] at hy
      refine wp_ifle (fun d => wp_add (by omega) (fun z hz2 => ih2 (L2, 703, 707, r2, z, u2) ⟨rfl, rfl, rfl, rfl, by dsimp only; omega, by dsimp only; omega, A, hA, ?_, by dsimp only; omega⟩ (by dsimp only; omega))) (fun d => ?_)
      · dsimp only
        rw [if_neg (by omega)] at he
        rw [show z.toInt.toNat = i.toInt.toNat + 1 by omega]; exact he
      · rw [if_pos (by omega)] at he
        refine wp_bd (s_add (ok _ h8) (by rw [rs_l hA, hcap, List.length_append]; omega)) ?_
        rintro _ u3 ⟨_, p3⟩
        rw [rs_l hA] at p3
        refine wp_add (by omega) (fun z hz2 => ih2 (L2, 703, 707, r2, z, u3) ⟨rfl, rfl, rfl, rfl, by dsimp only; omega, by dsimp only; omega, A ++ [y.toInt], ?_, ?_, ?_⟩ (by dsimp only; omega))
        · dsimp only; rw [← List.append_assoc]; exact rs_tr hA p3
        · dsimp only
          rw [show z.toInt.toNat = i.toInt.toNat + 1 by omega, List.append_assoc, hy]; exact he
        · dsimp only; rw [List.length_append, List.length_singleton]; omega
  refine wp_ifle (fun c => ?_) (fun c => ?_)
  · rw [if_pos (by omega)] at hr
    refine rank u [] hr (Nat.zero_le _) ?_
    rw [if_pos (by omega), show r.toInt.toNat = 0 by omega]; rfl
  · have ok := okall_rs ho hr
    refine wp_bd (s_add (ok _ h8) ?_) ?_
    · rw [rs_l hr, hcap]
      by_cases e : r.toInt = 1
      · rw [if_neg (by omega), if_pos e]; omega
      · rw [if_neg (by omega), if_neg e, if_pos (by omega), List.length_append, List.length_cons]; omega
    rintro _ u1 ⟨_, p1⟩
    rw [rs_l hr, I.1] at p1
    by_cases e : r.toInt = 1
    · rw [if_neg (by omega), if_pos e] at p1
      refine rank u1 _ (rs_tr hr p1) ?_ ?_
      · rw [List.length_append, List.length_singleton]; omega
      · rw [if_neg (by omega), if_pos (by omega), show r.toInt.toNat = 1 by omega, List.append_assoc]; rfl
    · rw [if_neg (by omega), if_neg e, if_pos (by omega)] at p1
      refine rank u1 _ (rs_tr hr p1) ?_ ?_
      · rw [List.length_append, List.length_append, List.length_singleton, List.length_cons]; omega
      · rw [if_neg (by omega), if_neg (by omega), show r.toInt.toNat = 2 by omega]
        unfold keyOf
        rw [List.append_assoc, List.append_assoc, List.cons_append]; rfl

