/-! ===== transliterate ===== -/
def rlA (tab : Nat → Int) (i : Nat) : List Int := tl tab (1558 + 15 * i + 5) (tab (1558 + 15 * i + 1)).toNat
def rlB (tab : Nat → Int) (i : Nat) : List Int := tl tab (1558 + 15 * i + 10) (tab (1558 + 15 * i + 3)).toNat
def rl1 (tab : Nat → Int) (i : Nat) : List Int := tl tab (1558 + 15 * i + 7) (tab (1558 + 15 * i + 2)).toNat
def rl2 (tab : Nat → Int) (i : Nat) : List Int := tl tab (1558 + 15 * i + 12) (tab (1558 + 15 * i + 4)).toNat
/-- what a rule takes, and what it puts -/
def rlS (b : Int) (tab : Nat → Int) (i : Nat) : List Int := if b = 0 then rl1 tab i else rl2 tab i
def rlT (b : Int) (tab : Nat → Int) (i : Nat) : List Int := if b = 0 then rl2 tab i else rl1 tab i
/-- as hld says, but plain to decide -/
abbrev hl2 (l part : List Int) (i : Int) : Prop := 0 ≤ i ∧ i + part.length ≤ l.length ∧ ∀ k : Nat, k < part.length → gt l (i + k) = gt part k
/-- a rule fits -/
abbrev fts (tab : Nat → Int) (pass b : Int) (l d : List Int) (p : Int) (i : Nat) : Prop :=
  tab (1558 + 15 * i) = pass ∧ 0 < (rlS b tab i).length ∧ hl2 l (rlS b tab i) p ∧ hl2 d (rlA tab i) (d.length - (rlA tab i).length) ∧ hl2 l (rlB tab i) (p + (rlS b tab i).length)
/-- the first rule that fits, or -1 -/
def ftr (tab : Nat → Int) (pass b : Int) (l d : List Int) (p : Int) : Nat → Int → Int
  | 0, _ => -1
  | n + 1, i => if i < tab 1557 then (if fts tab pass b l d p i.toNat then i else ftr tab pass b l d p n (i + 1)) else -1
/-- one pass -/
def ps1 (tab : Nat → Int) (pass b : Int) (l : List Int) : Nat → Int → List Int → Option (List Int)
  | 0, _, _ => none
  | n + 1, p, d => if p < l.length then
      (if ftr tab pass b l d p 10 0 = -1 then (if d.length + 1 ≤ 40 then ps1 tab pass b l n (p + 1) (d ++ [gt l p]) else none)
       else (if d.length + (rlT b tab (ftr tab pass b l d p 10 0).toNat).length ≤ 40 then ps1 tab pass b l n (p + (rlS b tab (ftr tab pass b l d p 10 0).toNat).length) (d ++ rlT b tab (ftr tab pass b l d p 10 0).toNat) else none))
      else some d
theorem ftr_in {tab : Nat → Int} {pass b : Int} {l d : List Int} {p : Int} {n : Nat} {i : Int} (h : i < tab 1557) : ftr tab pass b l d p (n + 1) i = if fts tab pass b l d p i.toNat then i else ftr tab pass b l d p n (i + 1) := by
  rw [ftr, if_pos h]
theorem ftr_out {tab : Nat → Int} {pass b : Int} {l d : List Int} {p : Int} {n : Nat} {i : Int} (h : tab 1557 ≤ i) : ftr tab pass b l d p n i = -1 := by
  cases n with
  | zero => rfl
  | succ n => rw [ftr, if_neg (by omega)]
theorem ftr_rng {tab : Nat → Int} {pass b : Int} {l d : List Int} {p : Int} : ∀ (n : Nat) (i : Int), 0 ≤ i → ftr tab pass b l d p n i = -1 ∨ (0 ≤ ftr tab pass b l d p n i ∧ ftr tab pass b l d p n i < tab 1557 ∧ fts tab pass b l d p (ftr tab pass b l d p n i).toNat) := by
  intro n
  induction n with
  | zero => intro i _; exact Or.inl rfl
  | succ n ih =>
    intro i hi
    by_cases c : i < tab 1557
    · rw [ftr_in c]
      by_cases f : fts tab pass b l d p i.toNat
      · rw [if_pos f]; exact Or.inr ⟨hi, c, f⟩
      · rw [if_neg f]; exact ih _ (by omega)
    · rw [ftr_out (by omega)]; exact Or.inl rfl
theorem ps1_in {tab : Nat → Int} {pass b : Int} {l d : List Int} {p : Int} {n : Nat} (h : p < l.length) : ps1 tab pass b l (n + 1) p d = (if ftr tab pass b l d p 10 0 = -1 then (if d.length + 1 ≤ 40 then ps1 tab pass b l n (p + 1) (d ++ [gt l p]) else none)
       else (if d.length + (rlT b tab (ftr tab pass b l d p 10 0).toNat).length ≤ 40 then ps1 tab pass b l n (p + (rlS b tab (ftr tab pass b l d p 10 0).toNat).length) (d ++ rlT b tab (ftr tab pass b l d p 10 0).toNat) else none)) := by
  rw [ps1, if_pos h]
theorem ps1_out {tab : Nat → Int} {pass b : Int} {l d : List Int} {p : Int} {n : Nat} (h : l.length ≤ p) : ps1 tab pass b l (n + 1) p d = some d := by
  rw [ps1, if_neg (by omega)]
/-- letters come out, and no more than 40 -/
theorem ps1_ok {tab : Nat → Int} {pass b : Int} {l : List Int} (hk : tok tab) (hl : ∀ x ∈ l, 0 ≤ x ∧ x ≤ 95) : ∀ (n : Nat) (p : Int) (d ys : List Int), 0 ≤ p → d.length ≤ 40 → (∀ x ∈ d, 0 ≤ x ∧ x ≤ 95) → ps1 tab pass b l n p d = some ys → ys.length ≤ 40 ∧ ∀ x ∈ ys, 0 ≤ x ∧ x ≤ 95 := by
  intro n
  induction n with
  | zero => intro p d ys _ _ _ h; cases h
  | succ n ih =>
    intro p d ys hp hd hdl h
    by_cases c : p < l.length
    · rw [ps1_in c] at h
      by_cases f : ftr tab pass b l d p 10 0 = -1
      · rw [if_pos f] at h
        by_cases g : d.length + 1 ≤ 40
        · rw [if_pos g] at h
          refine ih _ _ _ (by omega) (by rw [List.length_append]; exact g) (fun x hx => ?_) h
          rcases List.mem_append.mp hx with q | q
          · exact hdl x q
          · rw [List.mem_singleton.mp q, gt_in hp, List.getD_eq_getElem?_getD, List.getElem?_eq_getElem (show p.toNat < l.length by omega)]
            exact hl _ (List.getElem_mem _)
        · rw [if_neg g] at h; cases h
      · rw [if_neg f] at h
        by_cases g : d.length + (rlT b tab (ftr tab pass b l d p 10 0).toNat).length ≤ 40
        · rw [if_pos g] at h
          refine ih _ _ _ (by omega) (by rw [List.length_append]; exact g) (fun x hx => ?_) h
          rcases List.mem_append.mp hx with q | q
          · exact hdl x q
          · have R := (ftr_rng (tab := tab) (pass := pass) (b := b) (l := l) (d := d) (p := p) 10 0 (by omega)).resolve_left f
            generalize ftr tab pass b l d p 10 0 = j at *
            obtain ⟨k0, k1, k2, k3, k4, k5, k6⟩ := hk.2.2.2.2.2 j.toNat (by omega)
            unfold rlT rl1 rl2 at q
            by_cases c0 : b = 0
            · rw [if_pos c0] at q
              obtain ⟨m, hm, rfl⟩ := List.mem_map.mp (show x ∈ (List.range _).map _ from q)
              have := List.mem_range.mp hm
              exact k6 m (by omega)
            · rw [if_neg c0] at q
              obtain ⟨m, hm, rfl⟩ := List.mem_map.mp (show x ∈ (List.range _).map _ from q)
              have := List.mem_range.mp hm
              exact k5 m (by omega)
        · rw [if_neg g] at h; cases h
    · rw [ps1_out (by omega)] at h
      cases h
      exact ⟨hd, hdl⟩
/-- both passes -/
def tra (tab : Nat → Int) (b : Int) (l : List Int) : Option (List Int) :=
  (ps1 tab (if b = 0 then 0 else 1) b l 42 0 []).bind (fun m => ps1 tab (1 - if b = 0 then 0 else 1) b m 42 0 [])
theorem tra_ok {tab : Nat → Int} {b : Int} {l ys : List Int} (hk : tok tab) (hl : ∀ x ∈ l, 0 ≤ x ∧ x ≤ 95) (h : tra tab b l = some ys) : ys.length ≤ 40 ∧ ∀ x ∈ ys, 0 ≤ x ∧ x ≤ 95 := by
  unfold tra at h
  obtain ⟨m, h1, h2⟩ := Option.bind_eq_some_iff.mp h
  have M := ps1_ok hk hl _ _ _ _ (by omega) (by exact Nat.zero_le _) (fun x q => (List.not_mem_nil q).elim) h1
  exact ps1_ok hk M.2 _ _ _ _ (by omega) (by exact Nat.zero_le _) (fun x q => (List.not_mem_nil q).elim) h2
/-! the class's -/
theorem RV_53 : ∀ i, i < 8 → RV (1 + 51) i = 1 + 52 + 9 * i := (tab_facts 1 (by decide +kernel)).2.2.2.2.2.2
theorem KD_53 : ∀ i, i < 8 → KD (1 + 52 + 9 * i) = 8 := (tab_kinds 1 (by decide +kernel)).2.2
theorem rule_src {w : Wd} {o : Nat} {tab : Nat → Int} {b : Int32} {i : Nat} (ho : KD o = 8) (h : ruel w o tab i) : ∃ q, f_X8_sourceOf o b w = some (q, w) ∧ KD q = 7 ∧ rl w q = rlS b.toInt tab i := by
  have L := LIT
  obtain ⟨c0, c1, c2, c3, c4⟩ := h
  have RF := rule_facts o ho
  unfold f_X8_sourceOf
  by_cases c : b = 0
  · rw [if_pos c]; refine ⟨o + 3, rfl, RF.2.2.1, ?_⟩; rw [c2]; unfold rlS; rw [if_pos (by rw [c]; exact L.1)]; rfl
  · rw [if_neg c]; refine ⟨o + 7, rfl, RF.2.2.2.2.2.2.1, ?_⟩; rw [c4]; unfold rlS; rw [if_neg (fun q => c (i_eq.mpr (by rw [q]; exact L.1.symm)))]; rfl
theorem rule_fr {w w' : Wd} {o : Nat} {l : List Int} (h : rs w w' o l) (ho : 125 ≤ o) {tab : Nat → Int} (hk : tok tab) (ht : trel w 1 tab) : trel w' 1 tab := trel_rs hk ht h ho
theorem s_fits {w : Wd} {o : Nat} {tab : Nat → Int} {pass b p : Int32} {f t : Nat} {l d : List Int} {i : Nat} (ho : okall w) (h8 : KD o = 8) (h : ruel w o tab i) (hf : KD f = 7) (ht : KD t = 7) (hl : rl w f = l) (hd : rl w t = d) (hp : 0 ≤ p.toInt ∧ p.toInt ≤ 40) :
    Wp (f_X8_fits o pass b f p t w) (fun r w' => w = w' ∧ r = zo (fts tab pass.toInt b.toInt l d p.toInt i)) := by
  have L := LIT
  have RF := rule_facts o h8
  obtain ⟨q, e1, k7, hq⟩ := rule_src (b := b) h8 h
  obtain ⟨c0, c1, c2, c3, c4⟩ := h
  have c1' : rl w (o + 1) = rlA tab i := c1
  have c3' : rl w (o + 5) = rlB tab i := c3
  unfold f_X8_fits
  rw [e1, bd_r]
  have no : ¬ fts tab pass.toInt b.toInt l d p.toInt i → Wp (some ((0 : Int32), w)) (fun r w' => w = w' ∧ r = zo (fts tab pass.toInt b.toInt l d p.toInt i)) := fun n => wp_ret ⟨rfl, (zo_F n).symm⟩
  refine wp_ifeq (fun a1 => ?_) (fun a1 => no (fun z => a1 (by rw [c0]; exact z.1.symm)))
  rw [c0] at a1
  refine wp_bd (s_size (ho _ k7)) ?_
  rintro n _ ⟨rfl, hn⟩
  rw [hq] at hn
  refine wp_ifle (fun a2 => no (fun z => by have := z.2.1; omega)) (fun a2 => ?_)
  refine wp_bd (s_holds (ho _ hf) (ho _ k7)) ?_
  rintro x _ ⟨rfl, hx⟩
  rw [hl, hq] at hx
  rcases hx with ⟨rfl, hx⟩ | ⟨rfl, hx⟩
  · refine wp_ifeq (fun z => by omega) (fun _ => ?_)
    refine wp_bd (s_size (ho _ ht)) ?_
    rintro n1 _ ⟨rfl, hn1⟩
    refine wp_bd (s_size (ho _ RF.1)) ?_
    rintro n2 _ ⟨rfl, hn2⟩
    rw [hd] at hn1
    rw [c1'] at hn2
    have s1 : (n1 - n2).toInt = d.length - (rlA tab i).length := by
      have := rl_le (ho _ ht); have := okr_len (ho _ ht); have := rl_le (ho _ RF.1); have := okr_len (ho _ RF.1)
      rw [i_sub (by rw [hd] at *; rw [c1'] at *; omega), hn1, hn2]
    refine wp_bd (s_holds (ho _ ht) (ho _ RF.1)) ?_
    rintro y _ ⟨rfl, hy⟩
    rw [hd, c1', s1] at hy
    rcases hy with ⟨rfl, hy⟩ | ⟨rfl, hy⟩
    · refine wp_ifeq (fun z => by omega) (fun _ => ?_)
      refine wp_bd (s_size (ho _ k7)) ?_
      rintro n3 _ ⟨rfl, hn3⟩
      rw [hq] at hn3
      have s2 : (p + n3).toInt = p.toInt + (rlS b.toInt tab i).length := by
        have := rl_le (ho _ k7); have := okr_len (ho _ k7)
        rw [i_add (by rw [hq] at *; omega), hn3]
      refine wp_bd (s_holds (ho _ hf) (ho _ RF.2.2.2.2.1)) ?_
      rintro y2 _ ⟨rfl, hy2⟩
      rw [hl, c3', s2] at hy2
      rcases hy2 with ⟨rfl, hy2⟩ | ⟨rfl, hy2⟩
      · exact wp_ifeq (fun z => by omega) (fun _ => wp_ret ⟨rfl, (zo_T (⟨a1.symm, by omega, hx, hy, hy2⟩ : fts tab pass.toInt b.toInt l d p.toInt i)).symm⟩)
      · exact wp_ifeq (fun _ => no (fun z => hy2 z.2.2.2.2)) (fun z => by omega)
    · exact wp_ifeq (fun _ => no (fun z => hy z.2.2.2.1)) (fun z => by omega)
  · exact wp_ifeq (fun _ => no (fun z => hx z.2.2.1)) (fun z => by omega)
theorem s_fittingRule {w : Wd} {tab : Nat → Int} {pass b p : Int32} {f t : Nat} {l d : List Int} (hk : tok tab) (h : trel w 1 tab) (ho : okall w) (hf : KD f = 7) (ht : KD t = 7) (hl : rl w f = l) (hd : rl w t = d) (hp : 0 ≤ p.toInt ∧ p.toInt ≤ 40) :
    Wp (f_X9_fittingRule 1 pass b f p t w) (fun r w' => w = w' ∧ ((ftr tab pass.toInt b.toInt l d p.toInt 10 0 = -1 ∧ r = none) ∨ (ftr tab pass.toInt b.toInt l d p.toInt 10 0 ≠ -1 ∧ r = some (1 + 52 + 9 * (ftr tab pass.toInt b.toInt l d p.toInt 10 0).toNat)))) := by
  have L := LIT
  have h51 : LEN (1 + 51) = 8 := (tab_facts 1 (by decide +kernel)).2.2.2.1
  have t4 := h.2.2.2
  have k4 := hk.2.2.2
  unfold f_X9_fittingRule f_X9_fittingRule_3
  rw [FUv]
  refine wp_loop (fun σ : Nat × Int32 × Int32 × Nat × Int32 × Nat × Int32 × Wd => σ.1 = 1 ∧ σ.2.1 = pass ∧ σ.2.2.1 = b ∧ σ.2.2.2.1 = f ∧ σ.2.2.2.2.1 = p ∧ σ.2.2.2.2.2.1 = t ∧ σ.2.2.2.2.2.2.2 = w ∧ 0 ≤ σ.2.2.2.2.2.2.1.toInt ∧ σ.2.2.2.2.2.2.1.toInt ≤ tab 1557 ∧ ∃ k : Nat, ftr tab pass.toInt b.toInt l d p.toInt k σ.2.2.2.2.2.2.1.toInt = ftr tab pass.toInt b.toInt l d p.toInt 10 0 ∧ 10 - σ.2.2.2.2.2.2.1.toInt ≤ k)
    (fun σ => (10 - σ.2.2.2.2.2.2.1.toInt).toNat) ?_ 100000 _ ⟨rfl, rfl, rfl, rfl, rfl, rfl, rfl, by dsimp only; omega, by dsimp only; omega, 10, by dsimp only; rw [L.1], by dsimp only; omega⟩ (by dsimp only; omega)
  rintro rc ⟨o1, pass', b', f', p', t', i, u⟩ ⟨rfl, rfl, rfl, rfl, rfl, rfl, rfl, hi, hi2, k, hkk, hk2⟩ ih
  dsimp only at *
  unfold g_X9_fittingRule_3
  refine wp_ifle (fun q => wp_ret ⟨rfl, Or.inl ⟨by rw [← hkk, ftr_out (by rw [← t4.1]; exact q)], rfl⟩⟩) (fun q => ?_)
  rw [t4.1] at q
  refine wp_ifle (fun z => ?_) (fun _ => ?_)
  · rw [h51, show (Int32.ofNat 8).toInt = 8 by decide] at z; omega
  refine wp_ard (by rw [h51]; omega) ?_
  rw [RV_53 _ (show i.toInt.toNat < 8 by omega)]
  refine wp_bd (s_fits ho (KD_53 _ (by omega)) (t4.2 _ (by omega)) hf ht hl hd hp) ?_
  rintro x _ ⟨rfl, rfl⟩
  obtain ⟨k', rfl⟩ : ∃ k', k = k' + 1 := ⟨k - 1, by omega⟩
  rw [ftr_in q] at hkk
  rw [ite_zo]
  refine wp_if (fun c => ?_) (fun c => ?_)
  · rw [if_pos c] at hkk
    refine wp_ard (by rw [h51]; omega) ?_
    rw [RV_53 _ (show i.toInt.toNat < 8 by omega)]
    exact wp_ret ⟨rfl, Or.inr ⟨by omega, by rw [← hkk]⟩⟩
  · rw [if_neg c] at hkk
    refine wp_add (by omega) (fun y hy => ?_)
    have hy3 : y.toInt = i.toInt + 1 := by omega
    exact ih (1, pass', b', f', p', t', y, u) ⟨rfl, rfl, rfl, rfl, rfl, rfl, rfl, by dsimp only; omega, by dsimp only; omega, k', by dsimp only; rw [hy3]; exact hkk, by dsimp only; omega⟩ (by dsimp only; omega)

