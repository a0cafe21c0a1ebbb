/-! ===== breaks of words and lines ===== -/
/-- the last cluster up to a place -/
def ca (tab : Nat → Int) (l : List Int) : Nat → Int
  | 0 => 0
  | n + 1 => if icl tab l ((n + 1 : Nat) : Int) then ((n + 1 : Nat) : Int) else ca tab l n
theorem ca_bd {tab : Nat → Int} {l : List Int} : ∀ n : Nat, 0 ≤ ca tab l n ∧ ca tab l n ≤ n := by
  intro n
  induction n with
  | zero => unfold ca; omega
  | succ n ih =>
    unfold ca
    split
    · omega
    · omega
def wbk (a b v : Int) : Prop := (a = 6 ∧ b = 6 ∧ v = 1) ∨ (¬ (a = 6 ∧ b = 6) ∧ ¬ ((a = 1 ∨ a = 4) ∧ (b = 1 ∨ b = 4)) ∧ ¬ (a = 3 ∧ b = 3))
def lbk (a b : Int) : Prop := (a = 3 ∧ b ≠ 3) ∨ (a = 6 ∧ b = 6)
theorem s_isWordBreak {a b v : Int32} {w : Wd} (hv : v.toInt = 0 ∨ v.toInt = 1) : Wp (f_X0_isWordBreak a b v w) (fun r w' => w = w' ∧ ((r.toInt = 1 ∧ wbk a.toInt b.toInt v.toInt) ∨ (r.toInt = 0 ∧ ¬ wbk a.toInt b.toInt v.toInt))) := by
  have L := LIT
  unfold f_X0_isWordBreak f_X0_isWordBreak_14 f_X0_isWordBreak_24 f_X0_isWordBreak_38 f_X0_isWordBreak_39 wbk
  repeat' (first | refine wp_ifeq (fun _ => ?_) (fun _ => ?_) | refine wp_ret ⟨rfl, ?_⟩)
  all_goals omega
theorem s_isLineBreak {a b : Int32} {w : Wd} : Wp (f_X0_isLineBreak a b w) (fun r w' => w = w' ∧ ((r.toInt = 1 ∧ lbk a.toInt b.toInt) ∨ (r.toInt = 0 ∧ ¬ lbk a.toInt b.toInt))) := by
  have L := LIT
  unfold f_X0_isLineBreak f_X0_isLineBreak_10 lbk
  repeat' (first | refine wp_ifeq (fun _ => ?_) (fun _ => ?_) | refine wp_ret ⟨rfl, ?_⟩)
  all_goals omega
/-- whether a break is ahead of a letter -/
def brk (tab : Nat → Int) (l : List Int) (what : Int) (i : Nat) : Prop := icl tab l i ∧ (what = 0 ∨ ∃ v : Int, (v = 1 ↔ vis tab l 40 i) ∧ wbk (kd tab l (ca tab l (i - 1))) (kd tab l i) v ∧ (what = 1 ∨ lbk (kd tab l (ca tab l (i - 1))) (kd tab l i)))
theorem wbk_v {a b v u : Int} (h : v = 1 ↔ u = 1) : wbk a b v ↔ wbk a b u := by
  unfold wbk; omega
theorem s_wordBreaks {w : Wd} {tab : Nat → Int} {o : Nat} {f : Int32} {l : List Int} {what : Int} (hk : tok tab) (h : trel w 1 tab) (ho : okall w) (h7 : KD o = 7) (hl : rl w o = l) (Y : lok40 l) (hf : (f.toInt = 0 ∧ what = 1) ∨ (f.toInt = 1 ∧ what = 2)) :
    Wp (f_X0_wordBreaks o f w) (fun r w' => w = w' ∧ bits r (fun k => 0 < k ∧ k < l.length ∧ brk tab l what k)) := by
  have L := LIT
  have h40 := Y.1
  unfold f_X0_wordBreaks
  refine wp_bd (s_clusterBreaks h (ho _ h7) (by rw [hl]; exact Y)) ?_
  rintro m _ ⟨rfl, hm⟩
  rw [hl] at hm
  refine wp_bd (s_seamlessEnds hk h ho h7 hl hm Y) ?_
  rintro s _ ⟨rfl, hs⟩
  unfold f_X0_wordBreaks_23
  rw [FUv]
  refine wp_loop (fun σ : Nat × Int32 × Int64 × Int64 × Int64 × Int32 × Int32 × Wd => σ.1 = o ∧ σ.2.1 = f ∧ σ.2.2.1 = m ∧ σ.2.2.2.1 = s ∧ σ.2.2.2.2.2.2.2 = w ∧ 1 ≤ σ.2.2.2.2.2.2.1.toInt ∧ (σ.2.2.2.2.2.2.1.toInt = 1 ∨ σ.2.2.2.2.2.2.1.toInt ≤ l.length) ∧ σ.2.2.2.2.2.1.toInt = ca tab l (σ.2.2.2.2.2.2.1.toInt.toNat - 1) ∧ bits σ.2.2.2.2.1 (fun k => 0 < k ∧ (k : Int) < σ.2.2.2.2.2.2.1.toInt ∧ brk tab l what k))
    (fun σ => (50 - σ.2.2.2.2.2.2.1.toInt).toNat) ?_ 100000 _ ⟨rfl, rfl, rfl, rfl, rfl, by dsimp only; omega, Or.inl L.2.1, by dsimp only; rw [L.1, L.2.1]; rfl, fun k hk => ?_⟩ (by dsimp only; omega)
  · rintro rc ⟨o', f', m', s', b, g, i, u⟩ ⟨rfl, rfl, rfl, rfl, rfl, hi, hi2, hg, hb⟩ ih
    dsimp only at hi hi2 hg hb h ho h7 hl hm hs hf ⊢
    unfold g_X0_wordBreaks_23
    refine wp_bd (s_size (ho _ h7)) ?_
    rintro n _ ⟨rfl, hn⟩
    rw [hl] at hn
    refine wp_ifle (fun q => wp_ret ⟨rfl, fun k hk => ?_⟩) (fun q => ?_)
    · rw [hb k hk]
      constructor
      · rintro ⟨a, b, c⟩; exact ⟨a, by omega, c⟩
      · rintro ⟨a, b, c⟩; exact ⟨a, by omega, c⟩
    have ci : ((i.toInt.toNat : Nat) : Int) = i.toInt := by omega
    have C := ca_bd (tab := tab) (l := l) (i.toInt.toNat - 1)
    have ci2 : i.toInt.toNat - 1 + 1 = i.toInt.toNat := by omega
    have cs : ca tab l i.toInt.toNat = if icl tab l i.toInt then i.toInt else ca tab l (i.toInt.toNat - 1) := by
      conv => lhs; rw [← ci2]
      rw [ca, ci2, ci]
    have step : ∀ (b2 : Int64) (g2 y : Int32), y.toInt = i.toInt + (1 : Int32).toInt → g2.toInt = ca tab l i.toInt.toNat → bits b2 (fun k => 0 < k ∧ (k : Int) < i.toInt + 1 ∧ brk tab l what k) → Wp (rc (o', f', m', s', b2, g2, y, u)) (fun r w' => u = w' ∧ bits r (fun k => 0 < k ∧ k < l.length ∧ brk tab l what k)) := by
      intro b2 g2 y hy hg2 hb2
      have hy3 : y.toInt = i.toInt + 1 := by omega
      refine ih (o', f', m', s', b2, g2, y, u) ⟨rfl, rfl, rfl, rfl, rfl, by dsimp only; omega, by dsimp only; omega, ?_, ?_⟩ (by dsimp only; omega)
      · dsimp only
        rw [hy3, show (i.toInt + 1).toNat - 1 = i.toInt.toNat by omega]; exact hg2
      · dsimp only
        rw [hy3]; exact hb2
    have no : ¬ brk tab l what i.toInt.toNat → bits b (fun k => 0 < k ∧ (k : Int) < i.toInt + 1 ∧ brk tab l what k) := by
      intro hno k hk
      rw [hb k hk]
      constructor
      · rintro ⟨a, b, c⟩; exact ⟨a, by omega, c⟩
      · rintro ⟨a, b, c⟩
        refine ⟨a, ?_, c⟩
        by_cases e : k = i.toInt.toNat
        · exact absurd (e ▸ c) hno
        · omega
    rw [mk_clb hm (by omega) (by omega) h40, bd_r, ite_zo]
    refine wp_if (fun c => ?_) (fun c => wp_add (by omega) (fun y hy => step b g y hy (by rw [cs, if_neg c]; exact hg) (no (fun f => c (by have := f.1; rw [ci] at this; exact this)))))
    rw [if_pos c] at cs
    refine wp_bd (s_kindAt h (ho _ h7) (by rw [hl]; exact Y) (by rw [hl]; omega)) ?_
    rintro a _ ⟨rfl, ha⟩
    refine wp_bd (s_kindAt h (ho _ h7) (by rw [hl]; exact Y) (by rw [hl]; omega)) ?_
    rintro z _ ⟨rfl, hz⟩
    rw [hl, hg] at ha
    rw [hl] at hz
    rw [e_isMarked (by omega), bd_r]
    have hv : ∃ v : Int32, v = zo (0 < i.toInt ∧ mk s' i.toInt.toNat) ∧ (v.toInt = 0 ∨ v.toInt = 1) ∧ (v.toInt = 1 ↔ vis tab l 40 i.toInt.toNat) := by
      have hs2 := hs i.toInt.toNat (by omega)
      dsimp only at hs2
      refine ⟨_, rfl, ?_⟩
      unfold zo
      by_cases d : mk s' i.toInt.toNat
      · rw [if_pos ⟨by omega, d⟩]
        exact ⟨Or.inr L.2.1, fun _ => hs2.mp d, fun _ => L.2.1⟩
      · rw [if_neg (fun q => d q.2)]
        exact ⟨Or.inl L.1, fun q => by omega, fun q => absurd (hs2.mpr q) d⟩
    obtain ⟨v, ev, hv1, hv2⟩ := hv
    rw [← ev]
    refine wp_bd (s_isWordBreak hv1) ?_
    rintro x _ ⟨rfl, hx⟩
    rw [ha, hz] at hx
    have nob : ¬ (wbk (kd tab l (ca tab l (i.toInt.toNat - 1))) (kd tab l i.toInt) v.toInt ∧ (what = 1 ∨ lbk (kd tab l (ca tab l (i.toInt.toNat - 1))) (kd tab l i.toInt))) → Wp (f_X0_wordBreaks_106 rc o' f' m' s' b i u) (fun r w' => u = w' ∧ bits r (fun k => 0 < k ∧ k < l.length ∧ brk tab l what k)) := by
      intro nf
      unfold f_X0_wordBreaks_106
      refine wp_add (by omega) (fun y hy => step b i y hy cs.symm (no (fun f => ?_)))
      rcases f.2 with e | ⟨v2, h1, h2, h3⟩
      · omega
      · rw [ci] at h2 h3
        exact nf ⟨(wbk_v (h1.trans hv2.symm)).mp h2, h3⟩
    have yes : wbk (kd tab l (ca tab l (i.toInt.toNat - 1))) (kd tab l i.toInt) v.toInt → (what = 1 ∨ lbk (kd tab l (ca tab l (i.toInt.toNat - 1))) (kd tab l i.toInt)) → Wp (f_X0_wordBreaks_97 rc o' f' m' s' b i u) (fun r w' => u = w' ∧ bits r (fun k => 0 < k ∧ k < l.length ∧ brk tab l what k)) := by
      intro f1 f2
      unfold f_X0_wordBreaks_97 f_X0_wordBreaks_106
      refine wp_lt (fun b2 hb2 => wp_add (by omega) (fun y hy => step b2 i y hy cs.symm (fun k hk => ?_)))
      have B : brk tab l what i.toInt.toNat := by
        refine ⟨by rw [ci]; exact c, Or.inr ⟨v.toInt, hv2, ?_⟩⟩
        rw [ci]; exact ⟨f1, f2⟩
      rw [hb2, mk_or (by omega) hk, hb k hk]
      constructor
      · rintro (⟨a, b, c⟩ | a)
        · exact ⟨a, by omega, c⟩
        · subst a; exact ⟨by omega, by omega, B⟩
      · rintro ⟨a, b, c⟩
        by_cases e : k = i.toInt.toNat
        · exact Or.inr e
        · exact Or.inl ⟨a, by omega, c⟩
    rcases hx with ⟨x1, hx⟩ | ⟨x1, hx⟩
    · refine wp_ifeq (fun q2 => by omega) (fun _ => ?_)
      refine wp_ifeq (fun q2 => yes hx (Or.inl (by omega))) (fun q2 => ?_)
      refine wp_bd s_isLineBreak ?_
      rintro x2 _ ⟨rfl, hx2⟩
      rw [ha, hz] at hx2
      rcases hx2 with ⟨y1, hy2⟩ | ⟨y1, hy2⟩
      · exact wp_ifeq (fun q3 => by omega) (fun _ => yes hx (Or.inr hy2))
      · exact wp_ifeq (fun _ => nob (fun f => f.2.elim (fun e => by omega) hy2)) (fun q3 => by omega)
    · exact wp_ifeq (fun _ => nob (fun f => hx f.1)) (fun q2 => by omega)
  · refine ⟨fun q => absurd q mk_zero, ?_⟩
    rintro ⟨a, b, c⟩
    dsimp only at b
    omega

