/-! ===== the ends of words and clusters, step by step ===== -/
theorem sn_bd {tab : Nat → Int} {l : List Int} : ∀ (n : Nat) (i : Int), 0 ≤ i → i ≤ l.length → (l.length : Int) - i < n → i ≤ sn tab l 1 n i ∧ sn tab l 1 n i ≤ l.length ∧ ied tab l (sn tab l 1 n i) ∧ ∀ e : Int, i ≤ e → e ≤ l.length → ied tab l e → sn tab l 1 n i ≤ e := by
  intro n
  induction n with
  | zero => intro i h0 h h2; omega
  | succ n ih =>
    intro i h0 h h2
    rw [sn_in ⟨h0, h⟩]
    by_cases c : ied tab l i
    · rw [if_pos c]; exact ⟨Int.le_refl _, h, c, fun e he _ _ => he⟩
    · rw [if_neg c]
      have jl : i ≠ l.length := fun e => c (Or.inl e)
      have := ih (i + 1) (by omega) (by omega) (by omega)
      refine ⟨by omega, this.2.1, this.2.2.1, fun e h1 h2 h3 => ?_⟩
      have ne : e ≠ i := fun q => c (q ▸ h3)
      exact this.2.2.2 e (by omega) h2 h3
theorem lg_fit {tab : Nat → Int} {l : List Int} {p lim : Int} : ∀ n : Nat, lg tab l p lim n ≠ 0 → ∃ k, wfit tab l p lim k ∧ lg tab l p lim n = (wd tab k).length ∧ 0 < (wd tab k).length := by
  intro n
  induction n with
  | zero => intro h; exact absurd rfl h
  | succ n ih =>
    intro h
    rw [lg_s] at h ⊢
    by_cases c : wfit tab l p lim n ∧ lg tab l p lim n < (wd tab n).length
    · rw [if_pos c] at h ⊢
      exact ⟨n, c.1, rfl, by omega⟩
    · rw [if_neg c] at h ⊢
      exact ih h
theorem wend_bd {tab : Nat → Int} {l : List Int} {p lim : Int} (h40 : l.length ≤ 40) (hp : 0 ≤ p ∧ p < l.length) (h : p < lim ∧ lim ≤ l.length) (he : ied tab l lim) : p < wend tab l p lim ∧ wend tab l p lim ≤ lim ∧ ied tab l (wend tab l p lim) := by
  have S := sn_bd (tab := tab) (l := l) 50 (p + 1) (by omega) (by omega) (by omega)
  unfold wend
  by_cases c : lg tab l p lim (tab 1502).toNat = 0
  · rw [if_pos c]
    exact ⟨by omega, S.2.2.2 lim (by omega) h.2 he, S.2.2.1⟩
  · rw [if_neg c]
    obtain ⟨k, f, e, g⟩ := lg_fit _ c
    rw [e]
    exact ⟨by omega, f.2.1, f.2.2⟩
/-- where the next word, or cluster, begins -/
def nx (tab : Nat → Int) (l : List Int) (p : Int) : Int := if kd tab l p = 6 then wend tab l p (sl tab l 50 (p + 1)) else sn tab l 1 50 (p + 1)
theorem nx_bd {tab : Nat → Int} {l : List Int} {p : Int} (h40 : l.length ≤ 40) (hp : 0 ≤ p ∧ p < l.length) : p < nx tab l p ∧ nx tab l p ≤ l.length ∧ ied tab l (nx tab l p) := by
  have S := sn_bd (tab := tab) (l := l) 50 (p + 1) (by omega) (by omega) (by omega)
  have B := sl_bd (tab := tab) (l := l) 50 (p + 1) (by omega)
  unfold nx
  by_cases c : kd tab l p = 6
  · rw [if_pos c]
    have W := wend_bd (tab := tab) h40 hp (lim := sl tab l 50 (p + 1)) (by omega) (B.2.2 (by omega))
    exact ⟨W.1, by omega, W.2.2⟩
  · rw [if_neg c]; exact ⟨by omega, S.2.1, S.2.2.1⟩
def orb (tab : Nat → Int) (l : List Int) : Nat → Int
  | 0 => 0
  | n + 1 => if orb tab l n < l.length then nx tab l (orb tab l n) else orb tab l n
theorem orb_s {tab : Nat → Int} {l : List Int} {n : Nat} : orb tab l (n + 1) = if orb tab l n < l.length then nx tab l (orb tab l n) else orb tab l n := by rw [orb]
theorem orb_bd {tab : Nat → Int} {l : List Int} (h40 : l.length ≤ 40) : ∀ n : Nat, 0 ≤ orb tab l n ∧ orb tab l n ≤ l.length ∧ ied tab l (orb tab l n) ∧ ((n : Int) ≤ orb tab l n ∨ orb tab l n = l.length) := by
  intro n
  induction n with
  | zero => exact ⟨Int.le_refl _, by unfold orb; omega, Or.inr (Or.inl rfl), Or.inl (Int.le_refl _)⟩
  | succ n ih =>
    rw [orb_s]
    by_cases c : orb tab l n < l.length
    · rw [if_pos c]
      have := nx_bd (tab := tab) h40 ⟨ih.1, c⟩
      exact ⟨by omega, this.2.1, this.2.2, by omega⟩
    · rw [if_neg c]
      exact ⟨ih.1, ih.2.1, ih.2.2.1, by omega⟩
theorem orb_end {tab : Nat → Int} {l : List Int} {t : Nat} (h : l.length ≤ orb tab l t) : ∀ n, t ≤ n → orb tab l n = orb tab l t := by
  intro n hn
  induction n with
  | zero => rw [show t = 0 by omega]
  | succ n ih =>
    by_cases c : t ≤ n
    · rw [orb_s, ih c, if_neg (by omega)]
    · rw [show t = n + 1 by omega]
/-- an end that has been come upon within so many steps -/
def vis (tab : Nat → Int) (l : List Int) (N : Nat) (i : Int) : Prop := ∃ n, n < N ∧ orb tab l n < l.length ∧ nx tab l (orb tab l n) = i
theorem vis_s {tab : Nat → Int} {l : List Int} {N : Nat} {i : Int} (h : orb tab l N < l.length) : vis tab l (N + 1) i ↔ vis tab l N i ∨ i = nx tab l (orb tab l N) := by
  constructor
  · rintro ⟨n, a, b, c⟩
    by_cases d : n = N
    · subst d; exact Or.inr c.symm
    · exact Or.inl ⟨n, by omega, b, c⟩
  · rintro (⟨n, a, b, c⟩ | e)
    · exact ⟨n, by omega, b, c⟩
    · exact ⟨N, by omega, h, e.symm⟩
theorem vis_end {tab : Nat → Int} {l : List Int} {N M : Nat} {i : Int} (h : l.length ≤ orb tab l N) (hM : N ≤ M) : vis tab l N i ↔ vis tab l M i := by
  constructor
  · rintro ⟨n, a, b, c⟩; exact ⟨n, by omega, b, c⟩
  · rintro ⟨n, a, b, c⟩
    by_cases d : n < N
    · exact ⟨n, d, b, c⟩
    · have := orb_end h n (by omega)
      omega
theorem s_seamlessEnds {w : Wd} {tab : Nat → Int} {o : Nat} {m : Int64} {l : List Int} (hk : tok tab) (h : trel w 1 tab) (ho : okall w) (h7 : KD o = 7) (hl : rl w o = l) (hm : clb tab l m) (Y : lok40 l) :
    Wp (f_X0_seamlessEnds o m w) (fun r w' => w = w' ∧ bits r (fun k => vis tab l 40 k)) := by
  have L := LIT
  have e40 : (40 : Int32).toInt = 40 := by decide
  have h40 := Y.1
  unfold f_X0_seamlessEnds f_X0_seamlessEnds_9
  rw [FUv]
  refine wp_loop (fun σ : Nat × Int64 × Int64 × Int32 × Int32 × Wd => σ.1 = o ∧ σ.2.1 = m ∧ σ.2.2.2.2.2 = w ∧ 0 ≤ σ.2.2.2.2.1.toInt ∧ σ.2.2.2.2.1.toInt ≤ 40 ∧ σ.2.2.2.1.toInt = orb tab l σ.2.2.2.2.1.toInt.toNat ∧ bits σ.2.2.1 (fun k => vis tab l σ.2.2.2.2.1.toInt.toNat k))
    (fun σ => (41 - σ.2.2.2.2.1.toInt).toNat) ?_ 100000 _ ⟨rfl, rfl, rfl, by dsimp only; omega, by dsimp only; omega, by dsimp only; rw [L.1]; rfl, ?_⟩ (by dsimp only; omega)
  · rintro rc ⟨o', m', b, p, t, u⟩ ⟨rfl, rfl, rfl, ht, ht2, hp, hb⟩ ih
    dsimp only at ht ht2 hp hb h ho h7 hl hm ⊢
    have O := orb_bd (tab := tab) h40 t.toInt.toNat
    unfold g_X0_seamlessEnds_9
    refine wp_ifle (fun q => wp_ret ⟨rfl, ?_⟩) (fun q => ?_)
    · rw [show t.toInt.toNat = 40 by omega] at hb; exact hb
    refine wp_bd (s_size (ho _ h7)) ?_
    rintro n _ ⟨rfl, hn⟩
    rw [hl] at hn
    refine wp_ifle (fun q2 => wp_ret ⟨rfl, fun k hk => ?_⟩) (fun q2 => ?_)
    · rw [hb k hk]; exact vis_end (by omega) (by omega)
    have pl : 0 ≤ p.toInt ∧ p.toInt < l.length := by omega
    have N := nx_bd (tab := tab) h40 pl
    have go : ∀ e : Int32, e.toInt = nx tab l p.toInt → Wp (f_X0_seamlessEnds_59 rc o' m' b t e u) (fun r w' => u = w' ∧ bits r (fun k => vis tab l 40 k)) := by
      intro e he
      unfold f_X0_seamlessEnds_59
      refine wp_lt (fun y hy => wp_add (by omega) (fun z hz => ?_))
      have hz2 : z.toInt.toNat = t.toInt.toNat + 1 := by omega
      refine ih (o', m', y, e, z, u) ⟨rfl, rfl, rfl, by dsimp only; omega, by dsimp only; omega, ?_, ?_⟩ (by dsimp only; omega)
      · dsimp only
        rw [hz2, orb_s, if_pos (by omega), ← hp]; exact he
      · dsimp only
        rw [hz2]
        intro k hk
        rw [hy, mk_or (by omega) hk, hb k hk]
        dsimp only
        rw [vis_s (l := l) (N := t.toInt.toNat) (by omega), ← hp, ← he]
        constructor
        · rintro (a | a)
          · exact Or.inl a
          · exact Or.inr (by omega)
        · rintro (a | a)
          · exact Or.inl a
          · exact Or.inr (by omega)
    refine wp_bd (s_clusterEnd (ho _ h7) hl hm h40 pl) ?_
    rintro e _ ⟨rfl, he⟩
    refine wp_bd (s_kindAt h (ho _ h7) (by rw [hl]; exact Y) (by rw [hl]; exact pl)) ?_
    rintro x _ ⟨rfl, hx⟩
    rw [hl] at hx
    refine wp_ifeq (fun q3 => ?_) (fun q3 => go e ?_)
    · refine wp_bd (s_wordEnd hk h ho h7 hl hm Y pl he) ?_
      rintro e2 _ ⟨rfl, he2⟩
      refine go e2 ?_
      unfold nx
      rw [if_pos (by omega)]; exact he2
    · unfold nx
      rw [if_neg (by omega)]; exact he
  · dsimp only
    intro k hk
    rw [L.1]
    exact ⟨fun q => absurd q mk_zero, fun ⟨n, a, _⟩ => absurd a (by omega)⟩

